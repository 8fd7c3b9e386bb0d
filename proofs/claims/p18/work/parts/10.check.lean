section
variable (n : Nat) (fa : Int64) (c : Int32) (p0 p1 p2 p3 : Int64) (K H bs bl : Nat → Int32) (bS : Nat → Int64) (wS : Nat → Int32)
theorem dp_hasTag (post : Int32 → Prop) (x : Int32) {t : Nat} (ht : t < 4) (hp : post (df_b (dp_Q c (df_S p0 p1 p2 p3) t x))) : wpX_hasTag post (nI 6, nI 12, fa, nI n, c, p0, p1, p2, p3, K, H, bs, bl, bS, wS) x (nI t) := by
  refine dx_hasTag 6 n (nI 12) fa c p0 p1 p2 p3 K H bs bl bS wS post x (nI t) (by omega) ?_
  have e : dp_Q c (df_S p0 p1 p2 p3) t x ↔ (¬ c = 0 ∧ ∃ j t', j < 6 ∧ t' < 4 ∧ x = nI j ∧ nI t = nI t' ∧ df_S p0 p1 p2 p3 (t' * 64 + j)) := by
    constructor
    · rintro ⟨hc, j, hj, e, s⟩
      exact ⟨hc, j, t, hj, ht, e, rfl, s⟩
    · rintro ⟨hc, j, t', hj, ht', e, et, s⟩
      rw [nI_eq (by omega) (by omega)] at et
      subst et
      exact ⟨hc, j, hj, e, s⟩
  rw [← df_bc e]
  exact hp
theorem dp_c64 (h : dp_ok n fa c p0 p1 p2 p3 K H bs bS wS) (post : Int32 → Prop) (J : Int32 → Prop) (x : Int32) (hJ : J (x + 1)) : wL_check_64 post J 6 x (df_b (dp_Q c (df_S p0 p1 p2 p3) 0 x)) (df_b (dp_Q c (df_S p0 p1 p2 p3) 2 x)) (nI 6) (nI 12) fa (nI n) c p0 p1 p2 p3 K H bs bl bS wS :=
  nm_e (df_br (fun a2 => nm_e hJ) (fun a2 => dp_hasTag n fa c p0 p1 p2 p3 K H bs bl bS wS _ (x ^^^ 1) (t := 2) (by omega) (df_br (fun b => nm_e hJ)
    (fun b => df_br (fun a0 => absurd (dp_c n fa c p0 p1 p2 p3 K H bs bS wS h a2 b).1 a0) (fun a0 => dp_hasTag n fa c p0 p1 p2 p3 K H bs bl bS wS _ (x ^^^ 1) (t := 0) (by omega) (df_br (fun d => absurd (dp_c n fa c p0 p1 p2 p3 K H bs bS wS h a2 b).2 d) (fun d => nm_e hJ)))))))
theorem dp_c52 (h : dp_ok n fa c p0 p1 p2 p3 K H bs bS wS) (post : Int32 → Prop) (J : Int32 → Prop) (x : Int32) (hJ : J (x + 1)) : wL_check_52 post J 6 x (df_b (dp_Q c (df_S p0 p1 p2 p3) 0 x)) (df_b (dp_Q c (df_S p0 p1 p2 p3) 2 x)) (df_b (dp_Q c (df_S p0 p1 p2 p3) 3 x)) (nI 6) (nI 12) fa (nI n) c p0 p1 p2 p3 K H bs bl bS wS :=
  df_br (fun a2 => dp_c64 n fa c p0 p1 p2 p3 K H bs bl bS wS h post J x hJ) (fun a2 => df_br (fun a3 => dp_c64 n fa c p0 p1 p2 p3 K H bs bl bS wS h post J x hJ) (fun a3 => (dp_d n fa c p0 p1 p2 p3 K H bs bS wS h a2 a3).elim))
theorem dp_lt : ∀ i, i < 10 → ¬ (6 : Int32) + 1 < -2 + nI i := by decide +kernel
theorem dp_ge : (6 : Int32) + 1 < -2 + nI 10 := by decide +kernel
theorem dp_nx (i : Nat) : -2 + nI i + 1 = -2 + nI (i + 1) := by rw [Int32.add_assoc, nI_1]
theorem dp_check (h : dp_ok n fa c p0 p1 p2 p3 K H bs bS wS) (post : Int32 → Prop) (hp : post 1) : wpL_check post (nI 6, nI 12, fa, nI n, c, p0, p1, p2, p3, K, H, bs, bl, bS, wS) 6 := by
  have t := df_loop (σ := Unit) (fun m i _ => wL_check_3 post 6 (nI 6) (nI 12) fa (nI n) c p0 p1 p2 p3 K H bs bl bS wS m (-2 + nI i)) (fun _ _ => True) 10
    (fun m _ _ => br_t dp_ge hp)
    (fun m i _ hi _ k => br_f (dp_lt i hi) (by
      have hJ : wL_check_3 post 6 (nI 6) (nI 12) fa (nI n) c p0 p1 p2 p3 K H bs bl bS wS m (-2 + nI i + 1) := by
        rw [dp_nx]
        exact k () trivial
      refine dp_hasTag n fa c p0 p1 p2 p3 K H bs bl bS wS _ (-2 + nI i) (t := 0) (by omega) (dp_hasTag n fa c p0 p1 p2 p3 K H bs bl bS wS _ (-2 + nI i) (t := 1) (by omega) (dp_hasTag n fa c p0 p1 p2 p3 K H bs bl bS wS _ (-2 + nI i) (t := 2) (by omega) (dp_hasTag n fa c p0 p1 p2 p3 K H bs bl bS wS _ (-2 + nI i) (t := 3) (by omega)
        (df_br (fun a0 => dp_c52 n fa c p0 p1 p2 p3 K H bs bl bS wS h post _ (-2 + nI i) hJ) (fun a0 => df_br (fun a1 => dp_c52 n fa c p0 p1 p2 p3 K H bs bl bS wS h post _ (-2 + nI i) hJ) (fun a1 => (dp_D n fa c p0 p1 p2 p3 K H bs bS wS h a0 a1).elim))))))))
    () trivial
  obtain ⟨m, hm⟩ := t
  have e : (-2 : Int32) + nI 0 = -2 := by decide
  rw [e] at hm
  exact ⟨m, hm⟩
-- the calls of one step, whatever they answer
theorem dp_addFact (h : dp_ok n fa c p0 p1 p2 p3 K H bs bS wS) (post : Int32 → St2 → Prop) (x : Int32) (hp : ∀ r n fa c p0 p1 p2 p3 K H bs bl bS wS, dp_ok n fa c p0 p1 p2 p3 K H bs bS wS → post r (nI 6, nI 12, fa, nI n, c, p0, p1, p2, p3, K, H, bs, bl, bS, wS)) : wpX_addFact post (nI 6, nI 12, fa, nI n, c, p0, p1, p2, p3, K, H, bs, bl, bS, wS) x := by
  rcases Classical.em (∃ j, j < 6 ∧ x = nI j ∧ ¬ df_l fa j) with ⟨j, hj, rfl, hf⟩ | z
  · exact dx_addFact1 6 n (nI 12) fa c p0 p1 p2 p3 K H bs bl bS wS _ (by omega) hj hf (hp 1 n _ 0 p0 p1 p2 p3 K H bs bl bS wS (dp_ok_fact n fa c p0 p1 p2 p3 K H bs bS wS h _))
  · exact dx_addFact0 6 n (nI 12) fa c p0 p1 p2 p3 K H bs bl bS wS _ x (by omega) (fun j hj e => Classical.byContradiction (fun w => z ⟨j, hj, e, w⟩)) (hp 0 n fa c p0 p1 p2 p3 K H bs bl bS wS h)
theorem dp_newRule (h : dp_ok n fa c p0 p1 p2 p3 K H bs bS wS) (post : Int32 → St2 → Prop) (x y : Int32) (hp : ∀ r n fa c p0 p1 p2 p3 K H bs bl bS wS, dp_ok n fa c p0 p1 p2 p3 K H bs bS wS → post r (nI 6, nI 12, fa, nI n, c, p0, p1, p2, p3, K, H, bs, bl, bS, wS)) : wpX_newRule post (nI 6, nI 12, fa, nI n, c, p0, p1, p2, p3, K, H, bs, bl, bS, wS) x y := by
  have hn := h.1
  rcases Classical.em ((x = 0 ∨ x = 1 ∨ x = 2) ∧ df_v 6 y ∧ nI n < nI 12) with ⟨hk, ⟨q, hq, rfl⟩, hl⟩ | z
  · have hl' := hl
    rw [nI_ltI (by omega) (by omega)] at hl'
    exact dx_newRule1 6 n (nI 12) fa c p0 p1 p2 p3 K H bs bl bS wS _ x (by omega) (by omega) hk hq hl (hp _ (n + 1) fa 0 p0 p1 p2 p3 _ _ _ bl _ _ (dp_ok_rule n fa c p0 p1 p2 p3 K H bs bS wS h hl' _ _ _))
  · exact dx_newRule0 6 n (nI 12) fa c p0 p1 p2 p3 K H bs bl bS wS _ x y (by omega) z (hp _ n fa c p0 p1 p2 p3 K H bs bl bS wS h)
theorem dp_addBody (h : dp_ok n fa c p0 p1 p2 p3 K H bs bS wS) (post : Int32 → St2 → Prop) (x y : Int32) (hp : ∀ r n fa c p0 p1 p2 p3 K H bs bl bS wS, dp_ok n fa c p0 p1 p2 p3 K H bs bS wS → post r (nI 6, nI 12, fa, nI n, c, p0, p1, p2, p3, K, H, bs, bl, bS, wS)) : wpX_addBody post (nI 6, nI 12, fa, nI n, c, p0, p1, p2, p3, K, H, bs, bl, bS, wS) x y := by
  have hn := h.1
  rcases Classical.em (∃ r q z, r < n ∧ q < 6 ∧ z < 4 ∧ x = nI r ∧ y = nI q ∧ bs r = nI z ∧ ¬ df_B bS r q) with ⟨r, q, z, hr, hq, hz, rfl, rfl, ez, hb⟩ | w
  · exact dx_addBody1 6 n (nI 12) fa c p0 p1 p2 p3 K H bs bl bS wS _ (by omega) (by omega) hr hq hz ez hb (hp _ n fa 0 p0 p1 p2 p3 K H _ _ _ wS (dp_ok_body n fa c p0 p1 p2 p3 K H bs bS wS h hz _))
  · refine dx_addBody0 6 n (nI 12) fa c p0 p1 p2 p3 K H bs bl bS wS _ x y (by omega) (by omega) h.2.1 (fun r q hr hq e1 e2 => ?_) (hp _ n fa c p0 p1 p2 p3 K H bs bl bS wS h)
    obtain ⟨z, hz, ez⟩ := h.2.1 r hr
    rcases Nat.lt_or_ge z 4 with l | l
    · exact Or.inr (Classical.byContradiction (fun y => w ⟨r, q, z, hr, hq, l, e1, e2, ez, y⟩))
    · exact Or.inl (by rw [ez, show z = 4 by omega])
theorem dp_addSuperior (h : dp_ok n fa c p0 p1 p2 p3 K H bs bS wS) (post : Int32 → St2 → Prop) (x y : Int32) (hp : ∀ r n fa c p0 p1 p2 p3 K H bs bl bS wS, dp_ok n fa c p0 p1 p2 p3 K H bs bS wS → post r (nI 6, nI 12, fa, nI n, c, p0, p1, p2, p3, K, H, bs, bl, bS, wS)) : wpX_addSuperior post (nI 6, nI 12, fa, nI n, c, p0, p1, p2, p3, K, H, bs, bl, bS, wS) x y := by
  have hn := h.1
  rcases Classical.em (∃ a b, a < n ∧ b < n ∧ x = nI a ∧ y = nI b ∧ ¬ a = b ∧ ¬ df_R wS a b) with ⟨a, b, ha, hb, rfl, rfl, hab, hnr⟩ | z
  · exact dx_addSuperiorR 6 n (nI 12) fa c p0 p1 p2 p3 K H bs bl bS wS _ (by omega) ha hb hab hnr (fun w => hp _ n fa 0 p0 p1 p2 p3 K H bs bl bS _ (dp_ok_pair n fa c p0 p1 p2 p3 K H bs bS wS h ha hb w)) (fun _ => hp _ n fa c p0 p1 p2 p3 K H bs bl bS wS h)
  · refine dx_addSuperior0 6 n (nI 12) fa c p0 p1 p2 p3 K H bs bl bS wS _ x y (by omega) (fun a b ha hb e1 e2 => ?_) (hp _ n fa c p0 p1 p2 p3 K H bs bl bS wS h)
    rcases Classical.em (a = b) with w | w
    · exact Or.inl w
    · exact Or.inr (Classical.byContradiction (fun y => z ⟨a, b, ha, hb, e1, e2, w, y⟩))
theorem dp_compute (h : dp_ok n fa c p0 p1 p2 p3 K H bs bS wS) (post : Int32 → St2 → Prop) (hp : ∀ r n fa c p0 p1 p2 p3 K H bs bl bS wS, dp_ok n fa c p0 p1 p2 p3 K H bs bS wS → post r (nI 6, nI 12, fa, nI n, c, p0, p1, p2, p3, K, H, bs, bl, bS, wS)) : wpX_compute post (nI 6, nI 12, fa, nI n, c, p0, p1, p2, p3, K, H, bs, bl, bS, wS) := by
  have hn := h.1
  exact dx_compute 6 n (nI 12) fa c p0 p1 p2 p3 K H bs bl bS wS _ (by omega) (by omega) (fun r0 r1 r2 r3 hr => hp _ n fa 1 r0 r1 r2 r3 K H bs bl bS wS ⟨hn, h.2.1, h.2.2.1, h.2.2.2.1, fun _ => hr⟩)
theorem dp_reset (post : St2 → Prop) (hp : ∀ n fa c p0 p1 p2 p3 K H bs bl bS wS, dp_ok n fa c p0 p1 p2 p3 K H bs bS wS → post (nI 6, nI 12, fa, nI n, c, p0, p1, p2, p3, K, H, bs, bl, bS, wS)) : wpX_reset post (nI 6, nI 12, fa, nI n, c, p0, p1, p2, p3, K, H, bs, bl, bS, wS) :=
  dx_reset 6 n (nI 12) fa c p0 p1 p2 p3 K H bs bl bS wS post (hp 0 0 0 p0 p1 p2 p3 K H bs bl bS wS (dp_ok_0 p0 p1 p2 p3 K H bs bS wS))
theorem dp_ruleCount (post : Int32 → Prop) (hp : post (nI n)) : wpX_ruleCount post (nI 6, nI 12, fa, nI n, c, p0, p1, p2, p3, K, H, bs, bl, bS, wS) := hp
end
-- the law's own small methods
theorem dp_mod (post : Int32 → Prop) (x : Int32) {k : Nat} (h0 : 0 < k) (hk : k < 2 ^ 31) (hp : ∀ j, j < k → post (nI j)) : wpL_mod post () x (nI k) := by
  have e : x &&& 2147483647 = nI (x.toBitVec.toNat % 2 ^ 31) := pk_and x 31 (by decide)
  refine br_t (nI_le (a := 1) (b := k) h0 hk) ⟨nI_ne0 h0 hk, ?_⟩
  rw [e, pk_rem (Nat.mod_lt _ (by decide)) h0 hk]
  exact hp _ (Nat.mod_lt _ h0)
theorem dp_cell (post : Int32 → Prop) (L : Nat) (xs : Nat → Int32) {i : Nat} (x : Int32) (hx : x = nI i) (hL : L ≤ 260) (hi : i < 2 ^ 31) (hp : ∀ y, post y) : wpL_cell post L xs () x := by
  subst hx
  refine br_c (fun _ => hp _) (fun h => ⟨vp_in_nI ?_ (by omega), hp _⟩)
  have h' : ¬ nI L ≤ nI i := h
  rw [nI_leI (by omega) hi] at h'
  omega
