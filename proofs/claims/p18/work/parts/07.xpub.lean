-- helpers
theorem df_ix4 (r i : Nat) : nI r * 4 + nI i = nI (r * 4 + i) := by
  rw [show (4 : Int32) = nI 4 from rfl, pk_mul, nI_add]
theorem df_nb (p : Prop) : narrow .boolean (.int (df_b p)) = .int (df_b p) := by
  rcases Classical.em p with h | h
  · rw [df_b1 h]; rfl
  · rw [df_b0 h]; rfl
theorem df_uR {wS : Nat → Int32} {r r' : Nat} {x : Int32} (h : ¬ r' = r) (q : Nat) : df_R (upd wS r x) r' q ↔ df_R wS r' q := by
  unfold df_R
  rw [pk_un h]
theorem df_uRs {wS : Nat → Int32} {r : Nat} {x : Int32} (q : Nat) : df_R (upd wS r x) r q ↔ df_w x q := by
  unfold df_R
  rw [pk_us]
section
variable (M n : Nat) (rl : Int32) (fa : Int64) (c : Int32) (p0 p1 p2 p3 : Int64) (K H bs bl : Nat → Int32) (bS : Nat → Int64) (wS : Nat → Int32)
theorem dx_reset (post : St2 → Prop) (hp : post (nI M, rl, 0, nI 0, 0, p0, p1, p2, p3, K, H, bs, bl, bS, wS)) : wpX_reset post (nI M, rl, fa, nI n, c, p0, p1, p2, p3, K, H, bs, bl, bS, wS) := hp
theorem dx_addFact1 (post : Int32 → St2 → Prop) {j : Nat} (hM : M ≤ 64) (hj : j < M) (hf : ¬ df_l fa j) (hp : post 1 (nI M, rl, fa ||| ((1 : Int64) <<< ((nI j).toInt64 &&& 63)), nI n, 0, p0, p1, p2, p3, K, H, bs, bl, bS, wS)) : wpX_addFact post (nI M, rl, fa, nI n, c, p0, p1, p2, p3, K, H, bs, bl, bS, wS) (nI j) := by
  unfold wpX_addFact
  exact dx_isLiteral M n rl fa c p0 p1 p2 p3 K H bs bl bS wS _ (nI j) hM (df_br (fun h => absurd (df_v1 hj) h) (fun _ => dx_contains _ fa (by omega) (df_br (fun _ => nm_e hp) (fun h => absurd h hf))))
theorem dx_addFact0 (post : Int32 → St2 → Prop) (x : Int32) (hM : M ≤ 64) (hf : ∀ j, j < M → x = nI j → df_l fa j) (hp : post 0 (nI M, rl, fa, nI n, c, p0, p1, p2, p3, K, H, bs, bl, bS, wS)) : wpX_addFact post (nI M, rl, fa, nI n, c, p0, p1, p2, p3, K, H, bs, bl, bS, wS) x := by
  unfold wpX_addFact
  refine dx_isLiteral M n rl fa c p0 p1 p2 p3 K H bs bl bS wS _ x hM (df_br (fun _ => hp) (fun h => ?_))
  obtain ⟨j, hj, rfl⟩ := h
  exact dx_contains _ fa (by omega) (df_br (fun h => absurd (hf j hj rfl) h) (fun _ => hp))
theorem dx_newRule1 (post : Int32 → St2 → Prop) (k : Int32) {q : Nat} (hM : M ≤ 64) (hn : n < 32) (hk : k = 0 ∨ k = 1 ∨ k = 2) (hq : q < M) (hl : nI n < rl)
    (hp : post (nI n) (nI M, rl, fa, nI (n + 1), 0, p0, p1, p2, p3, upd K n k, upd H n (nI q), upd bs n 0, bl, vp_updL bS n 0, upd wS n 0)) : wpX_newRule post (nI M, rl, fa, nI n, c, p0, p1, p2, p3, K, H, bs, bl, bS, wS) k (nI q) := by
  unfold wpX_newRule
  have e : (nI n).toNatClampNeg = n := nI_clamp (by omega)
  exact dx_isKind _ k (df_br (fun h => absurd hk h) (fun _ => dx_isLiteral M n rl fa c p0 p1 p2 p3 K H bs bl bS wS _ (nI q) hM (df_br (fun h => absurd (df_v1 hq) h) (fun _ => br_t hl
    ⟨vp_in_nI hn (by decide), nm_r (e' := upd K n k) (by rw [e]) ⟨vp_in_nI hn (by decide), nm_r (e' := upd H n (nI q)) (by rw [e]) ⟨vp_in_nI hn (by decide), nm_r (e' := upd bs n 0) (by rw [e]) ⟨vp_in_nI hn (by decide), nm_r (e' := vp_updL bS n 0) (by rw [e])
      ⟨vp_in_nI hn (by decide), nm_r (e' := upd wS n 0) (by rw [e]) (nm_r (nI_1 n) hp)⟩⟩⟩⟩⟩))))
theorem dx_newRule0 (post : Int32 → St2 → Prop) (k x : Int32) (hM : M ≤ 64) (hno : ¬ ((k = 0 ∨ k = 1 ∨ k = 2) ∧ df_v M x ∧ nI n < rl)) (hp : post (-1) (nI M, rl, fa, nI n, c, p0, p1, p2, p3, K, H, bs, bl, bS, wS)) : wpX_newRule post (nI M, rl, fa, nI n, c, p0, p1, p2, p3, K, H, bs, bl, bS, wS) k x := by
  unfold wpX_newRule
  exact dx_isKind _ k (df_br (fun _ => hp) (fun h => dx_isLiteral M n rl fa c p0 p1 p2 p3 K H bs bl bS wS _ x hM (df_br (fun _ => hp) (fun h2 => br_f (fun h3 => hno ⟨h, h2, h3⟩) hp))))
theorem dx_addBody1 (post : Int32 → St2 → Prop) {r q z : Nat} (hM : M ≤ 64) (hn : n ≤ 32) (hr : r < n) (hq : q < M) (hz : z < 4) (ez : bs r = nI z) (hb : ¬ df_B bS r q)
    (hp : post 1 (nI M, rl, fa, nI n, 0, p0, p1, p2, p3, K, H, upd bs r (nI (z + 1)), upd bl (r * 4 + z) (nI q), vp_updL bS r (bS r ||| ((1 : Int64) <<< ((nI q).toInt64 &&& 63))), wS)) : wpX_addBody post (nI M, rl, fa, nI n, c, p0, p1, p2, p3, K, H, bs, bl, bS, wS) (nI r) (nI q) := by
  unfold wpX_addBody
  have e : (nI r).toNatClampNeg = r := nI_clamp (by omega)
  have hr' : r < 32 := by omega
  refine dx_isRule M n rl fa c p0 p1 p2 p3 K H bs bl bS wS _ (nI r) hn (df_br (fun h => absurd (df_v1 hr) h) (fun _ => dx_isLiteral M n rl fa c p0 p1 p2 p3 K H bs bl bS wS _ (nI q) hM (df_br (fun h => absurd (df_v1 hq) h) (fun _ => ⟨vp_in_nI hr' (by decide), nm_r (e' := nI z) (by rw [e, ez]) (br_f (nI_ge (a := z) (b := 4) hz (by omega)) ⟨vp_in_nI hr' (by decide), ?_⟩)⟩))))
  rw [e]
  exact dx_contains _ (bS r) (by omega) (df_br (fun _ => ⟨pk_in (r * 4 + z) 128 (by omega) (df_ix4 r z), nm_r (e' := upd bl (r * 4 + z) (nI q)) (by rw [df_ix4, nI_clamp (by omega)]) ⟨vp_in_nI hr' (by decide), vp_in_nI hr' (by decide), nm_e ⟨vp_in_nI hr' (by decide), nm_r (e' := upd bs r (nI (z + 1))) (by rw [nI_1]) hp⟩⟩⟩) (fun h => absurd h hb))
theorem dx_addBody0 (post : Int32 → St2 → Prop) (x y : Int32) (hM : M ≤ 64) (hn : n ≤ 32) (hbs : ∀ r, r < n → ∃ z, z ≤ 4 ∧ bs r = nI z) (hno : ∀ r q, r < n → q < M → x = nI r → y = nI q → bs r = nI 4 ∨ df_B bS r q) (hp : post 0 (nI M, rl, fa, nI n, c, p0, p1, p2, p3, K, H, bs, bl, bS, wS)) : wpX_addBody post (nI M, rl, fa, nI n, c, p0, p1, p2, p3, K, H, bs, bl, bS, wS) x y := by
  unfold wpX_addBody
  refine dx_isRule M n rl fa c p0 p1 p2 p3 K H bs bl bS wS _ x hn (df_br (fun _ => hp) (fun h => ?_))
  obtain ⟨r, hr, rfl⟩ := h
  refine dx_isLiteral M n rl fa c p0 p1 p2 p3 K H bs bl bS wS _ y hM (df_br (fun _ => hp) (fun h => ?_))
  obtain ⟨q, hq, rfl⟩ := h
  have e : (nI r).toNatClampNeg = r := nI_clamp (by omega)
  have hr' : r < 32 := by omega
  refine ⟨vp_in_nI hr' (by decide), nm_r (e' := bs r) (by rw [e]) (br_c (fun _ => hp) (fun h4 => ⟨vp_in_nI hr' (by decide), ?_⟩))⟩
  rw [e]
  refine dx_contains _ (bS r) (by omega) (df_br (fun h => ?_) (fun _ => hp))
  rcases hno r q hr hq rfl rfl with w | w
  · rw [w] at h4
    exact absurd (nI_le (a := 4) (b := 4) (by omega) (by omega)) h4
  · exact absurd w h
theorem dx_addSuperiorR (post : Int32 → St2 → Prop) {a b : Nat} (hn : n ≤ 32) (ha : a < n) (hb : b < n) (hab : ¬ a = b) (hnr : ¬ df_R wS a b)
    (hp1 : ¬ df_ch n (df_R wS) b (n - 1) a → post 1 (nI M, rl, fa, nI n, 0, p0, p1, p2, p3, K, H, bs, bl, bS, upd wS a (wS a ||| ((1 : Int32) <<< (nI b &&& 31))))) (hp0 : df_ch n (df_R wS) b (n - 1) a → post 0 (nI M, rl, fa, nI n, c, p0, p1, p2, p3, K, H, bs, bl, bS, wS)) : wpX_addSuperior post (nI M, rl, fa, nI n, c, p0, p1, p2, p3, K, H, bs, bl, bS, wS) (nI a) (nI b) := by
  unfold wpX_addSuperior
  have e : (nI a).toNatClampNeg = a := nI_clamp (by omega)
  have ha' : a < 32 := by omega
  exact dx_isRule M n rl fa c p0 p1 p2 p3 K H bs bl bS wS _ (nI a) hn (df_br (fun h => absurd (df_v1 ha) h) (fun _ => dx_isRule M n rl fa c p0 p1 p2 p3 K H bs bl bS wS _ (nI b) hn (df_br (fun h => absurd (df_v1 hb) h) (fun _ => br_f (fun e => hab ((nI_eq (by omega) (by omega)).mp e))
    (dx_isRecorded M n rl fa c p0 p1 p2 p3 K H bs bl bS wS _ ha' (by omega) (df_br (fun _ => dx_hasChain M n rl fa c p0 p1 p2 p3 K H bs bl bS wS _ hn hb ha (df_br (fun z => ⟨vp_in_nI ha' (by decide), vp_in_nI ha' (by decide), nm_r (e' := upd wS a (wS a ||| ((1 : Int32) <<< (nI b &&& 31)))) (by rw [e]) (hp1 z)⟩) (fun z => hp0 z))) (fun h => absurd h hnr)))))))
theorem dx_addSuperior0 (post : Int32 → St2 → Prop) (x y : Int32) (hn : n ≤ 32) (hno : ∀ a b, a < n → b < n → x = nI a → y = nI b → a = b ∨ df_R wS a b) (hp : post 0 (nI M, rl, fa, nI n, c, p0, p1, p2, p3, K, H, bs, bl, bS, wS)) : wpX_addSuperior post (nI M, rl, fa, nI n, c, p0, p1, p2, p3, K, H, bs, bl, bS, wS) x y := by
  unfold wpX_addSuperior
  refine dx_isRule M n rl fa c p0 p1 p2 p3 K H bs bl bS wS _ x hn (df_br (fun _ => hp) (fun h => ?_))
  obtain ⟨a, ha, rfl⟩ := h
  refine dx_isRule M n rl fa c p0 p1 p2 p3 K H bs bl bS wS _ y hn (df_br (fun _ => hp) (fun h => ?_))
  obtain ⟨b, hb, rfl⟩ := h
  refine br_c (fun _ => hp) (fun e => dx_isRecorded M n rl fa c p0 p1 p2 p3 K H bs bl bS wS _ (r := a) (s := b) (by omega) (by omega) (df_br (fun h => ?_) (fun _ => hp)))
  rcases hno a b ha hb rfl rfl with w | w
  · exact absurd (by rw [w]) e
  · exact absurd w h
theorem dx_taggedBy (post : Int64 → Prop) {t : Nat} (ht : t < 4) (hp : post (df_pk p0 p1 p2 p3 t)) : wpX_taggedBy post (nI M, rl, fa, nI n, c, p0, p1, p2, p3, K, H, bs, bl, bS, wS) (nI t) := by
  rcases (show t = 0 ∨ t = 1 ∨ t = 2 ∨ t = 3 by omega) with e | e | e | e
  · subst e
    exact br_f (by decide) (br_f (by decide) (br_t (by decide) hp))
  · subst e
    exact br_f (by decide) (br_f (by decide) (br_f (by decide) (br_t (by decide) hp)))
  · subst e
    exact br_f (by decide) (br_f (by decide) (br_f (by decide) (br_f (by decide) (br_t (by decide) hp))))
  · subst e
    exact br_f (by decide) (br_t (by decide) hp)
theorem dx_hasTag (post : Int32 → Prop) (x y : Int32) (hM : M ≤ 64) (hp : post (df_b (¬ c = 0 ∧ ∃ j t, j < M ∧ t < 4 ∧ x = nI j ∧ y = nI t ∧ df_S p0 p1 p2 p3 (t * 64 + j)))) : wpX_hasTag post (nI M, rl, fa, nI n, c, p0, p1, p2, p3, K, H, bs, bl, bS, wS) x y := by
  unfold wpX_hasTag
  refine br_c (fun h => df_p0 (fun z => z.1 h) hp) (fun hc => dx_isLiteral M n rl fa c p0 p1 p2 p3 K H bs bl bS wS _ x hM (df_br (fun h => df_p0 (fun ⟨_, j, t, hj, _, e, _⟩ => h ⟨j, hj, e⟩) hp) (fun h => ?_)))
  obtain ⟨j, hj, rfl⟩ := h
  refine dx_isTag _ y (df_br (fun h => df_p0 (fun ⟨_, j, t, _, ht, _, e, _⟩ => h ⟨t, ht, e⟩) hp) (fun h => ?_))
  obtain ⟨t, ht, rfl⟩ := h
  refine dx_taggedBy M n rl fa c p0 p1 p2 p3 K H bs bl bS wS _ ht (dx_contains _ _ (l := j) (by omega) ⟨df_nb _, ?_⟩)
  have e : df_l (df_pk p0 p1 p2 p3 t) j ↔ (¬ c = 0 ∧ ∃ j' t', j' < M ∧ t' < 4 ∧ nI j = nI j' ∧ nI t = nI t' ∧ df_S p0 p1 p2 p3 (t' * 64 + j')) := by
    rw [← df_S_at p0 p1 p2 p3 t j ht (by omega)]
    refine ⟨fun z => ⟨hc, j, t, hj, ht, rfl, rfl, z⟩, ?_⟩
    rintro ⟨_, j', t', hj', ht', e1, e2, w⟩
    rw [nI_eq (by omega) (by omega)] at e1 e2
    subst e1 e2
    exact w
  rw [df_bc e]
  exact hp
end
