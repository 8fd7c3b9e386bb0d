section
variable (M n : Nat) (rl : Int32) (fa : Int64) (c : Int32) (p0 p1 p2 p3 : Int64) (K H bs bl : Nat → Int32) (bS : Nat → Int64) (wS : Nat → Int32)
theorem dx_passesPlusDefinite (post : Int32 → Prop) {q : Nat} (hq : q < 64) (hn : n ≤ 32) (hp : post (df_b (df_pD n (df_l fa) K H (df_B bS) (df_S p0 p1 p2 p3) q))) : wpX_passesPlusDefinite post (nI M, rl, fa, nI n, c, p0, p1, p2, p3, K, H, bs, bl, bS, wS) (nI q) := by
  unfold wpX_passesPlusDefinite
  exact dx_contains _ fa hq (df_br
    (fun a => dx_firstDefiniteProof M n rl fa c p0 p1 p2 p3 K H bs bl bS wS _ hn
      (fun r hr b _ => br_f (df_m1 (by omega)) (df_p1 (Or.inr ⟨r, hr, b⟩) hp))
      (fun b => br_t rfl (df_p0 (fun z => z.elim a (fun ⟨r, hr, d⟩ => b r hr d)) hp)))
    (fun a => (df_p1 (Or.inl a) hp)))
theorem dx_passesMinusDefinite (post : Int32 → Prop) {q : Nat} (hq : q < 64) (hn : n ≤ 32) (hp : post (df_b (df_mD n (df_l fa) K H (df_B bS) (df_S p0 p1 p2 p3) q))) : wpX_passesMinusDefinite post (nI M, rl, fa, nI n, c, p0, p1, p2, p3, K, H, bs, bl, bS, wS) (nI q) := by
  unfold wpX_passesMinusDefinite
  exact dx_contains _ fa hq (df_br
    (fun f => df_scan (fun m i => wX_passesMinusDefinite_15 post (nI q) (nI M) rl fa (nI n) c p0 p1 p2 p3 K H bs bl bS wS m (nI i)) (fun r => df_str K H r q ∧ ¬ df_som (df_B bS) (df_S p0 p1 p2 p3) 1 r) n
      (fun h m => br_t (nI_le (Nat.le_refl n) (by omega)) (df_p1 ⟨f, fun r hr a => Classical.byContradiction (fun b => h r hr ⟨a, b⟩)⟩ hp))
      (fun m i hi h k => br_f (nI_ge hi (by omega)) (dx_isStrictFor M n rl fa c p0 p1 p2 p3 K H bs bl bS wS _ (r := i) (by omega) (df_br (fun a => nm_r (nI_1 i) (k (fun z => a z.1)))
        (fun a => ⟨vp_in_nI (by omega) (by decide), df_if (by rw [nI_clamp (n := i) (by omega)]; exact df_som_x p0 p1 p2 p3 bS (t := 1) (by omega)) (fun b => df_p0 (fun z => b (z.2 i hi a)) hp) (fun b => nm_r (nI_1 i) (k (fun z => b z.2)))⟩)))))
    (fun f => df_p0 (fun z => z.1 f) hp))
theorem dx_passesPlusDefeasible (post : Int32 → Prop) {q : Nat} (hq : q < 64) (hn : n ≤ 32) (hp : post (df_b (df_pd n K H (df_B bS) (df_R wS) (df_S p0 p1 p2 p3) q))) : wpX_passesPlusDefeasible post (nI M, rl, fa, nI n, c, p0, p1, p2, p3, K, H, bs, bl, bS, wS) (nI q) := by
  unfold wpX_passesPlusDefeasible
  exact dx_contains _ p0 hq (df_br
    (fun a => dx_firstSupport M n rl fa c p0 p1 p2 p3 K H bs bl bS wS _ hn
      (fun r hr b _ => br_f (df_m1 (by omega)) ((dx_containsX _ p1 (nI q ^^^ 1) (df_x1I q) (df_x1 q hq) (df_br
        (fun d => (df_p0 (fun z => z.elim (fun y => a ((df_S_0 p0 p1 p2 p3 hq).mp y)) (fun y => d ((df_S_1 p0 p1 p2 p3 (df_x1 q hq)).mp y.2.1))) hp))
        (fun d => dx_everyAttackFails M n rl fa c p0 p1 p2 p3 K H bs bl bS wS _ hn (df_br
          (fun e => (df_p0 (fun z => z.elim (fun y => a ((df_S_0 p0 p1 p2 p3 hq).mp y)) (fun y => e y.2.2)) hp))
          (fun e => (df_p1 (Or.inr ⟨⟨r, hr, b⟩, (df_S_1 p0 p1 p2 p3 (df_x1 q hq)).mpr d, e⟩) hp))))))))
      (fun b => br_t rfl (df_p0 (fun z => z.elim (fun y => a ((df_S_0 p0 p1 p2 p3 hq).mp y)) (fun ⟨⟨r, hr, d⟩, _⟩ => b r hr d)) hp)))
    (fun a => df_p1 (Or.inl ((df_S_0 p0 p1 p2 p3 hq).mpr a)) hp))
theorem dx_passesMinusDefeasible (post : Int32 → Prop) {q : Nat} (hq : q < 64) (hn : n ≤ 32) (hp : post (df_b (df_md n K H (df_B bS) (df_R wS) (df_S p0 p1 p2 p3) q))) : wpX_passesMinusDefeasible post (nI M, rl, fa, nI n, c, p0, p1, p2, p3, K, H, bs, bl, bS, wS) (nI q) := by
  unfold wpX_passesMinusDefeasible
  exact dx_contains _ p1 hq (df_br
    (fun a => df_p0 (fun z => a ((df_S_1 p0 p1 p2 p3 hq).mp z.1)) hp)
    (fun a => dx_everySupportFails M n rl fa c p0 p1 p2 p3 K H bs bl bS wS _ hn (df_br
      (fun b => (dx_containsX _ p0 (nI q ^^^ 1) (df_x1I q) (df_x1 q hq) (df_br
        (fun d => dx_someAttackStands M n rl fa c p0 p1 p2 p3 K H bs bl bS wS _ hn (df_br
          (fun e => (df_p0 (fun z => z.2.elim b (fun y => y.elim (fun x => d ((df_S_0 p0 p1 p2 p3 (df_x1 q hq)).mp x)) e)) hp))
          (fun e => (df_p1 ⟨(df_S_1 p0 p1 p2 p3 hq).mpr a, Or.inr (Or.inr e)⟩ hp))))
        (fun d => (df_p1 ⟨(df_S_1 p0 p1 p2 p3 hq).mpr a, Or.inr (Or.inl ((df_S_0 p0 p1 p2 p3 (df_x1 q hq)).mpr d))⟩ hp)))))
      (fun b => (df_p1 ⟨(df_S_1 p0 p1 p2 p3 hq).mpr a, Or.inl b⟩ hp)))))
-- withNextStep, hasChain
theorem dx_withNextStep (post : Int32 → Prop) (w : Int32) (hn : n ≤ 32) (hp : ∀ w', (∀ j, df_w w' j ↔ df_wn n (df_R wS) (df_w w) j) → post w') : wpX_withNextStep post (nI M, rl, fa, nI n, c, p0, p1, p2, p3, K, H, bs, bl, bS, wS) w :=
  df_loop (σ := Int32) (fun m i s => wX_withNextStep_4 post w (nI M) rl fa (nI n) c p0 p1 p2 p3 K H bs bl bS wS m s (nI i)) (fun i s => ∀ j, df_w s j ↔ (df_w w j ∨ ∃ r, r < i ∧ df_w w r ∧ df_w (wS r) j)) n
    (fun m s h => br_t (nI_le (Nat.le_refl n) (by omega)) (hp s h))
    (fun m i s hi h k => br_f (nI_ge hi (by omega)) (df_if (df_w_get w (l := i) (by omega))
      (fun a => nm_r (nI_1 i) (k s (fun j => (h j).trans ⟨fun z => z.elim Or.inl (fun ⟨r, x, y⟩ => Or.inr ⟨r, by omega, y⟩), fun z => z.elim Or.inl (fun ⟨r, x, y⟩ => Or.inr ⟨r, df_ne_lt x (fun e => a (e ▸ y.1)), y⟩)⟩)))
      (fun a => ⟨vp_in_nI (by omega) (by decide), nm_r (congrArg (fun t => s ||| wS t) (nI_clamp (n := i) (by omega))) (nm_r (nI_1 i) (k (s ||| wS i) (fun j => by
        rw [df_w_or, h j]
        constructor
        · rintro ((z | ⟨r, x, y⟩) | z)
          · exact Or.inl z
          · exact Or.inr ⟨r, by omega, y⟩
          · exact Or.inr ⟨i, by omega, Classical.not_not.mp a, z⟩
        · rintro (z | ⟨r, x, y⟩)
          · exact Or.inl (Or.inl z)
          · rcases Nat.lt_or_ge r i with l | l
            · exact Or.inl (Or.inr ⟨r, l, y⟩)
            · have e : r = i := by omega
              subst e
              exact Or.inr y.2)))⟩)))
    w (fun j => ⟨Or.inl, fun z => z.elim id (fun ⟨r, x, _⟩ => absurd x (Nat.not_lt_zero r))⟩)
theorem dx_hasChain (post : Int32 → Prop) {a b : Nat} (hn : n ≤ 32) (ha : a < n) (hb : b < n) (hp : post (df_b (df_ch n (df_R wS) a (n - 1) b))) : wpX_hasChain post (nI M, rl, fa, nI n, c, p0, p1, p2, p3, K, H, bs, bl, bS, wS) (nI a) (nI b) :=
  nm_e (df_loop (σ := Int32) (fun m i s => wX_hasChain_7 post (nI b) (nI M) rl fa (nI n) c p0 p1 p2 p3 K H bs bl bS wS m s (nI (i + 1))) (fun i s => ∀ j, df_w s j ↔ df_ch n (df_R wS) a i j) (n - 1)
    (fun m s h => br_t (nI_le (by omega) (by omega)) (df_if (df_w_get s (l := b) (by omega)) (fun g => df_p0 (fun z => g ((h b).mpr z)) hp) (fun g => df_p1 ((h b).mp (Classical.not_not.mp g)) hp)))
    (fun m i s hi h k => br_f (nI_ge (by omega) (by omega)) (dx_withNextStep M n rl fa c p0 p1 p2 p3 K H bs bl bS wS _ s hn (fun w hw => nm_r (nI_1 (i + 1)) (k w (fun j => by
      have e : df_w s = df_ch n (df_R wS) a i := df_ext h
      rw [hw j, e]
      exact Iff.rfl)))))
    _ (fun j => df_w_one (l := a) (by omega) j))
-- one round
theorem df_orT {P : Prop} (x : Int64) {i : Nat} (hi : i < 64) (a : P) (j : Nat) : df_l (x ||| ((1 : Int64) <<< ((nI i).toInt64 &&& 63))) j ↔ df_l x j ∨ (j = i ∧ P) :=
  (df_l_put x hi j).trans ⟨fun z => z.elim (fun e => Or.inr ⟨e, a⟩) Or.inl, fun z => z.elim Or.inr (fun y => Or.inl y.1)⟩
theorem df_orF {P : Prop} (x : Int64) {i : Nat} (a : ¬ P) (j : Nat) : df_l x j ↔ df_l x j ∨ (j = i ∧ P) := ⟨Or.inl, fun z => z.elim id (fun y => absurd y.2 a)⟩
theorem df_grow {p s y : Int64} {i : Nat} {Q : Nat → Prop} (h : ∀ j, df_l s j ↔ df_l p j ∨ (j < i ∧ Q j)) (g : ∀ j, df_l y j ↔ df_l s j ∨ (j = i ∧ Q i)) (j : Nat) : df_l y j ↔ df_l p j ∨ (j < i + 1 ∧ Q j) := by
  rw [g j, h j]
  constructor
  · rintro ((z | z) | z)
    · exact Or.inl z
    · exact Or.inr ⟨by omega, z.2⟩
    · exact Or.inr ⟨by omega, z.1.symm ▸ z.2⟩
  · rintro (z | z)
    · exact Or.inl (Or.inl z)
    · rcases Nat.lt_or_ge j i with l | l
      · exact Or.inl (Or.inr ⟨l, z.2⟩)
      · have e : j = i := by omega
        exact Or.inr ⟨e, e ▸ z.2⟩
theorem dx_rr84 (post : Int32 → St2 → Prop) (J : Int64 → Int64 → Int64 → Int64 → Int32 → Prop) (x1 x3 x5 x7 : Int64) {i : Nat} (hi : i < 64) (hn : n ≤ 32)
    (hJ : ∀ y7, (∀ j, df_l y7 j ↔ df_l x7 j ∨ (j = i ∧ df_md n K H (df_B bS) (df_R wS) (df_S p0 p1 p2 p3) i)) → J x1 x3 x5 y7 (nI (i + 1))) :
    wX_runRound_84 post J x1 x3 x5 x7 (nI i) ((1 : Int64) <<< ((nI i).toInt64 &&& 63)) (nI M) rl fa (nI n) c p0 p1 p2 p3 K H bs bl bS wS := by
  unfold wX_runRound_84
  exact dx_passesMinusDefeasible M n rl fa c p0 p1 p2 p3 K H bs bl bS wS _ hi hn (df_br (fun a => nm_r (nI_1 i) (hJ x7 (df_orF x7 a))) (fun a => nm_e (nm_r (nI_1 i) (hJ _ (df_orT x7 hi a)))))
theorem dx_rr68 (post : Int32 → St2 → Prop) (J : Int64 → Int64 → Int64 → Int64 → Int32 → Prop) (x1 x3 x5 x7 : Int64) {i : Nat} (hi : i < 64) (hn : n ≤ 32)
    (hJ : ∀ y5 y7, (∀ j, df_l y5 j ↔ df_l x5 j ∨ (j = i ∧ df_pd n K H (df_B bS) (df_R wS) (df_S p0 p1 p2 p3) i)) → (∀ j, df_l y7 j ↔ df_l x7 j ∨ (j = i ∧ df_md n K H (df_B bS) (df_R wS) (df_S p0 p1 p2 p3) i)) → J x1 x3 y5 y7 (nI (i + 1))) :
    wX_runRound_68 post J x1 x3 x5 x7 (nI i) ((1 : Int64) <<< ((nI i).toInt64 &&& 63)) (nI M) rl fa (nI n) c p0 p1 p2 p3 K H bs bl bS wS := by
  unfold wX_runRound_68
  exact dx_passesPlusDefeasible M n rl fa c p0 p1 p2 p3 K H bs bl bS wS _ hi hn (df_br (fun a => dx_rr84 M n rl fa c p0 p1 p2 p3 K H bs bl bS wS post J x1 x3 x5 x7 hi hn (fun y7 => hJ x5 y7 (df_orF x5 a))) (fun a => nm_e (dx_rr84 M n rl fa c p0 p1 p2 p3 K H bs bl bS wS post J x1 x3 _ x7 hi hn (fun y7 => hJ _ y7 (df_orT x5 hi a)))))
theorem dx_rr54 (post : Int32 → St2 → Prop) (J : Int64 → Int64 → Int64 → Int64 → Int32 → Prop) (x1 x3 x5 x7 : Int64) {i : Nat} (hi : i < 64) (hn : n ≤ 32)
    (hJ : ∀ y3 y5 y7, (∀ j, df_l y3 j ↔ df_l x3 j ∨ (j = i ∧ df_mD n (df_l fa) K H (df_B bS) (df_S p0 p1 p2 p3) i)) → (∀ j, df_l y5 j ↔ df_l x5 j ∨ (j = i ∧ df_pd n K H (df_B bS) (df_R wS) (df_S p0 p1 p2 p3) i)) → (∀ j, df_l y7 j ↔ df_l x7 j ∨ (j = i ∧ df_md n K H (df_B bS) (df_R wS) (df_S p0 p1 p2 p3) i)) → J x1 y3 y5 y7 (nI (i + 1))) :
    wX_runRound_54 post J x1 x3 x5 x7 (nI i) ((1 : Int64) <<< ((nI i).toInt64 &&& 63)) (nI M) rl fa (nI n) c p0 p1 p2 p3 K H bs bl bS wS := by
  unfold wX_runRound_54
  exact dx_passesMinusDefinite M n rl fa c p0 p1 p2 p3 K H bs bl bS wS _ hi hn (df_br (fun a => dx_rr68 M n rl fa c p0 p1 p2 p3 K H bs bl bS wS post J x1 x3 x5 x7 hi hn (fun y5 y7 => hJ x3 y5 y7 (df_orF x3 a))) (fun a => nm_e (dx_rr68 M n rl fa c p0 p1 p2 p3 K H bs bl bS wS post J x1 _ x5 x7 hi hn (fun y5 y7 => hJ _ y5 y7 (df_orT x3 hi a)))))
theorem dx_runRound (post : Int32 → St2 → Prop) (hM : M ≤ 64) (hn : n ≤ 32)
    (hp : ∀ r0 r1 r2 r3, df_S r0 r1 r2 r3 = df_st M n (df_l fa) K H (df_B bS) (df_R wS) (df_S p0 p1 p2 p3) → post (df_b (¬ df_S r0 r1 r2 r3 = df_S p0 p1 p2 p3)) (nI M, rl, fa, nI n, c, r0, r1, r2, r3, K, H, bs, bl, bS, wS)) : wpX_runRound post (nI M, rl, fa, nI n, c, p0, p1, p2, p3, K, H, bs, bl, bS, wS) := by
  refine df_loop (σ := Int64 × Int64 × Int64 × Int64) (fun m i s => wX_runRound_25 post (nI M) rl fa (nI n) c p0 p1 p2 p3 K H bs bl bS wS m s.1 s.2.1 s.2.2.1 s.2.2.2 (nI i))
    (fun i s => (∀ j, df_l s.1 j ↔ df_l p0 j ∨ (j < i ∧ df_pD n (df_l fa) K H (df_B bS) (df_S p0 p1 p2 p3) j)) ∧ (∀ j, df_l s.2.1 j ↔ df_l p1 j ∨ (j < i ∧ df_mD n (df_l fa) K H (df_B bS) (df_S p0 p1 p2 p3) j))
      ∧ (∀ j, df_l s.2.2.1 j ↔ df_l p2 j ∨ (j < i ∧ df_pd n K H (df_B bS) (df_R wS) (df_S p0 p1 p2 p3) j)) ∧ (∀ j, df_l s.2.2.2 j ↔ df_l p3 j ∨ (j < i ∧ df_md n K H (df_B bS) (df_R wS) (df_S p0 p1 p2 p3) j))) M ?_ ?_ (p0, p1, p2, p3) ?_
  · rintro m ⟨r0, r1, r2, r3⟩ ⟨h0, h1, h2, h3⟩
    have t := hp r0 r1 r2 r3 (df_S_step (n := n) (F := df_l fa) (K := K) (H := H) (B := df_B bS) (R := df_R wS) hM rfl h0 h1 h2 h3)
    refine br_t (nI_le (Nat.le_refl M) (by omega)) ?_
    have no : (¬ r0 = p0 ∨ ¬ r1 = p1 ∨ ¬ r2 = p2 ∨ ¬ r3 = p3) → wX_runRound_144 post r0 r1 r2 r3 (nI M) rl fa (nI n) c p0 p1 p2 p3 K H bs bl bS wS := by
      intro z
      have e : ¬ df_S r0 r1 r2 r3 = df_S p0 p1 p2 p3 := fun w => by
        obtain ⟨w0, w1, w2, w3⟩ := df_S_inj w
        rcases z with z | z | z | z
        · exact z w0
        · exact z w1
        · exact z w2
        · exact z w3
      rw [df_b1 e] at t
      exact ⟨rfl, t⟩
    refine br_c (fun a0 => br_c (fun a1 => br_c (fun a2 => br_c (fun a3 => ?_) (fun a3 => no (Or.inr (Or.inr (Or.inr a3))))) (fun a2 => no (Or.inr (Or.inr (Or.inl a2))))) (fun a1 => no (Or.inr (Or.inl a1)))) (fun a0 => no (Or.inl a0))
    have e : ¬ ¬ df_S r0 r1 r2 r3 = df_S p0 p1 p2 p3 := fun w => w (by rw [show r0 = p0 from a0, show r1 = p1 from a1, show r2 = p2 from a2, show r3 = p3 from a3])
    rw [df_b0 e] at t
    exact ⟨rfl, t⟩
  · rintro m i ⟨s0, s1, s2, s3⟩ hi ⟨h0, h1, h2, h3⟩ k
    refine br_f (nI_ge hi (by omega)) (nm_e (dx_passesPlusDefinite M n rl fa c p0 p1 p2 p3 K H bs bl bS wS _ (by omega) hn (df_br (fun a => dx_rr54 M n rl fa c p0 p1 p2 p3 K H bs bl bS wS post _ s0 s1 s2 s3 (by omega) hn (fun y3 y5 y7 g3 g5 g7 => ?_)) (fun a => nm_e (dx_rr54 M n rl fa c p0 p1 p2 p3 K H bs bl bS wS post _ _ s1 s2 s3 (by omega) hn (fun y3 y5 y7 g3 g5 g7 => ?_))))))
    · exact k (s0, y3, y5, y7) ⟨df_grow h0 (df_orF s0 a), df_grow h1 g3, df_grow h2 g5, df_grow h3 g7⟩
    · exact k (_, y3, y5, y7) ⟨df_grow h0 (df_orT s0 (by omega) a), df_grow h1 g3, df_grow h2 g5, df_grow h3 g7⟩
  · have z : ∀ (p : Int64) (Q : Nat → Prop) (j : Nat), df_l p j ↔ df_l p j ∨ (j < 0 ∧ Q j) := fun p Q j => ⟨Or.inl, fun y => y.elim id (fun w => absurd w.1 (Nat.not_lt_zero j))⟩
    exact ⟨z _ _, z _ _, z _ _, z _ _⟩
theorem dx_compute (post : Int32 → St2 → Prop) (hM : M ≤ 64) (hn : n ≤ 32)
    (hp : ∀ r0 r1 r2 r3, df_S r0 r1 r2 r3 = df_Fin M n (df_l fa) K H (df_B bS) (df_R wS) → post (nI (df_c (df_l r2) 64)) (nI M, rl, fa, nI n, 1, r0, r1, r2, r3, K, H, bs, bl, bS, wS)) : wpX_compute post (nI M, rl, fa, nI n, c, p0, p1, p2, p3, K, H, bs, bl, bS, wS) := by
  have fin : ∀ r0 r1 r2 r3, df_S r0 r1 r2 r3 = df_Fin M n (df_l fa) K H (df_B bS) (df_R wS) → wX_compute_46 post (nI M) rl fa (nI n) c r0 r1 r2 r3 K H bs bl bS wS :=
    fun r0 r1 r2 r3 h => by
      unfold wX_compute_46
      exact dx_sizeOf _ r2 (hp r0 r1 r2 r3 h)
  have key : ∀ d k r0 r1 r2 r3 (g : Int32), k + d = 257 → df_S r0 r1 r2 r3 = df_It M n (df_l fa) K H (df_B bS) (df_R wS) k → (g = 0 → df_It M n (df_l fa) K H (df_B bS) (df_R wS) k = df_Fin M n (df_l fa) K H (df_B bS) (df_R wS)) →
      wX_compute_24 post (d + 1) g (nI k) (nI M) rl fa (nI n) c r0 r1 r2 r3 K H bs bl bS wS := by
    intro d
    induction d with
    | zero =>
      intro k r0 r1 r2 r3 g hk hS hg
      have e : k = 257 := by omega
      subst e
      exact br_c (fun z => fin r0 r1 r2 r3 (hS.trans (hg z))) (fun _ => br_t (nI_le (a := 257) (b := 257) (by omega) (by omega)) (fin r0 r1 r2 r3 (hS.trans (df_It_257 M n (df_l fa) K H (df_B bS) (df_R wS)))))
    | succ d ih =>
      intro k r0 r1 r2 r3 g hk hS hg
      refine br_c (fun z => fin r0 r1 r2 r3 (hS.trans (hg z))) (fun _ => br_f (nI_ge (a := k) (b := 257) (by omega) (by omega)) (dx_runRound M n rl fa c r0 r1 r2 r3 K H bs bl bS wS _ hM hn (fun s0 s1 s2 s3 hs => nm_r (nI_1 k) (ih (k + 1) s0 s1 s2 s3 _ (by omega) ?_ ?_))))
      · rw [hs, hS]
        rfl
      · intro z
        have e : df_S s0 s1 s2 s3 = df_S r0 r1 r2 r3 := Classical.not_not.mp (df_bz.mp z)
        rw [hS, hs, hS] at e
        exact df_It_fix M n (df_l fa) K H (df_B bS) (df_R wS) (by omega) e
  exact ⟨258, key 257 0 0 0 0 0 1 rfl df_S_z (fun z => absurd z (by decide))⟩
end
