theorem df_vn (p : Prop) : vp_nar .boolean (df_b p) = df_b p := by
  rcases Classical.em p with h | h
  · rw [df_b1 h]; rfl
  · rw [df_b0 h]; rfl
theorem df_vn1 : vp_nar .boolean 1 = 1 := rfl
theorem df_vn0 : vp_nar .boolean 0 = 0 := rfl
theorem df_nb (p : Prop) : narrow .boolean (.int (df_b p)) = .int (df_b p) := by
  rcases Classical.em p with h | h
  · rw [df_b1 h]; rfl
  · rw [df_b0 h]; rfl
-- nxt while the literals below i have been tested
def df_N (M n : Nat) (F : Nat → Prop) (K H : Nat → Int32) (B R : Nat → Nat → Prop) (S : Nat → Prop) (i : Nat) (s : Nat → Int32) : Prop :=
  ∀ j, j < 256 → (j % 64 < i → s j = df_b (df_T n F K H B R S (j / 64) (j % 64))) ∧ (M ≤ j % 64 → s j = 0)
theorem df_N_step {M n : Nat} {F : Nat → Prop} {K H : Nat → Int32} {B R : Nat → Nat → Prop} {S : Nat → Prop} {i : Nat} {s : Nat → Int32} (hM : M ≤ 64) (hi : i < M) (h : df_N M n F K H B R S i s) :
    df_N M n F K H B R S (i + 1) (upd (upd (upd (upd s i (df_b (df_pD n F K H B S i))) (64 + i) (df_b (df_mD n F K H B S i))) (128 + i) (df_b (df_pd n K H B R S i))) (192 + i) (df_b (df_md n K H B R S i))) := by
  intro j hj
  obtain ⟨h1, h2⟩ := h j hj
  rcases Nat.lt_or_ge (j % 64) i with l | l
  · rw [pk_un (by omega), pk_un (by omega), pk_un (by omega), pk_un (by omega)]
    exact ⟨fun _ => h1 l, fun z => absurd z (by omega)⟩
  · rcases Nat.lt_or_ge i (j % 64) with g | g
    · rw [pk_un (by omega), pk_un (by omega), pk_un (by omega), pk_un (by omega)]
      exact ⟨fun z => absurd z (by omega), h2⟩
    · have e : j % 64 = i := by omega
      refine ⟨fun _ => ?_, fun z => absurd z (by omega)⟩
      rw [e]
      rcases (show j = i ∨ j = 64 + i ∨ j = 128 + i ∨ j = 192 + i by omega) with w | w | w | w
      · subst w
        rw [pk_un (by omega), pk_un (by omega), pk_un (by omega), pk_us, show j / 64 = 0 by omega]
        rfl
      · subst w
        rw [pk_un (by omega), pk_un (by omega), pk_us, show (64 + i) / 64 = 1 by omega]
        rfl
      · subst w
        rw [pk_un (by omega), pk_us, show (128 + i) / 64 = 2 by omega]
        rfl
      · subst w
        rw [pk_us, show (192 + i) / 64 = 3 by omega]
        rfl
theorem df_N_end {M n : Nat} {F : Nat → Prop} {K H : Nat → Int32} {B R : Nat → Nat → Prop} {S : Nat → Prop} {s : Nat → Int32} (h : df_N M n F K H B R S M s) {j : Nat} (hj : j < 256) : s j = df_b (df_ts M n F K H B R S j) := by
  obtain ⟨h1, h2⟩ := h j hj
  rcases Nat.lt_or_ge (j % 64) M with l | l
  · rw [h1 l]
    exact df_bc ⟨fun z => ⟨hj, l, z⟩, fun z => z.2.2⟩
  · rw [h2 l]
    exact (df_b0 (fun z => absurd z.2.1 (by omega))).symm
section
variable (A n : Nat) (mr c : Int32) (fact K H bl body sup reach tags nxt : Nat → Int32)
theorem dy_count (S : Nat → Prop) (hT : df_hT S tags) (post : Int32 → Prop) {t : Nat} (hA : A ≤ 32) (ht : t < 4) (hp : post (nI (df_c (fun q => S (t * 64 + q)) (2 * A)))) : ∃ m, wY_countTag_25 post (nI t) (nI A) mr (nI n) c fact K H bl body sup reach tags nxt m 0 0 :=
  df_cnt (fun m i x => wY_countTag_25 post (nI t) (nI A) mr (nI n) c fact K H bl body sup reach tags nxt m x (nI i)) (fun q => S (t * 64 + q)) (2 * A)
    (fun m => br_t (by rw [df_2A]; exact nI_le (Nat.le_refl _) (by omega)) hp)
    (fun m i x hi hy hf => br_f (by rw [df_2A]; exact nI_ge hi (by omega)) ⟨pk_in (t * 64 + i) 256 (by omega) (df_ix64 t i), df_if (d := ¬ S (t * 64 + i)) (by rw [df_ix64, nI_clamp (by omega), hT _ (by omega)]; exact df_bz)
      (fun a => nm_r (nI_1 i) (hf a)) (fun a => nm_e (nm_r (nI_1 i) (hy (Classical.not_not.mp a))))⟩)
theorem dy_countTag (S : Nat → Prop) (hT : df_hT S tags) (post : Int32 → Prop) {t : Nat} (hc : ¬ c = 0) (hA : A ≤ 32) (ht : t < 4) (hp : post (nI (df_c (fun q => S (t * 64 + q)) (2 * A)))) : wpY_countTag post (nI A, mr, nI n, c, fact, K, H, bl, body, sup, reach, tags, nxt) (nI t) :=
  br_f hc (br_f (nI_pos (by omega)) (br_t (nI_le (a := t) (b := 3) (by omega) (by omega)) (dy_count A n mr c fact K H bl body sup reach tags nxt S hT post hA ht hp)))
theorem dy_compute (F : Nat → Prop) (B R : Nat → Nat → Prop) (hF : df_hF F fact) (hB : df_hB n B bl body) (hR : df_hR n R sup) (post : Int32 → SY → Prop) (hA : A ≤ 32) (hn : n ≤ 32)
    (hp : ∀ tg nx, df_hT (df_Fin (2 * A) n F K H B R) tg → post (nI (df_c (fun q => df_Fin (2 * A) n F K H B R (2 * 64 + q)) (2 * A))) (nI A, mr, nI n, 1, fact, K, H, bl, body, sup, reach, tg, nx)) : wpY_compute post (nI A, mr, nI n, c, fact, K, H, bl, body, sup, reach, tags, nxt) := by
  have fin : ∀ tg nx, df_hT (df_Fin (2 * A) n F K H B R) tg → wY_compute_175 post (nI A) mr (nI n) c fact K H bl body sup reach tg nx :=
    fun tg nx h => by
      unfold wY_compute_175
      exact dy_countTag A n mr 1 fact K H bl body sup reach tg nx (df_Fin (2 * A) n F K H B R) h _ (t := 2) (by decide) hA (by omega) (hp tg nx h)
  have key : ∀ d k tg nx, k + d = 300 → df_hT (df_It (2 * A) n F K H B R k) tg → (∀ j, j < 256 → 2 * A ≤ j % 64 → nx j = 0) →
      wY_compute_38 post (nI (2 * A)) (nI A) mr (nI n) c (d + 1) (nI k) fact K H bl body sup reach tg nx := by
    intro d
    induction d with
    | zero =>
      intro k tg nx hk hT hN
      have e : k = 300 := by omega
      subst e
      exact br_t (nI_le (a := 300) (b := 300) (by omega) (by omega)) (fin tg nx hT)
    | succ d ih =>
      intro k tg nx hk hT hN
      refine br_f (nI_ge (a := k) (b := 300) (by omega) (by omega)) ?_
      refine df_loop (σ := Nat → Int32) (fun m i s => wY_compute_47 post (wY_compute_38 post (nI (2 * A)) (nI A) mr (nI n) c (d + 1)) (nI (2 * A)) (nI k) (nI A) mr (nI n) c m (nI i) fact K H bl body sup reach tg s)
        (fun i s => df_N (2 * A) n F K H B R (df_It (2 * A) n F K H B R k) i s) (2 * A) ?_ ?_ nx (fun j hj => ⟨fun z => absurd z (Nat.not_lt_zero _), hN j hj⟩)
      · intro m s hs
        refine br_t (nI_le (Nat.le_refl _) (by omega)) ?_
        refine df_loop (σ := Int32 × (Nat → Int32)) (fun m i z => wY_compute_118 post (wY_compute_38 post (nI (2 * A)) (nI A) mr (nI n) c (d + 1)) (nI (2 * A)) (nI k) (nI A) mr (nI n) c m z.1 (nI i) fact K H bl body sup reach z.2 s)
          (fun i z => (∀ j, j < 256 → z.2 j = df_b (df_It (2 * A) n F K H B R k j ∨ (j < i ∧ df_ts (2 * A) n F K H B R (df_It (2 * A) n F K H B R k) j))) ∧ z.1 = df_b (∃ j, j < i ∧ df_ts (2 * A) n F K H B R (df_It (2 * A) n F K H B R k) j ∧ ¬ df_It (2 * A) n F K H B R k j)) 256 ?_ ?_ (0, tg) ?_
        · rintro m ⟨x, tg'⟩ ⟨h1, h2⟩
          have h2 : x = df_b (∃ j, j < 256 ∧ df_ts (2 * A) n F K H B R (df_It (2 * A) n F K H B R k) j ∧ ¬ df_It (2 * A) n F K H B R k j) := h2
          have h1 : ∀ j, j < 256 → tg' j = df_b (df_It (2 * A) n F K H B R k j ∨ (j < 256 ∧ df_ts (2 * A) n F K H B R (df_It (2 * A) n F K H B R k) j)) := h1
          have hT' : df_hT (df_It (2 * A) n F K H B R (k + 1)) tg' := fun j hj => (h1 j hj).trans (df_bc ⟨fun z => z.elim Or.inl (fun y => Or.inr y.2), fun z => z.elim Or.inl (fun y => Or.inr ⟨hj, y⟩)⟩)
          subst h2
          refine br_t (nI_le (a := 256) (b := 256) (by omega) (by omega)) (df_br (fun a => fin tg' s ?_) (fun a => nm_r (nI_1 k) (ih (k + 1) tg' s (by omega) hT' (fun j hj z => (hs j hj).2 z))))
          have e : df_It (2 * A) n F K H B R (k + 1) = df_It (2 * A) n F K H B R k := by
            apply df_ext
            intro j
            refine ⟨fun z => ?_, Or.inl⟩
            rcases z with z | z
            · exact z
            · exact Classical.byContradiction (fun y => a ⟨j, z.1, z, y⟩)
          rw [← df_It_fix (2 * A) n F K H B R (by omega) e]
          exact hT'
        · rintro m i ⟨x, tg'⟩ hi ⟨h1, h2⟩ kk
          have h2 : x = df_b (∃ j, j < i ∧ df_ts (2 * A) n F K H B R (df_It (2 * A) n F K H B R k) j ∧ ¬ df_It (2 * A) n F K H B R k j) := h2
          have h1 : ∀ j, j < 256 → tg' j = df_b (df_It (2 * A) n F K H B R k j ∨ (j < i ∧ df_ts (2 * A) n F K H B R (df_It (2 * A) n F K H B R k) j)) := h1
          have hti : tg' i = df_b (df_It (2 * A) n F K H B R k i) := (h1 i hi).trans (df_bc ⟨fun z => z.elim id (fun y => absurd y.1 (by omega)), Or.inl⟩)
          have hni : s i = df_b (df_ts (2 * A) n F K H B R (df_It (2 * A) n F K H B R k) i) := df_N_end hs hi
          have stay : (df_ts (2 * A) n F K H B R (df_It (2 * A) n F K H B R k) i → df_It (2 * A) n F K H B R k i) →
              (∀ j, j < 256 → tg' j = df_b (df_It (2 * A) n F K H B R k j ∨ (j < i + 1 ∧ df_ts (2 * A) n F K H B R (df_It (2 * A) n F K H B R k) j))) ∧ x = df_b (∃ j, j < i + 1 ∧ df_ts (2 * A) n F K H B R (df_It (2 * A) n F K H B R k) j ∧ ¬ df_It (2 * A) n F K H B R k j) := by
            intro w
            refine ⟨fun j hj => (h1 j hj).trans (df_bc ⟨fun z => z.elim Or.inl (fun y => Or.inr ⟨by omega, y.2⟩), fun z => z.elim Or.inl (fun y => ?_)⟩), h2.trans (df_bc ⟨fun ⟨j, a, b⟩ => ⟨j, by omega, b⟩, fun ⟨j, a, b⟩ => ⟨j, ?_, b⟩⟩)⟩
            · rcases Nat.lt_or_ge j i with l | l
              · exact Or.inr ⟨l, y.2⟩
              · have e : j = i := by omega
                subst e
                exact Or.inl (w y.2)
            · rcases Nat.lt_or_ge j i with l | l
              · exact l
              · have e : j = i := by omega
                subst e
                exact absurd (w b.1) b.2
          refine br_f (nI_ge (a := i) (b := 256) hi (by omega)) ⟨vp_in_nI hi (by decide), df_if (d := ¬ df_ts (2 * A) n F K H B R (df_It (2 * A) n F K H B R k) i) (by rw [nI_clamp (n := i) (by omega), hni]; exact df_bz)
            (fun a => nm_r (nI_1 i) (kk (x, tg') (stay (fun z => absurd z a))))
            (fun a => ⟨vp_in_nI hi (by decide), df_if (d := ¬ df_It (2 * A) n F K H B R k i) (by rw [nI_clamp (n := i) (by omega)]; show tg' i = 0 ↔ _; rw [hti]; exact df_bz)
              (fun b => ⟨vp_in_nI hi (by decide), nm_r (show upd tg' (nI i).toNatClampNeg (vp_nar .boolean 1) = upd tg' i 1 by rw [nI_clamp (n := i) (by omega), df_vn1]) (nm_r (nI_1 i) (kk (1, upd tg' i 1) ⟨fun j hj => ?_, ?_⟩))⟩)
              (fun b => nm_r (nI_1 i) (kk (x, tg') (stay (fun _ => Classical.not_not.mp b))))⟩)⟩
          · have ta := Classical.not_not.mp a
            rcases Classical.em (j = i) with e | e
            · subst e
              show upd tg' j 1 j = _
              rw [pk_us]
              exact (df_b1 (Or.inr ⟨by omega, ta⟩)).symm
            · show upd tg' i 1 j = _
              rw [pk_un e, h1 j hj]
              exact df_bc ⟨fun z => z.elim Or.inl (fun y => Or.inr ⟨by omega, y.2⟩), fun z => z.elim Or.inl (fun y => Or.inr ⟨by omega, y.2⟩)⟩
          · exact (df_b1 ⟨i, by omega, Classical.not_not.mp a, b⟩).symm
        · exact ⟨fun j hj => (hT j hj).trans (df_bc ⟨Or.inl, fun z => z.elim id (fun y => absurd y.1 (Nat.not_lt_zero j))⟩), (df_b0 (fun ⟨j, a, _⟩ => absurd a (Nat.not_lt_zero j))).symm⟩
      · intro m i s hi hs kk
        have q64 : i < 64 := by omega
        refine br_f (nI_ge hi (by omega)) (dy_testPlusD A n mr c fact K H bl body sup reach tg s F B (df_It (2 * A) n F K H B R k) hF hB hT _ hn q64 ⟨pk_in i 256 (by omega), nm_r (e' := upd s i (df_b (df_pD n F K H B (df_It (2 * A) n F K H B R k) i))) (by rw [nI_clamp (n := i) (by omega), df_vn])
          (dy_testMinusD A n mr c fact K H bl body sup reach tg _ F B (df_It (2 * A) n F K H B R k) hF hB hT _ hn q64 ⟨pk_in (64 + i) 256 (by omega) (df_e64 i), nm_r (e' := upd (upd s i (df_b (df_pD n F K H B (df_It (2 * A) n F K H B R k) i))) (64 + i) (df_b (df_mD n F K H B (df_It (2 * A) n F K H B R k) i))) (by rw [df_e64, nI_clamp (by omega), df_vn])
            (dy_testPlusd A n mr c fact K H bl body sup reach tg _ B R (df_It (2 * A) n F K H B R k) hB hR hT _ hn q64 ⟨pk_in (128 + i) 256 (by omega) (df_e128 i), nm_r (e' := upd (upd (upd s i (df_b (df_pD n F K H B (df_It (2 * A) n F K H B R k) i))) (64 + i) (df_b (df_mD n F K H B (df_It (2 * A) n F K H B R k) i))) (128 + i) (df_b (df_pd n K H B R (df_It (2 * A) n F K H B R k) i))) (by rw [df_e128, nI_clamp (by omega), df_vn])
              (dy_testMinusd A n mr c fact K H bl body sup reach tg _ B R (df_It (2 * A) n F K H B R k) hB hR hT _ hn q64 ⟨pk_in (192 + i) 256 (by omega) (df_e192 i), nm_r (e' := upd (upd (upd (upd s i (df_b (df_pD n F K H B (df_It (2 * A) n F K H B R k) i))) (64 + i) (df_b (df_mD n F K H B (df_It (2 * A) n F K H B R k) i))) (128 + i) (df_b (df_pd n K H B R (df_It (2 * A) n F K H B R k) i))) (192 + i) (df_b (df_md n K H B R (df_It (2 * A) n F K H B R k) i))) (by rw [df_e192, nI_clamp (by omega), df_vn])
                (nm_r (nI_1 i) (kk _ (df_N_step (by omega) hi hs)))⟩)⟩)⟩)⟩)
  refine df_loop (σ := (Nat → Int32) × (Nat → Int32)) (fun m i s => wY_compute_2 post (nI A) mr (nI n) c m (nI i) fact K H bl body sup reach s.1 s.2) (fun i s => ∀ j, j < i → s.1 j = 0 ∧ s.2 j = 0) 256 ?_ ?_ (tags, nxt) (fun j hj => absurd hj (Nat.not_lt_zero j))
  · rintro m ⟨tg, nx⟩ h
    exact br_t (nI_le (a := 256) (b := 256) (by omega) (by omega)) (nm_r (df_2A A) ⟨301, key 300 0 tg nx rfl (fun j hj => (h j hj).1.trans (df_b0 (fun z => z)).symm) (fun j hj _ => (h j hj).2)⟩)
  · rintro m i ⟨tg, nx⟩ hi h kk
    refine br_f (nI_ge (a := i) (b := 256) hi (by omega)) ⟨vp_in_nI hi (by decide), nm_r (show upd tg (nI i).toNatClampNeg (vp_nar .boolean 0) = upd tg i 0 by rw [nI_clamp (n := i) (by omega), df_vn0]) ⟨vp_in_nI hi (by decide), nm_r (show upd nx (nI i).toNatClampNeg (vp_nar .boolean 0) = upd nx i 0 by rw [nI_clamp (n := i) (by omega), df_vn0]) (nm_r (nI_1 i) (kk (upd tg i 0, upd nx i 0) (fun j hj => ?_)))⟩⟩
    rcases Classical.em (j = i) with e | e
    · subst e
      exact ⟨pk_us, pk_us⟩
    · exact ⟨(pk_un e).trans (h j (by omega)).1, (pk_un e).trans (h j (by omega)).2⟩
end
