section
variable (A n : Nat) (mr c : Int32) (fact K H bl body sup reach tags nxt : Nat → Int32)
theorem dy_addSuperiorR (R : Nat → Nat → Prop) (hR : df_hR n R sup) (hRn : ∀ r s, r < n → R r s → s < n) (post : Int32 → SY → Prop) {a b : Nat} (hn : n ≤ 32) (ha : a < n) (hb : b < n) (hab : ¬ a = b) (hnr : ¬ R a b)
    (hp1 : ¬ df_ch n R b (n - 1) a → ∀ rc, post 1 (nI A, mr, nI n, 0, fact, K, H, bl, body, upd sup (a * 32 + b) 1, rc, tags, nxt)) (hp0 : df_ch n R b (n - 1) a → ∀ rc, post 0 (nI A, mr, nI n, c, fact, K, H, bl, body, sup, rc, tags, nxt)) : wpY_addSuperior post (nI A, mr, nI n, c, fact, K, H, bl, body, sup, reach, tags, nxt) (nI a) (nI b) := by
  unfold wpY_addSuperior
  refine dy_validRule A n mr c fact K H bl body sup reach tags nxt _ (nI a) hn (df_br (fun h => absurd (df_v1 ha) h) (fun _ => dy_validRule A n mr c fact K H bl body sup reach tags nxt _ (nI b) hn (df_br (fun h => absurd (df_v1 hb) h) (fun _ => br_f (fun e => hab ((nI_eq (by omega) (by omega)).mp e)) ⟨pk_in (a * 32 + b) 1024 (by omega) (df_ix32 a b), br_t ((df_supz n sup R hR ha hn (by omega)).mpr hnr) ?_⟩))))
  have key : ∀ d k rc, k + d = 33 → (∃ Q : Nat → Prop, (∀ i, i < 32 → rc i = df_b (Q i)) ∧ (∀ i, df_ch n R b k i → Q i) ∧ (∀ i, Q i → df_ch n R b (n - 1) i)) → wY_addSuperior_71 post (nI a) (nI b) (nI A) mr (nI n) c (d + 1) (nI k) fact K H bl body sup rc tags nxt := by
    intro d
    induction d with
    | zero =>
      rintro k rc hk ⟨Q, h1, h2, h3⟩
      have e : k = 33 := by omega
      subst e
      have hQ : Q a ↔ df_ch n R b (n - 1) a := ⟨h3 a, fun z => h2 a (by rw [df_ch_sub hb hRn 33 (by omega)]; exact z)⟩
      exact br_t (nI_le (a := 33) (b := 33) (by omega) (by omega)) ⟨vp_in_nI (by omega) (by decide), df_if (d := ¬ df_ch n R b (n - 1) a) (by rw [nI_clamp (n := a) (by omega), h1 a (by omega), df_bc hQ]; exact df_bz)
        (fun z => ⟨pk_in (a * 32 + b) 1024 (by omega) (df_ix32 a b), nm_r (show upd sup (nI a * 32 + nI b).toNatClampNeg (vp_nar .boolean 1) = upd sup (a * 32 + b) 1 by rw [df_ix32, nI_clamp (by omega), df_vn1]) (hp1 z rc)⟩) (fun z => hp0 (Classical.not_not.mp z) rc)⟩
    | succ d ih =>
      rintro k rc hk ⟨Q, h1, h2, h3⟩
      refine br_f (nI_ge (a := k) (b := 33) (by omega) (by omega)) ?_
      refine df_loop (σ := Nat → Int32) (fun m i s => wY_addSuperior_80 post (wY_addSuperior_71 post (nI a) (nI b) (nI A) mr (nI n) c (d + 1)) (nI a) (nI b) (nI k) (nI A) mr (nI n) c m (nI i) fact K H bl body sup s tags nxt)
        (fun i s => ∃ Q : Nat → Prop, (∀ j, j < 32 → s j = df_b (Q j)) ∧ (∀ j, df_ch n R b k j → Q j) ∧ (∀ j, Q j → df_ch n R b (n - 1) j) ∧ (∀ r t, r < n → t < n → r * 32 + t < i → df_ch n R b k r → R r t → Q t)) 1024 ?_ ?_ rc ⟨Q, h1, h2, h3, fun r t _ _ z => absurd z (Nat.not_lt_zero _)⟩
      · rintro m s ⟨Q', g1, g2, g3, g4⟩
        refine br_t (nI_le (a := 1024) (b := 1024) (by omega) (by omega)) (nm_r (nI_1 k) (ih (k + 1) s (by omega) ⟨Q', g1, fun i z => ?_, g3⟩))
        rcases z with z | ⟨r, hr, zr, zR⟩
        · exact g2 i z
        · have l := hRn r i hr zR
          exact g4 r i hr l (by omega) zr zR
      · rintro m i s hi ⟨Q', g1, g2, g3, g4⟩ kk
        have hs : sup i = df_b (i / 32 < n ∧ R (i / 32) (i % 32)) := by
          have t := hR (i / 32) (i % 32) (by omega) (by omega)
          rw [show i / 32 * 32 + i % 32 = i by omega] at t
          exact t
        have stay : (i / 32 < n → R (i / 32) (i % 32) → df_ch n R b k (i / 32) → Q' (i % 32)) →
            ∃ Q : Nat → Prop, (∀ j, j < 32 → s j = df_b (Q j)) ∧ (∀ j, df_ch n R b k j → Q j) ∧ (∀ j, Q j → df_ch n R b (n - 1) j) ∧ (∀ r t, r < n → t < n → r * 32 + t < i + 1 → df_ch n R b k r → R r t → Q t) := by
          intro w
          refine ⟨Q', g1, g2, g3, fun r t hr ht z zc zR => ?_⟩
          rcases Nat.lt_or_ge (r * 32 + t) i with l | l
          · exact g4 r t hr ht l zc zR
          · have e1 : r = i / 32 := by omega
            have e2 : t = i % 32 := by omega
            rw [e1] at hr zc zR
            rw [e2] at zR ⊢
            exact w hr zR zc
        have ed : nI i / 32 = nI (i / 32) := pk_div (a := i) (d := 32) (by omega) (by omega) (by omega)
        have er : nI i - nI i / 32 * 32 = nI (i % 32) := pk_rem (a := i) (d := 32) (by omega) (by omega) (by omega)
        refine br_f (nI_ge (a := i) (b := 1024) hi (by omega)) ⟨vp_in_nI hi (by decide), df_if (d := ¬ (i / 32 < n ∧ R (i / 32) (i % 32))) (by rw [nI_clamp (n := i) (by omega), hs]; exact df_bz)
          (fun z => nm_r (nI_1 i) (kk s (stay (fun x y _ => absurd ⟨x, y⟩ z))))
          (fun z => ⟨by decide, pk_in (i / 32) 32 (by omega) ed, df_if (d := ¬ Q' (i / 32)) (by rw [ed, nI_clamp (by omega), g1 _ (by omega)]; exact df_bz)
            (fun w => nm_r (nI_1 i) (kk s (stay (fun _ _ y => absurd (g2 _ y) w))))
            (fun w => ⟨by decide, pk_in (i % 32) 32 (by omega) er, nm_r (show upd s (nI i - nI i / 32 * 32).toNatClampNeg (vp_nar .boolean 1) = upd s (i % 32) 1 by rw [er, nI_clamp (by omega), df_vn1]) (nm_r (nI_1 i) (kk (upd s (i % 32) 1) ⟨fun j => j = i % 32 ∨ Q' j, fun j hj => ?_, fun j y => Or.inr (g2 j y), fun j y => ?_, fun r t hr ht y zc zR => ?_⟩))⟩)⟩)⟩
        · rcases Classical.em (j = i % 32) with e | e
          · rw [e, pk_us]
            exact (df_b1 (Or.inl rfl)).symm
          · rw [pk_un e, g1 j hj]
            exact df_bc ⟨Or.inr, fun y => y.resolve_left e⟩
        · rcases y with y | y
          · rw [y]
            have z' := Classical.not_not.mp z
            exact df_ch_cl hb hRn z'.1 (g3 _ (Classical.not_not.mp w)) z'.2
          · exact g3 j y
        · rcases Nat.lt_or_ge (r * 32 + t) i with l | l
          · exact Or.inr (g4 r t hr ht l zc zR)
          · exact Or.inl (by omega)
  refine df_loop (σ := Nat → Int32) (fun m i s => wY_addSuperior_43 post (nI a) (nI b) (nI A) mr (nI n) c m (nI i) fact K H bl body sup s tags nxt) (fun i s => ∀ j, j < i → s j = 0) 32 ?_ ?_ reach (fun j hj => absurd hj (Nat.not_lt_zero j))
  · intro m s h
    refine br_t (nI_le (a := 32) (b := 32) (by omega) (by omega)) ⟨vp_in_nI (by omega) (by decide), nm_r (show upd s (nI b).toNatClampNeg (vp_nar .boolean 1) = upd s b 1 by rw [nI_clamp (n := b) (by omega), df_vn1]) ⟨34, key 33 0 (upd s b 1) rfl ⟨fun i => i = b, fun i hi => ?_, fun i z => z, fun i z => ?_⟩⟩⟩
    · rcases Classical.em (i = b) with e | e
      · rw [e, pk_us]
        exact (df_b1 rfl).symm
      · rw [pk_un e, h i hi]
        exact (df_b0 e).symm
    · have t := df_it_mono (f := df_wn n R) (s := fun i => i = b) (fun _ _ z => Or.inl z) 0 (n - 1) i z
      rw [Nat.zero_add] at t
      exact t
  · intro m i s hi h kk
    refine br_f (nI_ge (a := i) (b := 32) hi (by omega)) ⟨vp_in_nI hi (by decide), nm_r (show upd s (nI i).toNatClampNeg (vp_nar .boolean 0) = upd s i 0 by rw [nI_clamp (n := i) (by omega), df_vn0]) (nm_r (nI_1 i) (kk (upd s i 0) (fun j hj => ?_)))⟩
    rcases Classical.em (j = i) with e | e
    · rw [e]
      exact pk_us
    · exact (pk_un e).trans (h j (by omega))
theorem dy_addSuperior0 (R : Nat → Nat → Prop) (hR : df_hR n R sup) (post : Int32 → SY → Prop) (x y : Int32) (hn : n ≤ 32) (hno : ∀ a b, a < n → b < n → x = nI a → y = nI b → a = b ∨ R a b) (hp : post 0 (nI A, mr, nI n, c, fact, K, H, bl, body, sup, reach, tags, nxt)) : wpY_addSuperior post (nI A, mr, nI n, c, fact, K, H, bl, body, sup, reach, tags, nxt) x y := by
  unfold wpY_addSuperior
  refine dy_validRule A n mr c fact K H bl body sup reach tags nxt _ x hn (df_br (fun _ => hp) (fun h => ?_))
  obtain ⟨a, ha, rfl⟩ := h
  refine dy_validRule A n mr c fact K H bl body sup reach tags nxt _ y hn (df_br (fun _ => hp) (fun h => ?_))
  obtain ⟨b, hb, rfl⟩ := h
  refine br_c (fun _ => hp) (fun e => ⟨pk_in (a * 32 + b) 1024 (by omega) (df_ix32 a b), br_f (fun z => ?_) hp⟩)
  rcases hno a b ha hb rfl rfl with w | w
  · exact e (by rw [w])
  · exact (df_supz n sup R hR ha hn (by omega)).mp z w
theorem dy_isSuperior (R : Nat → Nat → Prop) (hR : df_hR n R sup) (post : Int32 → Prop) (x y : Int32) (hn : n ≤ 32) (hp : post (df_b (∃ a b, a < n ∧ b < n ∧ x = nI a ∧ y = nI b ∧ R a b))) : wpY_isSuperior post (nI A, mr, nI n, c, fact, K, H, bl, body, sup, reach, tags, nxt) x y := by
  unfold wpY_isSuperior
  refine dy_validRule A n mr c fact K H bl body sup reach tags nxt _ x hn (df_br (fun h => df_p0 (fun ⟨a, b, ha, _, e, _⟩ => h ⟨a, ha, e⟩) hp) (fun h => ?_))
  obtain ⟨a, ha, rfl⟩ := h
  refine dy_validRule A n mr c fact K H bl body sup reach tags nxt _ y hn (df_br (fun h => df_p0 (fun ⟨a, b, _, hb, _, e, _⟩ => h ⟨b, hb, e⟩) hp) (fun h => ?_))
  obtain ⟨b, hb, rfl⟩ := h
  refine ⟨pk_in (a * 32 + b) 1024 (by omega) (df_ix32 a b), df_if (df_supz n sup R hR ha hn (by omega)) (fun z => df_p0 ?_ hp) (fun z => df_p1 ⟨a, b, ha, hb, rfl, rfl, Classical.not_not.mp z⟩ hp)⟩
  rintro ⟨a', b', ha', hb', e1, e2, w⟩
  rw [nI_eq (by omega) (by omega)] at e1 e2
  subst e1 e2
  exact z w
-- reset
theorem dy_reset (post : SY → Prop) (hp : ∀ ft sp ln, (∀ j, j < 64 → ft j = 0) → (∀ j, j < 1024 → sp j = 0) → post (nI A, mr, nI 0, 0, ft, K, H, ln, body, sp, reach, tags, nxt)) : wpY_reset post (nI A, mr, nI n, c, fact, K, H, bl, body, sup, reach, tags, nxt) := by
  refine df_loop (σ := Nat → Int32) (fun m i s => wY_reset_2 post (nI A) mr (nI n) c m (nI i) s K H bl body sup reach tags nxt) (fun i s => ∀ j, j < i → s j = 0) 64 ?_ ?_ fact (fun j hj => absurd hj (Nat.not_lt_zero j))
  · intro m ft hft
    refine br_t (nI_le (a := 64) (b := 64) (by omega) (by omega)) ?_
    refine df_loop (σ := Nat → Int32) (fun m i s => wY_reset_23 post (nI A) mr (nI n) c m (nI i) ft K H bl body s reach tags nxt) (fun i s => ∀ j, j < i → s j = 0) 1024 ?_ ?_ sup (fun j hj => absurd hj (Nat.not_lt_zero j))
    · intro m sp hsp
      refine br_t (nI_le (a := 1024) (b := 1024) (by omega) (by omega)) ?_
      refine df_loop (σ := Nat → Int32) (fun m i s => wY_reset_45 post (nI A) mr (nI n) c m (nI i) ft K H s body sp reach tags nxt) (fun i s => True) 32 ?_ ?_ bl trivial
      · intro m ln _
        exact br_t (nI_le (a := 32) (b := 32) (by omega) (by omega)) (hp ft sp ln hft hsp)
      · intro m i s hi _ kk
        exact br_f (nI_ge (a := i) (b := 32) hi (by omega)) ⟨vp_in_nI hi (by decide), nm_e (nm_r (nI_1 i) (kk _ trivial))⟩
    · intro m i s hi h kk
      refine br_f (nI_ge (a := i) (b := 1024) hi (by omega)) ⟨vp_in_nI hi (by decide), nm_r (show upd s (nI i).toNatClampNeg (vp_nar .boolean 0) = upd s i 0 by rw [nI_clamp (n := i) (by omega), df_vn0]) (nm_r (nI_1 i) (kk (upd s i 0) (fun j hj => ?_)))⟩
      rcases Classical.em (j = i) with e | e
      · rw [e]
        exact pk_us
      · exact (pk_un e).trans (h j (by omega))
  · intro m i s hi h kk
    refine br_f (nI_ge (a := i) (b := 64) hi (by omega)) ⟨vp_in_nI hi (by decide), nm_r (show upd s (nI i).toNatClampNeg (vp_nar .boolean 0) = upd s i 0 by rw [nI_clamp (n := i) (by omega), df_vn0]) (nm_r (nI_1 i) (kk (upd s i 0) (fun j hj => ?_)))⟩
    rcases Classical.em (j = i) with e | e
    · rw [e]
      exact pk_us
    · exact (pk_un e).trans (h j (by omega))
end
