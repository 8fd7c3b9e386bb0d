section
variable (A n : Nat) (mr c : Int32) (fact K H bl body sup reach tags nxt : Nat → Int32)
theorem dy_addFact1 (F : Nat → Prop) (hF : df_hF F fact) (post : Int32 → SY → Prop) {j : Nat} (hA : A ≤ 32) (hj : j < 2 * A) (hf : ¬ F j) (hp : post 1 (nI A, mr, nI n, 0, upd fact j 1, K, H, bl, body, sup, reach, tags, nxt)) : wpY_addFact post (nI A, mr, nI n, c, fact, K, H, bl, body, sup, reach, tags, nxt) (nI j) := by
  unfold wpY_addFact
  have e : (nI j).toNatClampNeg = j := nI_clamp (by omega)
  exact dy_validLit A n mr c fact K H bl body sup reach tags nxt _ (nI j) hA (df_br (fun h => absurd (df_v1 hj) h) (fun _ => ⟨vp_in_nI (by omega) (by decide), br_t (by rw [e, hF j (by omega)]; exact df_b0 hf) ⟨vp_in_nI (by omega) (by decide), nm_r (e' := upd fact j 1) (by rw [e, df_vn1]) hp⟩⟩))
theorem dy_addFact0 (F : Nat → Prop) (hF : df_hF F fact) (post : Int32 → SY → Prop) (x : Int32) (hA : A ≤ 32) (hf : ∀ j, j < 2 * A → x = nI j → F j) (hp : post 0 (nI A, mr, nI n, c, fact, K, H, bl, body, sup, reach, tags, nxt)) : wpY_addFact post (nI A, mr, nI n, c, fact, K, H, bl, body, sup, reach, tags, nxt) x := by
  unfold wpY_addFact
  refine dy_validLit A n mr c fact K H bl body sup reach tags nxt _ x hA (df_br (fun _ => hp) (fun h => ?_))
  obtain ⟨j, hj, rfl⟩ := h
  refine ⟨vp_in_nI (by omega) (by decide), br_f ?_ hp⟩
  rw [nI_clamp (n := j) (by omega), hF j (by omega), df_bz]
  exact fun z => z (hf j hj rfl)
theorem dy_isFact (F : Nat → Prop) (hF : df_hF F fact) (post : Int32 → Prop) (x : Int32) (hA : A ≤ 32) (hp : post (df_b (∃ j, j < 2 * A ∧ x = nI j ∧ F j))) : wpY_isFact post (nI A, mr, nI n, c, fact, K, H, bl, body, sup, reach, tags, nxt) x := by
  unfold wpY_isFact
  refine dy_validLit A n mr c fact K H bl body sup reach tags nxt _ x hA (df_br (fun h => df_p0 (fun ⟨j, a, b, _⟩ => h ⟨j, a, b⟩) hp) (fun h => ?_))
  obtain ⟨j, hj, rfl⟩ := h
  refine ⟨vp_in_nI (by omega) (by decide), df_if (d := ¬ F j) (by rw [nI_clamp (n := j) (by omega), hF j (by omega)]; exact df_bz) (fun h => df_p0 (fun ⟨i, a, b, d⟩ => ?_) hp) (fun h => df_p1 ⟨j, hj, rfl, Classical.not_not.mp h⟩ hp)⟩
  rw [nI_eq (by omega) (by omega)] at b
  exact h (b ▸ d)
theorem dy_newRule1 (post : Int32 → SY → Prop) (k : Int32) {q : Nat} (hA : A ≤ 32) (hn : n < 32) (hk : k = 0 ∨ k = 1 ∨ k = 2) (hq : q < 2 * A) (hl : ¬ nI n = mr)
    (hp : post (nI n) (nI A, mr, nI (n + 1), 0, fact, upd K n k, upd H n (nI q), upd bl n 0, body, sup, reach, tags, nxt)) : wpY_newRule post (nI A, mr, nI n, c, fact, K, H, bl, body, sup, reach, tags, nxt) k (nI q) := by
  have e : (nI n).toNatClampNeg = n := nI_clamp (by omega)
  have t : wY_newRule_16 post k (nI q) (nI A) mr (nI n) c fact K H bl body sup reach tags nxt := by
    unfold wY_newRule_16
    exact dy_validLit A n mr c fact K H bl body sup reach tags nxt _ (nI q) hA (df_br (fun h => absurd (df_v1 hq) h) (fun _ => br_f hl
      ⟨vp_in_nI hn (by decide), nm_r (e' := upd K n k) (by rw [e]) ⟨vp_in_nI hn (by decide), nm_r (e' := upd H n (nI q)) (by rw [e]) ⟨vp_in_nI hn (by decide), nm_r (e' := upd bl n 0) (by rw [e]) (nm_r (nI_1 n) hp)⟩⟩⟩))
  exact br_c (fun _ => t) (fun h => br_c (fun _ => t) (fun h1 => br_c (fun _ => t) (fun h2 => absurd hk (fun z => z.elim h (fun y => y.elim h1 h2)))))
theorem dy_newRule0 (post : Int32 → SY → Prop) (k x : Int32) (hA : A ≤ 32) (hno : ¬ ((k = 0 ∨ k = 1 ∨ k = 2) ∧ df_v (2 * A) x ∧ ¬ nI n = mr)) (hp : post (-1) (nI A, mr, nI n, c, fact, K, H, bl, body, sup, reach, tags, nxt)) : wpY_newRule post (nI A, mr, nI n, c, fact, K, H, bl, body, sup, reach, tags, nxt) k x := by
  have t : (k = 0 ∨ k = 1 ∨ k = 2) → wY_newRule_16 post k x (nI A) mr (nI n) c fact K H bl body sup reach tags nxt := by
    intro hk
    unfold wY_newRule_16
    exact dy_validLit A n mr c fact K H bl body sup reach tags nxt _ x hA (df_br (fun _ => hp) (fun h => br_c (fun _ => hp) (fun h2 => absurd ⟨hk, h, h2⟩ hno)))
  exact br_c (fun h => t (Or.inl h)) (fun h => br_c (fun h1 => t (Or.inr (Or.inl h1))) (fun h1 => br_c (fun h2 => t (Or.inr (Or.inr h2))) (fun h2 => hp)))
theorem dy_addBody1 (B : Nat → Nat → Prop) (hB : df_hB n B bl body) (post : Int32 → SY → Prop) {r q z : Nat} (hA : A ≤ 32) (hn : n ≤ 32) (hr : r < n) (hq : q < 2 * A) (hz : z < 4) (ez : bl r = nI z) (hb : ¬ B r q)
    (hp : post 1 (nI A, mr, nI n, 0, fact, K, H, upd bl r (nI (z + 1)), upd body (r * 4 + z) (nI q), sup, reach, tags, nxt)) : wpY_addBody post (nI A, mr, nI n, c, fact, K, H, bl, body, sup, reach, tags, nxt) (nI r) (nI q) := by
  unfold wpY_addBody
  have e : (nI r).toNatClampNeg = r := nI_clamp (by omega)
  have hr' : r < 32 := by omega
  obtain ⟨z', hz', ez', h1, h2⟩ := hB r hr
  have zz : z = z' := by
    rw [ez, nI_eq (by omega) (by omega)] at ez'
    exact ez'
  subst zz
  refine dy_validRule A n mr c fact K H bl body sup reach tags nxt _ (nI r) hn (df_br (fun h => absurd (df_v1 hr) h) (fun _ => dy_validLit A n mr c fact K H bl body sup reach tags nxt _ (nI q) hA (df_br (fun h => absurd (df_v1 hq) h) (fun _ => ⟨vp_in_nI hr' (by decide), br_t (by rw [e, ez]; exact nI_lt (a := z) (b := 4) hz (by omega)) ?_⟩))))
  refine df_scan (fun m i => wY_addBody_34 post (nI r) (nI q) (nI A) mr (nI n) c fact K H bl body sup reach tags nxt m (nI i)) (fun _ => False) z ?_ ?_
  · intro _ m
    have e2 : nI r * 4 + bl (nI r).toNatClampNeg = nI (r * 4 + z) := by rw [e, ez, df_ix4]
    exact ⟨vp_in_nI hr' (by decide), br_t (by rw [e, ez]; exact nI_le (Nat.le_refl z) (by omega)) ⟨vp_in_nI hr' (by decide), pk_in (r * 4 + z) 128 (by omega) e2, nm_r (e' := upd body (r * 4 + z) (nI q)) (by rw [e2, nI_clamp (by omega)]) ⟨vp_in_nI hr' (by decide), vp_in_nI hr' (by decide), nm_r (e' := upd bl r (nI (z + 1))) (by rw [e, ez, nI_1]) hp⟩⟩⟩
  · intro m i hi _ k
    obtain ⟨l, hl, el, hbl⟩ := h1 i hi
    refine ⟨vp_in_nI hr' (by decide), br_f (by rw [e, ez]; exact nI_ge hi (by omega)) ⟨pk_in (r * 4 + i) 128 (by omega) (df_ix4 r i), br_f ?_ (nm_r (nI_1 i) (k id))⟩⟩
    rw [df_ix4, nI_clamp (by omega), el, nI_eq (by omega) (by omega)]
    exact fun w => hb (w ▸ hbl)
theorem dy_addBody0 (B : Nat → Nat → Prop) (hB : df_hB n B bl body) (post : Int32 → SY → Prop) (x y : Int32) (hA : A ≤ 32) (hn : n ≤ 32) (hno : ∀ r q, r < n → q < 2 * A → x = nI r → y = nI q → bl r = nI 4 ∨ B r q) (hp : post 0 (nI A, mr, nI n, c, fact, K, H, bl, body, sup, reach, tags, nxt)) : wpY_addBody post (nI A, mr, nI n, c, fact, K, H, bl, body, sup, reach, tags, nxt) x y := by
  unfold wpY_addBody
  refine dy_validRule A n mr c fact K H bl body sup reach tags nxt _ x hn (df_br (fun _ => hp) (fun h => ?_))
  obtain ⟨r, hr, rfl⟩ := h
  refine dy_validLit A n mr c fact K H bl body sup reach tags nxt _ y hA (df_br (fun _ => hp) (fun h => ?_))
  obtain ⟨q, hq, rfl⟩ := h
  have e : (nI r).toNatClampNeg = r := nI_clamp (by omega)
  have hr' : r < 32 := by omega
  obtain ⟨z, hz, ez, h1, h2⟩ := hB r hr
  refine ⟨vp_in_nI hr' (by decide), br_c (fun h4 => ?_) (fun _ => hp)⟩
  have z4 : z < 4 := by
    rw [e, ez] at h4
    have t : nI z < nI 4 := h4
    rw [nI_ltI (by omega) (by omega)] at t
    exact t
  have hb : B r q := by
    rcases hno r q hr hq rfl rfl with w | w
    · rw [ez, nI_eq (by omega) (by omega)] at w
      omega
    · exact w
  obtain ⟨_, i0, hi0, e0⟩ := h2 q hb
  refine df_scan (fun m i => wY_addBody_34 post (nI r) (nI q) (nI A) mr (nI n) c fact K H bl body sup reach tags nxt m (nI i)) (fun i => body (r * 4 + i) = nI q) z ?_ ?_
  · intro w m
    exact absurd e0 (w i0 hi0)
  · intro m i hi _ k
    refine ⟨vp_in_nI hr' (by decide), br_f (by rw [e, ez]; exact nI_ge hi (by omega)) ⟨pk_in (r * 4 + i) 128 (by omega) (df_ix4 r i), df_if (d := body (r * 4 + i) = nI q) (by rw [df_ix4, nI_clamp (by omega)]) (fun _ => hp) (fun w => nm_r (nI_1 i) (k w))⟩⟩
theorem dy_ruleKind (post : Int32 → Prop) (x : Int32) (hn : n ≤ 32) (h1 : ∀ r, r < n → x = nI r → post (K r)) (h0 : ¬ df_v n x → post (-1)) : wpY_ruleKind post (nI A, mr, nI n, c, fact, K, H, bl, body, sup, reach, tags, nxt) x := by
  unfold wpY_ruleKind
  refine dy_validRule A n mr c fact K H bl body sup reach tags nxt _ x hn (df_br (fun h => h0 h) (fun h => ?_))
  obtain ⟨r, hr, rfl⟩ := h
  refine ⟨vp_in_nI (by omega) (by decide), ?_⟩
  rw [nI_clamp (n := r) (by omega)]
  exact h1 r hr rfl
theorem dy_ruleHead (post : Int32 → Prop) (x : Int32) (hn : n ≤ 32) (h1 : ∀ r, r < n → x = nI r → post (H r)) (h0 : ¬ df_v n x → post (-1)) : wpY_ruleHead post (nI A, mr, nI n, c, fact, K, H, bl, body, sup, reach, tags, nxt) x := by
  unfold wpY_ruleHead
  refine dy_validRule A n mr c fact K H bl body sup reach tags nxt _ x hn (df_br (fun h => h0 h) (fun h => ?_))
  obtain ⟨r, hr, rfl⟩ := h
  refine ⟨vp_in_nI (by omega) (by decide), ?_⟩
  rw [nI_clamp (n := r) (by omega)]
  exact h1 r hr rfl
theorem dy_ruleBody1 (post : Int32 → Prop) {r i z : Nat} (hn : n ≤ 32) (hr : r < n) (hz : z ≤ 4) (ez : bl r = nI z) (hi : i < z) (hp : post (body (r * 4 + i))) : wpY_ruleBody post (nI A, mr, nI n, c, fact, K, H, bl, body, sup, reach, tags, nxt) (nI r) (nI i) := by
  unfold wpY_ruleBody
  have e : (nI r).toNatClampNeg = r := nI_clamp (by omega)
  refine dy_validRule A n mr c fact K H bl body sup reach tags nxt _ (nI r) hn (df_br (fun h => absurd (df_v1 hr) h) (fun _ => br_f (nI_pos (by omega)) ⟨vp_in_nI (by omega) (by decide), br_t (by rw [e, ez]; exact nI_lt hi (by omega)) ⟨pk_in (r * 4 + i) 128 (by omega) (df_ix4 r i), ?_⟩⟩))
  rw [df_ix4, nI_clamp (by omega)]
  exact hp
theorem dy_ruleBody0 (post : Int32 → Prop) (x y : Int32) (hn : n ≤ 32) (hno : ∀ r, r < n → x = nI r → ¬ y < 0 → ¬ y < bl r) (hp : post (-1)) : wpY_ruleBody post (nI A, mr, nI n, c, fact, K, H, bl, body, sup, reach, tags, nxt) x y := by
  unfold wpY_ruleBody
  refine dy_validRule A n mr c fact K H bl body sup reach tags nxt _ x hn (df_br (fun _ => hp) (fun h => ?_))
  obtain ⟨r, hr, rfl⟩ := h
  refine br_c (fun _ => hp) (fun h => ⟨vp_in_nI (by omega) (by decide), br_f ?_ hp⟩)
  rw [nI_clamp (n := r) (by omega)]
  exact hno r hr rfl h
theorem df_v4_le {x : Int32} (h : ¬ x < 0) (h2 : x ≤ 3) : df_v 4 x := by
  obtain ⟨j, hj, rfl⟩ := nI_of h
  refine ⟨j, ?_, rfl⟩
  have t : nI j ≤ nI 3 := h2
  rw [nI_leI hj (by omega)] at t
  omega
theorem df_v4_nle {x : Int32} (h2 : ¬ x ≤ 3) : ¬ df_v 4 x := by
  rintro ⟨j, hj, rfl⟩
  exact h2 (nI_le (a := j) (b := 3) (by omega) (by omega))
theorem dy_hasTag (S : Nat → Prop) (hT : ¬ c = 0 → df_hT S tags) (post : Int32 → Prop) (x y : Int32) (hA : A ≤ 32) (hp : post (df_b (¬ c = 0 ∧ ∃ j t, j < 2 * A ∧ t < 4 ∧ x = nI j ∧ y = nI t ∧ S (t * 64 + j)))) : wpY_hasTag post (nI A, mr, nI n, c, fact, K, H, bl, body, sup, reach, tags, nxt) x y := by
  unfold wpY_hasTag
  refine br_c (fun h => df_p0 (fun z => z.1 h) hp) (fun hc => dy_validLit A n mr c fact K H bl body sup reach tags nxt _ x hA (df_br (fun h => df_p0 (fun ⟨_, j, t, hj, _, e, _⟩ => h ⟨j, hj, e⟩) hp) (fun h => ?_)))
  obtain ⟨j, hj, rfl⟩ := h
  refine br_c (fun h => df_p0 (fun ⟨_, j, t, _, ht, _, e, _⟩ => df_v_neg (m := 4) (by omega) h ⟨t, ht, e⟩) hp) (fun h => br_c (fun h3 => ?_) (fun h3 => df_p0 (fun ⟨_, j, t, _, ht, _, e, _⟩ => df_v4_nle h3 ⟨t, ht, e⟩) hp))
  obtain ⟨t, ht, rfl⟩ := df_v4_le h h3
  have ev : tags (nI t * 64 + nI j).toNatClampNeg = df_b (S (t * 64 + j)) := by rw [df_ix64, nI_clamp (by omega), hT hc _ (by omega)]
  refine ⟨pk_in (t * 64 + j) 256 (by omega) (df_ix64 t j), by rw [ev]; exact df_nb _, ?_⟩
  have e : S (t * 64 + j) ↔ (¬ c = 0 ∧ ∃ j' t', j' < 2 * A ∧ t' < 4 ∧ nI j = nI j' ∧ nI t = nI t' ∧ S (t' * 64 + j')) := by
    refine ⟨fun z => ⟨hc, j, t, hj, ht, rfl, rfl, z⟩, ?_⟩
    rintro ⟨_, j', t', hj', ht', e1, e2, w⟩
    rw [nI_eq (by omega) (by omega)] at e1 e2
    subst e1 e2
    exact w
  rw [ev, df_bc e]
  exact hp
theorem dy_countTagA (S : Nat → Prop) (hT : ¬ c = 0 → df_hT S tags) (post : Int32 → Prop) (x : Int32) (hA : A ≤ 32) (h2 : c = 0 → post (-2)) (h1 : ¬ c = 0 → ¬ df_v 4 x → post (-1)) (h0 : ¬ c = 0 → ∀ t, t < 4 → x = nI t → post (nI (df_c (fun q => S (t * 64 + q)) (2 * A)))) : wpY_countTag post (nI A, mr, nI n, c, fact, K, H, bl, body, sup, reach, tags, nxt) x := by
  refine br_c h2 (fun hc => br_c (fun h => h1 hc (df_v_neg (m := 4) (by omega) h)) (fun h => br_c (fun h3 => ?_) (fun h3 => h1 hc (df_v4_nle h3))))
  obtain ⟨t, ht, rfl⟩ := df_v4_le h h3
  exact dy_count A n mr c fact K H bl body sup reach tags nxt S (hT hc) post hA ht (h0 hc t ht rfl)
theorem dy_win60 (B : Nat → Nat → Prop) (S : Nat → Prop) (hB : df_hB n B bl body) (hT : df_hT S tags) (post : Int32 → Prop) {q : Nat} (hn : n ≤ 32)
    (hy : ∀ r, r < n → df_fD K H B S q r → (∀ s, s < r → ¬ df_fD K H B S q s) → post (nI r)) (ho : (∀ r, r < n → ¬ df_fD K H B S q r) → post (-1)) : ∃ m, wY_winner_60 post (nI q) (nI A) mr (nI n) c fact K H bl body sup reach tags nxt m 0 :=
  df_scan (fun m i => wY_winner_60 post (nI q) (nI A) mr (nI n) c fact K H bl body sup reach tags nxt m (nI i)) (df_fD K H B S q) n
    (fun h m => br_t (nI_le (Nat.le_refl n) (by omega)) (ho h))
    (fun m i hi h k => br_f (nI_ge hi (by omega)) ⟨vp_in_nI (by omega) (by decide), df_if (d := K i = 0) (by rw [nI_clamp (n := i) (by omega)])
      (fun a => ⟨vp_in_nI (by omega) (by decide), df_if (d := H i = nI q) (by rw [nI_clamp (n := i) (by omega)])
        (fun b => dy_allIn A n mr c fact K H bl body sup reach tags nxt B S hB hT _ (r := i) (t := 0) hn hi (by omega) (df_br (fun d => nm_r (nI_1 i) (k (fun z => d z.2))) (fun d => hy i hi ⟨⟨b, a⟩, d⟩ h)))
        (fun b => nm_r (nI_1 i) (k (fun z => b z.1.1)))⟩)
      (fun a => nm_r (nI_1 i) (k (fun z => a z.1.2)))⟩)
theorem dy_win108 (B : Nat → Nat → Prop) (S : Nat → Prop) (hB : df_hB n B bl body) (hT : df_hT S tags) (post : Int32 → Prop) {q : Nat} (hn : n ≤ 32)
    (hy : ∀ r, r < n → df_fd K H B S q r → (∀ s, s < r → ¬ df_fd K H B S q s) → post (nI r)) (ho : (∀ r, r < n → ¬ df_fd K H B S q r) → post (-1)) : ∃ m, wY_winner_108 post (nI q) (nI A) mr (nI n) c fact K H bl body sup reach tags nxt m 0 :=
  df_scan (fun m i => wY_winner_108 post (nI q) (nI A) mr (nI n) c fact K H bl body sup reach tags nxt m (nI i)) (df_fd K H B S q) n
    (fun h m => br_t (nI_le (Nat.le_refl n) (by omega)) (ho h))
    (fun m i hi h k => br_f (nI_ge hi (by omega)) (dy_supports A n mr c fact K H bl body sup reach tags nxt _ (r := i) (by omega) (df_br (fun a => nm_r (nI_1 i) (k (fun z => a z.1)))
      (fun a => dy_allIn A n mr c fact K H bl body sup reach tags nxt B S hB hT _ (r := i) (t := 2) hn hi (by omega) (df_br (fun d => nm_r (nI_1 i) (k (fun z => d z.2))) (fun d => hy i hi ⟨a, d⟩ h))))))
theorem dy_winner (F : Nat → Prop) (B : Nat → Nat → Prop) (S : Nat → Prop) (hF : df_hF F fact) (hB : df_hB n B bl body) (hT : ¬ c = 0 → df_hT S tags) (post : Int32 → Prop) (x : Int32) (hA : A ≤ 32) (hn : n ≤ 32) (h2 : c = 0 → post (-2))
    (h1 : ¬ c = 0 → (∀ j, j < 2 * A → x = nI j → ¬ S (128 + j)) → post (-1))
    (h3 : ∀ j, ¬ c = 0 → j < 2 * A → x = nI j → S (128 + j) → F j → post (-3))
    (hD : ∀ j, ¬ c = 0 → j < 2 * A → x = nI j → S (128 + j) → ¬ F j → S j → ((∀ r, r < n → df_fD K H B S j r → (∀ s, s < r → ¬ df_fD K H B S j s) → post (nI r)) ∧ ((∀ r, r < n → ¬ df_fD K H B S j r) → post (-1))))
    (hd : ∀ j, ¬ c = 0 → j < 2 * A → x = nI j → S (128 + j) → ¬ F j → ¬ S j → ((∀ r, r < n → df_fd K H B S j r → (∀ s, s < r → ¬ df_fd K H B S j s) → post (nI r)) ∧ ((∀ r, r < n → ¬ df_fd K H B S j r) → post (-1)))) :
    wpY_winner post (nI A, mr, nI n, c, fact, K, H, bl, body, sup, reach, tags, nxt) x := by
  unfold wpY_winner
  refine br_c h2 (fun hc => dy_validLit A n mr c fact K H bl body sup reach tags nxt _ x hA (df_br (fun h => h1 hc (fun j hj e => absurd ⟨j, hj, e⟩ h)) (fun h => ?_)))
  obtain ⟨j, hj, rfl⟩ := h
  have j64 : j < 64 := by omega
  have tj := hT hc
  refine ⟨pk_in (128 + j) 256 (by omega) (df_e128 j), df_if (d := ¬ S (128 + j)) (by rw [df_e128, nI_clamp (by omega), tj _ (by omega)]; exact df_bz) (fun h => h1 hc (fun i hi e => ?_)) (fun s2 => ?_)⟩
  · rw [nI_eq (by omega) (by omega)] at e
    subst e
    exact h
  have s2 := Classical.not_not.mp s2
  refine ⟨vp_in_nI j64 (by decide), df_if (d := ¬ F j) (by rw [nI_clamp (n := j) (by omega), hF j j64]; exact df_bz) (fun hf => ?_) (fun hf => h3 j hc hj rfl s2 (Classical.not_not.mp hf))⟩
  refine ⟨pk_in j 256 (by omega) (df_e0 _), df_if (d := ¬ S j) (by rw [df_e0, nI_clamp (n := j) (by omega), tj j (by omega)]; exact df_bz) (fun s0 => ?_) (fun s0 => ?_)⟩
  · obtain ⟨y, o⟩ := hd j hc hj rfl s2 hf s0
    exact dy_win108 A n mr c fact K H bl body sup reach tags nxt B S hB tj post hn y o
  · obtain ⟨y, o⟩ := hD j hc hj rfl s2 hf (Classical.not_not.mp s0)
    exact dy_win60 A n mr c fact K H bl body sup reach tags nxt B S hB tj post hn y o
end
