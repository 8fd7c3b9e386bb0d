def i_Rel (k : Nat) (u : SX) (v : SY) : Prop :=
  ∃ (A n m : Nat) (fa : Int64) (c : Int32) (p0 p1 p2 p3 : Int64) (K H bs body : Nat → Int32) (bS : Nat → Int64) (wS fact ln sup reach tags nxt : Nat → Int32),
    u = (nI (2 * A), nI m, fa, nI n, c, p0, p1, p2, p3, K, H, bs, body, bS, wS) ∧ v = (nI A, nI m, nI n, c, fact, K, H, ln, body, sup, reach, tags, nxt) ∧ df_ok A n m fa c p0 p1 p2 p3 bs body bS wS fact ln sup tags
theorem i_up {k : Nat} {u : SX} {v : SY} (h : i_Rel k u v) : i_Rel (k + 3) u v := h
theorem df_mk {k : Nat} (A n m : Nat) (fa : Int64) (c : Int32) (p0 p1 p2 p3 : Int64) (K H bs body : Nat → Int32) (bS : Nat → Int64) (wS fact ln sup reach tags nxt : Nat → Int32) (h : df_ok A n m fa c p0 p1 p2 p3 bs body bS wS fact ln sup tags) :
    i_Rel k (nI (2 * A), nI m, fa, nI n, c, p0, p1, p2, p3, K, H, bs, body, bS, wS) (nI A, nI m, nI n, c, fact, K, H, ln, body, sup, reach, tags, nxt) :=
  ⟨A, n, m, fa, c, p0, p1, p2, p3, K, H, bs, body, bS, wS, fact, ln, sup, reach, tags, nxt, rfl, rfl, h⟩
-- the constructors
theorem df_clx (x : Int32) : ∃ a, a ≤ 32 ∧ (∀ post : Int32 → Prop, post (nI a) → wpX_clamp post x 32) ∧ (∀ post : Int32 → Prop, post (nI a) → ((1 ≤ x → (((x ≤ 32 → post x) ∧ (¬ x ≤ 32 → post 32)))) ∧ (¬ 1 ≤ x → post 1))) := by
  by_cases h1 : 1 ≤ x
  · by_cases h2 : x ≤ 32
    · have h0 : ¬ x < 0 := fun z => Int32.lt_irrefl (Int32.lt_of_le_of_lt (Int32.le_trans (by decide : (0 : Int32) ≤ 1) h1) z)
      obtain ⟨j, hj, rfl⟩ := nI_of h0
      have t : nI j ≤ nI 32 := h2
      rw [nI_leI hj (by omega)] at t
      exact ⟨j, t, fun _ hp => br_t h1 (br_t h2 hp), fun _ hp => br_t h1 (br_t h2 hp)⟩
    · exact ⟨32, Nat.le_refl 32, fun _ hp => br_t h1 (br_f h2 hp), fun _ hp => br_t h1 (br_f h2 hp)⟩
  · exact ⟨1, by omega, fun _ hp => br_f h1 hp, fun _ hp => br_f h1 hp⟩
theorem i_vc0 (k0 : Int32) (k1 : Int32) : wpX_init (fun u => wpY_init (fun v => i_Rel 2 u v) k0 k1) k0 k1 := by
  obtain ⟨a, ha, xa, ya⟩ := df_clx k0
  obtain ⟨b, hb, xb, yb⟩ := df_clx k1
  unfold wpX_init
  refine xa _ (nm_r (df_2A a) (xb _ ?_))
  refine ya (fun z => wY_init_102 _ k1 z 0 0 0 0 (fun _ => 0) (fun _ => 0) (fun _ => 0) (fun _ => 0) (fun _ => 0) (fun _ => 0) (fun _ => 0) (fun _ => 0) (fun _ => 0)) ?_
  exact yb (fun z => i_Rel 2 _ (nI a, z, 0, 0, _, _, _, _, _, _, _, _, _)) (df_mk a 0 b 0 0 0 0 0 0 _ _ _ _ _ _ _ _ _ _ _ _ (df_ok_0 a b 0 0 0 0 _ _ _ _ _ _ _ _ ha hb (fun _ _ => rfl) (fun _ _ => rfl)))
theorem i_vc_reset {k : Nat} {u : SX} {v : SY} (I : i_Rel k u v) (hk : k + 3 ≤ 1538) : wpX_reset (fun u' => wpY_reset (fun v' => i_Rel (k + 3) u' v') v) u := by
  obtain ⟨A, n, m, fa, c, p0, p1, p2, p3, K, H, bs, body, bS, wS, fact, ln, sup, reach, tags, nxt, rfl, rfl, h⟩ := I
  exact dy_reset A n (nI m) c fact K H ln body sup reach tags nxt _ (fun ft sp ln' h1 h2 => df_mk A 0 m 0 0 p0 p1 p2 p3 K H bs body bS wS ft ln' sp reach tags nxt (df_ok_0 A m p0 p1 p2 p3 bs body bS wS ft ln' sp tags h.1 h.2.1 h1 h2))
theorem i_vc_addFact {k : Nat} {u : SX} {v : SY} (I : i_Rel k u v) (hk : k + 3 ≤ 1538) (v1 : Int32) : wpX_addFact (fun r u' => wpY_addFact (fun r' v' => r' = r ∧ i_Rel (k + 3) u' v') v v1) u v1 := by
  obtain ⟨A, n, m, fa, c, p0, p1, p2, p3, K, H, bs, body, bS, wS, fact, ln, sup, reach, tags, nxt, rfl, rfl, h⟩ := I
  have hA := h.1
  have hF := h.2.2.2.1
  rcases Classical.em (∃ j, j < 2 * A ∧ v1 = nI j ∧ ¬ df_l fa j) with ⟨j, hj, rfl, hf⟩ | z
  · exact dx_addFact1 (2 * A) n (nI m) fa c p0 p1 p2 p3 K H bs body bS wS _ (by omega) hj hf (dy_addFact1 A n (nI m) c fact K H ln body sup reach tags nxt (df_l fa) hF _ hA hj hf ⟨rfl, df_mk A n m _ 0 p0 p1 p2 p3 K H bs body bS wS _ ln sup reach tags nxt (df_ok_fact A n m fa c p0 p1 p2 p3 bs body bS wS fact ln sup tags h (by omega))⟩)
  · have z' : ∀ j, j < 2 * A → v1 = nI j → df_l fa j := fun j hj e => Classical.byContradiction (fun w => z ⟨j, hj, e, w⟩)
    exact dx_addFact0 (2 * A) n (nI m) fa c p0 p1 p2 p3 K H bs body bS wS _ v1 (by omega) z' (dy_addFact0 A n (nI m) c fact K H ln body sup reach tags nxt (df_l fa) hF _ v1 hA z' ⟨rfl, df_mk A n m fa c p0 p1 p2 p3 K H bs body bS wS fact ln sup reach tags nxt h⟩)
theorem i_vc_isFact {k : Nat} {u : SX} {v : SY} (I : i_Rel k u v) (hk : k + 3 ≤ 1538) (v1 : Int32) : wpX_isFact (fun r => wpY_isFact (fun r' => r' = r ∧ i_Rel (k + 3) u v) v v1) u v1 := by
  obtain ⟨A, n, m, fa, c, p0, p1, p2, p3, K, H, bs, body, bS, wS, fact, ln, sup, reach, tags, nxt, rfl, rfl, h⟩ := I
  have hA := h.1
  exact dx_isFact (2 * A) n (nI m) fa c p0 p1 p2 p3 K H bs body bS wS _ v1 (by omega) (dy_isFact A n (nI m) c fact K H ln body sup reach tags nxt (df_l fa) h.2.2.2.1 _ v1 hA ⟨rfl, df_mk A n m fa c p0 p1 p2 p3 K H bs body bS wS fact ln sup reach tags nxt h⟩)
theorem i_vc_newRule {k : Nat} {u : SX} {v : SY} (I : i_Rel k u v) (hk : k + 3 ≤ 1538) (v1 : Int32) (v2 : Int32) : wpX_newRule (fun r u' => wpY_newRule (fun r' v' => r' = r ∧ i_Rel (k + 3) u' v') v v1 v2) u v1 v2 := by
  obtain ⟨A, n, m, fa, c, p0, p1, p2, p3, K, H, bs, body, bS, wS, fact, ln, sup, reach, tags, nxt, rfl, rfl, h⟩ := I
  have hA := h.1
  have hm := h.2.1
  have hn := h.2.2.1
  rcases Classical.em ((v1 = 0 ∨ v1 = 1 ∨ v1 = 2) ∧ df_v (2 * A) v2 ∧ n < m) with ⟨hk, ⟨q, hq, rfl⟩, hl⟩ | z
  · exact dx_newRule1 (2 * A) n (nI m) fa c p0 p1 p2 p3 K H bs body bS wS _ v1 (by omega) (by omega) hk hq (nI_lt hl (by omega)) (dy_newRule1 A n (nI m) c fact K H ln body sup reach tags nxt _ v1 hA (by omega) hk hq (fun e => by rw [nI_eq (by omega) (by omega)] at e; omega)
      ⟨rfl, df_mk A (n + 1) m fa 0 p0 p1 p2 p3 _ _ _ body _ _ fact _ sup reach tags nxt (df_ok_rule A n m fa c p0 p1 p2 p3 bs body bS wS fact ln sup tags h hl)⟩)
  · refine dx_newRule0 (2 * A) n (nI m) fa c p0 p1 p2 p3 K H bs body bS wS _ v1 v2 (by omega) (fun w => z ⟨w.1, w.2.1, ?_⟩) (dy_newRule0 A n (nI m) c fact K H ln body sup reach tags nxt _ v1 v2 hA (fun w => z ⟨w.1, w.2.1, ?_⟩) ⟨rfl, df_mk A n m fa c p0 p1 p2 p3 K H bs body bS wS fact ln sup reach tags nxt h⟩)
    · have t := w.2.2
      rw [nI_ltI (by omega) (by omega)] at t
      exact t
    · have t := w.2.2
      rw [nI_eq (by omega) (by omega)] at t
      omega
theorem i_vc_addBody {k : Nat} {u : SX} {v : SY} (I : i_Rel k u v) (hk : k + 3 ≤ 1538) (v1 : Int32) (v2 : Int32) : wpX_addBody (fun r u' => wpY_addBody (fun r' v' => r' = r ∧ i_Rel (k + 3) u' v') v v1 v2) u v1 v2 := by
  obtain ⟨A, n, m, fa, c, p0, p1, p2, p3, K, H, bs, body, bS, wS, fact, ln, sup, reach, tags, nxt, rfl, rfl, h⟩ := I
  have hA := h.1
  have hm := h.2.1
  have hn := h.2.2.1
  have hB := h.2.2.2.2.1
  have hL := h.2.2.2.2.2.1
  rcases Classical.em (∃ r q z, r < n ∧ q < 2 * A ∧ z < 4 ∧ v1 = nI r ∧ v2 = nI q ∧ ln r = nI z ∧ ¬ df_B bS r q) with ⟨r, q, z, hr, hq, hz, rfl, rfl, ez, hb⟩ | w
  · exact dx_addBody1 (2 * A) n (nI m) fa c p0 p1 p2 p3 K H bs body bS wS _ (by omega) (by omega) hr hq hz ((hL r hr).trans ez) hb (dy_addBody1 A n (nI m) c fact K H ln body sup reach tags nxt (df_B bS) hB _ hA (by omega) hr hq hz ez hb
      ⟨rfl, df_mk A n m fa 0 p0 p1 p2 p3 K H _ _ _ wS fact _ sup reach tags nxt (df_ok_body A n m fa c p0 p1 p2 p3 bs body bS wS fact ln sup tags h hr (by omega) hz ez)⟩)
  · have no : ∀ r q, r < n → q < 2 * A → v1 = nI r → v2 = nI q → ln r = nI 4 ∨ df_B bS r q := by
      intro r q hr hq e1 e2
      obtain ⟨z, hz, ez, _⟩ := hB r hr
      rcases Nat.lt_or_ge z 4 with l | l
      · exact Or.inr (Classical.byContradiction (fun y => w ⟨r, q, z, hr, hq, l, e1, e2, ez, y⟩))
      · exact Or.inl (by rw [ez, show z = 4 by omega])
    exact dx_addBody0 (2 * A) n (nI m) fa c p0 p1 p2 p3 K H bs body bS wS _ v1 v2 (by omega) (by omega) (fun r hr => by obtain ⟨z, hz, ez, _⟩ := hB r hr; exact ⟨z, hz, (hL r hr).trans ez⟩) (fun r q hr hq e1 e2 => by rw [hL r hr]; exact no r q hr hq e1 e2)
      (dy_addBody0 A n (nI m) c fact K H ln body sup reach tags nxt (df_B bS) hB _ v1 v2 hA (by omega) no ⟨rfl, df_mk A n m fa c p0 p1 p2 p3 K H bs body bS wS fact ln sup reach tags nxt h⟩)
theorem i_vc_addSuperior {k : Nat} {u : SX} {v : SY} (I : i_Rel k u v) (hk : k + 3 ≤ 1538) (v1 : Int32) (v2 : Int32) : wpX_addSuperior (fun r u' => wpY_addSuperior (fun r' v' => r' = r ∧ i_Rel (k + 3) u' v') v v1 v2) u v1 v2 := by
  obtain ⟨A, n, m, fa, c, p0, p1, p2, p3, K, H, bs, body, bS, wS, fact, ln, sup, reach, tags, nxt, rfl, rfl, h⟩ := I
  have hm := h.2.1
  have hn := h.2.2.1
  have hR := h.2.2.2.2.2.2.1
  have hRn := h.2.2.2.2.2.2.2.1
  rcases Classical.em (∃ a b, a < n ∧ b < n ∧ v1 = nI a ∧ v2 = nI b ∧ ¬ a = b ∧ ¬ df_R wS a b) with ⟨a, b, ha, hb, rfl, rfl, hab, hnr⟩ | z
  · refine dx_addSuperiorR (2 * A) n (nI m) fa c p0 p1 p2 p3 K H bs body bS wS _ (by omega) ha hb hab hnr (fun y => ?_) (fun y => ?_)
    · exact dy_addSuperiorR A n (nI m) c fact K H ln body sup reach tags nxt (df_R wS) hR hRn _ (by omega) ha hb hab hnr (fun _ rc => ⟨rfl, df_mk A n m fa 0 p0 p1 p2 p3 K H bs body bS _ fact ln _ rc tags nxt (df_ok_pair A n m fa c p0 p1 p2 p3 bs body bS wS fact ln sup tags h ha hb)⟩) (fun w => absurd w y)
    · exact dy_addSuperiorR A n (nI m) c fact K H ln body sup reach tags nxt (df_R wS) hR hRn _ (by omega) ha hb hab hnr (fun w => absurd y w) (fun _ rc => ⟨rfl, df_mk A n m fa c p0 p1 p2 p3 K H bs body bS wS fact ln sup rc tags nxt h⟩)
  · have no : ∀ a b, a < n → b < n → v1 = nI a → v2 = nI b → a = b ∨ df_R wS a b := fun a b ha hb e1 e2 => by
      rcases Classical.em (a = b) with w | w
      · exact Or.inl w
      · exact Or.inr (Classical.byContradiction (fun y => z ⟨a, b, ha, hb, e1, e2, w, y⟩))
    exact dx_addSuperior0 (2 * A) n (nI m) fa c p0 p1 p2 p3 K H bs body bS wS _ v1 v2 (by omega) no (dy_addSuperior0 A n (nI m) c fact K H ln body sup reach tags nxt (df_R wS) hR _ v1 v2 (by omega) no ⟨rfl, df_mk A n m fa c p0 p1 p2 p3 K H bs body bS wS fact ln sup reach tags nxt h⟩)
theorem i_vc_isSuperior {k : Nat} {u : SX} {v : SY} (I : i_Rel k u v) (hk : k + 3 ≤ 1538) (v1 : Int32) (v2 : Int32) : wpX_isSuperior (fun r => wpY_isSuperior (fun r' => r' = r ∧ i_Rel (k + 3) u v) v v1 v2) u v1 v2 := by
  obtain ⟨A, n, m, fa, c, p0, p1, p2, p3, K, H, bs, body, bS, wS, fact, ln, sup, reach, tags, nxt, rfl, rfl, h⟩ := I
  have hm := h.2.1
  have hn := h.2.2.1
  exact dx_isSuperior (2 * A) n (nI m) fa c p0 p1 p2 p3 K H bs body bS wS _ v1 v2 (by omega) (dy_isSuperior A n (nI m) c fact K H ln body sup reach tags nxt (df_R wS) h.2.2.2.2.2.2.1 _ v1 v2 (by omega) ⟨rfl, df_mk A n m fa c p0 p1 p2 p3 K H bs body bS wS fact ln sup reach tags nxt h⟩)
theorem i_vc_ruleCount {k : Nat} {u : SX} {v : SY} (I : i_Rel k u v) (hk : k + 3 ≤ 1538) : wpX_ruleCount (fun r => wpY_ruleCount (fun r' => r' = r ∧ i_Rel (k + 3) u v) v) u := by
  obtain ⟨A, n, m, fa, c, p0, p1, p2, p3, K, H, bs, body, bS, wS, fact, ln, sup, reach, tags, nxt, rfl, rfl, h⟩ := I
  exact ⟨rfl, df_mk A n m fa c p0 p1 p2 p3 K H bs body bS wS fact ln sup reach tags nxt h⟩
theorem i_vc_ruleKind {k : Nat} {u : SX} {v : SY} (I : i_Rel k u v) (hk : k + 3 ≤ 1538) (v1 : Int32) : wpX_ruleKind (fun r => wpY_ruleKind (fun r' => r' = r ∧ i_Rel (k + 3) u v) v v1) u v1 := by
  obtain ⟨A, n, m, fa, c, p0, p1, p2, p3, K, H, bs, body, bS, wS, fact, ln, sup, reach, tags, nxt, rfl, rfl, h⟩ := I
  have hm := h.2.1
  have hn := h.2.2.1
  have g := df_mk (k := k + 3) A n m fa c p0 p1 p2 p3 K H bs body bS wS fact ln sup reach tags nxt h
  exact dx_ruleKind (2 * A) n (nI m) fa c p0 p1 p2 p3 K H bs body bS wS _ v1 (by omega)
    (fun r hr e => dy_ruleKind A n (nI m) c fact K H ln body sup reach tags nxt _ v1 (by omega) (fun r' hr' e' => ⟨by rw [e, nI_eq (by omega) (by omega)] at e'; rw [e'], g⟩) (fun z => absurd ⟨r, hr, e⟩ z))
    (fun z => dy_ruleKind A n (nI m) c fact K H ln body sup reach tags nxt _ v1 (by omega) (fun r hr e => absurd ⟨r, hr, e⟩ z) (fun _ => ⟨rfl, g⟩))
theorem i_vc_ruleHead {k : Nat} {u : SX} {v : SY} (I : i_Rel k u v) (hk : k + 3 ≤ 1538) (v1 : Int32) : wpX_ruleHead (fun r => wpY_ruleHead (fun r' => r' = r ∧ i_Rel (k + 3) u v) v v1) u v1 := by
  obtain ⟨A, n, m, fa, c, p0, p1, p2, p3, K, H, bs, body, bS, wS, fact, ln, sup, reach, tags, nxt, rfl, rfl, h⟩ := I
  have hm := h.2.1
  have hn := h.2.2.1
  have g := df_mk (k := k + 3) A n m fa c p0 p1 p2 p3 K H bs body bS wS fact ln sup reach tags nxt h
  exact dx_ruleHead (2 * A) n (nI m) fa c p0 p1 p2 p3 K H bs body bS wS _ v1 (by omega)
    (fun r hr e => dy_ruleHead A n (nI m) c fact K H ln body sup reach tags nxt _ v1 (by omega) (fun r' hr' e' => ⟨by rw [e, nI_eq (by omega) (by omega)] at e'; rw [e'], g⟩) (fun z => absurd ⟨r, hr, e⟩ z))
    (fun z => dy_ruleHead A n (nI m) c fact K H ln body sup reach tags nxt _ v1 (by omega) (fun r hr e => absurd ⟨r, hr, e⟩ z) (fun _ => ⟨rfl, g⟩))
theorem i_vc_ruleBody {k : Nat} {u : SX} {v : SY} (I : i_Rel k u v) (hk : k + 3 ≤ 1538) (v1 : Int32) (v2 : Int32) : wpX_ruleBody (fun r => wpY_ruleBody (fun r' => r' = r ∧ i_Rel (k + 3) u v) v v1 v2) u v1 v2 := by
  obtain ⟨A, n, m, fa, c, p0, p1, p2, p3, K, H, bs, body, bS, wS, fact, ln, sup, reach, tags, nxt, rfl, rfl, h⟩ := I
  have hm := h.2.1
  have hn := h.2.2.1
  have hB := h.2.2.2.2.1
  have hL := h.2.2.2.2.2.1
  have g := df_mk (k := k + 3) A n m fa c p0 p1 p2 p3 K H bs body bS wS fact ln sup reach tags nxt h
  rcases Classical.em (∃ r i z, r < n ∧ z ≤ 4 ∧ i < z ∧ v1 = nI r ∧ v2 = nI i ∧ ln r = nI z) with ⟨r, i, z, hr, hz, hi, rfl, rfl, ez⟩ | w
  · exact dx_ruleBody1 (2 * A) n (nI m) fa c p0 p1 p2 p3 K H bs body bS wS _ (by omega) hr hz ((hL r hr).trans ez) hi (dy_ruleBody1 A n (nI m) c fact K H ln body sup reach tags nxt _ (by omega) hr hz ez hi ⟨rfl, g⟩)
  · have no : ∀ r, r < n → v1 = nI r → ¬ v2 < 0 → ¬ v2 < ln r := by
      intro r hr e h0 hlt
      obtain ⟨z, hz, ez, _⟩ := hB r hr
      obtain ⟨i, hi, rfl⟩ := nI_of h0
      rw [ez, nI_ltI hi (by omega)] at hlt
      exact w ⟨r, i, z, hr, hz, hlt, e, rfl, ez⟩
    exact dx_ruleBody0 (2 * A) n (nI m) fa c p0 p1 p2 p3 K H bs body bS wS _ v1 v2 (by omega) (fun r hr e h0 => by rw [hL r hr]; exact no r hr e h0) (dy_ruleBody0 A n (nI m) c fact K H ln body sup reach tags nxt _ v1 v2 (by omega) no ⟨rfl, g⟩)
theorem i_vc_compute {k : Nat} {u : SX} {v : SY} (I : i_Rel k u v) (hk : k + 3 ≤ 1538) : wpX_compute (fun r u' => wpY_compute (fun r' v' => r' = r ∧ i_Rel (k + 3) u' v') v) u := by
  obtain ⟨A, n, m, fa, c, p0, p1, p2, p3, K, H, bs, body, bS, wS, fact, ln, sup, reach, tags, nxt, rfl, rfl, h⟩ := I
  obtain ⟨hA, hm, hn, hF, hB, hL, hR, hRn, hS⟩ := h
  refine dx_compute (2 * A) n (nI m) fa c p0 p1 p2 p3 K H bs body bS wS _ (by omega) (by omega) (fun r0 r1 r2 r3 hr => dy_compute A n (nI m) c fact K H ln body sup reach tags nxt (df_l fa) (df_B bS) (df_R wS) hF hB hR _ hA (by omega) (fun tg nx ht => ⟨?_, df_mk A n m fa 1 r0 r1 r2 r3 K H bs body bS wS fact ln sup reach tg nx ⟨hA, hm, hn, hF, hB, hL, hR, hRn, fun _ => ?_⟩⟩))
  · have t := df_cnt_eq (S := df_Fin (2 * A) n (df_l fa) K H (df_B bS) (df_R wS)) (M := 2 * A) (by omega) hr (fun i z => (df_Fin_lt (2 * A) n (df_l fa) K H (df_B bS) (df_R wS) i (hr ▸ z)).2) (t := 2) (by omega)
    rw [t]
    rfl
  · rw [hr]
    exact ⟨ht, fun i z => (df_Fin_lt (2 * A) n (df_l fa) K H (df_B bS) (df_R wS) i z).2⟩
theorem i_vc_hasTag {k : Nat} {u : SX} {v : SY} (I : i_Rel k u v) (hk : k + 3 ≤ 1538) (v1 : Int32) (v2 : Int32) : wpX_hasTag (fun r => wpY_hasTag (fun r' => r' = r ∧ i_Rel (k + 3) u v) v v1 v2) u v1 v2 := by
  obtain ⟨A, n, m, fa, c, p0, p1, p2, p3, K, H, bs, body, bS, wS, fact, ln, sup, reach, tags, nxt, rfl, rfl, h⟩ := I
  have hA := h.1
  have hS := h.2.2.2.2.2.2.2.2
  exact dx_hasTag (2 * A) n (nI m) fa c p0 p1 p2 p3 K H bs body bS wS _ v1 v2 (by omega) (dy_hasTag A n (nI m) c fact K H ln body sup reach tags nxt (df_S p0 p1 p2 p3) (fun z => (hS z).1) _ v1 v2 hA ⟨rfl, df_mk A n m fa c p0 p1 p2 p3 K H bs body bS wS fact ln sup reach tags nxt h⟩)
theorem i_vc_countTag {k : Nat} {u : SX} {v : SY} (I : i_Rel k u v) (hk : k + 3 ≤ 1538) (v1 : Int32) : wpX_countTag (fun r => wpY_countTag (fun r' => r' = r ∧ i_Rel (k + 3) u v) v v1) u v1 := by
  obtain ⟨A, n, m, fa, c, p0, p1, p2, p3, K, H, bs, body, bS, wS, fact, ln, sup, reach, tags, nxt, rfl, rfl, h⟩ := I
  have hA := h.1
  have hS := h.2.2.2.2.2.2.2.2
  have g := df_mk (k := k + 3) A n m fa c p0 p1 p2 p3 K H bs body bS wS fact ln sup reach tags nxt h
  have hT : ¬ c = 0 → df_hT (df_S p0 p1 p2 p3) tags := fun z => (hS z).1
  refine dx_countTag (2 * A) n (nI m) fa c p0 p1 p2 p3 K H bs body bS wS _ v1
    (fun e => dy_countTagA A n (nI m) c fact K H ln body sup reach tags nxt (df_S p0 p1 p2 p3) hT _ v1 hA (fun _ => ⟨rfl, g⟩) (fun z => absurd e z) (fun z => absurd e z))
    (fun e w => dy_countTagA A n (nI m) c fact K H ln body sup reach tags nxt (df_S p0 p1 p2 p3) hT _ v1 hA (fun z => absurd z e) (fun _ _ => ⟨rfl, g⟩) (fun _ t ht et => absurd ⟨t, ht, et⟩ w))
    (fun e t ht et => dy_countTagA A n (nI m) c fact K H ln body sup reach tags nxt (df_S p0 p1 p2 p3) hT _ v1 hA (fun z => absurd z e) (fun _ w => absurd ⟨t, ht, et⟩ w) (fun _ t' ht' et' => ⟨?_, g⟩))
  rw [et, nI_eq (by omega) (by omega)] at et'
  subst et'
  rw [df_cnt_eq (M := 2 * A) (by omega) rfl (hS e).2 ht]
theorem i_vc_winner {k : Nat} {u : SX} {v : SY} (I : i_Rel k u v) (hk : k + 3 ≤ 1538) (v1 : Int32) : wpX_winner (fun r => wpY_winner (fun r' => r' = r ∧ i_Rel (k + 3) u v) v v1) u v1 := by
  obtain ⟨A, n, m, fa, c, p0, p1, p2, p3, K, H, bs, body, bS, wS, fact, ln, sup, reach, tags, nxt, rfl, rfl, h⟩ := I
  have g := df_mk (k := k + 3) A n m fa c p0 p1 p2 p3 K H bs body bS wS fact ln sup reach tags nxt h
  obtain ⟨hA, hm, hn, hF, hB, hL, hR, hRn, hS⟩ := h
  have hT : ¬ c = 0 → df_hT (df_S p0 p1 p2 p3) tags := fun z => (hS z).1
  have ui : ∀ {i j : Nat}, i < 2 * A → j < 2 * A → v1 = nI i → v1 = nI j → i = j := fun hi hj e1 e2 => by
    rw [e1, nI_eq (by omega) (by omega)] at e2
    exact e2
  have Y := fun post => dy_winner A n (nI m) c fact K H ln body sup reach tags nxt (df_l fa) (df_B bS) (df_S p0 p1 p2 p3) hF hB hT post v1 hA (by omega)
  refine dx_winner (2 * A) n (nI m) fa c p0 p1 p2 p3 K H bs body bS wS _ v1 (by omega) (by omega)
    (fun e => Y _ (fun _ => ⟨rfl, g⟩) (fun z => absurd e z) (fun _ z => absurd e z) (fun _ z => absurd e z) (fun _ z => absurd e z))
    (fun e w => Y _ (fun z => absurd z e) (fun _ _ => ⟨rfl, g⟩) (fun j _ hj ej s2 => absurd s2 (w j hj ej)) (fun j _ hj ej s2 => absurd s2 (w j hj ej)) (fun j _ hj ej s2 => absurd s2 (w j hj ej)))
    (fun j e hj ej s2 f => Y _ (fun z => absurd z e) (fun _ w => absurd s2 (w j hj ej)) (fun _ _ _ _ _ _ => ⟨rfl, g⟩) (fun i _ hi ei _ nf => absurd (ui hj hi ej ei ▸ f) nf) (fun i _ hi ei _ nf => absurd (ui hj hi ej ei ▸ f) nf))
    (fun j e hj ej s2 nf s0 => ⟨fun r hr cr fr => ?_, fun no => ?_⟩) (fun j e hj ej s2 nf s0 => ⟨fun r hr cr fr => ?_, fun no => ?_⟩)
  · refine Y _ (fun z => absurd z e) (fun _ w => absurd s2 (w j hj ej)) (fun i _ hi ei _ f => absurd f (ui hj hi ej ei ▸ nf)) (fun i _ hi ei _ _ _ => ⟨fun r' hr' cr' fr' => ⟨?_, g⟩, fun no => ?_⟩) (fun i _ hi ei _ _ s => absurd s0 ((ui hj hi ej ei).symm ▸ s))
    · have eij := ui hj hi ej ei
      subst eij
      rw [df_1st cr fr cr' fr']
    · have eij := ui hj hi ej ei
      subst eij
      exact absurd cr (no r hr)
  · refine Y _ (fun z => absurd z e) (fun _ w => absurd s2 (w j hj ej)) (fun i _ hi ei _ f => absurd f (ui hj hi ej ei ▸ nf)) (fun i _ hi ei _ _ _ => ⟨fun r' hr' cr' fr' => ?_, fun _ => ⟨rfl, g⟩⟩) (fun i _ hi ei _ _ s => absurd s0 ((ui hj hi ej ei).symm ▸ s))
    have eij := ui hj hi ej ei
    subst eij
    exact absurd cr' (no r' hr')
  · refine Y _ (fun z => absurd z e) (fun _ w => absurd s2 (w j hj ej)) (fun i _ hi ei _ f => absurd f (ui hj hi ej ei ▸ nf)) (fun i _ hi ei _ _ s => absurd s (ui hj hi ej ei ▸ s0)) (fun i _ hi ei _ _ _ => ⟨fun r' hr' cr' fr' => ⟨?_, g⟩, fun no => ?_⟩)
    · have eij := ui hj hi ej ei
      subst eij
      rw [df_1st cr fr cr' fr']
    · have eij := ui hj hi ej ei
      subst eij
      exact absurd cr (no r hr)
  · refine Y _ (fun z => absurd z e) (fun _ w => absurd s2 (w j hj ej)) (fun i _ hi ei _ f => absurd f (ui hj hi ej ei ▸ nf)) (fun i _ hi ei _ _ s => absurd s (ui hj hi ej ei ▸ s0)) (fun i _ hi ei _ _ _ => ⟨fun r' hr' cr' fr' => ?_, fun _ => ⟨rfl, g⟩⟩)
    have eij := ui hj hi ej ei
    subst eij
    exact absurd cr' (no r' hr')
