-- the reference's state against the theory
def df_hF (F : Nat → Prop) (fact : Nat → Int32) : Prop := ∀ i, i < 64 → fact i = df_b (F i)
def df_hB (n : Nat) (B : Nat → Nat → Prop) (bl body : Nat → Int32) : Prop := ∀ r, r < n → ∃ z, z ≤ 4 ∧ bl r = nI z ∧ (∀ i, i < z → ∃ l, l < 64 ∧ body (r * 4 + i) = nI l ∧ B r l) ∧ (∀ q, B r q → q < 64 ∧ ∃ i, i < z ∧ body (r * 4 + i) = nI q)
def df_hR (n : Nat) (R : Nat → Nat → Prop) (sup : Nat → Int32) : Prop := ∀ r s, r < 32 → s < 32 → sup (r * 32 + s) = df_b (r < n ∧ R r s)
def df_hT (S : Nat → Prop) (tags : Nat → Int32) : Prop := ∀ i, i < 256 → tags i = df_b (S i)
theorem df_ix4 (r i : Nat) : nI r * 4 + nI i = nI (r * 4 + i) := by
  rw [show (4 : Int32) = nI 4 from rfl, pk_mul, nI_add]
theorem df_ix32 (r i : Nat) : nI r * 32 + nI i = nI (r * 32 + i) := by
  rw [show (32 : Int32) = nI 32 from rfl, pk_mul, nI_add]
theorem df_ix64 (r i : Nat) : nI r * 64 + nI i = nI (r * 64 + i) := by
  rw [show (64 : Int32) = nI 64 from rfl, pk_mul, nI_add]
theorem df_2A (A : Nat) : 2 * nI A = nI (2 * A) := by
  rw [show (2 : Int32) = nI 2 from rfl, pk_mul]
section
variable (A n : Nat) (mr c : Int32) (fact K H bl body sup reach tags nxt : Nat → Int32)
theorem dy_validLit (post : Int32 → Prop) (x : Int32) (hA : A ≤ 32) (hp : post (df_b (df_v (2 * A) x))) : wpY_validLit post (nI A, mr, nI n, c, fact, K, H, bl, body, sup, reach, tags, nxt) x :=
  br_c (fun h => (df_p0 (df_v_neg (by omega) h) hp)) (fun h => br_c (fun h2 => (df_p0 (df_v_big (by omega) (df_2A A ▸ h2)) hp)) (fun h2 => (df_p1 (df_v_in (by omega) h (df_2A A ▸ h2)) hp)))
theorem dy_validRule (post : Int32 → Prop) (x : Int32) (hn : n ≤ 32) (hp : post (df_b (df_v n x))) : wpY_validRule post (nI A, mr, nI n, c, fact, K, H, bl, body, sup, reach, tags, nxt) x :=
  br_c (fun h => (df_p0 (df_v_neg (by omega) h) hp)) (fun h => br_c (fun h2 => (df_p0 (df_v_big (by omega) h2) hp)) (fun h2 => (df_p1 (df_v_in (by omega) h h2) hp)))
theorem dy_supports (post : Int32 → Prop) {r q : Nat} (hr : r < 32) (hp : post (df_b (df_sup K H r q))) : wpY_supports post (nI A, mr, nI n, c, fact, K, H, bl, body, sup, reach, tags, nxt) (nI r) (nI q) :=
  ⟨vp_in_nI hr (by decide), df_if (d := H r = nI q) (by rw [nI_clamp (n := r) (by omega)]) (fun h => ⟨vp_in_nI hr (by decide), df_if (d := K r = 2) (by rw [nI_clamp (n := r) (by omega)])
    (fun h2 => (df_p0 (fun z => z.2 h2) hp)) (fun h2 => (df_p1 ⟨h, h2⟩ hp))⟩) (fun h => (df_p0 (fun z => h z.1) hp))⟩
theorem dy_allIn (B : Nat → Nat → Prop) (S : Nat → Prop) (hB : df_hB n B bl body) (hT : df_hT S tags) (post : Int32 → Prop) {r t : Nat} (hn : n ≤ 32) (hr : r < n) (ht : t < 4) (hp : post (df_b (df_all B S t r))) : wpY_allIn post (nI A, mr, nI n, c, fact, K, H, bl, body, sup, reach, tags, nxt) (nI r) (nI t) := by
  obtain ⟨z, hz, ez, h1, h2⟩ := hB r hr
  refine df_scan (fun m i => wY_allIn_2 post (nI r) (nI t) (nI A) mr (nI n) c fact K H bl body sup reach tags nxt m (nI i)) (fun i => ∃ l, l < 64 ∧ body (r * 4 + i) = nI l ∧ ¬ S (t * 64 + l)) z ?_ ?_
  · intro h m
    refine ⟨vp_in_nI (by omega) (by decide), br_t ?_ (df_p1 ?_ hp)⟩
    · rw [nI_clamp (by omega), ez]
      exact nI_le (Nat.le_refl z) (by omega)
    · intro q hq
      obtain ⟨q64, i, hi, e⟩ := h2 q hq
      exact Classical.byContradiction (fun hs => h i hi ⟨q, q64, e, hs⟩)
  · intro m i hi h k
    obtain ⟨l, hl, el, hb⟩ := h1 i hi
    have e1 : nI r * 4 + nI i = nI (r * 4 + i) := df_ix4 r i
    have e2 : nI t * 64 + body (nI r * 4 + nI i).toNatClampNeg = nI (t * 64 + l) := by rw [e1, nI_clamp (by omega), el, df_ix64]
    refine ⟨vp_in_nI (by omega) (by decide), br_f ?_ ⟨pk_in (r * 4 + i) 128 (by omega) e1, pk_in (t * 64 + l) 256 (by omega) e2, df_if (d := ¬ S (t * 64 + l)) ?_ (fun a => df_p0 (fun w => a (w l hb)) hp) (fun a => nm_r (nI_1 i) (k ?_))⟩⟩
    · rw [nI_clamp (by omega), ez]
      exact nI_ge hi (by omega)
    · rw [e2, nI_clamp (by omega), hT _ (by omega)]
      exact df_bz
    · rintro ⟨l', hl', el', hs⟩
      rw [el, nI_eq (by omega) (by omega)] at el'
      exact a (el' ▸ hs)
theorem dy_someIn (B : Nat → Nat → Prop) (S : Nat → Prop) (hB : df_hB n B bl body) (hT : df_hT S tags) (post : Int32 → Prop) {r t : Nat} (hn : n ≤ 32) (hr : r < n) (ht : t < 4) (hp : post (df_b (df_som B S t r))) : wpY_someIn post (nI A, mr, nI n, c, fact, K, H, bl, body, sup, reach, tags, nxt) (nI r) (nI t) := by
  obtain ⟨z, hz, ez, h1, h2⟩ := hB r hr
  refine df_scan (fun m i => wY_someIn_2 post (nI r) (nI t) (nI A) mr (nI n) c fact K H bl body sup reach tags nxt m (nI i)) (fun i => ∃ l, l < 64 ∧ body (r * 4 + i) = nI l ∧ S (t * 64 + l)) z ?_ ?_
  · intro h m
    refine ⟨vp_in_nI (by omega) (by decide), br_t ?_ (df_p0 ?_ hp)⟩
    · rw [nI_clamp (by omega), ez]
      exact nI_le (Nat.le_refl z) (by omega)
    · rintro ⟨q, hq, hs⟩
      obtain ⟨q64, i, hi, e⟩ := h2 q hq
      exact h i hi ⟨q, q64, e, hs⟩
  · intro m i hi h k
    obtain ⟨l, hl, el, hb⟩ := h1 i hi
    have e1 : nI r * 4 + nI i = nI (r * 4 + i) := df_ix4 r i
    have e2 : nI t * 64 + body (nI r * 4 + nI i).toNatClampNeg = nI (t * 64 + l) := by rw [e1, nI_clamp (by omega), el, df_ix64]
    refine ⟨vp_in_nI (by omega) (by decide), br_f ?_ ⟨pk_in (r * 4 + i) 128 (by omega) e1, pk_in (t * 64 + l) 256 (by omega) e2, df_if (d := ¬ S (t * 64 + l)) ?_ (fun a => nm_r (nI_1 i) (k ?_)) (fun a => df_p1 ⟨l, hb, Classical.not_not.mp a⟩ hp)⟩⟩
    · rw [nI_clamp (by omega), ez]
      exact nI_ge hi (by omega)
    · rw [e2, nI_clamp (by omega), hT _ (by omega)]
      exact df_bz
    · rintro ⟨l', hl', el', hs⟩
      rw [el, nI_eq (by omega) (by omega)] at el'
      exact a (el' ▸ hs)
section
variable (F : Nat → Prop) (B R : Nat → Nat → Prop) (S : Nat → Prop)
theorem dy_testPlusD (hF : df_hF F fact) (hB : df_hB n B bl body) (hT : df_hT S tags) (post : Int32 → Prop) {q : Nat} (hn : n ≤ 32) (hq : q < 64) (hp : post (df_b (df_pD n F K H B S q))) : wpY_testPlusD post (nI A, mr, nI n, c, fact, K, H, bl, body, sup, reach, tags, nxt) (nI q) := by
  refine ⟨vp_in_nI hq (by decide), df_if (d := ¬ F q) (by rw [nI_clamp (n := q) (by omega), hF q hq]; exact df_bz) (fun f => ?_) (fun f => df_p1 (Or.inl (Classical.not_not.mp f)) hp)⟩
  exact df_scan (fun m i => wY_testPlusD_13 post (nI q) (nI A) mr (nI n) c fact K H bl body sup reach tags nxt m (nI i)) (df_fD K H B S q) n
    (fun h m => br_t (nI_le (Nat.le_refl n) (by omega)) (df_p0 (fun z => z.elim f (fun ⟨r, hr, a⟩ => h r hr a)) hp))
    (fun m i hi h k => br_f (nI_ge hi (by omega)) ⟨vp_in_nI (by omega) (by decide), df_if (d := K i = 0) (by rw [nI_clamp (n := i) (by omega)])
      (fun a => ⟨vp_in_nI (by omega) (by decide), df_if (d := H i = nI q) (by rw [nI_clamp (n := i) (by omega)])
        (fun b => dy_allIn A n mr c fact K H bl body sup reach tags nxt B S hB hT _ (r := i) (t := 0) hn hi (by omega) (df_br (fun d => nm_r (nI_1 i) (k (fun z => d z.2))) (fun d => df_p1 (Or.inr ⟨i, hi, ⟨b, a⟩, d⟩) hp)))
        (fun b => nm_r (nI_1 i) (k (fun z => b z.1.1)))⟩)
      (fun a => nm_r (nI_1 i) (k (fun z => a z.1.2)))⟩)
theorem dy_testMinusD (hF : df_hF F fact) (hB : df_hB n B bl body) (hT : df_hT S tags) (post : Int32 → Prop) {q : Nat} (hn : n ≤ 32) (hq : q < 64) (hp : post (df_b (df_mD n F K H B S q))) : wpY_testMinusD post (nI A, mr, nI n, c, fact, K, H, bl, body, sup, reach, tags, nxt) (nI q) := by
  refine ⟨vp_in_nI hq (by decide), df_if (d := ¬ F q) (by rw [nI_clamp (n := q) (by omega), hF q hq]; exact df_bz) (fun f => ?_) (fun f => df_p0 (fun z => f z.1) hp)⟩
  exact df_scan (fun m i => wY_testMinusD_13 post (nI q) (nI A) mr (nI n) c fact K H bl body sup reach tags nxt m (nI i)) (fun r => df_str K H r q ∧ ¬ df_som B S 1 r) n
    (fun h m => br_t (nI_le (Nat.le_refl n) (by omega)) (df_p1 ⟨f, fun r hr a => Classical.byContradiction (fun b => h r hr ⟨a, b⟩)⟩ hp))
    (fun m i hi h k => br_f (nI_ge hi (by omega)) ⟨vp_in_nI (by omega) (by decide), df_if (d := K i = 0) (by rw [nI_clamp (n := i) (by omega)])
      (fun a => ⟨vp_in_nI (by omega) (by decide), df_if (d := H i = nI q) (by rw [nI_clamp (n := i) (by omega)])
        (fun b => dy_someIn A n mr c fact K H bl body sup reach tags nxt B S hB hT _ (r := i) (t := 1) hn hi (by omega) (df_br (fun d => df_p0 (fun z => d (z.2 i hi ⟨b, a⟩)) hp) (fun d => nm_r (nI_1 i) (k (fun z => z.2 d)))))
        (fun b => nm_r (nI_1 i) (k (fun z => b z.1.1)))⟩)
      (fun a => nm_r (nI_1 i) (k (fun z => a z.1.2)))⟩)
theorem df_supz {j i : Nat} (hR : df_hR n R sup) (hj : j < n) (hn : n ≤ 32) (hi : i < 32) : sup (nI j * 32 + nI i).toNatClampNeg = 0 ↔ ¬ R j i := by
  rw [df_ix32, nI_clamp (by omega), hR j i (by omega) hi]
  exact ⟨fun z r => df_bz.mp z ⟨hj, r⟩, fun z => df_b0 (fun y => z y.2)⟩
theorem df_e0 (x : Int32) : (0 : Int32) + x = x := Int32.zero_add x
theorem df_e64 (q : Nat) : (64 : Int32) + nI q = nI (64 + q) := nI_add 64 q
theorem df_e128 (q : Nat) : (128 : Int32) + nI q = nI (128 + q) := nI_add 128 q
theorem df_e192 (q : Nat) : (192 : Int32) + nI q = nI (192 + q) := nI_add 192 q
theorem dy_testPlusd (hB : df_hB n B bl body) (hR : df_hR n R sup) (hT : df_hT S tags) (post : Int32 → Prop) {q : Nat} (hn : n ≤ 32) (hq : q < 64) (hp : post (df_b (df_pd n K H B R S q))) : wpY_testPlusd post (nI A, mr, nI n, c, fact, K, H, bl, body, sup, reach, tags, nxt) (nI q) := by
  refine ⟨pk_in q 256 (by omega) (df_e0 _), df_if (d := ¬ S q) (by rw [df_e0, nI_clamp (n := q) (by omega), hT q (by omega)]; exact df_bz) (fun s0 => ?_) (fun s0 => df_p1 (Or.inl (Classical.not_not.mp s0)) hp)⟩
  refine df_acc (fun m i x => wY_testPlusd_17 post (nI q) (nI A) mr (nI n) c fact K H bl body sup reach tags nxt m x (nI i)) (df_fd K H B S q) n
    (fun m => br_t (nI_le (Nat.le_refl n) (by omega)) (df_br (fun a => df_p0 (fun z => z.elim s0 (fun y => a y.1)) hp) (fun a => ?_)))
    (fun m i x hi ht hf => br_f (nI_ge hi (by omega)) (dy_supports A n mr c fact K H bl body sup reach tags nxt _ (r := i) (by omega) (df_br (fun a => nm_r (nI_1 i) (hf (fun z => a z.1)))
      (fun a => dy_allIn A n mr c fact K H bl body sup reach tags nxt B S hB hT _ (r := i) (t := 2) hn hi (by omega) (df_br (fun b => nm_r (nI_1 i) (hf (fun z => b z.2))) (fun b => nm_r (nI_1 i) (ht ⟨a, b⟩)))))))
  have hx := df_x1 q hq
  have e1 : (64 : Int32) + (nI q ^^^ 1) = nI (64 + (q ^^^ 1)) := by rw [df_x1I, df_e64]
  refine ⟨pk_in (64 + (q ^^^ 1)) 256 (by omega) e1, df_if (d := ¬ S (64 + (q ^^^ 1))) (by rw [e1, nI_clamp (by omega), hT _ (by omega)]; exact df_bz) (fun s1 => df_p0 (fun z => z.elim s0 (fun y => s1 y.2.1)) hp) (fun s1 => ?_)⟩
  refine df_scan (fun m i => wY_testPlusd_75 post (nI q) (nI A) mr (nI n) c fact K H bl body sup reach tags nxt m (nI i)) (fun s => H s = nI (q ^^^ 1) ∧ ¬ df_som B S 3 s ∧ ¬ df_bea n K H B R S s q) n
    (fun h m => br_t (nI_le (Nat.le_refl n) (by omega)) (df_p1 (Or.inr ⟨a, Classical.not_not.mp s1, fun s hs x y => Classical.byContradiction (fun d => h s hs ⟨x, y, d⟩)⟩) hp))
    (fun m i hi h k => br_f (nI_ge hi (by omega)) ⟨vp_in_nI (by omega) (by decide), df_if (d := H i = nI (q ^^^ 1)) (by rw [nI_clamp (n := i) (by omega), df_x1I])
      (fun b => dy_someIn A n mr c fact K H bl body sup reach tags nxt B S hB hT _ (r := i) (t := 3) hn hi (by omega) (df_br (fun d => ?_) (fun d => nm_r (nI_1 i) (k (fun z => z.2.1 d)))))
      (fun b => nm_r (nI_1 i) (k (fun z => b z.1)))⟩)
  exact df_acc (fun m' j x => wY_testPlusd_110 post (wY_testPlusd_75 post (nI q) (nI A) mr (nI n) c fact K H bl body sup reach tags nxt m) (nI q) (nI i) (nI A) mr (nI n) c fact K H bl body sup reach tags nxt m' x (nI j)) (fun t => df_sup K H t q ∧ df_all B S 2 t ∧ R t i) n
    (fun m' => br_t (nI_le (Nat.le_refl n) (by omega)) (df_br (fun e => df_p0 (fun z => z.elim s0 (fun y => e (y.2.2 i hi b d))) hp) (fun e => nm_r (nI_1 i) (k (fun z => z.2.2 e)))))
    (fun m' j x hj ht hf => br_f (nI_ge hj (by omega)) (dy_supports A n mr c fact K H bl body sup reach tags nxt _ (r := j) (by omega) (df_br (fun a1 => nm_r (nI_1 j) (hf (fun z => a1 z.1)))
      (fun a1 => ⟨pk_in (j * 32 + i) 1024 (by omega) (df_ix32 j i), df_if (df_supz n sup R hR hj hn (by omega)) (fun r1 => nm_r (nI_1 j) (hf (fun z => r1 z.2.2)))
        (fun r1 => dy_allIn A n mr c fact K H bl body sup reach tags nxt B S hB hT _ (r := j) (t := 2) hn hj (by omega) (df_br (fun b1 => nm_r (nI_1 j) (hf (fun z => b1 z.2.1))) (fun b1 => nm_r (nI_1 j) (ht ⟨a1, b1, Classical.not_not.mp r1⟩))))⟩))))
theorem dy_testMinusd (hB : df_hB n B bl body) (hR : df_hR n R sup) (hT : df_hT S tags) (post : Int32 → Prop) {q : Nat} (hn : n ≤ 32) (hq : q < 64) (hp : post (df_b (df_md n K H B R S q))) : wpY_testMinusd post (nI A, mr, nI n, c, fact, K, H, bl, body, sup, reach, tags, nxt) (nI q) := by
  refine ⟨pk_in (64 + q) 256 (by omega) (df_e64 q), df_if (d := ¬ S (64 + q)) (by rw [df_e64, nI_clamp (by omega), hT _ (by omega)]; exact df_bz) (fun s0 => df_p0 (fun z => s0 z.1) hp) (fun s0 => ?_)⟩
  have s0 := Classical.not_not.mp s0
  refine df_acc0 (fun m i x => wY_testMinusd_18 post (nI q) (nI A) mr (nI n) c fact K H bl body sup reach tags nxt m x (nI i)) (fun r => df_sup K H r q ∧ ¬ df_som B S 3 r) n
    (fun m => br_t (nI_le (Nat.le_refl n) (by omega)) (df_br (fun a => ?_) (fun a => df_p1 ⟨s0, Or.inl (fun r hr b => Classical.byContradiction (fun d => a r hr ⟨b, d⟩))⟩ hp)))
    (fun m i x hi ht hf => br_f (nI_ge hi (by omega)) (dy_supports A n mr c fact K H bl body sup reach tags nxt _ (r := i) (by omega) (df_br (fun a => nm_r (nI_1 i) (hf (fun z => a z.1)))
      (fun a => dy_someIn A n mr c fact K H bl body sup reach tags nxt B S hB hT _ (r := i) (t := 3) hn hi (by omega) (df_br (fun b => nm_r (nI_1 i) (ht ⟨a, b⟩)) (fun b => nm_r (nI_1 i) (hf (fun z => z.2 b))))))))
  have na : ¬ df_esf n K H B S q := fun z => a (fun r hr y => y.2 (z r hr y.1))
  have hx := df_x1 q hq
  have e1 : (0 : Int32) + (nI q ^^^ 1) = nI (q ^^^ 1) := by rw [df_e0, df_x1I]
  refine ⟨pk_in (q ^^^ 1) 256 (by omega) e1, df_if (d := ¬ S (q ^^^ 1)) (by rw [e1, nI_clamp (by omega), hT _ (by omega)]; exact df_bz) (fun s1 => ?_) (fun s1 => df_p1 ⟨s0, Or.inr (Or.inl (Classical.not_not.mp s1))⟩ hp)⟩
  refine df_scan (fun m i => wY_testMinusd_75 post (nI q) (nI A) mr (nI n) c fact K H bl body sup reach tags nxt m (nI i)) (fun s => H s = nI (q ^^^ 1) ∧ df_all B S 2 s ∧ ¬ df_can n K H B R S s q) n
    (fun h m => br_t (nI_le (Nat.le_refl n) (by omega)) (df_p0 (fun z => z.2.elim na (fun y => y.elim s1 (fun ⟨s, hs, x⟩ => h s hs x))) hp))
    (fun m i hi h k => br_f (nI_ge hi (by omega)) ⟨vp_in_nI (by omega) (by decide), df_if (d := H i = nI (q ^^^ 1)) (by rw [nI_clamp (n := i) (by omega), df_x1I])
      (fun b => dy_allIn A n mr c fact K H bl body sup reach tags nxt B S hB hT _ (r := i) (t := 2) hn hi (by omega) (df_br (fun d => nm_r (nI_1 i) (k (fun z => d z.2.1))) (fun d => ?_)))
      (fun b => nm_r (nI_1 i) (k (fun z => b z.1)))⟩)
  exact df_acc0 (fun m' j x => wY_testMinusd_110 post (wY_testMinusd_75 post (nI q) (nI A) mr (nI n) c fact K H bl body sup reach tags nxt m) (nI q) (nI i) (nI A) mr (nI n) c fact K H bl body sup reach tags nxt m' x (nI j)) (fun t => df_sup K H t q ∧ ¬ df_som B S 3 t ∧ R t i) n
    (fun m' => br_t (nI_le (Nat.le_refl n) (by omega)) (df_br (fun e => nm_r (nI_1 i) (k (fun z => e (fun t ht y => z.2.2 ⟨t, ht, y⟩)))) (fun e => df_p1 ⟨s0, Or.inr (Or.inr ⟨i, hi, b, d, fun ⟨t, ht, y⟩ => e t ht y⟩)⟩ hp)))
    (fun m' j x hj ht hf => br_f (nI_ge hj (by omega)) (dy_supports A n mr c fact K H bl body sup reach tags nxt _ (r := j) (by omega) (df_br (fun a1 => nm_r (nI_1 j) (hf (fun z => a1 z.1)))
      (fun a1 => dy_someIn A n mr c fact K H bl body sup reach tags nxt B S hB hT _ (r := j) (t := 3) hn hj (by omega) (df_br
        (fun b1 => ⟨pk_in (j * 32 + i) 1024 (by omega) (df_ix32 j i), df_if (df_supz n sup R hR hj hn (by omega)) (fun r1 => nm_r (nI_1 j) (hf (fun z => r1 z.2.2))) (fun r1 => nm_r (nI_1 j) (ht ⟨a1, b1, Classical.not_not.mp r1⟩))⟩)
        (fun b1 => nm_r (nI_1 j) (hf (fun z => z.2.1 b1))))))))
end
end
