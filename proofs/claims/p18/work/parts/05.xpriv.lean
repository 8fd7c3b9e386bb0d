-- helpers at the seam: a branch on a truth, an answer that is a truth
theorem df_br {p A B : Prop} (a : ¬ p → A) (b : p → B) : (df_b p = 0 → A) ∧ (¬ df_b p = 0 → B) :=
  ⟨fun z => a (df_bz.mp z), fun z => b (Classical.byContradiction (fun y => z (df_b0 y)))⟩
theorem df_if {c d A B : Prop} (e : c ↔ d) (f : d → A) (g : ¬ d → B) : (c → A) ∧ (¬ c → B) := ⟨fun z => f (e.mp z), fun z => g (fun y => z (e.mpr y))⟩
theorem df_p0 {post : Int32 → Prop} {p : Prop} (hn : ¬ p) (hp : post (df_b p)) : post 0 := df_b0 hn ▸ hp
theorem df_p1 {post : Int32 → Prop} {p : Prop} (hn : p) (hp : post (df_b p)) : post 1 := df_b1 hn ▸ hp
def df_v (m : Nat) (x : Int32) : Prop := ∃ j, j < m ∧ x = nI j
theorem df_v1 {m j : Nat} (h : j < m) : df_v m (nI j) := ⟨j, h, rfl⟩
theorem df_v_neg {m : Nat} {x : Int32} (hm : m < 2 ^ 31) (h : x < 0) : ¬ df_v m x := by
  rintro ⟨j, hj, rfl⟩
  exact nI_pos (by omega) h
theorem df_v_big {m : Nat} {x : Int32} (hm : m < 2 ^ 31) (h : nI m ≤ x) : ¬ df_v m x := by
  rintro ⟨j, hj, rfl⟩
  exact nI_ge hj hm h
theorem df_v_in {m : Nat} {x : Int32} (hm : m < 2 ^ 31) (h : ¬ x < 0) (h2 : ¬ nI m ≤ x) : df_v m x := by
  obtain ⟨j, hj, rfl⟩ := nI_of h
  refine ⟨j, ?_, rfl⟩
  rw [nI_leI hm hj] at h2
  omega
theorem df_v_ub {m j : Nat} (hm : m < 2 ^ 31) (hj : j < 2 ^ 31) (h : df_v m (nI j)) : j < m := by
  obtain ⟨i, hi, e⟩ := h
  rw [nI_eq hj (by omega)] at e
  omega
theorem df_v4_big {x : Int32} (h : 3 < x) : ¬ df_v 4 x := by
  rintro ⟨j, hj, rfl⟩
  have t : nI 3 < nI j := h
  rw [nI_ltI (by omega) (by omega)] at t
  omega
theorem df_v4_in {x : Int32} (h : ¬ x < 0) (h2 : ¬ 3 < x) : df_v 4 x := by
  obtain ⟨j, hj, rfl⟩ := nI_of h
  refine ⟨j, ?_, rfl⟩
  have t : ¬ nI 3 < nI j := h2
  rw [nI_ltI (by omega) hj] at t
  omega
theorem df_m1 {r : Nat} (h : r < 2 ^ 31) : ¬ nI r = -1 := fun e => nI_pos h (e ▸ (by decide : (-1 : Int32) < 0))
theorem df_ne_lt {r i : Nat} (h : r < i + 1) (g : ¬ r = i) : r < i := by omega
section
variable (M n : Nat) (rl : Int32) (fa : Int64) (c : Int32) (p0 p1 p2 p3 : Int64) (K H bs bl : Nat → Int32) (bS : Nat → Int64) (wS : Nat → Int32)
theorem dx_contains (post : Int32 → Prop) (s : Int64) {l : Nat} (hl : l < 64) (hp : post (df_b (df_l s l))) : wpX_contains post () s (nI l) :=
  df_if (df_l_get s hl) (fun h => (df_p0 h hp)) (fun h => (df_p1 (Classical.not_not.mp h) hp))
theorem dx_containsX (post : Int32 → Prop) (s : Int64) {l : Nat} (x : Int32) (hx : x = nI l) (hl : l < 64) (hp : post (df_b (df_l s l))) : wpX_contains post () s x := by
  subst hx
  exact dx_contains post s hl hp
theorem dx_isLiteral (post : Int32 → Prop) (x : Int32) (hM : M ≤ 64) (hp : post (df_b (df_v M x))) : wpX_isLiteral post (nI M, rl, fa, nI n, c, p0, p1, p2, p3, K, H, bs, bl, bS, wS) x :=
  br_c (fun h => (df_p0 (df_v_neg (by omega) h) hp)) (fun h => br_c (fun h2 => (df_p0 (df_v_big (by omega) h2) hp)) (fun h2 => (df_p1 (df_v_in (by omega) h h2) hp)))
theorem dx_isRule (post : Int32 → Prop) (x : Int32) (hn : n ≤ 32) (hp : post (df_b (df_v n x))) : wpX_isRule post (nI M, rl, fa, nI n, c, p0, p1, p2, p3, K, H, bs, bl, bS, wS) x :=
  br_c (fun h => (df_p0 (df_v_neg (by omega) h) hp)) (fun h => br_c (fun h2 => (df_p0 (df_v_big (by omega) h2) hp)) (fun h2 => (df_p1 (df_v_in (by omega) h h2) hp)))
theorem dx_isKind (post : Int32 → Prop) (x : Int32) (hp : post (df_b (x = 0 ∨ x = 1 ∨ x = 2))) : wpX_isKind post () x :=
  br_c (fun h => (df_p1 (Or.inl h) hp)) (fun h => br_c (fun h2 => (df_p1 (Or.inr (Or.inl h2)) hp)) (fun h2 => br_c (fun h3 => (df_p1 (Or.inr (Or.inr h3)) hp))
    (fun h3 => (df_p0 (fun z => z.elim h (fun y => y.elim h2 h3)) hp))))
theorem dx_isTag (post : Int32 → Prop) (x : Int32) (hp : post (df_b (df_v 4 x))) : wpX_isTag post () x :=
  br_c (fun h => (df_p0 (df_v_neg (by omega) h) hp)) (fun h => br_c (fun h2 => (df_p0 (df_v4_big h2) hp)) (fun h2 => (df_p1 (df_v4_in h h2) hp)))
theorem dx_sizeOf (post : Int32 → Prop) (s : Int64) (hp : post (nI (df_c (df_l s) 64))) : wpX_sizeOf post () s :=
  df_cnt (fun m i x => wX_sizeOf_4 post s m x (nI i)) (df_l s) 64
    (fun m => br_t (nI_le (a := 64) (b := 64) (by omega) (by omega)) hp)
    (fun m i x hi ht hf => br_f (nI_ge (b := 64) hi (by omega)) (dx_contains _ s hi (df_br (fun h => nm_r (nI_1 i) (hf h)) (fun h => nm_e (nm_r (nI_1 i) (ht h))))))
theorem dx_isRecorded (post : Int32 → Prop) {r s : Nat} (hr : r < 32) (hs : s < 32) (hp : post (df_b (df_w (wS r) s))) : wpX_isRecorded post (nI M, rl, fa, nI n, c, p0, p1, p2, p3, K, H, bs, bl, bS, wS) (nI r) (nI s) :=
  ⟨vp_in_nI hr (by decide), df_if (by rw [nI_clamp (n := r) (by omega)]; exact df_w_get (wS r) hs) (fun h => (df_p0 h hp)) (fun h => (df_p1 (Classical.not_not.mp h) hp))⟩
theorem dx_isStrictFor (post : Int32 → Prop) {r q : Nat} (hr : r < 32) (hp : post (df_b (df_str K H r q))) : wpX_isStrictFor post (nI M, rl, fa, nI n, c, p0, p1, p2, p3, K, H, bs, bl, bS, wS) (nI r) (nI q) :=
  ⟨vp_in_nI hr (by decide), df_if (d := H r = nI q) (by rw [nI_clamp (n := r) (by omega)]) (fun h => ⟨vp_in_nI hr (by decide), df_if (d := K r = 0) (by rw [nI_clamp (n := r) (by omega)])
    (fun h2 => (df_p1 ⟨h, h2⟩ hp)) (fun h2 => (df_p0 (fun z => h2 z.2) hp))⟩) (fun h => (df_p0 (fun z => h z.1) hp))⟩
theorem dx_canSupport (post : Int32 → Prop) {r q : Nat} (hr : r < 32) (hp : post (df_b (df_sup K H r q))) : wpX_canSupport post (nI M, rl, fa, nI n, c, p0, p1, p2, p3, K, H, bs, bl, bS, wS) (nI r) (nI q) :=
  ⟨vp_in_nI hr (by decide), df_if (d := H r = nI q) (by rw [nI_clamp (n := r) (by omega)]) (fun h => ⟨vp_in_nI hr (by decide), df_if (d := K r = 2) (by rw [nI_clamp (n := r) (by omega)])
    (fun h2 => (df_p0 (fun z => z.2 h2) hp)) (fun h2 => (df_p1 ⟨h, h2⟩ hp))⟩) (fun h => (df_p0 (fun z => h z.1) hp))⟩
-- bodies against the four longs
def df_R (wS : Nat → Int32) (r s : Nat) : Prop := df_w (wS r) s
def df_B (bS : Nat → Int64) (r q : Nat) : Prop := df_l (bS r) q
theorem df_all_x {t r : Nat} (ht : t < 4) : (bS r &&& (df_pk p0 p1 p2 p3 t ^^^ (-1))) = 0 ↔ df_all (df_B bS) (df_S p0 p1 p2 p3) t r := by
  rw [df_l_sub]
  exact ⟨fun h q hq => (df_S_at p0 p1 p2 p3 t q ht (df_l_lt hq)).mpr (h q hq), fun h q hq => (df_S_at p0 p1 p2 p3 t q ht (df_l_lt hq)).mp (h q hq)⟩
theorem df_som_x {t r : Nat} (ht : t < 4) : (bS r &&& df_pk p0 p1 p2 p3 t) = 0 ↔ ¬ df_som (df_B bS) (df_S p0 p1 p2 p3) t r := by
  rw [df_l_dis]
  exact ⟨fun h ⟨q, hq, hs⟩ => h ⟨q, hq, (df_S_at p0 p1 p2 p3 t q ht (df_l_lt hq)).mp hs⟩, fun h ⟨q, hq, hs⟩ => h ⟨q, hq, (df_S_at p0 p1 p2 p3 t q ht (df_l_lt hq)).mpr hs⟩⟩
theorem dx_isApplicable (post : Int32 → Prop) {r : Nat} (hr : r < 32) (hp : post (df_b (df_all (df_B bS) (df_S p0 p1 p2 p3) 2 r))) : wpX_isApplicable post (nI M, rl, fa, nI n, c, p0, p1, p2, p3, K, H, bs, bl, bS, wS) (nI r) :=
  ⟨vp_in_nI hr (by decide), df_if (by rw [nI_clamp (n := r) (by omega)]; exact df_all_x p0 p1 p2 p3 bS (t := 2) (by omega)) (fun h => (df_p1 h hp)) (fun h => (df_p0 h hp))⟩
theorem dx_isDiscarded (post : Int32 → Prop) {r : Nat} (hr : r < 32) (hp : post (df_b (df_som (df_B bS) (df_S p0 p1 p2 p3) 3 r))) : wpX_isDiscarded post (nI M, rl, fa, nI n, c, p0, p1, p2, p3, K, H, bs, bl, bS, wS) (nI r) :=
  ⟨vp_in_nI hr (by decide), df_if (by rw [nI_clamp (n := r) (by omega)]; exact df_som_x p0 p1 p2 p3 bS (t := 3) (by omega)) (fun h => (df_p0 h hp)) (fun h => (df_p1 (Classical.not_not.mp h) hp))⟩
theorem dx_firstDefiniteProof (post : Int32 → Prop) {q : Nat} (hn : n ≤ 32)
    (hy : ∀ r, r < n → df_fD K H (df_B bS) (df_S p0 p1 p2 p3) q r → (∀ s, s < r → ¬ df_fD K H (df_B bS) (df_S p0 p1 p2 p3) q s) → post (nI r))
    (ho : (∀ r, r < n → ¬ df_fD K H (df_B bS) (df_S p0 p1 p2 p3) q r) → post (-1)) : wpX_firstDefiniteProof post (nI M, rl, fa, nI n, c, p0, p1, p2, p3, K, H, bs, bl, bS, wS) (nI q) :=
  df_scan (fun m i => wX_firstDefiniteProof_2 post (nI q) (nI M) rl fa (nI n) c p0 p1 p2 p3 K H bs bl bS wS m (nI i)) (df_fD K H (df_B bS) (df_S p0 p1 p2 p3) q) n
    (fun h m => br_t (nI_le (Nat.le_refl n) (by omega)) (ho h))
    (fun m i hi h k => br_f (nI_ge hi (by omega)) (dx_isStrictFor M n rl fa c p0 p1 p2 p3 K H bs bl bS wS _ (r := i) (by omega) (df_br (fun a => nm_r (nI_1 i) (k (fun z => a z.1)))
      (fun a => ⟨vp_in_nI (by omega) (by decide), df_if (by rw [nI_clamp (n := i) (by omega)]; exact df_all_x p0 p1 p2 p3 bS (t := 0) (by omega)) (fun b => hy i hi ⟨a, b⟩ h) (fun b => nm_r (nI_1 i) (k (fun z => b z.2)))⟩))))
theorem dx_firstSupport (post : Int32 → Prop) {q : Nat} (hn : n ≤ 32)
    (hy : ∀ r, r < n → df_fd K H (df_B bS) (df_S p0 p1 p2 p3) q r → (∀ s, s < r → ¬ df_fd K H (df_B bS) (df_S p0 p1 p2 p3) q s) → post (nI r))
    (ho : (∀ r, r < n → ¬ df_fd K H (df_B bS) (df_S p0 p1 p2 p3) q r) → post (-1)) : wpX_firstSupport post (nI M, rl, fa, nI n, c, p0, p1, p2, p3, K, H, bs, bl, bS, wS) (nI q) :=
  df_scan (fun m i => wX_firstSupport_2 post (nI q) (nI M) rl fa (nI n) c p0 p1 p2 p3 K H bs bl bS wS m (nI i)) (df_fd K H (df_B bS) (df_S p0 p1 p2 p3) q) n
    (fun h m => br_t (nI_le (Nat.le_refl n) (by omega)) (ho h))
    (fun m i hi h k => br_f (nI_ge hi (by omega)) (dx_canSupport M n rl fa c p0 p1 p2 p3 K H bs bl bS wS _ (r := i) (by omega) (df_br (fun a => nm_r (nI_1 i) (k (fun z => a z.1)))
      (fun a => dx_isApplicable M n rl fa c p0 p1 p2 p3 K H bs bl bS wS _ (r := i) (by omega) (df_br (fun b => nm_r (nI_1 i) (k (fun z => b z.2))) (fun b => hy i hi ⟨a, b⟩ h))))))
theorem dx_everySupportFails (post : Int32 → Prop) {q : Nat} (hn : n ≤ 32) (hp : post (df_b (df_esf n K H (df_B bS) (df_S p0 p1 p2 p3) q))) : wpX_everySupportFails post (nI M, rl, fa, nI n, c, p0, p1, p2, p3, K, H, bs, bl, bS, wS) (nI q) :=
  df_scan (fun m i => wX_everySupportFails_2 post (nI q) (nI M) rl fa (nI n) c p0 p1 p2 p3 K H bs bl bS wS m (nI i)) (fun r => df_sup K H r q ∧ ¬ df_som (df_B bS) (df_S p0 p1 p2 p3) 3 r) n
    (fun h m => br_t (nI_le (Nat.le_refl n) (by omega)) (df_p1 (fun r hr a => Classical.byContradiction (fun b => h r hr ⟨a, b⟩)) hp))
    (fun m i hi h k => br_f (nI_ge hi (by omega)) (dx_canSupport M n rl fa c p0 p1 p2 p3 K H bs bl bS wS _ (r := i) (by omega) (df_br (fun a => nm_r (nI_1 i) (k (fun z => a z.1)))
      (fun a => dx_isDiscarded M n rl fa c p0 p1 p2 p3 K H bs bl bS wS _ (r := i) (by omega) (df_br (fun b => df_p0 (fun z => b (z i hi a)) hp) (fun b => nm_r (nI_1 i) (k (fun z => z.2 b))))))))
theorem dx_isBeaten (post : Int32 → Prop) {s q : Nat} (hs : s < 32) (hn : n ≤ 32) (hp : post (df_b (df_bea n K H (df_B bS) (df_R wS) (df_S p0 p1 p2 p3) s q))) : wpX_isBeaten post (nI M, rl, fa, nI n, c, p0, p1, p2, p3, K, H, bs, bl, bS, wS) (nI s) (nI q) :=
  df_scan (fun m i => wX_isBeaten_2 post (nI s) (nI q) (nI M) rl fa (nI n) c p0 p1 p2 p3 K H bs bl bS wS m (nI i)) (fun r => df_sup K H r q ∧ df_all (df_B bS) (df_S p0 p1 p2 p3) 2 r ∧ df_w (wS r) s) n
    (fun h m => br_t (nI_le (Nat.le_refl n) (by omega)) (df_p0 (fun ⟨r, hr, a⟩ => h r hr a) hp))
    (fun m i hi h k => br_f (nI_ge hi (by omega)) (dx_canSupport M n rl fa c p0 p1 p2 p3 K H bs bl bS wS _ (r := i) (by omega) (df_br (fun a => nm_r (nI_1 i) (k (fun z => a z.1)))
      (fun a => dx_isApplicable M n rl fa c p0 p1 p2 p3 K H bs bl bS wS _ (r := i) (by omega) (df_br (fun b => nm_r (nI_1 i) (k (fun z => b z.2.1)))
        (fun b => dx_isRecorded M n rl fa c p0 p1 p2 p3 K H bs bl bS wS _ (r := i) (by omega) hs (df_br (fun d => nm_r (nI_1 i) (k (fun z => d z.2.2))) (fun d => df_p1 ⟨i, hi, a, b, d⟩ hp))))))))
theorem dx_canBeBeaten (post : Int32 → Prop) {s q : Nat} (hs : s < 32) (hn : n ≤ 32) (hp : post (df_b (df_can n K H (df_B bS) (df_R wS) (df_S p0 p1 p2 p3) s q))) : wpX_canBeBeaten post (nI M, rl, fa, nI n, c, p0, p1, p2, p3, K, H, bs, bl, bS, wS) (nI s) (nI q) :=
  df_scan (fun m i => wX_canBeBeaten_2 post (nI s) (nI q) (nI M) rl fa (nI n) c p0 p1 p2 p3 K H bs bl bS wS m (nI i)) (fun r => df_sup K H r q ∧ ¬ df_som (df_B bS) (df_S p0 p1 p2 p3) 3 r ∧ df_w (wS r) s) n
    (fun h m => br_t (nI_le (Nat.le_refl n) (by omega)) (df_p0 (fun ⟨r, hr, a⟩ => h r hr a) hp))
    (fun m i hi h k => br_f (nI_ge hi (by omega)) (dx_canSupport M n rl fa c p0 p1 p2 p3 K H bs bl bS wS _ (r := i) (by omega) (df_br (fun a => nm_r (nI_1 i) (k (fun z => a z.1)))
      (fun a => dx_isDiscarded M n rl fa c p0 p1 p2 p3 K H bs bl bS wS _ (r := i) (by omega) (df_br
        (fun b => dx_isRecorded M n rl fa c p0 p1 p2 p3 K H bs bl bS wS _ (r := i) (by omega) hs (df_br (fun d => nm_r (nI_1 i) (k (fun z => d z.2.2))) (fun d => df_p1 ⟨i, hi, a, b, d⟩ hp)))
        (fun b => nm_r (nI_1 i) (k (fun z => z.2.1 b))))))))
theorem dx_everyAttackFails (post : Int32 → Prop) {q : Nat} (hn : n ≤ 32) (hp : post (df_b (df_eaf n K H (df_B bS) (df_R wS) (df_S p0 p1 p2 p3) q))) : wpX_everyAttackFails post (nI M, rl, fa, nI n, c, p0, p1, p2, p3, K, H, bs, bl, bS, wS) (nI q) :=
  df_scan (fun m i => wX_everyAttackFails_2 post (nI q) (nI M) rl fa (nI n) c p0 p1 p2 p3 K H bs bl bS wS m (nI i)) (fun s => H s = nI (q ^^^ 1) ∧ ¬ df_som (df_B bS) (df_S p0 p1 p2 p3) 3 s ∧ ¬ df_bea n K H (df_B bS) (df_R wS) (df_S p0 p1 p2 p3) s q) n
    (fun h m => br_t (nI_le (Nat.le_refl n) (by omega)) (df_p1 (fun s hs a b => Classical.byContradiction (fun d => h s hs ⟨a, b, d⟩)) hp))
    (fun m i hi h k => br_f (nI_ge hi (by omega)) ⟨vp_in_nI (by omega) (by decide), df_if (d := H i = nI (q ^^^ 1)) (by rw [nI_clamp (n := i) (by omega), df_x1I]) 
      (fun a => dx_isDiscarded M n rl fa c p0 p1 p2 p3 K H bs bl bS wS _ (r := i) (by omega) (df_br
        (fun b => dx_isBeaten M n rl fa c p0 p1 p2 p3 K H bs bl bS wS _ (s := i) (by omega) hn (df_br (fun d => df_p0 (fun z => d (z i hi a b)) hp) (fun d => nm_r (nI_1 i) (k (fun z => z.2.2 d)))))
        (fun b => nm_r (nI_1 i) (k (fun z => z.2.1 b)))))
      (fun a => nm_r (nI_1 i) (k (fun z => a z.1)))⟩)
theorem dx_someAttackStands (post : Int32 → Prop) {q : Nat} (hn : n ≤ 32) (hp : post (df_b (df_sas n K H (df_B bS) (df_R wS) (df_S p0 p1 p2 p3) q))) : wpX_someAttackStands post (nI M, rl, fa, nI n, c, p0, p1, p2, p3, K, H, bs, bl, bS, wS) (nI q) :=
  df_scan (fun m i => wX_someAttackStands_2 post (nI q) (nI M) rl fa (nI n) c p0 p1 p2 p3 K H bs bl bS wS m (nI i)) (fun s => H s = nI (q ^^^ 1) ∧ df_all (df_B bS) (df_S p0 p1 p2 p3) 2 s ∧ ¬ df_can n K H (df_B bS) (df_R wS) (df_S p0 p1 p2 p3) s q) n
    (fun h m => br_t (nI_le (Nat.le_refl n) (by omega)) (df_p0 (fun ⟨s, hs, a⟩ => h s hs a) hp))
    (fun m i hi h k => br_f (nI_ge hi (by omega)) ⟨vp_in_nI (by omega) (by decide), df_if (d := H i = nI (q ^^^ 1)) (by rw [nI_clamp (n := i) (by omega), df_x1I])
      (fun a => dx_isApplicable M n rl fa c p0 p1 p2 p3 K H bs bl bS wS _ (r := i) (by omega) (df_br
        (fun b => nm_r (nI_1 i) (k (fun z => b z.2.1)))
        (fun b => dx_canBeBeaten M n rl fa c p0 p1 p2 p3 K H bs bl bS wS _ (s := i) (by omega) hn (df_br (fun d => df_p1 ⟨i, hi, a, b, d⟩ hp) (fun d => nm_r (nI_1 i) (k (fun z => z.2.2 d)))))))
      (fun a => nm_r (nI_1 i) (k (fun z => a z.1)))⟩)
end
