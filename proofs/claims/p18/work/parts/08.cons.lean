-- what the rounds of a theory keep: nothing in both of +D and -D, nothing in both of +d and -d; q and its complement in +d: both in +D
section
variable (M n : Nat) (F : Nat → Prop) (K H : Nat → Int32) (B R : Nat → Nat → Prop)
theorem df_from (k i : Nat) (h : df_It M n F K H B R k i) : ∃ j, j < k ∧ df_ts M n F K H B R (df_It M n F K H B R j) i := by
  induction k with
  | zero => exact h.elim
  | succ k ih =>
    rcases h with h | h
    · obtain ⟨j, hj, t⟩ := ih h
      exact ⟨j, by omega, t⟩
    · exact ⟨k, by omega, h⟩
theorem df_fromT (k t q : Nat) (hq : q < 64) (h : df_It M n F K H B R k (t * 64 + q)) : ∃ j, j < k ∧ df_T n F K H B R (df_It M n F K H B R j) t q := by
  obtain ⟨j, hj, z⟩ := df_from M n F K H B R k _ h
  refine ⟨j, hj, ?_⟩
  have e := z.2.2
  rw [show (t * 64 + q) / 64 = t by omega, show (t * 64 + q) % 64 = q by omega] at e
  exact e
theorem df_cohD (hB : ∀ r q, B r q → q < 64) (j : Nat) : ∀ k q, q < 64 → df_It M n F K H B R j (0 * 64 + q) → df_It M n F K H B R k (1 * 64 + q) → False := by
  induction j using Nat.strongRecOn with
  | ind j ih =>
    intro k q hq h1 h2
    obtain ⟨j', lj, tj⟩ := df_fromT M n F K H B R j 0 q hq h1
    obtain ⟨k', lk, tk⟩ := df_fromT M n F K H B R k 1 q hq h2
    have tj' : df_pD n F K H B (df_It M n F K H B R j') q := tj
    have tk' : df_mD n F K H B (df_It M n F K H B R k') q := tk
    rcases tj' with f | ⟨r, hr, hs, ha⟩
    · exact tk'.1 f
    · obtain ⟨b, hb, hbs⟩ := tk'.2 r hr hs
      exact ih j' lj k' b (hB r b hb) (ha b hb) hbs
theorem df_cohd (hB : ∀ r q, B r q → q < 64) (m : Nat) : ∀ j k q, j + k ≤ m → q < 64 → df_It M n F K H B R j (2 * 64 + q) → df_It M n F K H B R k (3 * 64 + q) → False := by
  induction m using Nat.strongRecOn with
  | ind m ih =>
    intro j k q hm hq h1 h2
    obtain ⟨j', lj, tj⟩ := df_fromT M n F K H B R j 2 q hq h1
    obtain ⟨k', lk, tk⟩ := df_fromT M n F K H B R k 3 q hq h2
    have tj' : df_pd n K H B R (df_It M n F K H B R j') q := tj
    have tk' : df_md n K H B R (df_It M n F K H B R k') q := tk
    have h0 : ∀ q, q < 64 → df_It M n F K H B R j' q → df_It M n F K H B R k' (64 + q) → False := fun q hq a b =>
      df_cohD M n F K H B R hB j' k' q hq (by rw [show 0 * 64 + q = q by omega]; exact a) b
    have h0' : ∀ q, q < 64 → df_It M n F K H B R k' q → df_It M n F K H B R j' (64 + q) → False := fun q hq a b =>
      df_cohD M n F K H B R hB k' j' q hq (by rw [show 0 * 64 + q = q by omega]; exact a) b
    have d1 : ∀ b, b < 64 → df_It M n F K H B R j' (2 * 64 + b) → df_It M n F K H B R k' (3 * 64 + b) → False := fun b hb a c => ih (j' + k') (by omega) j' k' b (Nat.le_refl _) hb a c
    have d2 : ∀ b, b < 64 → df_It M n F K H B R k' (2 * 64 + b) → df_It M n F K H B R j' (3 * 64 + b) → False := fun b hb a c => ih (k' + j') (by omega) k' j' b (Nat.le_refl _) hb a c
    obtain ⟨mq, tk'⟩ := tk'
    rcases tj' with a | ⟨⟨r, hr, hs, ha⟩, hm1, he⟩
    · exact h0 q hq a mq
    · rcases tk' with e | e | ⟨s, hs', hh, hal, hn⟩
      · obtain ⟨b, hb, hbs⟩ := e r hr hs
        exact d1 b (hB r b hb) (ha b hb) hbs
      · exact h0' _ (df_x1 q hq) e hm1
      · have ns : ¬ df_som B (df_It M n F K H B R j') 3 s := fun ⟨b, hb, hbs⟩ => d2 b (hB s b hb) (hal b hb) hbs
        obtain ⟨t, ht, hst, hat, hRt⟩ := he s hs' hh ns
        exact hn ⟨t, ht, hst, fun ⟨b, hb, hbs⟩ => d1 b (hB t b hb) (hat b hb) hbs, hRt⟩
theorem df_x11 : ∀ q, q < 64 → (q ^^^ 1) ^^^ 1 = q := by decide +kernel
theorem df_FinT {k t : Nat} {i : Nat} (hk : k ≤ 300) (h : df_It M n F K H B R k i) : df_Fin M n F K H B R i := by
  have e := df_it_mono (f := df_st M n F K H B R) (s := df_S0) (fun _ _ z => Or.inl z) k (300 - k) i h
  rw [show k + (300 - k) = 300 by omega] at e
  exact e
theorem df_cons (hB : ∀ r q, B r q → q < 64) (hx : ∀ P : Nat → Prop, (∃ r, r < n ∧ P r) → ∃ r, r < n ∧ P r ∧ ∀ t, t < n → P t → ¬ R t r) {q : Nat} (hq : q < 64)
    (h1 : df_Fin M n F K H B R (128 + q)) (h2 : df_Fin M n F K H B R (128 + (q ^^^ 1))) : df_Fin M n F K H B R q ∧ df_Fin M n F K H B R (q ^^^ 1) := by
  have key : ∀ p, p < 64 → ∀ j k, j ≤ 300 → k ≤ 300 → df_pd n K H B R (df_It M n F K H B R j) p → df_pd n K H B R (df_It M n F K H B R k) (p ^^^ 1) →
      (df_It M n F K H B R j p ∧ df_It M n F K H B R k (p ^^^ 1)) := by
    intro p hp j k lj lk a b
    have hp1 := df_x1 p hp
    have h0 : ∀ q j k, q < 64 → df_It M n F K H B R j q → df_It M n F K H B R k (64 + q) → False := fun q j k hq a b =>
      df_cohD M n F K H B R hB j k q hq (by rw [show 0 * 64 + q = q by omega]; exact a) b
    rcases a with a | ⟨⟨r, hr, hs, ha⟩, am, ae⟩
    · rcases b with b | ⟨_, bm, _⟩
      · exact ⟨a, b⟩
      · rw [df_x11 p hp] at bm
        exact (h0 p j k hp a bm).elim
    · rcases b with b | ⟨⟨r', hr', hs', ha'⟩, bm, be⟩
      · exact (h0 _ k j hp1 b am).elim
      · exfalso
        obtain ⟨m, hm, ⟨hmS, hma⟩, hmx⟩ := hx (fun x => (df_sup K H x p ∨ df_sup K H x (p ^^^ 1)) ∧ df_all B (df_Fin M n F K H B R) 2 x) ⟨r, hr, Or.inl hs, fun b hb => df_FinT M n F K H B R (t := 0) lj (ha b hb)⟩
        have nd : ∀ i, ¬ df_som B (df_It M n F K H B R i) 3 m := fun i ⟨b, hb, hbs⟩ => df_cohd M n F K H B R hB (300 + i) 300 i b (Nat.le_refl _) (hB m b hb) (hma b hb) hbs
        rcases hmS with c | c
        · obtain ⟨t, ht, hst, hat, hRt⟩ := be m hm (by rw [df_x11 p hp]; exact c.1) (nd k)
          exact hmx t ht ⟨Or.inr hst, fun b hb => df_FinT M n F K H B R (t := 0) lk (hat b hb)⟩ hRt
        · obtain ⟨t, ht, hst, hat, hRt⟩ := ae m hm c.1 (nd j)
          exact hmx t ht ⟨Or.inl hst, fun b hb => df_FinT M n F K H B R (t := 0) lj (hat b hb)⟩ hRt
  obtain ⟨j, lj, tj⟩ := df_fromT M n F K H B R 300 2 q hq h1
  obtain ⟨k, lk, tk⟩ := df_fromT M n F K H B R 300 2 (q ^^^ 1) (df_x1 q hq) h2
  obtain ⟨a, b⟩ := key q hq j k (by omega) (by omega) tj tk
  exact ⟨df_FinT M n F K H B R (t := 0) (by omega) a, df_FinT M n F K H B R (t := 0) (by omega) b⟩
end
-- no cycle, as 'each set of rules has a member that no member is superior to': kept by a new rule without pairs, and by a pair that closes no chain
def df_ac (n : Nat) (R : Nat → Nat → Prop) : Prop := ∀ P : Nat → Prop, (∃ r, r < n ∧ P r) → ∃ r, r < n ∧ P r ∧ ∀ t, t < n → P t → ¬ R t r
theorem df_ac_0 (R : Nat → Nat → Prop) : df_ac 0 R := fun _ ⟨r, h, _⟩ => absurd h (Nat.not_lt_zero r)
theorem df_ac_new {n : Nat} {R R' : Nat → Nat → Prop} (h : df_ac n R) (h1 : ∀ r s, r < n → s < n → R' r s → R r s) (h2 : ∀ s, ¬ R' n s) (h3 : ∀ r, r < n → ¬ R' r n) : df_ac (n + 1) R' := by
  intro P ⟨r, hr, hP⟩
  rcases Classical.em (∃ r, r < n ∧ P r) with z | z
  · obtain ⟨m, hm, hPm, hmx⟩ := h P z
    refine ⟨m, by omega, hPm, fun t ht hPt hRt => ?_⟩
    rcases Nat.lt_or_ge t n with l | l
    · exact hmx t l hPt (h1 t m l hm hRt)
    · have e : t = n := by omega
      subst e
      exact h2 m hRt
  · have e : r = n := Classical.byContradiction (fun y => z ⟨r, by omega, hP⟩)
    subst e
    refine ⟨r, by omega, hP, fun t ht hPt hRt => ?_⟩
    rcases Nat.lt_or_ge t r with l | l
    · exact h3 t l hRt
    · have e : t = r := by omega
      subst e
      exact h2 t hRt
theorem df_ac_pair {n : Nat} {R R' : Nat → Nat → Prop} {a b : Nat} (h : df_ac n R) (ha : a < n) (hb : b < n) (hR : ∀ r s, r < n → R r s → s < n)
    (h1 : ∀ r s, r < n → R' r s → R r s ∨ (r = a ∧ s = b)) (hc : ¬ df_ch n R b (n - 1) a) : df_ac n R' := by
  intro P hP
  obtain ⟨m, hm, hPm, hmx⟩ := h P hP
  rcases Classical.em (m = b ∧ P a) with ⟨e, pa⟩ | z
  · obtain ⟨m', hm', ⟨hPm', hnc⟩, hmx'⟩ := h (fun x => P x ∧ ¬ df_ch n R b (n - 1) x) ⟨a, ha, pa, hc⟩
    refine ⟨m', hm', hPm', fun t ht hPt hRt => ?_⟩
    rcases h1 t m' ht hRt with w | ⟨w1, w2⟩
    · rcases Classical.em (df_ch n R b (n - 1) t) with y | y
      · exact hnc (df_ch_cl hb hR ht y w)
      · exact hmx' t ht ⟨hPt, y⟩ w
    · apply hnc
      rw [w2]
      have e0 := df_it_mono (f := df_wn n R) (s := fun i => i = b) (fun _ _ z => Or.inl z) 0 (n - 1) b rfl
      rw [Nat.zero_add] at e0
      exact e0
  · refine ⟨m, hm, hPm, fun t ht hPt hRt => ?_⟩
    rcases h1 t m ht hRt with w | ⟨w1, w2⟩
    · exact hmx t ht hPt w
    · exact z ⟨w2, w1 ▸ hPt⟩
