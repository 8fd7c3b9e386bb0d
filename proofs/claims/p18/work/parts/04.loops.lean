-- loops over a counter, as the walks print them (fuel, then the counter as a natural)
-- a scan that leaves at the first i with C i
theorem df_scan (W : Nat → Nat → Prop) (C : Nat → Prop) (n : Nat)
    (hx : (∀ r, r < n → ¬ C r) → ∀ m, W (m + 1) n)
    (hs : ∀ m i, i < n → (∀ r, r < i → ¬ C r) → (¬ C i → W m (i + 1)) → W (m + 1) i) : ∃ m, W m 0 := by
  have key : ∀ d i, i + d = n → (∀ r, r < i → ¬ C r) → W (d + 1) i := by
    intro d
    induction d with
    | zero =>
      intro i hi h
      have e : i = n := by omega
      subst e
      exact hx h 0
    | succ d ih =>
      intro i hi h
      exact hs (d + 1) i (by omega) h (fun hc => ih (i + 1) (by omega) (lt_s h hc))
  exact ⟨n + 1, key n 0 (by omega) lt_0⟩
-- a flag that C sets, from 0 to 1
theorem df_acc (W : Nat → Nat → Int32 → Prop) (C : Nat → Prop) (n : Nat)
    (hx : ∀ m, W (m + 1) n (df_b (∃ r, r < n ∧ C r)))
    (hs : ∀ m i x, i < n → (C i → W m (i + 1) 1) → (¬ C i → W m (i + 1) x) → W (m + 1) i x) : ∃ m, W m 0 0 := by
  have key : ∀ d i, i + d = n → W (d + 1) i (df_b (∃ r, r < i ∧ C r)) := by
    intro d
    induction d with
    | zero =>
      intro i hi
      have e : i = n := by omega
      subst e
      exact hx 0
    | succ d ih =>
      intro i hi
      refine hs (d + 1) i _ (by omega) (fun hc => ?_) (fun hc => ?_)
      · have t := ih (i + 1) (by omega)
        rw [df_b1 ⟨i, by omega, hc⟩] at t
        exact t
      · have t := ih (i + 1) (by omega)
        have e : (∃ r, r < i + 1 ∧ C r) ↔ (∃ r, r < i ∧ C r) :=
          ⟨fun ⟨r, a, b⟩ => ⟨r, by
            rcases Nat.lt_or_ge r i with l | l
            · exact l
            · exact absurd ((show r = i by omega) ▸ b) hc, b⟩, fun ⟨r, a, b⟩ => ⟨r, by omega, b⟩⟩
        rw [df_bc e] at t
        exact t
  have t := key n 0 (by omega)
  rw [df_b0 (fun ⟨r, a, _⟩ => absurd a (Nat.not_lt_zero r))] at t
  exact ⟨n + 1, t⟩
-- a flag that C clears, from 1 to 0
theorem df_acc0 (W : Nat → Nat → Int32 → Prop) (C : Nat → Prop) (n : Nat)
    (hx : ∀ m, W (m + 1) n (df_b (∀ r, r < n → ¬ C r)))
    (hs : ∀ m i x, i < n → (C i → W m (i + 1) 0) → (¬ C i → W m (i + 1) x) → W (m + 1) i x) : ∃ m, W m 0 1 := by
  have key : ∀ d i, i + d = n → W (d + 1) i (df_b (∀ r, r < i → ¬ C r)) := by
    intro d
    induction d with
    | zero =>
      intro i hi
      have e : i = n := by omega
      subst e
      exact hx 0
    | succ d ih =>
      intro i hi
      refine hs (d + 1) i _ (by omega) (fun hc => ?_) (fun hc => ?_)
      · have t := ih (i + 1) (by omega)
        rw [df_b0 (fun z => z i (by omega) hc)] at t
        exact t
      · have t := ih (i + 1) (by omega)
        have e : (∀ r, r < i + 1 → ¬ C r) ↔ (∀ r, r < i → ¬ C r) := ⟨fun z r a => z r (by omega), fun z => lt_s z hc⟩
        rw [df_bc e] at t
        exact t
  have t := key n 0 (by omega)
  rw [df_b1 lt_0] at t
  exact ⟨n + 1, t⟩
-- a count
theorem df_cnt (W : Nat → Nat → Int32 → Prop) (C : Nat → Prop) (n : Nat)
    (hx : ∀ m, W (m + 1) n (nI (df_c C n)))
    (hs : ∀ m i x, i < n → (C i → W m (i + 1) (x + 1)) → (¬ C i → W m (i + 1) x) → W (m + 1) i x) : ∃ m, W m 0 0 := by
  have key : ∀ d i, i + d = n → W (d + 1) i (nI (df_c C i)) := by
    intro d
    induction d with
    | zero =>
      intro i hi
      have e : i = n := by omega
      subst e
      exact hx 0
    | succ d ih =>
      intro i hi
      refine hs (d + 1) i _ (by omega) (fun hc => ?_) (fun hc => ?_)
      · have t := ih (i + 1) (by omega)
        rw [df_c1 hc, ← nI_1] at t
        exact t
      · have t := ih (i + 1) (by omega)
        rw [df_c0 hc] at t
        exact t
  exact ⟨n + 1, key n 0 (by omega)⟩
theorem df_c_cut {C : Nat → Prop} {a b : Nat} (h : a ≤ b) (hC : ∀ i, C i → i < a) : df_c C b = df_c C a := by
  obtain ⟨d, rfl⟩ : ∃ d, b = a + d := ⟨b - a, by omega⟩
  clear h
  induction d with
  | zero => rfl
  | succ d ih => exact (df_c0 (k := a + d) (fun z => absurd (hC _ z) (by omega))).trans ih
theorem df_c_eq {C D : Nat → Prop} (h : ∀ i, C i ↔ D i) (n : Nat) : df_c C n = df_c D n := by rw [df_ext h]
-- a state carried by an invariant: W fuel counter state
theorem df_loop {σ : Type} (W : Nat → Nat → σ → Prop) (I : Nat → σ → Prop) (n : Nat)
    (hx : ∀ m s, I n s → W (m + 1) n s)
    (hs : ∀ m i s, i < n → I i s → (∀ s', I (i + 1) s' → W m (i + 1) s') → W (m + 1) i s) (s : σ) (h0 : I 0 s) : ∃ m, W m 0 s :=
  loop_0 W I n s h0 hx hs
