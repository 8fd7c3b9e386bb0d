-- truth as an int, sets as predicates, counts, a growing step
-- truth as an int, sets as predicates
noncomputable def df_b (p : Prop) : Int32 := @ite Int32 p (Classical.propDecidable p) 1 0
theorem df_b1 {p : Prop} (h : p) : df_b p = 1 := if_pos h
theorem df_b0 {p : Prop} (h : ¬ p) : df_b p = 0 := if_neg h
theorem df_bz {p : Prop} : df_b p = 0 ↔ ¬ p := ⟨fun e h => absurd ((df_b1 h).symm.trans e) (by decide), df_b0⟩
theorem df_bo {p : Prop} : df_b p = 1 ↔ p := by
  constructor
  · intro e
    rcases Classical.em p with h | h
    · exact h
    · exact absurd ((df_b0 h).symm.trans e) (by decide)
  · exact df_b1
theorem df_bc {p q : Prop} (h : p ↔ q) : df_b p = df_b q := congrArg df_b (propext h)
theorem df_bF : df_b False = 0 := df_b0 id
theorem df_ext {p q : Nat → Prop} (h : ∀ i, p i ↔ q i) : p = q := funext (fun i => propext (h i))
theorem df_bfun {p q : Nat → Prop} (h : ∀ i, p i ↔ q i) : (fun i => df_b (p i)) = (fun i => df_b (q i)) := funext (fun i => df_bc (h i))
-- stores
theorem df_us (f : Nat → Int32) (k : Nat) (x : Int32) : upd f k x k = x := if_pos rfl
theorem df_un (f : Nat → Int32) {k j : Nat} (x : Int32) (h : j ≠ k) : upd f k x j = f j := if_neg h
theorem df_upb (F : Nat → Prop) (k : Nat) (p : Prop) : upd (fun i => df_b (F i)) k (df_b p) = fun i => df_b ((i = k ∧ p) ∨ (i ≠ k ∧ F i)) := by
  funext j
  rcases Classical.em (j = k) with h | h
  · subst h
    rw [df_us]
    exact df_bc ⟨fun z => Or.inl ⟨rfl, z⟩, fun z => z.elim (fun a => a.2) (fun a => absurd rfl a.1)⟩
  · rw [df_un _ _ h]
    exact df_bc ⟨fun z => Or.inr ⟨h, z⟩, fun z => z.elim (fun a => absurd a.1 h) (fun a => a.2)⟩
theorem df_up1 (F : Nat → Prop) (k : Nat) : upd (fun i => df_b (F i)) k 1 = fun i => df_b (i = k ∨ F i) := by
  rw [← df_b1 True.intro, df_upb]
  exact df_bfun (fun i => ⟨fun z => z.elim (fun a => Or.inl a.1) (fun a => Or.inr a.2), fun z => by
    rcases Classical.em (i = k) with h | h
    · exact Or.inl ⟨h, True.intro⟩
    · exact Or.inr ⟨h, z.resolve_left h⟩⟩)
theorem df_up0 (F : Nat → Prop) (k : Nat) : upd (fun i => df_b (F i)) k 0 = fun i => df_b (i ≠ k ∧ F i) := by
  rw [← df_bF, df_upb]
  exact df_bfun (fun i => ⟨fun z => z.elim (fun a => a.2.elim) (fun a => a), fun z => Or.inr z⟩)
theorem df_upn (H : Nat → Nat) (k h : Nat) : upd (fun i => nI (H i)) k (nI h) = fun i => nI (if i = k then h else H i) := by
  funext j
  rcases Classical.em (j = k) with e | e
  · subst e; rw [df_us, if_pos rfl]
  · rw [df_un _ _ e, if_neg e]
-- counting below a bound
noncomputable def df_c (p : Nat → Prop) : Nat → Nat
  | 0 => 0
  | k + 1 => df_c p k + @ite Nat (p k) (Classical.propDecidable (p k)) 1 0
theorem df_c1 {p : Nat → Prop} {k : Nat} (h : p k) : df_c p (k + 1) = df_c p k + 1 := congrArg (df_c p k + ·) (if_pos h)
theorem df_c0 {p : Nat → Prop} {k : Nat} (h : ¬ p k) : df_c p (k + 1) = df_c p k := congrArg (df_c p k + ·) (if_neg h)
theorem df_c_le (p : Nat → Prop) (k : Nat) : df_c p k ≤ k := by
  induction k with
  | zero => exact Nat.le_refl 0
  | succ k ih =>
    rcases Classical.em (p k) with h | h
    · rw [df_c1 h]; omega
    · rw [df_c0 h]; omega
theorem df_c_mono {p q : Nat → Prop} (h : ∀ i, p i → q i) (k : Nat) : df_c p k ≤ df_c q k := by
  induction k with
  | zero => exact Nat.le_refl 0
  | succ k ih =>
    rcases Classical.em (p k) with a | a
    · rw [df_c1 a, df_c1 (h k a)]; omega
    · rw [df_c0 a]
      rcases Classical.em (q k) with b | b
      · rw [df_c1 b]; omega
      · rw [df_c0 b]; exact ih
theorem df_c_lt {p q : Nat → Prop} (h : ∀ i, p i → q i) {j : Nat} (hq : q j) (hp : ¬ p j) (k : Nat) (hj : j < k) : df_c p k < df_c q k := by
  induction k with
  | zero => omega
  | succ k ih =>
    rcases Nat.lt_or_ge j k with l | l
    · have t := ih l
      rcases Classical.em (p k) with a | a
      · rw [df_c1 a, df_c1 (h k a)]; omega
      · rw [df_c0 a]
        rcases Classical.em (q k) with b | b
        · rw [df_c1 b]; omega
        · rw [df_c0 b]; exact t
    · have e : j = k := by omega
      subst e
      rw [df_c0 hp, df_c1 hq]
      have t := df_c_mono h j
      omega
theorem df_c_pos {p : Nat → Prop} {j : Nat} (hj : p j) (k : Nat) (h : j < k) : 1 ≤ df_c p k := by
  have t := df_c_lt (p := fun _ => False) (q := p) (fun _ z => z.elim) hj id k h
  omega
-- a growing step, iterated
def df_it (f : (Nat → Prop) → Nat → Prop) (s : Nat → Prop) : Nat → Nat → Prop
  | 0 => s
  | k + 1 => f (df_it f s k)
theorem df_it_stay {f : (Nat → Prop) → Nat → Prop} {s : Nat → Prop} {m : Nat} (h : df_it f s (m + 1) = df_it f s m) (j : Nat) : df_it f s (m + j) = df_it f s m := by
  induction j with
  | zero => rfl
  | succ j ih =>
    show f (df_it f s (m + j)) = _
    rw [ih]; exact h
theorem df_it_mono {f : (Nat → Prop) → Nat → Prop} {s : Nat → Prop} (hm : ∀ p i, p i → f p i) (k j i : Nat) (h : df_it f s k i) : df_it f s (k + j) i := by
  induction j with
  | zero => exact h
  | succ j ih => exact hm _ _ ih
theorem df_it_cnt {f : (Nat → Prop) → Nat → Prop} {s : Nat → Prop} {N : Nat} (hm : ∀ p i, p i → f p i) (hb : ∀ k i, df_it f s k i → i < N) (k : Nat) :
    (∃ m, m < k ∧ df_it f s (m + 1) = df_it f s m) ∨ df_c s N + k ≤ df_c (df_it f s k) N := by
  induction k with
  | zero => exact Or.inr (Nat.le_refl _)
  | succ k ih =>
    rcases ih with ⟨m, h1, h2⟩ | ih
    · exact Or.inl ⟨m, by omega, h2⟩
    · rcases Classical.em (df_it f s (k + 1) = df_it f s k) with e | e
      · exact Or.inl ⟨k, by omega, e⟩
      · have hx : ∃ j, df_it f s (k + 1) j ∧ ¬ df_it f s k j := by
          apply Classical.byContradiction
          intro z
          apply e
          apply df_ext
          intro i
          constructor
          · intro a
            apply Classical.byContradiction
            intro b
            exact z ⟨i, a, b⟩
          · exact hm _ _
        obtain ⟨j, a, b⟩ := hx
        have t := df_c_lt (p := df_it f s k) (q := df_it f s (k + 1)) (hm _) a b N (hb _ _ a)
        exact Or.inr (by omega)
theorem df_it_end {f : (Nat → Prop) → Nat → Prop} {s : Nat → Prop} {N : Nat} (hm : ∀ p i, p i → f p i) (hb : ∀ k i, df_it f s k i → i < N) (e : Nat) (he : N ≤ df_c s N + e) (j : Nat) :
    df_it f s (e + j) = df_it f s e := by
  rcases df_it_cnt hm hb (e + 1) with ⟨m, h1, h2⟩ | h
  · have a := df_it_stay h2 (e - m)
    have b := df_it_stay h2 (e - m + j)
    rw [show m + (e - m) = e by omega] at a
    rw [show m + (e - m + j) = e + j by omega] at b
    rw [a, b]
  · have t := df_c_le (df_it f s (e + 1)) N
    omega
