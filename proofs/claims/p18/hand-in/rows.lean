section
-- truth as an int, sets as predicates, counts, a growing step
-- truth as an int, sets as predicates
noncomputable def df_b (p : Prop) : Int32 := @ite Int32 p (Classical.propDecidable p) 1 0
theorem df_b1 {p : Prop} (h : p) : df_b p = 1 := if_pos h
theorem df_b0 {p : Prop} (h : ¬ p) : df_b p = 0 := if_neg h
theorem df_bz {p : Prop} : df_b p = 0 ↔ ¬ p := ⟨fun e h => absurd ((df_b1 h).symm.trans e) (by decide), df_b0⟩
theorem df_bo {p : Prop} : df_b p = 1 ↔ p := by
  constructor
  · intro e
    rcases Classical.em p with h | h
    · exact h
    · exact absurd ((df_b0 h).symm.trans e) (by decide)
  · exact df_b1
theorem df_bc {p q : Prop} (h : p ↔ q) : df_b p = df_b q := congrArg df_b (propext h)
theorem df_bF : df_b False = 0 := df_b0 id
theorem df_ext {p q : Nat → Prop} (h : ∀ i, p i ↔ q i) : p = q := funext (fun i => propext (h i))
theorem df_bfun {p q : Nat → Prop} (h : ∀ i, p i ↔ q i) : (fun i => df_b (p i)) = (fun i => df_b (q i)) := funext (fun i => df_bc (h i))
-- stores
theorem df_us (f : Nat → Int32) (k : Nat) (x : Int32) : upd f k x k = x := if_pos rfl
theorem df_un (f : Nat → Int32) {k j : Nat} (x : Int32) (h : j ≠ k) : upd f k x j = f j := if_neg h
theorem df_upb (F : Nat → Prop) (k : Nat) (p : Prop) : upd (fun i => df_b (F i)) k (df_b p) = fun i => df_b ((i = k ∧ p) ∨ (i ≠ k ∧ F i)) := by
  funext j
  rcases Classical.em (j = k) with h | h
  · subst h
    rw [df_us]
    exact df_bc ⟨fun z => Or.inl ⟨rfl, z⟩, fun z => z.elim (fun a => a.2) (fun a => absurd rfl a.1)⟩
  · rw [df_un _ _ h]
    exact df_bc ⟨fun z => Or.inr ⟨h, z⟩, fun z => z.elim (fun a => absurd a.1 h) (fun a => a.2)⟩
theorem df_up1 (F : Nat → Prop) (k : Nat) : upd (fun i => df_b (F i)) k 1 = fun i => df_b (i = k ∨ F i) := by
  rw [← df_b1 True.intro, df_upb]
  exact df_bfun (fun i => ⟨fun z => z.elim (fun a => Or.inl a.1) (fun a => Or.inr a.2), fun z => by
    rcases Classical.em (i = k) with h | h
    · exact Or.inl ⟨h, True.intro⟩
    · exact Or.inr ⟨h, z.resolve_left h⟩⟩)
theorem df_up0 (F : Nat → Prop) (k : Nat) : upd (fun i => df_b (F i)) k 0 = fun i => df_b (i ≠ k ∧ F i) := by
  rw [← df_bF, df_upb]
  exact df_bfun (fun i => ⟨fun z => z.elim (fun a => a.2.elim) (fun a => a), fun z => Or.inr z⟩)
theorem df_upn (H : Nat → Nat) (k h : Nat) : upd (fun i => nI (H i)) k (nI h) = fun i => nI (if i = k then h else H i) := by
  funext j
  rcases Classical.em (j = k) with e | e
  · subst e; rw [df_us, if_pos rfl]
  · rw [df_un _ _ e, if_neg e]
-- counting below a bound
noncomputable def df_c (p : Nat → Prop) : Nat → Nat
  | 0 => 0
  | k + 1 => df_c p k + @ite Nat (p k) (Classical.propDecidable (p k)) 1 0
theorem df_c1 {p : Nat → Prop} {k : Nat} (h : p k) : df_c p (k + 1) = df_c p k + 1 := congrArg (df_c p k + ·) (if_pos h)
theorem df_c0 {p : Nat → Prop} {k : Nat} (h : ¬ p k) : df_c p (k + 1) = df_c p k := congrArg (df_c p k + ·) (if_neg h)
theorem df_c_le (p : Nat → Prop) (k : Nat) : df_c p k ≤ k := by
  induction k with
  | zero => exact Nat.le_refl 0
  | succ k ih =>
    rcases Classical.em (p k) with h | h
    · rw [df_c1 h]; omega
    · rw [df_c0 h]; omega
theorem df_c_mono {p q : Nat → Prop} (h : ∀ i, p i → q i) (k : Nat) : df_c p k ≤ df_c q k := by
  induction k with
  | zero => exact Nat.le_refl 0
  | succ k ih =>
    rcases Classical.em (p k) with a | a
    · rw [df_c1 a, df_c1 (h k a)]; omega
    · rw [df_c0 a]
      rcases Classical.em (q k) with b | b
      · rw [df_c1 b]; omega
      · rw [df_c0 b]; exact ih
theorem df_c_lt {p q : Nat → Prop} (h : ∀ i, p i → q i) {j : Nat} (hq : q j) (hp : ¬ p j) (k : Nat) (hj : j < k) : df_c p k < df_c q k := by
  induction k with
  | zero => omega
  | succ k ih =>
    rcases Nat.lt_or_ge j k with l | l
    · have t := ih l
      rcases Classical.em (p k) with a | a
      · rw [df_c1 a, df_c1 (h k a)]; omega
      · rw [df_c0 a]
        rcases Classical.em (q k) with b | b
        · rw [df_c1 b]; omega
        · rw [df_c0 b]; exact t
    · have e : j = k := by omega
      subst e
      rw [df_c0 hp, df_c1 hq]
      have t := df_c_mono h j
      omega
theorem df_c_pos {p : Nat → Prop} {j : Nat} (hj : p j) (k : Nat) (h : j < k) : 1 ≤ df_c p k := by
  have t := df_c_lt (p := fun _ => False) (q := p) (fun _ z => z.elim) hj id k h
  omega
-- a growing step, iterated
def df_it (f : (Nat → Prop) → Nat → Prop) (s : Nat → Prop) : Nat → Nat → Prop
  | 0 => s
  | k + 1 => f (df_it f s k)
theorem df_it_stay {f : (Nat → Prop) → Nat → Prop} {s : Nat → Prop} {m : Nat} (h : df_it f s (m + 1) = df_it f s m) (j : Nat) : df_it f s (m + j) = df_it f s m := by
  induction j with
  | zero => rfl
  | succ j ih =>
    show f (df_it f s (m + j)) = _
    rw [ih]; exact h
theorem df_it_mono {f : (Nat → Prop) → Nat → Prop} {s : Nat → Prop} (hm : ∀ p i, p i → f p i) (k j i : Nat) (h : df_it f s k i) : df_it f s (k + j) i := by
  induction j with
  | zero => exact h
  | succ j ih => exact hm _ _ ih
theorem df_it_cnt {f : (Nat → Prop) → Nat → Prop} {s : Nat → Prop} {N : Nat} (hm : ∀ p i, p i → f p i) (hb : ∀ k i, df_it f s k i → i < N) (k : Nat) :
    (∃ m, m < k ∧ df_it f s (m + 1) = df_it f s m) ∨ df_c s N + k ≤ df_c (df_it f s k) N := by
  induction k with
  | zero => exact Or.inr (Nat.le_refl _)
  | succ k ih =>
    rcases ih with ⟨m, h1, h2⟩ | ih
    · exact Or.inl ⟨m, by omega, h2⟩
    · rcases Classical.em (df_it f s (k + 1) = df_it f s k) with e | e
      · exact Or.inl ⟨k, by omega, e⟩
      · have hx : ∃ j, df_it f s (k + 1) j ∧ ¬ df_it f s k j := by
          apply Classical.byContradiction
          intro z
          apply e
          apply df_ext
          intro i
          constructor
          · intro a
            apply Classical.byContradiction
            intro b
            exact z ⟨i, a, b⟩
          · exact hm _ _
        obtain ⟨j, a, b⟩ := hx
        have t := df_c_lt (p := df_it f s k) (q := df_it f s (k + 1)) (hm _) a b N (hb _ _ a)
        exact Or.inr (by omega)
theorem df_it_end {f : (Nat → Prop) → Nat → Prop} {s : Nat → Prop} {N : Nat} (hm : ∀ p i, p i → f p i) (hb : ∀ k i, df_it f s k i → i < N) (e : Nat) (he : N ≤ df_c s N + e) (j : Nat) :
    df_it f s (e + j) = df_it f s e := by
  rcases df_it_cnt hm hb (e + 1) with ⟨m, h1, h2⟩ | h
  · have a := df_it_stay h2 (e - m)
    have b := df_it_stay h2 (e - m + j)
    rw [show m + (e - m) = e by omega] at a
    rw [show m + (e - m + j) = e + j by omega] at b
    rw [a, b]
  · have t := df_c_le (df_it f s (e + 1)) N
    omega
end
section
-- rows taken from the rows to paste (bits)
def bt (x : Int32) (i : Nat) : Bool := x.toBitVec.getLsbD i
theorem b_ext {x y : Int32} (h : ∀ i, i < 32 → bt x i = bt y i) : x = y := Int32.toBitVec_inj.mp (BitVec.eq_of_getLsbD_eq (fun i hi => h i hi))
theorem b_or (x y : Int32) (i : Nat) : bt (x ||| y) i = (bt x i || bt y i) := by unfold bt; rw [Int32.toBitVec_or, BitVec.getLsbD_or]
theorem b_and (x y : Int32) (i : Nat) : bt (x &&& y) i = (bt x i && bt y i) := by unfold bt; rw [Int32.toBitVec_and, BitVec.getLsbD_and]
theorem b_0 (i : Nat) : bt 0 i = false := BitVec.getLsbD_zero
theorem s_u : ∀ n, n < 32 → (((nI n).toUInt32 &&& Int32.toUInt32 31).toBitVec % 32).toNat = n := by decide +kernel
theorem b_ushr (n : Nat) (hn : n < 32) (x : Int32) (i : Nat) : bt ((x.toUInt32 >>> ((nI n).toUInt32 &&& Int32.toUInt32 31)).toInt32) i = bt x (n + i) := by
  show (x.toUInt32 >>> ((nI n).toUInt32 &&& Int32.toUInt32 31)).toBitVec.getLsbD i = x.toUInt32.toBitVec.getLsbD (n + i)
  rw [UInt32.toBitVec_shiftRight]
  show (x.toUInt32.toBitVec >>> (((nI n).toUInt32 &&& Int32.toUInt32 31).toBitVec % 32).toNat).getLsbD i = _
  rw [s_u n hn, BitVec.getLsbD_ushiftRight]
theorem nx_xor (a b : Nat) : nI a ^^^ nI b = nI (a ^^^ b) := by
  apply Int32.toBitVec_inj.1
  show BitVec.ofNat 32 a ^^^ BitVec.ofNat 32 b = BitVec.ofNat 32 (a ^^^ b)
  apply BitVec.eq_of_getLsbD_eq
  intro i hi
  simp [hi]
theorem ts_bit {w : Int64} {s : UInt64} {j : Nat} (hj : j < 64) (hs : s.toNat = j) : ((w.toUInt64 >>> s).toInt64 &&& 1) = 0 ↔ w.toBitVec.getLsbD j = false := by
  have e : (w.toUInt64 >>> s).toInt64.toBitVec = w.toBitVec >>> j := by
    apply BitVec.eq_of_toNat_eq
    show (w.toUInt64 >>> s).toNat = _
    rw [UInt64.toNat_shiftRight, hs, Nat.mod_eq_of_lt hj, BitVec.toNat_ushiftRight]
    rfl
  rw [← Int64.toBitVec_inj, Int64.toBitVec_and, e]
  show w.toBitVec >>> j &&& 1#64 = 0#64 ↔ _
  constructor
  · intro h
    have t := congrArg (fun x => x.getLsbD 0) h
    simpa using t
  · intro h
    apply BitVec.eq_of_getLsbD_eq
    intro i hi
    cases i with
    | zero => simp [h]
    | succ i => simp
theorem wb_cu : ∀ k, k < 64 → ((nI k).toInt64.toUInt64 &&& Int64.toUInt64 63) = UInt64.ofNat k := by decide +kernel
theorem u_tn {n : Nat} (h : n < 2 ^ 64) : (UInt64.ofNat n).toNat = n := Nat.mod_eq_of_lt h
-- bits of a long (df_l) and of an int (df_w) as predicates
def df_l (x : Int64) (i : Nat) : Prop := x.toBitVec.getLsbD i = true
def df_w (x : Int32) (i : Nat) : Prop := x.toBitVec.getLsbD i = true
theorem df_l_lt {x : Int64} {i : Nat} (h : df_l x i) : i < 64 := by
  rcases Nat.lt_or_ge i 64 with l | l
  · exact l
  · have t : x.toBitVec.getLsbD i = false := BitVec.getLsbD_of_ge _ _ l
    exact absurd (h.symm.trans t) (by decide)
theorem df_w_lt {x : Int32} {i : Nat} (h : df_w x i) : i < 32 := by
  rcases Nat.lt_or_ge i 32 with l | l
  · exact l
  · have t : x.toBitVec.getLsbD i = false := BitVec.getLsbD_of_ge _ _ l
    exact absurd (h.symm.trans t) (by decide)
theorem df_l_ext {x y : Int64} (h : ∀ i, df_l x i ↔ df_l y i) : x = y :=
  Int64.toBitVec_inj.mp (BitVec.eq_of_getLsbD_eq (fun i _ => Bool.eq_iff_iff.mpr (h i)))
theorem df_w_ext {x y : Int32} (h : ∀ i, df_w x i ↔ df_w y i) : x = y :=
  Int32.toBitVec_inj.mp (BitVec.eq_of_getLsbD_eq (fun i _ => Bool.eq_iff_iff.mpr (h i)))
theorem df_l_0 (i : Nat) : ¬ df_l 0 i := by
  intro h
  have l := df_l_lt h
  exact (by decide +kernel : ∀ i, i < 64 → ¬ ((0 : Int64).toBitVec.getLsbD i = true)) i l h
theorem df_w_0 (i : Nat) : ¬ df_w 0 i := by
  intro h
  have l := df_w_lt h
  exact (by decide +kernel : ∀ i, i < 32 → ¬ ((0 : Int32).toBitVec.getLsbD i = true)) i l h
theorem df_l_or (x y : Int64) (i : Nat) : df_l (x ||| y) i ↔ df_l x i ∨ df_l y i := by
  unfold df_l; rw [Int64.toBitVec_or, BitVec.getLsbD_or, Bool.or_eq_true]
theorem df_w_or (x y : Int32) (i : Nat) : df_w (x ||| y) i ↔ df_w x i ∨ df_w y i := by
  unfold df_w; rw [Int32.toBitVec_or, BitVec.getLsbD_or, Bool.or_eq_true]
theorem df_l_and (x y : Int64) (i : Nat) : df_l (x &&& y) i ↔ df_l x i ∧ df_l y i := by
  unfold df_l; rw [Int64.toBitVec_and, BitVec.getLsbD_and, Bool.and_eq_true]
-- one bit set
theorem df_l_sh : ∀ l, l < 64 → ((1 : Int64) <<< ((nI l).toInt64 &&& 63)).toBitVec = BitVec.twoPow 64 l := by decide +kernel
theorem df_w_sh : ∀ l, l < 32 → ((1 : Int32) <<< (nI l &&& 31)).toBitVec = BitVec.twoPow 32 l := by decide +kernel
theorem df_l_one {l : Nat} (hl : l < 64) (i : Nat) : df_l ((1 : Int64) <<< ((nI l).toInt64 &&& 63)) i ↔ i = l := by
  unfold df_l
  rw [df_l_sh l hl, BitVec.getLsbD_twoPow, Bool.and_eq_true, decide_eq_true_eq, decide_eq_true_eq]
  exact ⟨fun z => z.2.symm, fun z => ⟨hl, z.symm⟩⟩
theorem df_w_one {l : Nat} (hl : l < 32) (i : Nat) : df_w ((1 : Int32) <<< (nI l &&& 31)) i ↔ i = l := by
  unfold df_w
  rw [df_w_sh l hl, BitVec.getLsbD_twoPow, Bool.and_eq_true, decide_eq_true_eq, decide_eq_true_eq]
  exact ⟨fun z => z.2.symm, fun z => ⟨hl, z.symm⟩⟩
theorem df_l_put (x : Int64) {l : Nat} (hl : l < 64) (i : Nat) : df_l (x ||| ((1 : Int64) <<< ((nI l).toInt64 &&& 63))) i ↔ i = l ∨ df_l x i := by
  rw [df_l_or, df_l_one hl]; exact Or.comm
theorem df_w_put (x : Int32) {l : Nat} (hl : l < 32) (i : Nat) : df_w (x ||| ((1 : Int32) <<< (nI l &&& 31))) i ↔ i = l ∨ df_w x i := by
  rw [df_w_or, df_w_one hl]; exact Or.comm
-- one bit read (rests on ts_bit, wb_cu, u_tn and on s_u or nf_bit of the rows to paste)
theorem df_l_get (x : Int64) {l : Nat} (hl : l < 64) : ((x.toUInt64 >>> ((nI l).toInt64.toUInt64 &&& Int64.toUInt64 63)).toInt64 &&& 1) = 0 ↔ ¬ df_l x l := by
  have hs : ((nI l).toInt64.toUInt64 &&& Int64.toUInt64 63).toNat = l := by rw [wb_cu l hl]; exact u_tn (by omega)
  rw [ts_bit hl hs]
  unfold df_l
  exact ⟨fun a b => absurd (b.symm.trans a) (by decide), fun a => Bool.eq_false_iff.mpr a⟩
theorem df_w_get (x : Int32) {l : Nat} (hl : l < 32) : ((x.toUInt32 >>> ((nI l).toUInt32 &&& Int32.toUInt32 31)).toInt32 &&& 1) = 0 ↔ ¬ df_w x l := by
  have e : ((x.toUInt32 >>> ((nI l).toUInt32 &&& Int32.toUInt32 31)).toInt32 &&& 1) = 0 ↔ ¬ bt ((x.toUInt32 >>> ((nI l).toUInt32 &&& Int32.toUInt32 31)).toInt32) 0 = true := by
    generalize (x.toUInt32 >>> ((nI l).toUInt32 &&& Int32.toUInt32 31)).toInt32 = y
    constructor
    · intro h b
      have t := congrArg (fun z => bt z 0) h
      have t2 : bt (y &&& 1) 0 = (bt y 0 && bt 1 0) := b_and y 1 0
      have t3 : bt (0 : Int32) 0 = false := b_0 0
      have t4 : bt (1 : Int32) 0 = true := by decide
      have t5 : bt (y &&& 1) 0 = bt 0 0 := t
      rw [t2, t3, t4, b] at t5
      exact absurd t5 (by decide)
    · intro h
      apply b_ext
      intro i hi
      rw [b_and, b_0]
      rcases Nat.eq_zero_or_pos i with z | z
      · subst z
        rw [Bool.eq_false_iff.mpr h]; rfl
      · have t : bt (1 : Int32) i = false := (by decide +kernel : ∀ i, i < 32 → 0 < i → bt (1 : Int32) i = false) i hi z
        rw [t, Bool.and_false]
  rw [e, b_ushr l hl, Nat.add_zero]
  exact Iff.rfl
-- whole sets
theorem df_l_eq0 (x : Int64) : x = 0 ↔ ∀ i, ¬ df_l x i :=
  ⟨fun h i => h ▸ df_l_0 i, fun h => df_l_ext (fun i => ⟨fun z => absurd z (h i), fun z => absurd z (df_l_0 i)⟩)⟩
theorem df_l_not (x : Int64) {i : Nat} (hi : i < 64) : df_l (x ^^^ (-1)) i ↔ ¬ df_l x i := by
  unfold df_l
  have t : (-1 : Int64).toBitVec.getLsbD i = true := (by decide +kernel : ∀ i, i < 64 → (-1 : Int64).toBitVec.getLsbD i = true) i hi
  rw [Int64.toBitVec_xor, BitVec.getLsbD_xor, t, Bool.xor_true, Bool.not_eq_true']
  exact ⟨fun a b => absurd (b.symm.trans a) (by decide), fun a => Bool.eq_false_iff.mpr a⟩
theorem df_l_sub (b s : Int64) : (b &&& (s ^^^ (-1))) = 0 ↔ ∀ i, df_l b i → df_l s i := by
  rw [df_l_eq0]
  constructor
  · intro h i hb
    apply Classical.byContradiction
    intro hs
    exact h i ((df_l_and _ _ _).mpr ⟨hb, (df_l_not _ (df_l_lt hb)).mpr hs⟩)
  · intro h i hz
    obtain ⟨hb, hn⟩ := (df_l_and _ _ _).mp hz
    exact (df_l_not _ (df_l_lt hb)).mp hn (h i hb)
theorem df_l_dis (b s : Int64) : (b &&& s) = 0 ↔ ¬ ∃ i, df_l b i ∧ df_l s i := by
  rw [df_l_eq0]
  exact ⟨fun h ⟨i, a, c⟩ => h i ((df_l_and _ _ _).mpr ⟨a, c⟩), fun h i z => h ⟨i, (df_l_and _ _ _).mp z⟩⟩
-- the complement of a literal
theorem df_x1 : ∀ q, q < 64 → q ^^^ 1 < 64 := by decide +kernel
theorem df_x1I (q : Nat) : nI q ^^^ 1 = nI (q ^^^ 1) := nx_xor q 1
end
section
-- a theory as plain functions (F facts, K kinds, H heads, B bodies, R recorded pairs), the four tests, one round
section
variable (M n : Nat) (F : Nat → Prop) (K H : Nat → Int32) (B R : Nat → Nat → Prop)
def df_all (S : Nat → Prop) (t r : Nat) : Prop := ∀ q, B r q → S (t * 64 + q)
def df_som (S : Nat → Prop) (t r : Nat) : Prop := ∃ q, B r q ∧ S (t * 64 + q)
def df_str (r q : Nat) : Prop := H r = nI q ∧ K r = 0
def df_sup (r q : Nat) : Prop := H r = nI q ∧ ¬ K r = 2
-- the rule r proves q
def df_fD (S : Nat → Prop) (q r : Nat) : Prop := df_str K H r q ∧ df_all B S 0 r
def df_fd (S : Nat → Prop) (q r : Nat) : Prop := df_sup K H r q ∧ df_all B S 2 r
def df_pD (S : Nat → Prop) (q : Nat) : Prop := F q ∨ ∃ r, r < n ∧ df_fD K H B S q r
def df_mD (S : Nat → Prop) (q : Nat) : Prop := ¬ F q ∧ ∀ r, r < n → df_str K H r q → df_som B S 1 r
-- an attack s on q is beaten; an attack s on q could be beaten
def df_bea (S : Nat → Prop) (s q : Nat) : Prop := ∃ t, t < n ∧ df_sup K H t q ∧ df_all B S 2 t ∧ R t s
def df_can (S : Nat → Prop) (s q : Nat) : Prop := ∃ t, t < n ∧ df_sup K H t q ∧ ¬ df_som B S 3 t ∧ R t s
def df_eaf (S : Nat → Prop) (q : Nat) : Prop := ∀ s, s < n → H s = nI (q ^^^ 1) → ¬ df_som B S 3 s → df_bea n K H B R S s q
def df_esf (S : Nat → Prop) (q : Nat) : Prop := ∀ r, r < n → df_sup K H r q → df_som B S 3 r
def df_sas (S : Nat → Prop) (q : Nat) : Prop := ∃ s, s < n ∧ H s = nI (q ^^^ 1) ∧ df_all B S 2 s ∧ ¬ df_can n K H B R S s q
def df_pd (S : Nat → Prop) (q : Nat) : Prop := S q ∨ ((∃ r, r < n ∧ df_fd K H B S q r) ∧ S (64 + (q ^^^ 1)) ∧ df_eaf n K H B R S q)
def df_md (S : Nat → Prop) (q : Nat) : Prop := S (64 + q) ∧ (df_esf n K H B S q ∨ S (q ^^^ 1) ∨ df_sas n K H B R S q)
-- the test of tag t; all that a round tests; the round
def df_T (S : Nat → Prop) : Nat → Nat → Prop
  | 0 => df_pD n F K H B S
  | 1 => df_mD n F K H B S
  | 2 => df_pd n K H B R S
  | _ => df_md n K H B R S
def df_ts (S : Nat → Prop) (i : Nat) : Prop := i < 256 ∧ i % 64 < M ∧ df_T n F K H B R S (i / 64) (i % 64)
def df_st (S : Nat → Prop) (i : Nat) : Prop := S i ∨ df_ts M n F K H B R S i
def df_S0 : Nat → Prop := fun _ => False
def df_It (k : Nat) : Nat → Prop := df_it (df_st M n F K H B R) df_S0 k
def df_Fin : Nat → Prop := df_It M n F K H B R 300
theorem df_It_lt (k i : Nat) (h : df_It M n F K H B R k i) : i < 256 ∧ i % 64 < M := by
  induction k with
  | zero => exact h.elim
  | succ k ih =>
    rcases h with h | h
    · exact ih h
    · exact ⟨h.1, h.2.1⟩
theorem df_It_256 (j : Nat) : df_It M n F K H B R (256 + j) = df_It M n F K H B R 256 :=
  df_it_end (N := 256) (fun _ _ z => Or.inl z) (fun k i z => (df_It_lt M n F K H B R k i z).1) 256 (by omega) j
theorem df_It_257 : df_It M n F K H B R 257 = df_Fin M n F K H B R :=
  (df_It_256 M n F K H B R 1).trans (df_It_256 M n F K H B R 44).symm
theorem df_It_fix {m : Nat} (hm : m ≤ 300) (h : df_It M n F K H B R (m + 1) = df_It M n F K H B R m) : df_It M n F K H B R (m + 1) = df_Fin M n F K H B R := by
  have t : df_It M n F K H B R (m + (300 - m)) = df_It M n F K H B R m := df_it_stay h (300 - m)
  rw [show m + (300 - m) = 300 by omega] at t
  exact h.trans t.symm
theorem df_Fin_lt (i : Nat) (h : df_Fin M n F K H B R i) : i < 256 ∧ i % 64 < M := df_It_lt M n F K H B R 300 i h
end
-- the theory where it is equal below the rule count (used where a side's rows beyond it are stale)
-- the chain over recorded pairs: one widening, and its end
def df_wn (n : Nat) (R : Nat → Nat → Prop) (p : Nat → Prop) (s : Nat) : Prop := p s ∨ ∃ r, r < n ∧ p r ∧ R r s
def df_ch (n : Nat) (R : Nat → Nat → Prop) (a k : Nat) : Nat → Prop := df_it (df_wn n R) (fun i => i = a) k
theorem df_ch_lt {n : Nat} {R : Nat → Nat → Prop} {a : Nat} (ha : a < n) (hR : ∀ r s, r < n → R r s → s < n) (k i : Nat) (h : df_ch n R a k i) : i < n := by
  induction k generalizing i with
  | zero =>
    have e : i = a := h
    omega
  | succ k ih =>
    rcases h with h | ⟨r, h1, _, h3⟩
    · exact ih i h
    · exact hR r i h1 h3
theorem df_ch_end {n : Nat} {R : Nat → Nat → Prop} {a : Nat} (ha : a < n) (hR : ∀ r s, r < n → R r s → s < n) (j : Nat) : df_ch n R a (n - 1 + j) = df_ch n R a (n - 1) := by
  have c := df_c_pos (p := fun i => i = a) (j := a) rfl n ha
  exact df_it_end (N := n) (fun _ _ z => Or.inl z) (fun k i z => df_ch_lt ha hR k i z) (n - 1) (by omega) j
-- what the 33 passes of the other side keep between: at least k widenings, at most the end
theorem df_ch_cl {n : Nat} {R : Nat → Nat → Prop} {a : Nat} (ha : a < n) (hR : ∀ r s, r < n → R r s → s < n) {r s : Nat} (hr : r < n) (h : df_ch n R a (n - 1) r) (hs : R r s) : df_ch n R a (n - 1) s := by
  have e := df_ch_end ha hR 1
  rw [← e]
  exact Or.inr ⟨r, hr, h, hs⟩
theorem df_ch_sub {n : Nat} {R : Nat → Nat → Prop} {a : Nat} (ha : a < n) (hR : ∀ r s, r < n → R r s → s < n) (k : Nat) (hk : n ≤ k + 1) : df_ch n R a k = df_ch n R a (n - 1) := by
  have e := df_ch_end ha hR (k - (n - 1))
  rw [show n - 1 + (k - (n - 1)) = k by omega] at e
  exact e
-- four longs as one set of pairs (tag, literal): the pair at 64 * tag + literal
def df_pk (p0 p1 p2 p3 : Int64) : Nat → Int64
  | 0 => p0
  | 1 => p1
  | 2 => p2
  | _ => p3
def df_S (p0 p1 p2 p3 : Int64) (i : Nat) : Prop := i < 256 ∧ df_l (df_pk p0 p1 p2 p3 (i / 64)) (i % 64)
theorem df_S_at (p0 p1 p2 p3 : Int64) (t q : Nat) (ht : t < 4) (hq : q < 64) : df_S p0 p1 p2 p3 (t * 64 + q) ↔ df_l (df_pk p0 p1 p2 p3 t) q := by
  have e1 : (t * 64 + q) / 64 = t := by omega
  have e2 : (t * 64 + q) % 64 = q := by omega
  unfold df_S
  rw [e1, e2]
  exact ⟨fun z => z.2, fun z => ⟨by omega, z⟩⟩
theorem df_S_0 (p0 p1 p2 p3 : Int64) {q : Nat} (hq : q < 64) : df_S p0 p1 p2 p3 q ↔ df_l p0 q := by
  have t := df_S_at p0 p1 p2 p3 0 q (by omega) hq
  rw [show 0 * 64 + q = q by omega] at t
  exact t
theorem df_S_1 (p0 p1 p2 p3 : Int64) {q : Nat} (hq : q < 64) : df_S p0 p1 p2 p3 (64 + q) ↔ df_l p1 q := df_S_at p0 p1 p2 p3 1 q (by omega) hq
theorem df_S_2 (p0 p1 p2 p3 : Int64) {q : Nat} (hq : q < 64) : df_S p0 p1 p2 p3 (128 + q) ↔ df_l p2 q := df_S_at p0 p1 p2 p3 2 q (by omega) hq
theorem df_S_3 (p0 p1 p2 p3 : Int64) {q : Nat} (hq : q < 64) : df_S p0 p1 p2 p3 (192 + q) ↔ df_l p3 q := df_S_at p0 p1 p2 p3 3 q (by omega) hq
theorem df_S_z : df_S 0 0 0 0 = df_S0 := by
  apply df_ext
  intro i
  refine ⟨fun z => ?_, fun z => z.elim⟩
  have e : df_pk 0 0 0 0 (i / 64) = 0 := by
    generalize i / 64 = t
    match t with
    | 0 => rfl
    | 1 => rfl
    | 2 => rfl
    | _ + 3 => rfl
  have t := z.2
  rw [e] at t
  exact df_l_0 _ t
theorem df_S_inj {p0 p1 p2 p3 r0 r1 r2 r3 : Int64} (h : df_S p0 p1 p2 p3 = df_S r0 r1 r2 r3) : p0 = r0 ∧ p1 = r1 ∧ p2 = r2 ∧ p3 = r3 := by
  have key : ∀ t, t < 4 → df_pk p0 p1 p2 p3 t = df_pk r0 r1 r2 r3 t := by
    intro t ht
    apply df_l_ext
    intro i
    constructor
    · intro z
      have l := df_l_lt z
      have a := (df_S_at p0 p1 p2 p3 t i ht l).mpr z
      rw [h] at a
      exact (df_S_at r0 r1 r2 r3 t i ht l).mp a
    · intro z
      have l := df_l_lt z
      have a := (df_S_at r0 r1 r2 r3 t i ht l).mpr z
      rw [← h] at a
      exact (df_S_at p0 p1 p2 p3 t i ht l).mp a
  exact ⟨key 0 (by omega), key 1 (by omega), key 2 (by omega), key 3 (by omega)⟩
-- a round by its four longs
theorem df_S_step {M n : Nat} {F : Nat → Prop} {K H : Nat → Int32} {B R : Nat → Nat → Prop} {S : Nat → Prop} {p0 p1 p2 p3 r0 r1 r2 r3 : Int64} (hM : M ≤ 64) (hS : df_S p0 p1 p2 p3 = S)
    (h0 : ∀ j, df_l r0 j ↔ df_l p0 j ∨ (j < M ∧ df_T n F K H B R S 0 j)) (h1 : ∀ j, df_l r1 j ↔ df_l p1 j ∨ (j < M ∧ df_T n F K H B R S 1 j))
    (h2 : ∀ j, df_l r2 j ↔ df_l p2 j ∨ (j < M ∧ df_T n F K H B R S 2 j)) (h3 : ∀ j, df_l r3 j ↔ df_l p3 j ∨ (j < M ∧ df_T n F K H B R S 3 j)) :
    df_S r0 r1 r2 r3 = df_st M n F K H B R S := by
  have key : ∀ t, t < 4 → ∀ j, df_l (df_pk r0 r1 r2 r3 t) j ↔ df_l (df_pk p0 p1 p2 p3 t) j ∨ (j < M ∧ df_T n F K H B R S t j) := by
    intro t ht
    rcases (show t = 0 ∨ t = 1 ∨ t = 2 ∨ t = 3 by omega) with e | e | e | e
    · subst e; exact h0
    · subst e; exact h1
    · subst e; exact h2
    · subst e; exact h3
  apply df_ext
  intro i
  constructor
  · intro z
    rcases (key (i / 64) (by have := z.1; omega) (i % 64)).mp z.2 with a | a
    · left
      rw [← hS]
      exact ⟨z.1, a⟩
    · right
      exact ⟨z.1, a.1, a.2⟩
  · intro z
    rcases z with z | z
    · rw [← hS] at z
      exact ⟨z.1, (key (i / 64) (by have := z.1; omega) (i % 64)).mpr (Or.inl z.2)⟩
    · exact ⟨z.1, (key (i / 64) (by have := z.1; omega) (i % 64)).mpr (Or.inr ⟨z.2.1, z.2.2⟩)⟩
end
section
-- loops over a counter, as the walks print them (fuel, then the counter as a natural)
-- a scan that leaves at the first i with C i
theorem df_scan (W : Nat → Nat → Prop) (C : Nat → Prop) (n : Nat)
    (hx : (∀ r, r < n → ¬ C r) → ∀ m, W (m + 1) n)
    (hs : ∀ m i, i < n → (∀ r, r < i → ¬ C r) → (¬ C i → W m (i + 1)) → W (m + 1) i) : ∃ m, W m 0 := by
  have key : ∀ d i, i + d = n → (∀ r, r < i → ¬ C r) → W (d + 1) i := by
    intro d
    induction d with
    | zero =>
      intro i hi h
      have e : i = n := by omega
      subst e
      exact hx h 0
    | succ d ih =>
      intro i hi h
      exact hs (d + 1) i (by omega) h (fun hc => ih (i + 1) (by omega) (lt_s h hc))
  exact ⟨n + 1, key n 0 (by omega) lt_0⟩
-- a flag that C sets, from 0 to 1
theorem df_acc (W : Nat → Nat → Int32 → Prop) (C : Nat → Prop) (n : Nat)
    (hx : ∀ m, W (m + 1) n (df_b (∃ r, r < n ∧ C r)))
    (hs : ∀ m i x, i < n → (C i → W m (i + 1) 1) → (¬ C i → W m (i + 1) x) → W (m + 1) i x) : ∃ m, W m 0 0 := by
  have key : ∀ d i, i + d = n → W (d + 1) i (df_b (∃ r, r < i ∧ C r)) := by
    intro d
    induction d with
    | zero =>
      intro i hi
      have e : i = n := by omega
      subst e
      exact hx 0
    | succ d ih =>
      intro i hi
      refine hs (d + 1) i _ (by omega) (fun hc => ?_) (fun hc => ?_)
      · have t := ih (i + 1) (by omega)
        rw [df_b1 ⟨i, by omega, hc⟩] at t
        exact t
      · have t := ih (i + 1) (by omega)
        have e : (∃ r, r < i + 1 ∧ C r) ↔ (∃ r, r < i ∧ C r) :=
          ⟨fun ⟨r, a, b⟩ => ⟨r, by
            rcases Nat.lt_or_ge r i with l | l
            · exact l
            · exact absurd ((show r = i by omega) ▸ b) hc, b⟩, fun ⟨r, a, b⟩ => ⟨r, by omega, b⟩⟩
        rw [df_bc e] at t
        exact t
  have t := key n 0 (by omega)
  rw [df_b0 (fun ⟨r, a, _⟩ => absurd a (Nat.not_lt_zero r))] at t
  exact ⟨n + 1, t⟩
-- a flag that C clears, from 1 to 0
theorem df_acc0 (W : Nat → Nat → Int32 → Prop) (C : Nat → Prop) (n : Nat)
    (hx : ∀ m, W (m + 1) n (df_b (∀ r, r < n → ¬ C r)))
    (hs : ∀ m i x, i < n → (C i → W m (i + 1) 0) → (¬ C i → W m (i + 1) x) → W (m + 1) i x) : ∃ m, W m 0 1 := by
  have key : ∀ d i, i + d = n → W (d + 1) i (df_b (∀ r, r < i → ¬ C r)) := by
    intro d
    induction d with
    | zero =>
      intro i hi
      have e : i = n := by omega
      subst e
      exact hx 0
    | succ d ih =>
      intro i hi
      refine hs (d + 1) i _ (by omega) (fun hc => ?_) (fun hc => ?_)
      · have t := ih (i + 1) (by omega)
        rw [df_b0 (fun z => z i (by omega) hc)] at t
        exact t
      · have t := ih (i + 1) (by omega)
        have e : (∀ r, r < i + 1 → ¬ C r) ↔ (∀ r, r < i → ¬ C r) := ⟨fun z r a => z r (by omega), fun z => lt_s z hc⟩
        rw [df_bc e] at t
        exact t
  have t := key n 0 (by omega)
  rw [df_b1 lt_0] at t
  exact ⟨n + 1, t⟩
-- a count
theorem df_cnt (W : Nat → Nat → Int32 → Prop) (C : Nat → Prop) (n : Nat)
    (hx : ∀ m, W (m + 1) n (nI (df_c C n)))
    (hs : ∀ m i x, i < n → (C i → W m (i + 1) (x + 1)) → (¬ C i → W m (i + 1) x) → W (m + 1) i x) : ∃ m, W m 0 0 := by
  have key : ∀ d i, i + d = n → W (d + 1) i (nI (df_c C i)) := by
    intro d
    induction d with
    | zero =>
      intro i hi
      have e : i = n := by omega
      subst e
      exact hx 0
    | succ d ih =>
      intro i hi
      refine hs (d + 1) i _ (by omega) (fun hc => ?_) (fun hc => ?_)
      · have t := ih (i + 1) (by omega)
        rw [df_c1 hc, ← nI_1] at t
        exact t
      · have t := ih (i + 1) (by omega)
        rw [df_c0 hc] at t
        exact t
  exact ⟨n + 1, key n 0 (by omega)⟩
theorem df_c_cut {C : Nat → Prop} {a b : Nat} (h : a ≤ b) (hC : ∀ i, C i → i < a) : df_c C b = df_c C a := by
  obtain ⟨d, rfl⟩ : ∃ d, b = a + d := ⟨b - a, by omega⟩
  clear h
  induction d with
  | zero => rfl
  | succ d ih => exact (df_c0 (k := a + d) (fun z => absurd (hC _ z) (by omega))).trans ih
theorem df_c_eq {C D : Nat → Prop} (h : ∀ i, C i ↔ D i) (n : Nat) : df_c C n = df_c D n := by rw [df_ext h]
-- a state carried by an invariant: W fuel counter state
theorem df_loop {σ : Type} (W : Nat → Nat → σ → Prop) (I : Nat → σ → Prop) (n : Nat)
    (hx : ∀ m s, I n s → W (m + 1) n s)
    (hs : ∀ m i s, i < n → I i s → (∀ s', I (i + 1) s' → W m (i + 1) s') → W (m + 1) i s) (s : σ) (h0 : I 0 s) : ∃ m, W m 0 s :=
  loop_0 W I n s h0 hx hs
end
section
-- helpers at the seam: a branch on a truth, an answer that is a truth
theorem df_br {p A B : Prop} (a : ¬ p → A) (b : p → B) : (df_b p = 0 → A) ∧ (¬ df_b p = 0 → B) :=
  ⟨fun z => a (df_bz.mp z), fun z => b (Classical.byContradiction (fun y => z (df_b0 y)))⟩
theorem df_if {c d A B : Prop} (e : c ↔ d) (f : d → A) (g : ¬ d → B) : (c → A) ∧ (¬ c → B) := ⟨fun z => f (e.mp z), fun z => g (fun y => z (e.mpr y))⟩
theorem df_p0 {post : Int32 → Prop} {p : Prop} (hn : ¬ p) (hp : post (df_b p)) : post 0 := df_b0 hn ▸ hp
theorem df_p1 {post : Int32 → Prop} {p : Prop} (hn : p) (hp : post (df_b p)) : post 1 := df_b1 hn ▸ hp
def df_v (m : Nat) (x : Int32) : Prop := ∃ j, j < m ∧ x = nI j
theorem df_v1 {m j : Nat} (h : j < m) : df_v m (nI j) := ⟨j, h, rfl⟩
theorem df_v_neg {m : Nat} {x : Int32} (hm : m < 2 ^ 31) (h : x < 0) : ¬ df_v m x := by
  rintro ⟨j, hj, rfl⟩
  exact nI_pos (by omega) h
theorem df_v_big {m : Nat} {x : Int32} (hm : m < 2 ^ 31) (h : nI m ≤ x) : ¬ df_v m x := by
  rintro ⟨j, hj, rfl⟩
  exact nI_ge hj hm h
theorem df_v_in {m : Nat} {x : Int32} (hm : m < 2 ^ 31) (h : ¬ x < 0) (h2 : ¬ nI m ≤ x) : df_v m x := by
  obtain ⟨j, hj, rfl⟩ := nI_of h
  refine ⟨j, ?_, rfl⟩
  rw [nI_leI hm hj] at h2
  omega
theorem df_v_ub {m j : Nat} (hm : m < 2 ^ 31) (hj : j < 2 ^ 31) (h : df_v m (nI j)) : j < m := by
  obtain ⟨i, hi, e⟩ := h
  rw [nI_eq hj (by omega)] at e
  omega
theorem df_v4_big {x : Int32} (h : 3 < x) : ¬ df_v 4 x := by
  rintro ⟨j, hj, rfl⟩
  have t : nI 3 < nI j := h
  rw [nI_ltI (by omega) (by omega)] at t
  omega
theorem df_v4_in {x : Int32} (h : ¬ x < 0) (h2 : ¬ 3 < x) : df_v 4 x := by
  obtain ⟨j, hj, rfl⟩ := nI_of h
  refine ⟨j, ?_, rfl⟩
  have t : ¬ nI 3 < nI j := h2
  rw [nI_ltI (by omega) hj] at t
  omega
theorem df_m1 {r : Nat} (h : r < 2 ^ 31) : ¬ nI r = -1 := fun e => nI_pos h (e ▸ (by decide : (-1 : Int32) < 0))
theorem df_ne_lt {r i : Nat} (h : r < i + 1) (g : ¬ r = i) : r < i := by omega
section
variable (M n : Nat) (rl : Int32) (fa : Int64) (c : Int32) (p0 p1 p2 p3 : Int64) (K H bs bl : Nat → Int32) (bS : Nat → Int64) (wS : Nat → Int32)
theorem dx_contains (post : Int32 → Prop) (s : Int64) {l : Nat} (hl : l < 64) (hp : post (df_b (df_l s l))) : wpX_contains post () s (nI l) :=
  df_if (df_l_get s hl) (fun h => (df_p0 h hp)) (fun h => (df_p1 (Classical.not_not.mp h) hp))
theorem dx_containsX (post : Int32 → Prop) (s : Int64) {l : Nat} (x : Int32) (hx : x = nI l) (hl : l < 64) (hp : post (df_b (df_l s l))) : wpX_contains post () s x := by
  subst hx
  exact dx_contains post s hl hp
theorem dx_isLiteral (post : Int32 → Prop) (x : Int32) (hM : M ≤ 64) (hp : post (df_b (df_v M x))) : wpX_isLiteral post (nI M, rl, fa, nI n, c, p0, p1, p2, p3, K, H, bs, bl, bS, wS) x :=
  br_c (fun h => (df_p0 (df_v_neg (by omega) h) hp)) (fun h => br_c (fun h2 => (df_p0 (df_v_big (by omega) h2) hp)) (fun h2 => (df_p1 (df_v_in (by omega) h h2) hp)))
theorem dx_isRule (post : Int32 → Prop) (x : Int32) (hn : n ≤ 32) (hp : post (df_b (df_v n x))) : wpX_isRule post (nI M, rl, fa, nI n, c, p0, p1, p2, p3, K, H, bs, bl, bS, wS) x :=
  br_c (fun h => (df_p0 (df_v_neg (by omega) h) hp)) (fun h => br_c (fun h2 => (df_p0 (df_v_big (by omega) h2) hp)) (fun h2 => (df_p1 (df_v_in (by omega) h h2) hp)))
theorem dx_isKind (post : Int32 → Prop) (x : Int32) (hp : post (df_b (x = 0 ∨ x = 1 ∨ x = 2))) : wpX_isKind post () x :=
  br_c (fun h => (df_p1 (Or.inl h) hp)) (fun h => br_c (fun h2 => (df_p1 (Or.inr (Or.inl h2)) hp)) (fun h2 => br_c (fun h3 => (df_p1 (Or.inr (Or.inr h3)) hp))
    (fun h3 => (df_p0 (fun z => z.elim h (fun y => y.elim h2 h3)) hp))))
theorem dx_isTag (post : Int32 → Prop) (x : Int32) (hp : post (df_b (df_v 4 x))) : wpX_isTag post () x :=
  br_c (fun h => (df_p0 (df_v_neg (by omega) h) hp)) (fun h => br_c (fun h2 => (df_p0 (df_v4_big h2) hp)) (fun h2 => (df_p1 (df_v4_in h h2) hp)))
theorem dx_sizeOf (post : Int32 → Prop) (s : Int64) (hp : post (nI (df_c (df_l s) 64))) : wpX_sizeOf post () s :=
  df_cnt (fun m i x => wX_sizeOf_4 post s m x (nI i)) (df_l s) 64
    (fun m => br_t (nI_le (a := 64) (b := 64) (by omega) (by omega)) hp)
    (fun m i x hi ht hf => br_f (nI_ge (b := 64) hi (by omega)) (dx_contains _ s hi (df_br (fun h => nm_r (nI_1 i) (hf h)) (fun h => nm_e (nm_r (nI_1 i) (ht h))))))
theorem dx_isRecorded (post : Int32 → Prop) {r s : Nat} (hr : r < 32) (hs : s < 32) (hp : post (df_b (df_w (wS r) s))) : wpX_isRecorded post (nI M, rl, fa, nI n, c, p0, p1, p2, p3, K, H, bs, bl, bS, wS) (nI r) (nI s) :=
  ⟨vp_in_nI hr (by decide), df_if (by rw [nI_clamp (n := r) (by omega)]; exact df_w_get (wS r) hs) (fun h => (df_p0 h hp)) (fun h => (df_p1 (Classical.not_not.mp h) hp))⟩
theorem dx_isStrictFor (post : Int32 → Prop) {r q : Nat} (hr : r < 32) (hp : post (df_b (df_str K H r q))) : wpX_isStrictFor post (nI M, rl, fa, nI n, c, p0, p1, p2, p3, K, H, bs, bl, bS, wS) (nI r) (nI q) :=
  ⟨vp_in_nI hr (by decide), df_if (d := H r = nI q) (by rw [nI_clamp (n := r) (by omega)]) (fun h => ⟨vp_in_nI hr (by decide), df_if (d := K r = 0) (by rw [nI_clamp (n := r) (by omega)])
    (fun h2 => (df_p1 ⟨h, h2⟩ hp)) (fun h2 => (df_p0 (fun z => h2 z.2) hp))⟩) (fun h => (df_p0 (fun z => h z.1) hp))⟩
theorem dx_canSupport (post : Int32 → Prop) {r q : Nat} (hr : r < 32) (hp : post (df_b (df_sup K H r q))) : wpX_canSupport post (nI M, rl, fa, nI n, c, p0, p1, p2, p3, K, H, bs, bl, bS, wS) (nI r) (nI q) :=
  ⟨vp_in_nI hr (by decide), df_if (d := H r = nI q) (by rw [nI_clamp (n := r) (by omega)]) (fun h => ⟨vp_in_nI hr (by decide), df_if (d := K r = 2) (by rw [nI_clamp (n := r) (by omega)])
    (fun h2 => (df_p0 (fun z => z.2 h2) hp)) (fun h2 => (df_p1 ⟨h, h2⟩ hp))⟩) (fun h => (df_p0 (fun z => h z.1) hp))⟩
-- bodies against the four longs
def df_R (wS : Nat → Int32) (r s : Nat) : Prop := df_w (wS r) s
def df_B (bS : Nat → Int64) (r q : Nat) : Prop := df_l (bS r) q
theorem df_all_x {t r : Nat} (ht : t < 4) : (bS r &&& (df_pk p0 p1 p2 p3 t ^^^ (-1))) = 0 ↔ df_all (df_B bS) (df_S p0 p1 p2 p3) t r := by
  rw [df_l_sub]
  exact ⟨fun h q hq => (df_S_at p0 p1 p2 p3 t q ht (df_l_lt hq)).mpr (h q hq), fun h q hq => (df_S_at p0 p1 p2 p3 t q ht (df_l_lt hq)).mp (h q hq)⟩
theorem df_som_x {t r : Nat} (ht : t < 4) : (bS r &&& df_pk p0 p1 p2 p3 t) = 0 ↔ ¬ df_som (df_B bS) (df_S p0 p1 p2 p3) t r := by
  rw [df_l_dis]
  exact ⟨fun h ⟨q, hq, hs⟩ => h ⟨q, hq, (df_S_at p0 p1 p2 p3 t q ht (df_l_lt hq)).mp hs⟩, fun h ⟨q, hq, hs⟩ => h ⟨q, hq, (df_S_at p0 p1 p2 p3 t q ht (df_l_lt hq)).mpr hs⟩⟩
theorem dx_isApplicable (post : Int32 → Prop) {r : Nat} (hr : r < 32) (hp : post (df_b (df_all (df_B bS) (df_S p0 p1 p2 p3) 2 r))) : wpX_isApplicable post (nI M, rl, fa, nI n, c, p0, p1, p2, p3, K, H, bs, bl, bS, wS) (nI r) :=
  ⟨vp_in_nI hr (by decide), df_if (by rw [nI_clamp (n := r) (by omega)]; exact df_all_x p0 p1 p2 p3 bS (t := 2) (by omega)) (fun h => (df_p1 h hp)) (fun h => (df_p0 h hp))⟩
theorem dx_isDiscarded (post : Int32 → Prop) {r : Nat} (hr : r < 32) (hp : post (df_b (df_som (df_B bS) (df_S p0 p1 p2 p3) 3 r))) : wpX_isDiscarded post (nI M, rl, fa, nI n, c, p0, p1, p2, p3, K, H, bs, bl, bS, wS) (nI r) :=
  ⟨vp_in_nI hr (by decide), df_if (by rw [nI_clamp (n := r) (by omega)]; exact df_som_x p0 p1 p2 p3 bS (t := 3) (by omega)) (fun h => (df_p0 h hp)) (fun h => (df_p1 (Classical.not_not.mp h) hp))⟩
theorem dx_firstDefiniteProof (post : Int32 → Prop) {q : Nat} (hn : n ≤ 32)
    (hy : ∀ r, r < n → df_fD K H (df_B bS) (df_S p0 p1 p2 p3) q r → (∀ s, s < r → ¬ df_fD K H (df_B bS) (df_S p0 p1 p2 p3) q s) → post (nI r))
    (ho : (∀ r, r < n → ¬ df_fD K H (df_B bS) (df_S p0 p1 p2 p3) q r) → post (-1)) : wpX_firstDefiniteProof post (nI M, rl, fa, nI n, c, p0, p1, p2, p3, K, H, bs, bl, bS, wS) (nI q) :=
  df_scan (fun m i => wX_firstDefiniteProof_2 post (nI q) (nI M) rl fa (nI n) c p0 p1 p2 p3 K H bs bl bS wS m (nI i)) (df_fD K H (df_B bS) (df_S p0 p1 p2 p3) q) n
    (fun h m => br_t (nI_le (Nat.le_refl n) (by omega)) (ho h))
    (fun m i hi h k => br_f (nI_ge hi (by omega)) (dx_isStrictFor M n rl fa c p0 p1 p2 p3 K H bs bl bS wS _ (r := i) (by omega) (df_br (fun a => nm_r (nI_1 i) (k (fun z => a z.1)))
      (fun a => ⟨vp_in_nI (by omega) (by decide), df_if (by rw [nI_clamp (n := i) (by omega)]; exact df_all_x p0 p1 p2 p3 bS (t := 0) (by omega)) (fun b => hy i hi ⟨a, b⟩ h) (fun b => nm_r (nI_1 i) (k (fun z => b z.2)))⟩))))
theorem dx_firstSupport (post : Int32 → Prop) {q : Nat} (hn : n ≤ 32)
    (hy : ∀ r, r < n → df_fd K H (df_B bS) (df_S p0 p1 p2 p3) q r → (∀ s, s < r → ¬ df_fd K H (df_B bS) (df_S p0 p1 p2 p3) q s) → post (nI r))
    (ho : (∀ r, r < n → ¬ df_fd K H (df_B bS) (df_S p0 p1 p2 p3) q r) → post (-1)) : wpX_firstSupport post (nI M, rl, fa, nI n, c, p0, p1, p2, p3, K, H, bs, bl, bS, wS) (nI q) :=
  df_scan (fun m i => wX_firstSupport_2 post (nI q) (nI M) rl fa (nI n) c p0 p1 p2 p3 K H bs bl bS wS m (nI i)) (df_fd K H (df_B bS) (df_S p0 p1 p2 p3) q) n
    (fun h m => br_t (nI_le (Nat.le_refl n) (by omega)) (ho h))
    (fun m i hi h k => br_f (nI_ge hi (by omega)) (dx_canSupport M n rl fa c p0 p1 p2 p3 K H bs bl bS wS _ (r := i) (by omega) (df_br (fun a => nm_r (nI_1 i) (k (fun z => a z.1)))
      (fun a => dx_isApplicable M n rl fa c p0 p1 p2 p3 K H bs bl bS wS _ (r := i) (by omega) (df_br (fun b => nm_r (nI_1 i) (k (fun z => b z.2))) (fun b => hy i hi ⟨a, b⟩ h))))))
theorem dx_everySupportFails (post : Int32 → Prop) {q : Nat} (hn : n ≤ 32) (hp : post (df_b (df_esf n K H (df_B bS) (df_S p0 p1 p2 p3) q))) : wpX_everySupportFails post (nI M, rl, fa, nI n, c, p0, p1, p2, p3, K, H, bs, bl, bS, wS) (nI q) :=
  df_scan (fun m i => wX_everySupportFails_2 post (nI q) (nI M) rl fa (nI n) c p0 p1 p2 p3 K H bs bl bS wS m (nI i)) (fun r => df_sup K H r q ∧ ¬ df_som (df_B bS) (df_S p0 p1 p2 p3) 3 r) n
    (fun h m => br_t (nI_le (Nat.le_refl n) (by omega)) (df_p1 (fun r hr a => Classical.byContradiction (fun b => h r hr ⟨a, b⟩)) hp))
    (fun m i hi h k => br_f (nI_ge hi (by omega)) (dx_canSupport M n rl fa c p0 p1 p2 p3 K H bs bl bS wS _ (r := i) (by omega) (df_br (fun a => nm_r (nI_1 i) (k (fun z => a z.1)))
      (fun a => dx_isDiscarded M n rl fa c p0 p1 p2 p3 K H bs bl bS wS _ (r := i) (by omega) (df_br (fun b => df_p0 (fun z => b (z i hi a)) hp) (fun b => nm_r (nI_1 i) (k (fun z => z.2 b))))))))
theorem dx_isBeaten (post : Int32 → Prop) {s q : Nat} (hs : s < 32) (hn : n ≤ 32) (hp : post (df_b (df_bea n K H (df_B bS) (df_R wS) (df_S p0 p1 p2 p3) s q))) : wpX_isBeaten post (nI M, rl, fa, nI n, c, p0, p1, p2, p3, K, H, bs, bl, bS, wS) (nI s) (nI q) :=
  df_scan (fun m i => wX_isBeaten_2 post (nI s) (nI q) (nI M) rl fa (nI n) c p0 p1 p2 p3 K H bs bl bS wS m (nI i)) (fun r => df_sup K H r q ∧ df_all (df_B bS) (df_S p0 p1 p2 p3) 2 r ∧ df_w (wS r) s) n
    (fun h m => br_t (nI_le (Nat.le_refl n) (by omega)) (df_p0 (fun ⟨r, hr, a⟩ => h r hr a) hp))
    (fun m i hi h k => br_f (nI_ge hi (by omega)) (dx_canSupport M n rl fa c p0 p1 p2 p3 K H bs bl bS wS _ (r := i) (by omega) (df_br (fun a => nm_r (nI_1 i) (k (fun z => a z.1)))
      (fun a => dx_isApplicable M n rl fa c p0 p1 p2 p3 K H bs bl bS wS _ (r := i) (by omega) (df_br (fun b => nm_r (nI_1 i) (k (fun z => b z.2.1)))
        (fun b => dx_isRecorded M n rl fa c p0 p1 p2 p3 K H bs bl bS wS _ (r := i) (by omega) hs (df_br (fun d => nm_r (nI_1 i) (k (fun z => d z.2.2))) (fun d => df_p1 ⟨i, hi, a, b, d⟩ hp))))))))
theorem dx_canBeBeaten (post : Int32 → Prop) {s q : Nat} (hs : s < 32) (hn : n ≤ 32) (hp : post (df_b (df_can n K H (df_B bS) (df_R wS) (df_S p0 p1 p2 p3) s q))) : wpX_canBeBeaten post (nI M, rl, fa, nI n, c, p0, p1, p2, p3, K, H, bs, bl, bS, wS) (nI s) (nI q) :=
  df_scan (fun m i => wX_canBeBeaten_2 post (nI s) (nI q) (nI M) rl fa (nI n) c p0 p1 p2 p3 K H bs bl bS wS m (nI i)) (fun r => df_sup K H r q ∧ ¬ df_som (df_B bS) (df_S p0 p1 p2 p3) 3 r ∧ df_w (wS r) s) n
    (fun h m => br_t (nI_le (Nat.le_refl n) (by omega)) (df_p0 (fun ⟨r, hr, a⟩ => h r hr a) hp))
    (fun m i hi h k => br_f (nI_ge hi (by omega)) (dx_canSupport M n rl fa c p0 p1 p2 p3 K H bs bl bS wS _ (r := i) (by omega) (df_br (fun a => nm_r (nI_1 i) (k (fun z => a z.1)))
      (fun a => dx_isDiscarded M n rl fa c p0 p1 p2 p3 K H bs bl bS wS _ (r := i) (by omega) (df_br
        (fun b => dx_isRecorded M n rl fa c p0 p1 p2 p3 K H bs bl bS wS _ (r := i) (by omega) hs (df_br (fun d => nm_r (nI_1 i) (k (fun z => d z.2.2))) (fun d => df_p1 ⟨i, hi, a, b, d⟩ hp)))
        (fun b => nm_r (nI_1 i) (k (fun z => z.2.1 b))))))))
theorem dx_everyAttackFails (post : Int32 → Prop) {q : Nat} (hn : n ≤ 32) (hp : post (df_b (df_eaf n K H (df_B bS) (df_R wS) (df_S p0 p1 p2 p3) q))) : wpX_everyAttackFails post (nI M, rl, fa, nI n, c, p0, p1, p2, p3, K, H, bs, bl, bS, wS) (nI q) :=
  df_scan (fun m i => wX_everyAttackFails_2 post (nI q) (nI M) rl fa (nI n) c p0 p1 p2 p3 K H bs bl bS wS m (nI i)) (fun s => H s = nI (q ^^^ 1) ∧ ¬ df_som (df_B bS) (df_S p0 p1 p2 p3) 3 s ∧ ¬ df_bea n K H (df_B bS) (df_R wS) (df_S p0 p1 p2 p3) s q) n
    (fun h m => br_t (nI_le (Nat.le_refl n) (by omega)) (df_p1 (fun s hs a b => Classical.byContradiction (fun d => h s hs ⟨a, b, d⟩)) hp))
    (fun m i hi h k => br_f (nI_ge hi (by omega)) ⟨vp_in_nI (by omega) (by decide), df_if (d := H i = nI (q ^^^ 1)) (by rw [nI_clamp (n := i) (by omega), df_x1I]) 
      (fun a => dx_isDiscarded M n rl fa c p0 p1 p2 p3 K H bs bl bS wS _ (r := i) (by omega) (df_br
        (fun b => dx_isBeaten M n rl fa c p0 p1 p2 p3 K H bs bl bS wS _ (s := i) (by omega) hn (df_br (fun d => df_p0 (fun z => d (z i hi a b)) hp) (fun d => nm_r (nI_1 i) (k (fun z => z.2.2 d)))))
        (fun b => nm_r (nI_1 i) (k (fun z => z.2.1 b)))))
      (fun a => nm_r (nI_1 i) (k (fun z => a z.1)))⟩)
theorem dx_someAttackStands (post : Int32 → Prop) {q : Nat} (hn : n ≤ 32) (hp : post (df_b (df_sas n K H (df_B bS) (df_R wS) (df_S p0 p1 p2 p3) q))) : wpX_someAttackStands post (nI M, rl, fa, nI n, c, p0, p1, p2, p3, K, H, bs, bl, bS, wS) (nI q) :=
  df_scan (fun m i => wX_someAttackStands_2 post (nI q) (nI M) rl fa (nI n) c p0 p1 p2 p3 K H bs bl bS wS m (nI i)) (fun s => H s = nI (q ^^^ 1) ∧ df_all (df_B bS) (df_S p0 p1 p2 p3) 2 s ∧ ¬ df_can n K H (df_B bS) (df_R wS) (df_S p0 p1 p2 p3) s q) n
    (fun h m => br_t (nI_le (Nat.le_refl n) (by omega)) (df_p0 (fun ⟨s, hs, a⟩ => h s hs a) hp))
    (fun m i hi h k => br_f (nI_ge hi (by omega)) ⟨vp_in_nI (by omega) (by decide), df_if (d := H i = nI (q ^^^ 1)) (by rw [nI_clamp (n := i) (by omega), df_x1I])
      (fun a => dx_isApplicable M n rl fa c p0 p1 p2 p3 K H bs bl bS wS _ (r := i) (by omega) (df_br
        (fun b => nm_r (nI_1 i) (k (fun z => b z.2.1)))
        (fun b => dx_canBeBeaten M n rl fa c p0 p1 p2 p3 K H bs bl bS wS _ (s := i) (by omega) hn (df_br (fun d => df_p1 ⟨i, hi, a, b, d⟩ hp) (fun d => nm_r (nI_1 i) (k (fun z => z.2.2 d)))))))
      (fun a => nm_r (nI_1 i) (k (fun z => a z.1)))⟩)
end
end
section
section
variable (M n : Nat) (rl : Int32) (fa : Int64) (c : Int32) (p0 p1 p2 p3 : Int64) (K H bs bl : Nat → Int32) (bS : Nat → Int64) (wS : Nat → Int32)
theorem dx_passesPlusDefinite (post : Int32 → Prop) {q : Nat} (hq : q < 64) (hn : n ≤ 32) (hp : post (df_b (df_pD n (df_l fa) K H (df_B bS) (df_S p0 p1 p2 p3) q))) : wpX_passesPlusDefinite post (nI M, rl, fa, nI n, c, p0, p1, p2, p3, K, H, bs, bl, bS, wS) (nI q) := by
  unfold wpX_passesPlusDefinite
  exact dx_contains _ fa hq (df_br
    (fun a => dx_firstDefiniteProof M n rl fa c p0 p1 p2 p3 K H bs bl bS wS _ hn
      (fun r hr b _ => br_f (df_m1 (by omega)) (df_p1 (Or.inr ⟨r, hr, b⟩) hp))
      (fun b => br_t rfl (df_p0 (fun z => z.elim a (fun ⟨r, hr, d⟩ => b r hr d)) hp)))
    (fun a => (df_p1 (Or.inl a) hp)))
theorem dx_passesMinusDefinite (post : Int32 → Prop) {q : Nat} (hq : q < 64) (hn : n ≤ 32) (hp : post (df_b (df_mD n (df_l fa) K H (df_B bS) (df_S p0 p1 p2 p3) q))) : wpX_passesMinusDefinite post (nI M, rl, fa, nI n, c, p0, p1, p2, p3, K, H, bs, bl, bS, wS) (nI q) := by
  unfold wpX_passesMinusDefinite
  exact dx_contains _ fa hq (df_br
    (fun f => df_scan (fun m i => wX_passesMinusDefinite_15 post (nI q) (nI M) rl fa (nI n) c p0 p1 p2 p3 K H bs bl bS wS m (nI i)) (fun r => df_str K H r q ∧ ¬ df_som (df_B bS) (df_S p0 p1 p2 p3) 1 r) n
      (fun h m => br_t (nI_le (Nat.le_refl n) (by omega)) (df_p1 ⟨f, fun r hr a => Classical.byContradiction (fun b => h r hr ⟨a, b⟩)⟩ hp))
      (fun m i hi h k => br_f (nI_ge hi (by omega)) (dx_isStrictFor M n rl fa c p0 p1 p2 p3 K H bs bl bS wS _ (r := i) (by omega) (df_br (fun a => nm_r (nI_1 i) (k (fun z => a z.1)))
        (fun a => ⟨vp_in_nI (by omega) (by decide), df_if (by rw [nI_clamp (n := i) (by omega)]; exact df_som_x p0 p1 p2 p3 bS (t := 1) (by omega)) (fun b => df_p0 (fun z => b (z.2 i hi a)) hp) (fun b => nm_r (nI_1 i) (k (fun z => b z.2)))⟩)))))
    (fun f => df_p0 (fun z => z.1 f) hp))
theorem dx_passesPlusDefeasible (post : Int32 → Prop) {q : Nat} (hq : q < 64) (hn : n ≤ 32) (hp : post (df_b (df_pd n K H (df_B bS) (df_R wS) (df_S p0 p1 p2 p3) q))) : wpX_passesPlusDefeasible post (nI M, rl, fa, nI n, c, p0, p1, p2, p3, K, H, bs, bl, bS, wS) (nI q) := by
  unfold wpX_passesPlusDefeasible
  exact dx_contains _ p0 hq (df_br
    (fun a => dx_firstSupport M n rl fa c p0 p1 p2 p3 K H bs bl bS wS _ hn
      (fun r hr b _ => br_f (df_m1 (by omega)) ((dx_containsX _ p1 (nI q ^^^ 1) (df_x1I q) (df_x1 q hq) (df_br
        (fun d => (df_p0 (fun z => z.elim (fun y => a ((df_S_0 p0 p1 p2 p3 hq).mp y)) (fun y => d ((df_S_1 p0 p1 p2 p3 (df_x1 q hq)).mp y.2.1))) hp))
        (fun d => dx_everyAttackFails M n rl fa c p0 p1 p2 p3 K H bs bl bS wS _ hn (df_br
          (fun e => (df_p0 (fun z => z.elim (fun y => a ((df_S_0 p0 p1 p2 p3 hq).mp y)) (fun y => e y.2.2)) hp))
          (fun e => (df_p1 (Or.inr ⟨⟨r, hr, b⟩, (df_S_1 p0 p1 p2 p3 (df_x1 q hq)).mpr d, e⟩) hp))))))))
      (fun b => br_t rfl (df_p0 (fun z => z.elim (fun y => a ((df_S_0 p0 p1 p2 p3 hq).mp y)) (fun ⟨⟨r, hr, d⟩, _⟩ => b r hr d)) hp)))
    (fun a => df_p1 (Or.inl ((df_S_0 p0 p1 p2 p3 hq).mpr a)) hp))
theorem dx_passesMinusDefeasible (post : Int32 → Prop) {q : Nat} (hq : q < 64) (hn : n ≤ 32) (hp : post (df_b (df_md n K H (df_B bS) (df_R wS) (df_S p0 p1 p2 p3) q))) : wpX_passesMinusDefeasible post (nI M, rl, fa, nI n, c, p0, p1, p2, p3, K, H, bs, bl, bS, wS) (nI q) := by
  unfold wpX_passesMinusDefeasible
  exact dx_contains _ p1 hq (df_br
    (fun a => df_p0 (fun z => a ((df_S_1 p0 p1 p2 p3 hq).mp z.1)) hp)
    (fun a => dx_everySupportFails M n rl fa c p0 p1 p2 p3 K H bs bl bS wS _ hn (df_br
      (fun b => (dx_containsX _ p0 (nI q ^^^ 1) (df_x1I q) (df_x1 q hq) (df_br
        (fun d => dx_someAttackStands M n rl fa c p0 p1 p2 p3 K H bs bl bS wS _ hn (df_br
          (fun e => (df_p0 (fun z => z.2.elim b (fun y => y.elim (fun x => d ((df_S_0 p0 p1 p2 p3 (df_x1 q hq)).mp x)) e)) hp))
          (fun e => (df_p1 ⟨(df_S_1 p0 p1 p2 p3 hq).mpr a, Or.inr (Or.inr e)⟩ hp))))
        (fun d => (df_p1 ⟨(df_S_1 p0 p1 p2 p3 hq).mpr a, Or.inr (Or.inl ((df_S_0 p0 p1 p2 p3 (df_x1 q hq)).mpr d))⟩ hp)))))
      (fun b => (df_p1 ⟨(df_S_1 p0 p1 p2 p3 hq).mpr a, Or.inl b⟩ hp)))))
-- withNextStep, hasChain
theorem dx_withNextStep (post : Int32 → Prop) (w : Int32) (hn : n ≤ 32) (hp : ∀ w', (∀ j, df_w w' j ↔ df_wn n (df_R wS) (df_w w) j) → post w') : wpX_withNextStep post (nI M, rl, fa, nI n, c, p0, p1, p2, p3, K, H, bs, bl, bS, wS) w :=
  df_loop (σ := Int32) (fun m i s => wX_withNextStep_4 post w (nI M) rl fa (nI n) c p0 p1 p2 p3 K H bs bl bS wS m s (nI i)) (fun i s => ∀ j, df_w s j ↔ (df_w w j ∨ ∃ r, r < i ∧ df_w w r ∧ df_w (wS r) j)) n
    (fun m s h => br_t (nI_le (Nat.le_refl n) (by omega)) (hp s h))
    (fun m i s hi h k => br_f (nI_ge hi (by omega)) (df_if (df_w_get w (l := i) (by omega))
      (fun a => nm_r (nI_1 i) (k s (fun j => (h j).trans ⟨fun z => z.elim Or.inl (fun ⟨r, x, y⟩ => Or.inr ⟨r, by omega, y⟩), fun z => z.elim Or.inl (fun ⟨r, x, y⟩ => Or.inr ⟨r, df_ne_lt x (fun e => a (e ▸ y.1)), y⟩)⟩)))
      (fun a => ⟨vp_in_nI (by omega) (by decide), nm_r (congrArg (fun t => s ||| wS t) (nI_clamp (n := i) (by omega))) (nm_r (nI_1 i) (k (s ||| wS i) (fun j => by
        rw [df_w_or, h j]
        constructor
        · rintro ((z | ⟨r, x, y⟩) | z)
          · exact Or.inl z
          · exact Or.inr ⟨r, by omega, y⟩
          · exact Or.inr ⟨i, by omega, Classical.not_not.mp a, z⟩
        · rintro (z | ⟨r, x, y⟩)
          · exact Or.inl (Or.inl z)
          · rcases Nat.lt_or_ge r i with l | l
            · exact Or.inl (Or.inr ⟨r, l, y⟩)
            · have e : r = i := by omega
              subst e
              exact Or.inr y.2)))⟩)))
    w (fun j => ⟨Or.inl, fun z => z.elim id (fun ⟨r, x, _⟩ => absurd x (Nat.not_lt_zero r))⟩)
theorem dx_hasChain (post : Int32 → Prop) {a b : Nat} (hn : n ≤ 32) (ha : a < n) (hb : b < n) (hp : post (df_b (df_ch n (df_R wS) a (n - 1) b))) : wpX_hasChain post (nI M, rl, fa, nI n, c, p0, p1, p2, p3, K, H, bs, bl, bS, wS) (nI a) (nI b) :=
  nm_e (df_loop (σ := Int32) (fun m i s => wX_hasChain_7 post (nI b) (nI M) rl fa (nI n) c p0 p1 p2 p3 K H bs bl bS wS m s (nI (i + 1))) (fun i s => ∀ j, df_w s j ↔ df_ch n (df_R wS) a i j) (n - 1)
    (fun m s h => br_t (nI_le (by omega) (by omega)) (df_if (df_w_get s (l := b) (by omega)) (fun g => df_p0 (fun z => g ((h b).mpr z)) hp) (fun g => df_p1 ((h b).mp (Classical.not_not.mp g)) hp)))
    (fun m i s hi h k => br_f (nI_ge (by omega) (by omega)) (dx_withNextStep M n rl fa c p0 p1 p2 p3 K H bs bl bS wS _ s hn (fun w hw => nm_r (nI_1 (i + 1)) (k w (fun j => by
      have e : df_w s = df_ch n (df_R wS) a i := df_ext h
      rw [hw j, e]
      exact Iff.rfl)))))
    _ (fun j => df_w_one (l := a) (by omega) j))
-- one round
theorem df_orT {P : Prop} (x : Int64) {i : Nat} (hi : i < 64) (a : P) (j : Nat) : df_l (x ||| ((1 : Int64) <<< ((nI i).toInt64 &&& 63))) j ↔ df_l x j ∨ (j = i ∧ P) :=
  (df_l_put x hi j).trans ⟨fun z => z.elim (fun e => Or.inr ⟨e, a⟩) Or.inl, fun z => z.elim Or.inr (fun y => Or.inl y.1)⟩
theorem df_orF {P : Prop} (x : Int64) {i : Nat} (a : ¬ P) (j : Nat) : df_l x j ↔ df_l x j ∨ (j = i ∧ P) := ⟨Or.inl, fun z => z.elim id (fun y => absurd y.2 a)⟩
theorem df_grow {p s y : Int64} {i : Nat} {Q : Nat → Prop} (h : ∀ j, df_l s j ↔ df_l p j ∨ (j < i ∧ Q j)) (g : ∀ j, df_l y j ↔ df_l s j ∨ (j = i ∧ Q i)) (j : Nat) : df_l y j ↔ df_l p j ∨ (j < i + 1 ∧ Q j) := by
  rw [g j, h j]
  constructor
  · rintro ((z | z) | z)
    · exact Or.inl z
    · exact Or.inr ⟨by omega, z.2⟩
    · exact Or.inr ⟨by omega, z.1.symm ▸ z.2⟩
  · rintro (z | z)
    · exact Or.inl (Or.inl z)
    · rcases Nat.lt_or_ge j i with l | l
      · exact Or.inl (Or.inr ⟨l, z.2⟩)
      · have e : j = i := by omega
        exact Or.inr ⟨e, e ▸ z.2⟩
theorem dx_rr84 (post : Int32 → St2 → Prop) (J : Int64 → Int64 → Int64 → Int64 → Int32 → Prop) (x1 x3 x5 x7 : Int64) {i : Nat} (hi : i < 64) (hn : n ≤ 32)
    (hJ : ∀ y7, (∀ j, df_l y7 j ↔ df_l x7 j ∨ (j = i ∧ df_md n K H (df_B bS) (df_R wS) (df_S p0 p1 p2 p3) i)) → J x1 x3 x5 y7 (nI (i + 1))) :
    wX_runRound_84 post J x1 x3 x5 x7 (nI i) ((1 : Int64) <<< ((nI i).toInt64 &&& 63)) (nI M) rl fa (nI n) c p0 p1 p2 p3 K H bs bl bS wS := by
  unfold wX_runRound_84
  exact dx_passesMinusDefeasible M n rl fa c p0 p1 p2 p3 K H bs bl bS wS _ hi hn (df_br (fun a => nm_r (nI_1 i) (hJ x7 (df_orF x7 a))) (fun a => nm_e (nm_r (nI_1 i) (hJ _ (df_orT x7 hi a)))))
theorem dx_rr68 (post : Int32 → St2 → Prop) (J : Int64 → Int64 → Int64 → Int64 → Int32 → Prop) (x1 x3 x5 x7 : Int64) {i : Nat} (hi : i < 64) (hn : n ≤ 32)
    (hJ : ∀ y5 y7, (∀ j, df_l y5 j ↔ df_l x5 j ∨ (j = i ∧ df_pd n K H (df_B bS) (df_R wS) (df_S p0 p1 p2 p3) i)) → (∀ j, df_l y7 j ↔ df_l x7 j ∨ (j = i ∧ df_md n K H (df_B bS) (df_R wS) (df_S p0 p1 p2 p3) i)) → J x1 x3 y5 y7 (nI (i + 1))) :
    wX_runRound_68 post J x1 x3 x5 x7 (nI i) ((1 : Int64) <<< ((nI i).toInt64 &&& 63)) (nI M) rl fa (nI n) c p0 p1 p2 p3 K H bs bl bS wS := by
  unfold wX_runRound_68
  exact dx_passesPlusDefeasible M n rl fa c p0 p1 p2 p3 K H bs bl bS wS _ hi hn (df_br (fun a => dx_rr84 M n rl fa c p0 p1 p2 p3 K H bs bl bS wS post J x1 x3 x5 x7 hi hn (fun y7 => hJ x5 y7 (df_orF x5 a))) (fun a => nm_e (dx_rr84 M n rl fa c p0 p1 p2 p3 K H bs bl bS wS post J x1 x3 _ x7 hi hn (fun y7 => hJ _ y7 (df_orT x5 hi a)))))
theorem dx_rr54 (post : Int32 → St2 → Prop) (J : Int64 → Int64 → Int64 → Int64 → Int32 → Prop) (x1 x3 x5 x7 : Int64) {i : Nat} (hi : i < 64) (hn : n ≤ 32)
    (hJ : ∀ y3 y5 y7, (∀ j, df_l y3 j ↔ df_l x3 j ∨ (j = i ∧ df_mD n (df_l fa) K H (df_B bS) (df_S p0 p1 p2 p3) i)) → (∀ j, df_l y5 j ↔ df_l x5 j ∨ (j = i ∧ df_pd n K H (df_B bS) (df_R wS) (df_S p0 p1 p2 p3) i)) → (∀ j, df_l y7 j ↔ df_l x7 j ∨ (j = i ∧ df_md n K H (df_B bS) (df_R wS) (df_S p0 p1 p2 p3) i)) → J x1 y3 y5 y7 (nI (i + 1))) :
    wX_runRound_54 post J x1 x3 x5 x7 (nI i) ((1 : Int64) <<< ((nI i).toInt64 &&& 63)) (nI M) rl fa (nI n) c p0 p1 p2 p3 K H bs bl bS wS := by
  unfold wX_runRound_54
  exact dx_passesMinusDefinite M n rl fa c p0 p1 p2 p3 K H bs bl bS wS _ hi hn (df_br (fun a => dx_rr68 M n rl fa c p0 p1 p2 p3 K H bs bl bS wS post J x1 x3 x5 x7 hi hn (fun y5 y7 => hJ x3 y5 y7 (df_orF x3 a))) (fun a => nm_e (dx_rr68 M n rl fa c p0 p1 p2 p3 K H bs bl bS wS post J x1 _ x5 x7 hi hn (fun y5 y7 => hJ _ y5 y7 (df_orT x3 hi a)))))
theorem dx_runRound (post : Int32 → St2 → Prop) (hM : M ≤ 64) (hn : n ≤ 32)
    (hp : ∀ r0 r1 r2 r3, df_S r0 r1 r2 r3 = df_st M n (df_l fa) K H (df_B bS) (df_R wS) (df_S p0 p1 p2 p3) → post (df_b (¬ df_S r0 r1 r2 r3 = df_S p0 p1 p2 p3)) (nI M, rl, fa, nI n, c, r0, r1, r2, r3, K, H, bs, bl, bS, wS)) : wpX_runRound post (nI M, rl, fa, nI n, c, p0, p1, p2, p3, K, H, bs, bl, bS, wS) := by
  refine df_loop (σ := Int64 × Int64 × Int64 × Int64) (fun m i s => wX_runRound_25 post (nI M) rl fa (nI n) c p0 p1 p2 p3 K H bs bl bS wS m s.1 s.2.1 s.2.2.1 s.2.2.2 (nI i))
    (fun i s => (∀ j, df_l s.1 j ↔ df_l p0 j ∨ (j < i ∧ df_pD n (df_l fa) K H (df_B bS) (df_S p0 p1 p2 p3) j)) ∧ (∀ j, df_l s.2.1 j ↔ df_l p1 j ∨ (j < i ∧ df_mD n (df_l fa) K H (df_B bS) (df_S p0 p1 p2 p3) j))
      ∧ (∀ j, df_l s.2.2.1 j ↔ df_l p2 j ∨ (j < i ∧ df_pd n K H (df_B bS) (df_R wS) (df_S p0 p1 p2 p3) j)) ∧ (∀ j, df_l s.2.2.2 j ↔ df_l p3 j ∨ (j < i ∧ df_md n K H (df_B bS) (df_R wS) (df_S p0 p1 p2 p3) j))) M ?_ ?_ (p0, p1, p2, p3) ?_
  · rintro m ⟨r0, r1, r2, r3⟩ ⟨h0, h1, h2, h3⟩
    have t := hp r0 r1 r2 r3 (df_S_step (n := n) (F := df_l fa) (K := K) (H := H) (B := df_B bS) (R := df_R wS) hM rfl h0 h1 h2 h3)
    refine br_t (nI_le (Nat.le_refl M) (by omega)) ?_
    have no : (¬ r0 = p0 ∨ ¬ r1 = p1 ∨ ¬ r2 = p2 ∨ ¬ r3 = p3) → wX_runRound_144 post r0 r1 r2 r3 (nI M) rl fa (nI n) c p0 p1 p2 p3 K H bs bl bS wS := by
      intro z
      have e : ¬ df_S r0 r1 r2 r3 = df_S p0 p1 p2 p3 := fun w => by
        obtain ⟨w0, w1, w2, w3⟩ := df_S_inj w
        rcases z with z | z | z | z
        · exact z w0
        · exact z w1
        · exact z w2
        · exact z w3
      rw [df_b1 e] at t
      exact ⟨rfl, t⟩
    refine br_c (fun a0 => br_c (fun a1 => br_c (fun a2 => br_c (fun a3 => ?_) (fun a3 => no (Or.inr (Or.inr (Or.inr a3))))) (fun a2 => no (Or.inr (Or.inr (Or.inl a2))))) (fun a1 => no (Or.inr (Or.inl a1)))) (fun a0 => no (Or.inl a0))
    have e : ¬ ¬ df_S r0 r1 r2 r3 = df_S p0 p1 p2 p3 := fun w => w (by rw [show r0 = p0 from a0, show r1 = p1 from a1, show r2 = p2 from a2, show r3 = p3 from a3])
    rw [df_b0 e] at t
    exact ⟨rfl, t⟩
  · rintro m i ⟨s0, s1, s2, s3⟩ hi ⟨h0, h1, h2, h3⟩ k
    refine br_f (nI_ge hi (by omega)) (nm_e (dx_passesPlusDefinite M n rl fa c p0 p1 p2 p3 K H bs bl bS wS _ (by omega) hn (df_br (fun a => dx_rr54 M n rl fa c p0 p1 p2 p3 K H bs bl bS wS post _ s0 s1 s2 s3 (by omega) hn (fun y3 y5 y7 g3 g5 g7 => ?_)) (fun a => nm_e (dx_rr54 M n rl fa c p0 p1 p2 p3 K H bs bl bS wS post _ _ s1 s2 s3 (by omega) hn (fun y3 y5 y7 g3 g5 g7 => ?_))))))
    · exact k (s0, y3, y5, y7) ⟨df_grow h0 (df_orF s0 a), df_grow h1 g3, df_grow h2 g5, df_grow h3 g7⟩
    · exact k (_, y3, y5, y7) ⟨df_grow h0 (df_orT s0 (by omega) a), df_grow h1 g3, df_grow h2 g5, df_grow h3 g7⟩
  · have z : ∀ (p : Int64) (Q : Nat → Prop) (j : Nat), df_l p j ↔ df_l p j ∨ (j < 0 ∧ Q j) := fun p Q j => ⟨Or.inl, fun y => y.elim id (fun w => absurd w.1 (Nat.not_lt_zero j))⟩
    exact ⟨z _ _, z _ _, z _ _, z _ _⟩
theorem dx_compute (post : Int32 → St2 → Prop) (hM : M ≤ 64) (hn : n ≤ 32)
    (hp : ∀ r0 r1 r2 r3, df_S r0 r1 r2 r3 = df_Fin M n (df_l fa) K H (df_B bS) (df_R wS) → post (nI (df_c (df_l r2) 64)) (nI M, rl, fa, nI n, 1, r0, r1, r2, r3, K, H, bs, bl, bS, wS)) : wpX_compute post (nI M, rl, fa, nI n, c, p0, p1, p2, p3, K, H, bs, bl, bS, wS) := by
  have fin : ∀ r0 r1 r2 r3, df_S r0 r1 r2 r3 = df_Fin M n (df_l fa) K H (df_B bS) (df_R wS) → wX_compute_46 post (nI M) rl fa (nI n) c r0 r1 r2 r3 K H bs bl bS wS :=
    fun r0 r1 r2 r3 h => by
      unfold wX_compute_46
      exact dx_sizeOf _ r2 (hp r0 r1 r2 r3 h)
  have key : ∀ d k r0 r1 r2 r3 (g : Int32), k + d = 257 → df_S r0 r1 r2 r3 = df_It M n (df_l fa) K H (df_B bS) (df_R wS) k → (g = 0 → df_It M n (df_l fa) K H (df_B bS) (df_R wS) k = df_Fin M n (df_l fa) K H (df_B bS) (df_R wS)) →
      wX_compute_24 post (d + 1) g (nI k) (nI M) rl fa (nI n) c r0 r1 r2 r3 K H bs bl bS wS := by
    intro d
    induction d with
    | zero =>
      intro k r0 r1 r2 r3 g hk hS hg
      have e : k = 257 := by omega
      subst e
      exact br_c (fun z => fin r0 r1 r2 r3 (hS.trans (hg z))) (fun _ => br_t (nI_le (a := 257) (b := 257) (by omega) (by omega)) (fin r0 r1 r2 r3 (hS.trans (df_It_257 M n (df_l fa) K H (df_B bS) (df_R wS)))))
    | succ d ih =>
      intro k r0 r1 r2 r3 g hk hS hg
      refine br_c (fun z => fin r0 r1 r2 r3 (hS.trans (hg z))) (fun _ => br_f (nI_ge (a := k) (b := 257) (by omega) (by omega)) (dx_runRound M n rl fa c r0 r1 r2 r3 K H bs bl bS wS _ hM hn (fun s0 s1 s2 s3 hs => nm_r (nI_1 k) (ih (k + 1) s0 s1 s2 s3 _ (by omega) ?_ ?_))))
      · rw [hs, hS]
        rfl
      · intro z
        have e : df_S s0 s1 s2 s3 = df_S r0 r1 r2 r3 := Classical.not_not.mp (df_bz.mp z)
        rw [hS, hs, hS] at e
        exact df_It_fix M n (df_l fa) K H (df_B bS) (df_R wS) (by omega) e
  exact ⟨258, key 257 0 0 0 0 0 1 rfl df_S_z (fun z => absurd z (by decide))⟩
end
end
section
-- helpers
theorem df_ix4 (r i : Nat) : nI r * 4 + nI i = nI (r * 4 + i) := by
  rw [show (4 : Int32) = nI 4 from rfl, pk_mul, nI_add]
theorem df_nb (p : Prop) : narrow .boolean (.int (df_b p)) = .int (df_b p) := by
  rcases Classical.em p with h | h
  · rw [df_b1 h]; rfl
  · rw [df_b0 h]; rfl
theorem df_uR {wS : Nat → Int32} {r r' : Nat} {x : Int32} (h : ¬ r' = r) (q : Nat) : df_R (upd wS r x) r' q ↔ df_R wS r' q := by
  unfold df_R
  rw [pk_un h]
theorem df_uRs {wS : Nat → Int32} {r : Nat} {x : Int32} (q : Nat) : df_R (upd wS r x) r q ↔ df_w x q := by
  unfold df_R
  rw [pk_us]
section
variable (M n : Nat) (rl : Int32) (fa : Int64) (c : Int32) (p0 p1 p2 p3 : Int64) (K H bs bl : Nat → Int32) (bS : Nat → Int64) (wS : Nat → Int32)
theorem dx_reset (post : St2 → Prop) (hp : post (nI M, rl, 0, nI 0, 0, p0, p1, p2, p3, K, H, bs, bl, bS, wS)) : wpX_reset post (nI M, rl, fa, nI n, c, p0, p1, p2, p3, K, H, bs, bl, bS, wS) := hp
theorem dx_addFact1 (post : Int32 → St2 → Prop) {j : Nat} (hM : M ≤ 64) (hj : j < M) (hf : ¬ df_l fa j) (hp : post 1 (nI M, rl, fa ||| ((1 : Int64) <<< ((nI j).toInt64 &&& 63)), nI n, 0, p0, p1, p2, p3, K, H, bs, bl, bS, wS)) : wpX_addFact post (nI M, rl, fa, nI n, c, p0, p1, p2, p3, K, H, bs, bl, bS, wS) (nI j) := by
  unfold wpX_addFact
  exact dx_isLiteral M n rl fa c p0 p1 p2 p3 K H bs bl bS wS _ (nI j) hM (df_br (fun h => absurd (df_v1 hj) h) (fun _ => dx_contains _ fa (by omega) (df_br (fun _ => nm_e hp) (fun h => absurd h hf))))
theorem dx_addFact0 (post : Int32 → St2 → Prop) (x : Int32) (hM : M ≤ 64) (hf : ∀ j, j < M → x = nI j → df_l fa j) (hp : post 0 (nI M, rl, fa, nI n, c, p0, p1, p2, p3, K, H, bs, bl, bS, wS)) : wpX_addFact post (nI M, rl, fa, nI n, c, p0, p1, p2, p3, K, H, bs, bl, bS, wS) x := by
  unfold wpX_addFact
  refine dx_isLiteral M n rl fa c p0 p1 p2 p3 K H bs bl bS wS _ x hM (df_br (fun _ => hp) (fun h => ?_))
  obtain ⟨j, hj, rfl⟩ := h
  exact dx_contains _ fa (by omega) (df_br (fun h => absurd (hf j hj rfl) h) (fun _ => hp))
theorem dx_newRule1 (post : Int32 → St2 → Prop) (k : Int32) {q : Nat} (hM : M ≤ 64) (hn : n < 32) (hk : k = 0 ∨ k = 1 ∨ k = 2) (hq : q < M) (hl : nI n < rl)
    (hp : post (nI n) (nI M, rl, fa, nI (n + 1), 0, p0, p1, p2, p3, upd K n k, upd H n (nI q), upd bs n 0, bl, vp_updL bS n 0, upd wS n 0)) : wpX_newRule post (nI M, rl, fa, nI n, c, p0, p1, p2, p3, K, H, bs, bl, bS, wS) k (nI q) := by
  unfold wpX_newRule
  have e : (nI n).toNatClampNeg = n := nI_clamp (by omega)
  exact dx_isKind _ k (df_br (fun h => absurd hk h) (fun _ => dx_isLiteral M n rl fa c p0 p1 p2 p3 K H bs bl bS wS _ (nI q) hM (df_br (fun h => absurd (df_v1 hq) h) (fun _ => br_t hl
    ⟨vp_in_nI hn (by decide), nm_r (e' := upd K n k) (by rw [e]) ⟨vp_in_nI hn (by decide), nm_r (e' := upd H n (nI q)) (by rw [e]) ⟨vp_in_nI hn (by decide), nm_r (e' := upd bs n 0) (by rw [e]) ⟨vp_in_nI hn (by decide), nm_r (e' := vp_updL bS n 0) (by rw [e])
      ⟨vp_in_nI hn (by decide), nm_r (e' := upd wS n 0) (by rw [e]) (nm_r (nI_1 n) hp)⟩⟩⟩⟩⟩))))
theorem dx_newRule0 (post : Int32 → St2 → Prop) (k x : Int32) (hM : M ≤ 64) (hno : ¬ ((k = 0 ∨ k = 1 ∨ k = 2) ∧ df_v M x ∧ nI n < rl)) (hp : post (-1) (nI M, rl, fa, nI n, c, p0, p1, p2, p3, K, H, bs, bl, bS, wS)) : wpX_newRule post (nI M, rl, fa, nI n, c, p0, p1, p2, p3, K, H, bs, bl, bS, wS) k x := by
  unfold wpX_newRule
  exact dx_isKind _ k (df_br (fun _ => hp) (fun h => dx_isLiteral M n rl fa c p0 p1 p2 p3 K H bs bl bS wS _ x hM (df_br (fun _ => hp) (fun h2 => br_f (fun h3 => hno ⟨h, h2, h3⟩) hp))))
theorem dx_addBody1 (post : Int32 → St2 → Prop) {r q z : Nat} (hM : M ≤ 64) (hn : n ≤ 32) (hr : r < n) (hq : q < M) (hz : z < 4) (ez : bs r = nI z) (hb : ¬ df_B bS r q)
    (hp : post 1 (nI M, rl, fa, nI n, 0, p0, p1, p2, p3, K, H, upd bs r (nI (z + 1)), upd bl (r * 4 + z) (nI q), vp_updL bS r (bS r ||| ((1 : Int64) <<< ((nI q).toInt64 &&& 63))), wS)) : wpX_addBody post (nI M, rl, fa, nI n, c, p0, p1, p2, p3, K, H, bs, bl, bS, wS) (nI r) (nI q) := by
  unfold wpX_addBody
  have e : (nI r).toNatClampNeg = r := nI_clamp (by omega)
  have hr' : r < 32 := by omega
  refine dx_isRule M n rl fa c p0 p1 p2 p3 K H bs bl bS wS _ (nI r) hn (df_br (fun h => absurd (df_v1 hr) h) (fun _ => dx_isLiteral M n rl fa c p0 p1 p2 p3 K H bs bl bS wS _ (nI q) hM (df_br (fun h => absurd (df_v1 hq) h) (fun _ => ⟨vp_in_nI hr' (by decide), nm_r (e' := nI z) (by rw [e, ez]) (br_f (nI_ge (a := z) (b := 4) hz (by omega)) ⟨vp_in_nI hr' (by decide), ?_⟩)⟩))))
  rw [e]
  exact dx_contains _ (bS r) (by omega) (df_br (fun _ => ⟨pk_in (r * 4 + z) 128 (by omega) (df_ix4 r z), nm_r (e' := upd bl (r * 4 + z) (nI q)) (by rw [df_ix4, nI_clamp (by omega)]) ⟨vp_in_nI hr' (by decide), vp_in_nI hr' (by decide), nm_e ⟨vp_in_nI hr' (by decide), nm_r (e' := upd bs r (nI (z + 1))) (by rw [nI_1]) hp⟩⟩⟩) (fun h => absurd h hb))
theorem dx_addBody0 (post : Int32 → St2 → Prop) (x y : Int32) (hM : M ≤ 64) (hn : n ≤ 32) (hbs : ∀ r, r < n → ∃ z, z ≤ 4 ∧ bs r = nI z) (hno : ∀ r q, r < n → q < M → x = nI r → y = nI q → bs r = nI 4 ∨ df_B bS r q) (hp : post 0 (nI M, rl, fa, nI n, c, p0, p1, p2, p3, K, H, bs, bl, bS, wS)) : wpX_addBody post (nI M, rl, fa, nI n, c, p0, p1, p2, p3, K, H, bs, bl, bS, wS) x y := by
  unfold wpX_addBody
  refine dx_isRule M n rl fa c p0 p1 p2 p3 K H bs bl bS wS _ x hn (df_br (fun _ => hp) (fun h => ?_))
  obtain ⟨r, hr, rfl⟩ := h
  refine dx_isLiteral M n rl fa c p0 p1 p2 p3 K H bs bl bS wS _ y hM (df_br (fun _ => hp) (fun h => ?_))
  obtain ⟨q, hq, rfl⟩ := h
  have e : (nI r).toNatClampNeg = r := nI_clamp (by omega)
  have hr' : r < 32 := by omega
  refine ⟨vp_in_nI hr' (by decide), nm_r (e' := bs r) (by rw [e]) (br_c (fun _ => hp) (fun h4 => ⟨vp_in_nI hr' (by decide), ?_⟩))⟩
  rw [e]
  refine dx_contains _ (bS r) (by omega) (df_br (fun h => ?_) (fun _ => hp))
  rcases hno r q hr hq rfl rfl with w | w
  · rw [w] at h4
    exact absurd (nI_le (a := 4) (b := 4) (by omega) (by omega)) h4
  · exact absurd w h
theorem dx_addSuperiorR (post : Int32 → St2 → Prop) {a b : Nat} (hn : n ≤ 32) (ha : a < n) (hb : b < n) (hab : ¬ a = b) (hnr : ¬ df_R wS a b)
    (hp1 : ¬ df_ch n (df_R wS) b (n - 1) a → post 1 (nI M, rl, fa, nI n, 0, p0, p1, p2, p3, K, H, bs, bl, bS, upd wS a (wS a ||| ((1 : Int32) <<< (nI b &&& 31))))) (hp0 : df_ch n (df_R wS) b (n - 1) a → post 0 (nI M, rl, fa, nI n, c, p0, p1, p2, p3, K, H, bs, bl, bS, wS)) : wpX_addSuperior post (nI M, rl, fa, nI n, c, p0, p1, p2, p3, K, H, bs, bl, bS, wS) (nI a) (nI b) := by
  unfold wpX_addSuperior
  have e : (nI a).toNatClampNeg = a := nI_clamp (by omega)
  have ha' : a < 32 := by omega
  exact dx_isRule M n rl fa c p0 p1 p2 p3 K H bs bl bS wS _ (nI a) hn (df_br (fun h => absurd (df_v1 ha) h) (fun _ => dx_isRule M n rl fa c p0 p1 p2 p3 K H bs bl bS wS _ (nI b) hn (df_br (fun h => absurd (df_v1 hb) h) (fun _ => br_f (fun e => hab ((nI_eq (by omega) (by omega)).mp e))
    (dx_isRecorded M n rl fa c p0 p1 p2 p3 K H bs bl bS wS _ ha' (by omega) (df_br (fun _ => dx_hasChain M n rl fa c p0 p1 p2 p3 K H bs bl bS wS _ hn hb ha (df_br (fun z => ⟨vp_in_nI ha' (by decide), vp_in_nI ha' (by decide), nm_r (e' := upd wS a (wS a ||| ((1 : Int32) <<< (nI b &&& 31)))) (by rw [e]) (hp1 z)⟩) (fun z => hp0 z))) (fun h => absurd h hnr)))))))
theorem dx_addSuperior0 (post : Int32 → St2 → Prop) (x y : Int32) (hn : n ≤ 32) (hno : ∀ a b, a < n → b < n → x = nI a → y = nI b → a = b ∨ df_R wS a b) (hp : post 0 (nI M, rl, fa, nI n, c, p0, p1, p2, p3, K, H, bs, bl, bS, wS)) : wpX_addSuperior post (nI M, rl, fa, nI n, c, p0, p1, p2, p3, K, H, bs, bl, bS, wS) x y := by
  unfold wpX_addSuperior
  refine dx_isRule M n rl fa c p0 p1 p2 p3 K H bs bl bS wS _ x hn (df_br (fun _ => hp) (fun h => ?_))
  obtain ⟨a, ha, rfl⟩ := h
  refine dx_isRule M n rl fa c p0 p1 p2 p3 K H bs bl bS wS _ y hn (df_br (fun _ => hp) (fun h => ?_))
  obtain ⟨b, hb, rfl⟩ := h
  refine br_c (fun _ => hp) (fun e => dx_isRecorded M n rl fa c p0 p1 p2 p3 K H bs bl bS wS _ (r := a) (s := b) (by omega) (by omega) (df_br (fun h => ?_) (fun _ => hp)))
  rcases hno a b ha hb rfl rfl with w | w
  · exact absurd (by rw [w]) e
  · exact absurd w h
theorem dx_taggedBy (post : Int64 → Prop) {t : Nat} (ht : t < 4) (hp : post (df_pk p0 p1 p2 p3 t)) : wpX_taggedBy post (nI M, rl, fa, nI n, c, p0, p1, p2, p3, K, H, bs, bl, bS, wS) (nI t) := by
  rcases (show t = 0 ∨ t = 1 ∨ t = 2 ∨ t = 3 by omega) with e | e | e | e
  · subst e
    exact br_f (by decide) (br_f (by decide) (br_t (by decide) hp))
  · subst e
    exact br_f (by decide) (br_f (by decide) (br_f (by decide) (br_t (by decide) hp)))
  · subst e
    exact br_f (by decide) (br_f (by decide) (br_f (by decide) (br_f (by decide) (br_t (by decide) hp))))
  · subst e
    exact br_f (by decide) (br_t (by decide) hp)
theorem dx_hasTag (post : Int32 → Prop) (x y : Int32) (hM : M ≤ 64) (hp : post (df_b (¬ c = 0 ∧ ∃ j t, j < M ∧ t < 4 ∧ x = nI j ∧ y = nI t ∧ df_S p0 p1 p2 p3 (t * 64 + j)))) : wpX_hasTag post (nI M, rl, fa, nI n, c, p0, p1, p2, p3, K, H, bs, bl, bS, wS) x y := by
  unfold wpX_hasTag
  refine br_c (fun h => df_p0 (fun z => z.1 h) hp) (fun hc => dx_isLiteral M n rl fa c p0 p1 p2 p3 K H bs bl bS wS _ x hM (df_br (fun h => df_p0 (fun ⟨_, j, t, hj, _, e, _⟩ => h ⟨j, hj, e⟩) hp) (fun h => ?_)))
  obtain ⟨j, hj, rfl⟩ := h
  refine dx_isTag _ y (df_br (fun h => df_p0 (fun ⟨_, j, t, _, ht, _, e, _⟩ => h ⟨t, ht, e⟩) hp) (fun h => ?_))
  obtain ⟨t, ht, rfl⟩ := h
  refine dx_taggedBy M n rl fa c p0 p1 p2 p3 K H bs bl bS wS _ ht (dx_contains _ _ (l := j) (by omega) ⟨df_nb _, ?_⟩)
  have e : df_l (df_pk p0 p1 p2 p3 t) j ↔ (¬ c = 0 ∧ ∃ j' t', j' < M ∧ t' < 4 ∧ nI j = nI j' ∧ nI t = nI t' ∧ df_S p0 p1 p2 p3 (t' * 64 + j')) := by
    rw [← df_S_at p0 p1 p2 p3 t j ht (by omega)]
    refine ⟨fun z => ⟨hc, j, t, hj, ht, rfl, rfl, z⟩, ?_⟩
    rintro ⟨_, j', t', hj', ht', e1, e2, w⟩
    rw [nI_eq (by omega) (by omega)] at e1 e2
    subst e1 e2
    exact w
  rw [df_bc e]
  exact hp
end
end
section
-- what the rounds of a theory keep: nothing in both of +D and -D, nothing in both of +d and -d; q and its complement in +d: both in +D
section
variable (M n : Nat) (F : Nat → Prop) (K H : Nat → Int32) (B R : Nat → Nat → Prop)
theorem df_from (k i : Nat) (h : df_It M n F K H B R k i) : ∃ j, j < k ∧ df_ts M n F K H B R (df_It M n F K H B R j) i := by
  induction k with
  | zero => exact h.elim
  | succ k ih =>
    rcases h with h | h
    · obtain ⟨j, hj, t⟩ := ih h
      exact ⟨j, by omega, t⟩
    · exact ⟨k, by omega, h⟩
theorem df_fromT (k t q : Nat) (hq : q < 64) (h : df_It M n F K H B R k (t * 64 + q)) : ∃ j, j < k ∧ df_T n F K H B R (df_It M n F K H B R j) t q := by
  obtain ⟨j, hj, z⟩ := df_from M n F K H B R k _ h
  refine ⟨j, hj, ?_⟩
  have e := z.2.2
  rw [show (t * 64 + q) / 64 = t by omega, show (t * 64 + q) % 64 = q by omega] at e
  exact e
theorem df_cohD (hB : ∀ r q, B r q → q < 64) (j : Nat) : ∀ k q, q < 64 → df_It M n F K H B R j (0 * 64 + q) → df_It M n F K H B R k (1 * 64 + q) → False := by
  induction j using Nat.strongRecOn with
  | ind j ih =>
    intro k q hq h1 h2
    obtain ⟨j', lj, tj⟩ := df_fromT M n F K H B R j 0 q hq h1
    obtain ⟨k', lk, tk⟩ := df_fromT M n F K H B R k 1 q hq h2
    have tj' : df_pD n F K H B (df_It M n F K H B R j') q := tj
    have tk' : df_mD n F K H B (df_It M n F K H B R k') q := tk
    rcases tj' with f | ⟨r, hr, hs, ha⟩
    · exact tk'.1 f
    · obtain ⟨b, hb, hbs⟩ := tk'.2 r hr hs
      exact ih j' lj k' b (hB r b hb) (ha b hb) hbs
theorem df_cohd (hB : ∀ r q, B r q → q < 64) (m : Nat) : ∀ j k q, j + k ≤ m → q < 64 → df_It M n F K H B R j (2 * 64 + q) → df_It M n F K H B R k (3 * 64 + q) → False := by
  induction m using Nat.strongRecOn with
  | ind m ih =>
    intro j k q hm hq h1 h2
    obtain ⟨j', lj, tj⟩ := df_fromT M n F K H B R j 2 q hq h1
    obtain ⟨k', lk, tk⟩ := df_fromT M n F K H B R k 3 q hq h2
    have tj' : df_pd n K H B R (df_It M n F K H B R j') q := tj
    have tk' : df_md n K H B R (df_It M n F K H B R k') q := tk
    have h0 : ∀ q, q < 64 → df_It M n F K H B R j' q → df_It M n F K H B R k' (64 + q) → False := fun q hq a b =>
      df_cohD M n F K H B R hB j' k' q hq (by rw [show 0 * 64 + q = q by omega]; exact a) b
    have h0' : ∀ q, q < 64 → df_It M n F K H B R k' q → df_It M n F K H B R j' (64 + q) → False := fun q hq a b =>
      df_cohD M n F K H B R hB k' j' q hq (by rw [show 0 * 64 + q = q by omega]; exact a) b
    have d1 : ∀ b, b < 64 → df_It M n F K H B R j' (2 * 64 + b) → df_It M n F K H B R k' (3 * 64 + b) → False := fun b hb a c => ih (j' + k') (by omega) j' k' b (Nat.le_refl _) hb a c
    have d2 : ∀ b, b < 64 → df_It M n F K H B R k' (2 * 64 + b) → df_It M n F K H B R j' (3 * 64 + b) → False := fun b hb a c => ih (k' + j') (by omega) k' j' b (Nat.le_refl _) hb a c
    obtain ⟨mq, tk'⟩ := tk'
    rcases tj' with a | ⟨⟨r, hr, hs, ha⟩, hm1, he⟩
    · exact h0 q hq a mq
    · rcases tk' with e | e | ⟨s, hs', hh, hal, hn⟩
      · obtain ⟨b, hb, hbs⟩ := e r hr hs
        exact d1 b (hB r b hb) (ha b hb) hbs
      · exact h0' _ (df_x1 q hq) e hm1
      · have ns : ¬ df_som B (df_It M n F K H B R j') 3 s := fun ⟨b, hb, hbs⟩ => d2 b (hB s b hb) (hal b hb) hbs
        obtain ⟨t, ht, hst, hat, hRt⟩ := he s hs' hh ns
        exact hn ⟨t, ht, hst, fun ⟨b, hb, hbs⟩ => d1 b (hB t b hb) (hat b hb) hbs, hRt⟩
theorem df_x11 : ∀ q, q < 64 → (q ^^^ 1) ^^^ 1 = q := by decide +kernel
theorem df_FinT {k t : Nat} {i : Nat} (hk : k ≤ 300) (h : df_It M n F K H B R k i) : df_Fin M n F K H B R i := by
  have e := df_it_mono (f := df_st M n F K H B R) (s := df_S0) (fun _ _ z => Or.inl z) k (300 - k) i h
  rw [show k + (300 - k) = 300 by omega] at e
  exact e
theorem df_cons (hB : ∀ r q, B r q → q < 64) (hx : ∀ P : Nat → Prop, (∃ r, r < n ∧ P r) → ∃ r, r < n ∧ P r ∧ ∀ t, t < n → P t → ¬ R t r) {q : Nat} (hq : q < 64)
    (h1 : df_Fin M n F K H B R (128 + q)) (h2 : df_Fin M n F K H B R (128 + (q ^^^ 1))) : df_Fin M n F K H B R q ∧ df_Fin M n F K H B R (q ^^^ 1) := by
  have key : ∀ p, p < 64 → ∀ j k, j ≤ 300 → k ≤ 300 → df_pd n K H B R (df_It M n F K H B R j) p → df_pd n K H B R (df_It M n F K H B R k) (p ^^^ 1) →
      (df_It M n F K H B R j p ∧ df_It M n F K H B R k (p ^^^ 1)) := by
    intro p hp j k lj lk a b
    have hp1 := df_x1 p hp
    have h0 : ∀ q j k, q < 64 → df_It M n F K H B R j q → df_It M n F K H B R k (64 + q) → False := fun q j k hq a b =>
      df_cohD M n F K H B R hB j k q hq (by rw [show 0 * 64 + q = q by omega]; exact a) b
    rcases a with a | ⟨⟨r, hr, hs, ha⟩, am, ae⟩
    · rcases b with b | ⟨_, bm, _⟩
      · exact ⟨a, b⟩
      · rw [df_x11 p hp] at bm
        exact (h0 p j k hp a bm).elim
    · rcases b with b | ⟨⟨r', hr', hs', ha'⟩, bm, be⟩
      · exact (h0 _ k j hp1 b am).elim
      · exfalso
        obtain ⟨m, hm, ⟨hmS, hma⟩, hmx⟩ := hx (fun x => (df_sup K H x p ∨ df_sup K H x (p ^^^ 1)) ∧ df_all B (df_Fin M n F K H B R) 2 x) ⟨r, hr, Or.inl hs, fun b hb => df_FinT M n F K H B R (t := 0) lj (ha b hb)⟩
        have nd : ∀ i, ¬ df_som B (df_It M n F K H B R i) 3 m := fun i ⟨b, hb, hbs⟩ => df_cohd M n F K H B R hB (300 + i) 300 i b (Nat.le_refl _) (hB m b hb) (hma b hb) hbs
        rcases hmS with c | c
        · obtain ⟨t, ht, hst, hat, hRt⟩ := be m hm (by rw [df_x11 p hp]; exact c.1) (nd k)
          exact hmx t ht ⟨Or.inr hst, fun b hb => df_FinT M n F K H B R (t := 0) lk (hat b hb)⟩ hRt
        · obtain ⟨t, ht, hst, hat, hRt⟩ := ae m hm c.1 (nd j)
          exact hmx t ht ⟨Or.inl hst, fun b hb => df_FinT M n F K H B R (t := 0) lj (hat b hb)⟩ hRt
  obtain ⟨j, lj, tj⟩ := df_fromT M n F K H B R 300 2 q hq h1
  obtain ⟨k, lk, tk⟩ := df_fromT M n F K H B R 300 2 (q ^^^ 1) (df_x1 q hq) h2
  obtain ⟨a, b⟩ := key q hq j k (by omega) (by omega) tj tk
  exact ⟨df_FinT M n F K H B R (t := 0) (by omega) a, df_FinT M n F K H B R (t := 0) (by omega) b⟩
end
-- no cycle, as 'each set of rules has a member that no member is superior to': kept by a new rule without pairs, and by a pair that closes no chain
def df_ac (n : Nat) (R : Nat → Nat → Prop) : Prop := ∀ P : Nat → Prop, (∃ r, r < n ∧ P r) → ∃ r, r < n ∧ P r ∧ ∀ t, t < n → P t → ¬ R t r
theorem df_ac_0 (R : Nat → Nat → Prop) : df_ac 0 R := fun _ ⟨r, h, _⟩ => absurd h (Nat.not_lt_zero r)
theorem df_ac_new {n : Nat} {R R' : Nat → Nat → Prop} (h : df_ac n R) (h1 : ∀ r s, r < n → s < n → R' r s → R r s) (h2 : ∀ s, ¬ R' n s) (h3 : ∀ r, r < n → ¬ R' r n) : df_ac (n + 1) R' := by
  intro P ⟨r, hr, hP⟩
  rcases Classical.em (∃ r, r < n ∧ P r) with z | z
  · obtain ⟨m, hm, hPm, hmx⟩ := h P z
    refine ⟨m, by omega, hPm, fun t ht hPt hRt => ?_⟩
    rcases Nat.lt_or_ge t n with l | l
    · exact hmx t l hPt (h1 t m l hm hRt)
    · have e : t = n := by omega
      subst e
      exact h2 m hRt
  · have e : r = n := Classical.byContradiction (fun y => z ⟨r, by omega, hP⟩)
    subst e
    refine ⟨r, by omega, hP, fun t ht hPt hRt => ?_⟩
    rcases Nat.lt_or_ge t r with l | l
    · exact h3 t l hRt
    · have e : t = r := by omega
      subst e
      exact h2 t hRt
theorem df_ac_pair {n : Nat} {R R' : Nat → Nat → Prop} {a b : Nat} (h : df_ac n R) (ha : a < n) (hb : b < n) (hR : ∀ r s, r < n → R r s → s < n)
    (h1 : ∀ r s, r < n → R' r s → R r s ∨ (r = a ∧ s = b)) (hc : ¬ df_ch n R b (n - 1) a) : df_ac n R' := by
  intro P hP
  obtain ⟨m, hm, hPm, hmx⟩ := h P hP
  rcases Classical.em (m = b ∧ P a) with ⟨e, pa⟩ | z
  · obtain ⟨m', hm', ⟨hPm', hnc⟩, hmx'⟩ := h (fun x => P x ∧ ¬ df_ch n R b (n - 1) x) ⟨a, ha, pa, hc⟩
    refine ⟨m', hm', hPm', fun t ht hPt hRt => ?_⟩
    rcases h1 t m' ht hRt with w | ⟨w1, w2⟩
    · rcases Classical.em (df_ch n R b (n - 1) t) with y | y
      · exact hnc (df_ch_cl hb hR ht y w)
      · exact hmx' t ht ⟨hPt, y⟩ w
    · apply hnc
      rw [w2]
      have e0 := df_it_mono (f := df_wn n R) (s := fun i => i = b) (fun _ _ z => Or.inl z) 0 (n - 1) b rfl
      rw [Nat.zero_add] at e0
      exact e0
  · refine ⟨m, hm, hPm, fun t ht hPt hRt => ?_⟩
    rcases h1 t m ht hRt with w | ⟨w1, w2⟩
    · exact hmx t ht hPt w
    · exact z ⟨w2, w1 ▸ hPt⟩
end
section
-- the state between two steps of the law, and what it says of the tags
def dp_ok (n : Nat) (fa : Int64) (c : Int32) (p0 p1 p2 p3 : Int64) (K H bs : Nat → Int32) (bS : Nat → Int64) (wS : Nat → Int32) : Prop :=
  n ≤ 12 ∧ (∀ r, r < n → ∃ z, z ≤ 4 ∧ bs r = nI z) ∧ (∀ r s, r < n → df_R wS r s → s < n) ∧ df_ac n (df_R wS) ∧ (¬ c = 0 → df_S p0 p1 p2 p3 = df_Fin 6 n (df_l fa) K H (df_B bS) (df_R wS))
def dp_Q (c : Int32) (S : Nat → Prop) (t : Nat) (x : Int32) : Prop := ¬ c = 0 ∧ ∃ j, j < 6 ∧ x = nI j ∧ S (t * 64 + j)
theorem dp_bl (bS : Nat → Int64) (r q : Nat) (h : df_B bS r q) : q < 64 := df_l_lt h
section
variable (n : Nat) (fa : Int64) (c : Int32) (p0 p1 p2 p3 : Int64) (K H bs : Nat → Int32) (bS : Nat → Int64) (wS : Nat → Int32)
theorem dp_D (h : dp_ok n fa c p0 p1 p2 p3 K H bs bS wS) {x : Int32} (h0 : dp_Q c (df_S p0 p1 p2 p3) 0 x) (h1 : dp_Q c (df_S p0 p1 p2 p3) 1 x) : False := by
  obtain ⟨hc, j, hj, e, s0⟩ := h0
  obtain ⟨_, i, hi, e', s1⟩ := h1
  rw [e, nI_eq (by omega) (by omega)] at e'
  subst e'
  rw [h.2.2.2.2 hc] at s0 s1
  exact df_cohD 6 n (df_l fa) K H (df_B bS) (df_R wS) (dp_bl bS) 300 300 j (by omega) s0 s1
theorem dp_d (h : dp_ok n fa c p0 p1 p2 p3 K H bs bS wS) {x : Int32} (h0 : dp_Q c (df_S p0 p1 p2 p3) 2 x) (h1 : dp_Q c (df_S p0 p1 p2 p3) 3 x) : False := by
  obtain ⟨hc, j, hj, e, s0⟩ := h0
  obtain ⟨_, i, hi, e', s1⟩ := h1
  rw [e, nI_eq (by omega) (by omega)] at e'
  subst e'
  rw [h.2.2.2.2 hc] at s0 s1
  exact df_cohd 6 n (df_l fa) K H (df_B bS) (df_R wS) (dp_bl bS) 600 300 300 j (by omega) (by omega) s0 s1
theorem dp_c (h : dp_ok n fa c p0 p1 p2 p3 K H bs bS wS) {x : Int32} (h0 : dp_Q c (df_S p0 p1 p2 p3) 2 x) (h1 : dp_Q c (df_S p0 p1 p2 p3) 2 (x ^^^ 1)) : dp_Q c (df_S p0 p1 p2 p3) 0 x ∧ dp_Q c (df_S p0 p1 p2 p3) 0 (x ^^^ 1) := by
  obtain ⟨hc, j, hj, e, s0⟩ := h0
  obtain ⟨_, i, hi, e', s1⟩ := h1
  have hx := df_x1 j (by omega)
  rw [e, df_x1I, nI_eq (by omega) (by omega)] at e'
  subst e'
  have g := h.2.2.2.2 hc
  rw [g] at s0 s1
  obtain ⟨a, b⟩ := df_cons 6 n (df_l fa) K H (df_B bS) (df_R wS) (dp_bl bS) h.2.2.2.1 (q := j) (by omega) s0 s1
  refine ⟨⟨hc, j, hj, e, ?_⟩, ⟨hc, j ^^^ 1, hi, by rw [e, df_x1I], ?_⟩⟩
  · rw [g, show 0 * 64 + j = j by omega]
    exact a
  · rw [g, show 0 * 64 + (j ^^^ 1) = j ^^^ 1 by omega]
    exact b
theorem dp_ok_0 : dp_ok 0 0 0 p0 p1 p2 p3 K H bs bS wS :=
  ⟨by omega, fun r hr => absurd hr (Nat.not_lt_zero r), fun r s hr => absurd hr (Nat.not_lt_zero r), df_ac_0 _, fun z => absurd rfl z⟩
theorem dp_ok_fact (h : dp_ok n fa c p0 p1 p2 p3 K H bs bS wS) (fa' : Int64) : dp_ok n fa' 0 p0 p1 p2 p3 K H bs bS wS :=
  ⟨h.1, h.2.1, h.2.2.1, h.2.2.2.1, fun z => absurd rfl z⟩
theorem dp_ok_rule (h : dp_ok n fa c p0 p1 p2 p3 K H bs bS wS) (hn : n < 12) (K' H' : Nat → Int32) (bS' : Nat → Int64) : dp_ok (n + 1) fa 0 p0 p1 p2 p3 K' H' (upd bs n 0) bS' (upd wS n 0) := by
  obtain ⟨h1, h2, h3, h4, h5⟩ := h
  refine ⟨by omega, fun r hr => ?_, fun r s hr z => ?_, df_ac_new h4 (fun r s hr hs z => ?_) (fun s z => absurd ((df_uRs s).mp z) (df_w_0 s)) (fun r hr z => ?_), fun z => absurd rfl z⟩
  · rcases Classical.em (r = n) with e | e
    · subst e
      exact ⟨0, by omega, pk_us⟩
    · obtain ⟨z, hz, ez⟩ := h2 r (by omega)
      exact ⟨z, hz, (pk_un e).trans ez⟩
  · rcases Classical.em (r = n) with e | e
    · subst e
      exact absurd ((df_uRs s).mp z) (df_w_0 s)
    · have t := h3 r s (by omega) ((df_uR e s).mp z)
      omega
  · exact (df_uR (by omega) s).mp z
  · have t := h3 r n hr ((df_uR (by omega) n).mp z)
    omega
theorem dp_ok_body (h : dp_ok n fa c p0 p1 p2 p3 K H bs bS wS) {r z : Nat} (hz : z < 4) (bS' : Nat → Int64) : dp_ok n fa 0 p0 p1 p2 p3 K H (upd bs r (nI (z + 1))) bS' wS := by
  refine ⟨h.1, fun r' hr' => ?_, h.2.2.1, h.2.2.2.1, fun w => absurd rfl w⟩
  rcases Classical.em (r' = r) with e | e
  · subst e
    exact ⟨z + 1, by omega, pk_us⟩
  · obtain ⟨z', hz', ez⟩ := h.2.1 r' hr'
    exact ⟨z', hz', (pk_un e).trans ez⟩
theorem dp_ok_pair (h : dp_ok n fa c p0 p1 p2 p3 K H bs bS wS) {a b : Nat} (ha : a < n) (hb : b < n) (hc : ¬ df_ch n (df_R wS) b (n - 1) a) : dp_ok n fa 0 p0 p1 p2 p3 K H bs bS (upd wS a (wS a ||| ((1 : Int32) <<< (nI b &&& 31)))) := by
  obtain ⟨h1, h2, h3, h4, h5⟩ := h
  have b32 : b < 32 := by omega
  have key : ∀ r s, r < n → df_R (upd wS a (wS a ||| ((1 : Int32) <<< (nI b &&& 31)))) r s → df_R wS r s ∨ (r = a ∧ s = b) := by
    intro r s hr z
    rcases Classical.em (r = a) with g | g
    · subst g
      rcases (df_w_put _ b32 s).mp ((df_uRs s).mp z) with e | e
      · exact Or.inr ⟨rfl, e⟩
      · exact Or.inl e
    · exact Or.inl ((df_uR g s).mp z)
  refine ⟨h1, h2, fun r s hr z => ?_, df_ac_pair h4 ha hb h3 key hc, fun w => absurd rfl w⟩
  rcases key r s hr z with w | ⟨_, w⟩
  · exact h3 r s hr w
  · omega
end
end
section
section
variable (n : Nat) (fa : Int64) (c : Int32) (p0 p1 p2 p3 : Int64) (K H bs bl : Nat → Int32) (bS : Nat → Int64) (wS : Nat → Int32)
theorem dp_hasTag (post : Int32 → Prop) (x : Int32) {t : Nat} (ht : t < 4) (hp : post (df_b (dp_Q c (df_S p0 p1 p2 p3) t x))) : wpX_hasTag post (nI 6, nI 12, fa, nI n, c, p0, p1, p2, p3, K, H, bs, bl, bS, wS) x (nI t) := by
  refine dx_hasTag 6 n (nI 12) fa c p0 p1 p2 p3 K H bs bl bS wS post x (nI t) (by omega) ?_
  have e : dp_Q c (df_S p0 p1 p2 p3) t x ↔ (¬ c = 0 ∧ ∃ j t', j < 6 ∧ t' < 4 ∧ x = nI j ∧ nI t = nI t' ∧ df_S p0 p1 p2 p3 (t' * 64 + j)) := by
    constructor
    · rintro ⟨hc, j, hj, e, s⟩
      exact ⟨hc, j, t, hj, ht, e, rfl, s⟩
    · rintro ⟨hc, j, t', hj, ht', e, et, s⟩
      rw [nI_eq (by omega) (by omega)] at et
      subst et
      exact ⟨hc, j, hj, e, s⟩
  rw [← df_bc e]
  exact hp
theorem dp_c64 (h : dp_ok n fa c p0 p1 p2 p3 K H bs bS wS) (post : Int32 → Prop) (J : Int32 → Prop) (x : Int32) (hJ : J (x + 1)) : wL_check_64 post J 6 x (df_b (dp_Q c (df_S p0 p1 p2 p3) 0 x)) (df_b (dp_Q c (df_S p0 p1 p2 p3) 2 x)) (nI 6) (nI 12) fa (nI n) c p0 p1 p2 p3 K H bs bl bS wS :=
  nm_e (df_br (fun a2 => nm_e hJ) (fun a2 => dp_hasTag n fa c p0 p1 p2 p3 K H bs bl bS wS _ (x ^^^ 1) (t := 2) (by omega) (df_br (fun b => nm_e hJ)
    (fun b => df_br (fun a0 => absurd (dp_c n fa c p0 p1 p2 p3 K H bs bS wS h a2 b).1 a0) (fun a0 => dp_hasTag n fa c p0 p1 p2 p3 K H bs bl bS wS _ (x ^^^ 1) (t := 0) (by omega) (df_br (fun d => absurd (dp_c n fa c p0 p1 p2 p3 K H bs bS wS h a2 b).2 d) (fun d => nm_e hJ)))))))
theorem dp_c52 (h : dp_ok n fa c p0 p1 p2 p3 K H bs bS wS) (post : Int32 → Prop) (J : Int32 → Prop) (x : Int32) (hJ : J (x + 1)) : wL_check_52 post J 6 x (df_b (dp_Q c (df_S p0 p1 p2 p3) 0 x)) (df_b (dp_Q c (df_S p0 p1 p2 p3) 2 x)) (df_b (dp_Q c (df_S p0 p1 p2 p3) 3 x)) (nI 6) (nI 12) fa (nI n) c p0 p1 p2 p3 K H bs bl bS wS :=
  df_br (fun a2 => dp_c64 n fa c p0 p1 p2 p3 K H bs bl bS wS h post J x hJ) (fun a2 => df_br (fun a3 => dp_c64 n fa c p0 p1 p2 p3 K H bs bl bS wS h post J x hJ) (fun a3 => (dp_d n fa c p0 p1 p2 p3 K H bs bS wS h a2 a3).elim))
theorem dp_lt : ∀ i, i < 10 → ¬ (6 : Int32) + 1 < -2 + nI i := by decide +kernel
theorem dp_ge : (6 : Int32) + 1 < -2 + nI 10 := by decide +kernel
theorem dp_nx (i : Nat) : -2 + nI i + 1 = -2 + nI (i + 1) := by rw [Int32.add_assoc, nI_1]
theorem dp_check (h : dp_ok n fa c p0 p1 p2 p3 K H bs bS wS) (post : Int32 → Prop) (hp : post 1) : wpL_check post (nI 6, nI 12, fa, nI n, c, p0, p1, p2, p3, K, H, bs, bl, bS, wS) 6 := by
  have t := df_loop (σ := Unit) (fun m i _ => wL_check_3 post 6 (nI 6) (nI 12) fa (nI n) c p0 p1 p2 p3 K H bs bl bS wS m (-2 + nI i)) (fun _ _ => True) 10
    (fun m _ _ => br_t dp_ge hp)
    (fun m i _ hi _ k => br_f (dp_lt i hi) (by
      have hJ : wL_check_3 post 6 (nI 6) (nI 12) fa (nI n) c p0 p1 p2 p3 K H bs bl bS wS m (-2 + nI i + 1) := by
        rw [dp_nx]
        exact k () trivial
      refine dp_hasTag n fa c p0 p1 p2 p3 K H bs bl bS wS _ (-2 + nI i) (t := 0) (by omega) (dp_hasTag n fa c p0 p1 p2 p3 K H bs bl bS wS _ (-2 + nI i) (t := 1) (by omega) (dp_hasTag n fa c p0 p1 p2 p3 K H bs bl bS wS _ (-2 + nI i) (t := 2) (by omega) (dp_hasTag n fa c p0 p1 p2 p3 K H bs bl bS wS _ (-2 + nI i) (t := 3) (by omega)
        (df_br (fun a0 => dp_c52 n fa c p0 p1 p2 p3 K H bs bl bS wS h post _ (-2 + nI i) hJ) (fun a0 => df_br (fun a1 => dp_c52 n fa c p0 p1 p2 p3 K H bs bl bS wS h post _ (-2 + nI i) hJ) (fun a1 => (dp_D n fa c p0 p1 p2 p3 K H bs bS wS h a0 a1).elim))))))))
    () trivial
  obtain ⟨m, hm⟩ := t
  have e : (-2 : Int32) + nI 0 = -2 := by decide
  rw [e] at hm
  exact ⟨m, hm⟩
-- the calls of one step, whatever they answer
theorem dp_addFact (h : dp_ok n fa c p0 p1 p2 p3 K H bs bS wS) (post : Int32 → St2 → Prop) (x : Int32) (hp : ∀ r n fa c p0 p1 p2 p3 K H bs bl bS wS, dp_ok n fa c p0 p1 p2 p3 K H bs bS wS → post r (nI 6, nI 12, fa, nI n, c, p0, p1, p2, p3, K, H, bs, bl, bS, wS)) : wpX_addFact post (nI 6, nI 12, fa, nI n, c, p0, p1, p2, p3, K, H, bs, bl, bS, wS) x := by
  rcases Classical.em (∃ j, j < 6 ∧ x = nI j ∧ ¬ df_l fa j) with ⟨j, hj, rfl, hf⟩ | z
  · exact dx_addFact1 6 n (nI 12) fa c p0 p1 p2 p3 K H bs bl bS wS _ (by omega) hj hf (hp 1 n _ 0 p0 p1 p2 p3 K H bs bl bS wS (dp_ok_fact n fa c p0 p1 p2 p3 K H bs bS wS h _))
  · exact dx_addFact0 6 n (nI 12) fa c p0 p1 p2 p3 K H bs bl bS wS _ x (by omega) (fun j hj e => Classical.byContradiction (fun w => z ⟨j, hj, e, w⟩)) (hp 0 n fa c p0 p1 p2 p3 K H bs bl bS wS h)
theorem dp_newRule (h : dp_ok n fa c p0 p1 p2 p3 K H bs bS wS) (post : Int32 → St2 → Prop) (x y : Int32) (hp : ∀ r n fa c p0 p1 p2 p3 K H bs bl bS wS, dp_ok n fa c p0 p1 p2 p3 K H bs bS wS → post r (nI 6, nI 12, fa, nI n, c, p0, p1, p2, p3, K, H, bs, bl, bS, wS)) : wpX_newRule post (nI 6, nI 12, fa, nI n, c, p0, p1, p2, p3, K, H, bs, bl, bS, wS) x y := by
  have hn := h.1
  rcases Classical.em ((x = 0 ∨ x = 1 ∨ x = 2) ∧ df_v 6 y ∧ nI n < nI 12) with ⟨hk, ⟨q, hq, rfl⟩, hl⟩ | z
  · have hl' := hl
    rw [nI_ltI (by omega) (by omega)] at hl'
    exact dx_newRule1 6 n (nI 12) fa c p0 p1 p2 p3 K H bs bl bS wS _ x (by omega) (by omega) hk hq hl (hp _ (n + 1) fa 0 p0 p1 p2 p3 _ _ _ bl _ _ (dp_ok_rule n fa c p0 p1 p2 p3 K H bs bS wS h hl' _ _ _))
  · exact dx_newRule0 6 n (nI 12) fa c p0 p1 p2 p3 K H bs bl bS wS _ x y (by omega) z (hp _ n fa c p0 p1 p2 p3 K H bs bl bS wS h)
theorem dp_addBody (h : dp_ok n fa c p0 p1 p2 p3 K H bs bS wS) (post : Int32 → St2 → Prop) (x y : Int32) (hp : ∀ r n fa c p0 p1 p2 p3 K H bs bl bS wS, dp_ok n fa c p0 p1 p2 p3 K H bs bS wS → post r (nI 6, nI 12, fa, nI n, c, p0, p1, p2, p3, K, H, bs, bl, bS, wS)) : wpX_addBody post (nI 6, nI 12, fa, nI n, c, p0, p1, p2, p3, K, H, bs, bl, bS, wS) x y := by
  have hn := h.1
  rcases Classical.em (∃ r q z, r < n ∧ q < 6 ∧ z < 4 ∧ x = nI r ∧ y = nI q ∧ bs r = nI z ∧ ¬ df_B bS r q) with ⟨r, q, z, hr, hq, hz, rfl, rfl, ez, hb⟩ | w
  · exact dx_addBody1 6 n (nI 12) fa c p0 p1 p2 p3 K H bs bl bS wS _ (by omega) (by omega) hr hq hz ez hb (hp _ n fa 0 p0 p1 p2 p3 K H _ _ _ wS (dp_ok_body n fa c p0 p1 p2 p3 K H bs bS wS h hz _))
  · refine dx_addBody0 6 n (nI 12) fa c p0 p1 p2 p3 K H bs bl bS wS _ x y (by omega) (by omega) h.2.1 (fun r q hr hq e1 e2 => ?_) (hp _ n fa c p0 p1 p2 p3 K H bs bl bS wS h)
    obtain ⟨z, hz, ez⟩ := h.2.1 r hr
    rcases Nat.lt_or_ge z 4 with l | l
    · exact Or.inr (Classical.byContradiction (fun y => w ⟨r, q, z, hr, hq, l, e1, e2, ez, y⟩))
    · exact Or.inl (by rw [ez, show z = 4 by omega])
theorem dp_addSuperior (h : dp_ok n fa c p0 p1 p2 p3 K H bs bS wS) (post : Int32 → St2 → Prop) (x y : Int32) (hp : ∀ r n fa c p0 p1 p2 p3 K H bs bl bS wS, dp_ok n fa c p0 p1 p2 p3 K H bs bS wS → post r (nI 6, nI 12, fa, nI n, c, p0, p1, p2, p3, K, H, bs, bl, bS, wS)) : wpX_addSuperior post (nI 6, nI 12, fa, nI n, c, p0, p1, p2, p3, K, H, bs, bl, bS, wS) x y := by
  have hn := h.1
  rcases Classical.em (∃ a b, a < n ∧ b < n ∧ x = nI a ∧ y = nI b ∧ ¬ a = b ∧ ¬ df_R wS a b) with ⟨a, b, ha, hb, rfl, rfl, hab, hnr⟩ | z
  · exact dx_addSuperiorR 6 n (nI 12) fa c p0 p1 p2 p3 K H bs bl bS wS _ (by omega) ha hb hab hnr (fun w => hp _ n fa 0 p0 p1 p2 p3 K H bs bl bS _ (dp_ok_pair n fa c p0 p1 p2 p3 K H bs bS wS h ha hb w)) (fun _ => hp _ n fa c p0 p1 p2 p3 K H bs bl bS wS h)
  · refine dx_addSuperior0 6 n (nI 12) fa c p0 p1 p2 p3 K H bs bl bS wS _ x y (by omega) (fun a b ha hb e1 e2 => ?_) (hp _ n fa c p0 p1 p2 p3 K H bs bl bS wS h)
    rcases Classical.em (a = b) with w | w
    · exact Or.inl w
    · exact Or.inr (Classical.byContradiction (fun y => z ⟨a, b, ha, hb, e1, e2, w, y⟩))
theorem dp_compute (h : dp_ok n fa c p0 p1 p2 p3 K H bs bS wS) (post : Int32 → St2 → Prop) (hp : ∀ r n fa c p0 p1 p2 p3 K H bs bl bS wS, dp_ok n fa c p0 p1 p2 p3 K H bs bS wS → post r (nI 6, nI 12, fa, nI n, c, p0, p1, p2, p3, K, H, bs, bl, bS, wS)) : wpX_compute post (nI 6, nI 12, fa, nI n, c, p0, p1, p2, p3, K, H, bs, bl, bS, wS) := by
  have hn := h.1
  exact dx_compute 6 n (nI 12) fa c p0 p1 p2 p3 K H bs bl bS wS _ (by omega) (by omega) (fun r0 r1 r2 r3 hr => hp _ n fa 1 r0 r1 r2 r3 K H bs bl bS wS ⟨hn, h.2.1, h.2.2.1, h.2.2.2.1, fun _ => hr⟩)
theorem dp_reset (post : St2 → Prop) (hp : ∀ n fa c p0 p1 p2 p3 K H bs bl bS wS, dp_ok n fa c p0 p1 p2 p3 K H bs bS wS → post (nI 6, nI 12, fa, nI n, c, p0, p1, p2, p3, K, H, bs, bl, bS, wS)) : wpX_reset post (nI 6, nI 12, fa, nI n, c, p0, p1, p2, p3, K, H, bs, bl, bS, wS) :=
  dx_reset 6 n (nI 12) fa c p0 p1 p2 p3 K H bs bl bS wS post (hp 0 0 0 p0 p1 p2 p3 K H bs bl bS wS (dp_ok_0 p0 p1 p2 p3 K H bs bS wS))
theorem dp_ruleCount (post : Int32 → Prop) (hp : post (nI n)) : wpX_ruleCount post (nI 6, nI 12, fa, nI n, c, p0, p1, p2, p3, K, H, bs, bl, bS, wS) := hp
end
-- the law's own small methods
theorem dp_mod (post : Int32 → Prop) (x : Int32) {k : Nat} (h0 : 0 < k) (hk : k < 2 ^ 31) (hp : ∀ j, j < k → post (nI j)) : wpL_mod post () x (nI k) := by
  have e : x &&& 2147483647 = nI (x.toBitVec.toNat % 2 ^ 31) := pk_and x 31 (by decide)
  refine br_t (nI_le (a := 1) (b := k) h0 hk) ⟨nI_ne0 h0 hk, ?_⟩
  rw [e, pk_rem (Nat.mod_lt _ (by decide)) h0 hk]
  exact hp _ (Nat.mod_lt _ h0)
theorem dp_cell (post : Int32 → Prop) (L : Nat) (xs : Nat → Int32) {i : Nat} (x : Int32) (hx : x = nI i) (hL : L ≤ 260) (hi : i < 2 ^ 31) (hp : ∀ y, post y) : wpL_cell post L xs () x := by
  subst hx
  refine br_c (fun _ => hp _) (fun h => ⟨vp_in_nI ?_ (by omega), hp _⟩)
  have h' : ¬ nI L ≤ nI i := h
  rw [nI_leI (by omega) hi] at h'
  omega
end
section
section
variable (L : Nat) (xs : Nat → Int32) (kc ks : Nat)
theorem dp_233 (post : Int32 → Prop) (J : Int32 → Int32 → Int32 → Int32 → Int64 → Int32 → Int32 → Int64 → Int64 → Int64 → Int64 → (Nat → Int32) → (Nat → Int32) → (Nat → Int32) → (Nat → Int32) → (Nat → Int64) → (Nat → Int32) → Prop) (x3 x4 : Int32)
    (n : Nat) (fa : Int64) (c : Int32) (p0 p1 p2 p3 : Int64) (K H bs bl : Nat → Int32) (bS : Nat → Int64) (wS : Nat → Int32) (h : dp_ok n fa c p0 p1 p2 p3 K H bs bS wS) (hJ : J x3 x4 (nI 6) (nI 12) fa (nI n) c p0 p1 p2 p3 K H bs bl bS wS) :
    wL_law_233 post L xs J 6 x3 x4 kc ks (nI 6) (nI 12) fa (nI n) c p0 p1 p2 p3 K H bs bl bS wS := by
  unfold wL_law_233
  exact dp_check n fa c p0 p1 p2 p3 K H bs bl bS wS h _ (br_f (by decide) hJ)
theorem dp_246 (n : Nat) (fa : Int64) (c : Int32) (p0 p1 p2 p3 : Int64) (K H bs bl : Nat → Int32) (bS : Nat → Int64) (wS : Nat → Int32) (h : dp_ok n fa c p0 p1 p2 p3 K H bs bS wS) :
    wL_law_246 (fun r => r = 1) L xs 6 kc ks (nI 6) (nI 12) fa (nI n) c p0 p1 p2 p3 K H bs bl bS wS := by
  unfold wL_law_246
  exact dp_compute n fa c p0 p1 p2 p3 K H bs bl bS wS h _ (fun r n fa c p0 p1 p2 p3 K H bs bl bS wS h => dp_check n fa c p0 p1 p2 p3 K H bs bl bS wS h _ rfl)
theorem dp_106 (post : Int32 → Prop) (J : Int32 → Int32 → Int32 → Int32 → Int64 → Int32 → Int32 → Int64 → Int64 → Int64 → Int64 → (Nat → Int32) → (Nat → Int32) → (Nat → Int32) → (Nat → Int32) → (Nat → Int64) → (Nat → Int32) → Prop) (x3 x4 x6 x7 : Int32)
    (n : Nat) (fa : Int64) (c : Int32) (p0 p1 p2 p3 : Int64) (K H bs bl : Nat → Int32) (bS : Nat → Int64) (wS : Nat → Int32) (h : dp_ok n fa c p0 p1 p2 p3 K H bs bS wS)
    (hJ : ∀ n fa c p0 p1 p2 p3 K H bs bl bS wS, dp_ok n fa c p0 p1 p2 p3 K H bs bS wS → J x3 x4 (nI 6) (nI 12) fa (nI n) c p0 p1 p2 p3 K H bs bl bS wS) :
    wL_law_106 post L xs J 6 x3 x4 x6 x7 kc ks (nI 6) (nI 12) fa (nI n) c p0 p1 p2 p3 K H bs bl bS wS := by
  unfold wL_law_106
  exact dp_mod _ x6 (k := 3) (by omega) (by omega) (fun a _ => dp_mod _ x7 (k := 6) (by omega) (by omega) (fun b _ => dp_newRule n fa c p0 p1 p2 p3 K H bs bl bS wS h _ (nI a) (nI b)
    (fun r n fa c p0 p1 p2 p3 K H bs bl bS wS h => dp_233 L xs kc ks post J x3 x4 n fa c p0 p1 p2 p3 K H bs bl bS wS h (hJ n fa c p0 p1 p2 p3 K H bs bl bS wS h))))
theorem dp_138 (post : Int32 → Prop) (J : Int32 → Int32 → Int32 → Int32 → Int64 → Int32 → Int32 → Int64 → Int64 → Int64 → Int64 → (Nat → Int32) → (Nat → Int32) → (Nat → Int32) → (Nat → Int32) → (Nat → Int64) → (Nat → Int32) → Prop) (x3 x4 x6 x7 : Int32)
    (n : Nat) (fa : Int64) (c : Int32) (p0 p1 p2 p3 : Int64) (K H bs bl : Nat → Int32) (bS : Nat → Int64) (wS : Nat → Int32) (h : dp_ok n fa c p0 p1 p2 p3 K H bs bS wS)
    (hJ : ∀ n fa c p0 p1 p2 p3 K H bs bl bS wS, dp_ok n fa c p0 p1 p2 p3 K H bs bS wS → J x3 x4 (nI 6) (nI 12) fa (nI n) c p0 p1 p2 p3 K H bs bl bS wS) :
    wL_law_138 post L xs J 6 x3 x4 x6 x7 (nI n) kc ks (nI 6) (nI 12) fa (nI n) c p0 p1 p2 p3 K H bs bl bS wS := by
  have hn := h.1
  refine br_c (fun _ => dp_233 L xs kc ks post J x3 x4 n fa c p0 p1 p2 p3 K H bs bl bS wS h (hJ n fa c p0 p1 p2 p3 K H bs bl bS wS h)) (fun z => ?_)
  have n0 : 0 < n := Nat.pos_of_ne_zero (fun e => z (by subst e; exact nI_le (a := 0) (b := 0) (by omega) (by omega)))
  exact dp_mod _ x6 (k := n) n0 (by omega) (fun a _ => dp_mod _ x7 (k := 6) (by omega) (by omega) (fun b _ => dp_addBody n fa c p0 p1 p2 p3 K H bs bl bS wS h _ (nI a) (nI b)
    (fun r n fa c p0 p1 p2 p3 K H bs bl bS wS h => dp_233 L xs kc ks post J x3 x4 n fa c p0 p1 p2 p3 K H bs bl bS wS h (hJ n fa c p0 p1 p2 p3 K H bs bl bS wS h))))
theorem dp_law (hL : L ≤ 260) : ∀ (d s n : Nat) (fa : Int64) (c : Int32) (p0 p1 p2 p3 : Int64) (K H bs bl : Nat → Int32) (bS : Nat → Int64) (wS : Nat → Int32), s + d = 200 → dp_ok n fa c p0 p1 p2 p3 K H bs bS wS →
    wL_law_19 (fun r => r = 1) L xs 6 kc ks (d + 1) (nI (3 * s)) (nI s) (nI 6) (nI 12) fa (nI n) c p0 p1 p2 p3 K H bs bl bS wS := by
  intro d
  induction d with
  | zero =>
    intro s n fa c p0 p1 p2 p3 K H bs bl bS wS hs h
    have e : s = 200 := by omega
    subst e
    exact br_c (fun _ => dp_246 L xs kc ks n fa c p0 p1 p2 p3 K H bs bl bS wS h) (fun _ => br_t (nI_le (a := 200) (b := 200) (by omega) (by omega)) (dp_246 L xs kc ks n fa c p0 p1 p2 p3 K H bs bl bS wS h))
  | succ d ih =>
    intro s n fa c p0 p1 p2 p3 K H bs bl bS wS hs h
    have hn := h.1
    have e3 : nI (3 * s) + 3 = nI (3 * (s + 1)) := nI_add (3 * s) 3
    have hJ : ∀ n fa c p0 p1 p2 p3 K H bs bl bS wS, dp_ok n fa c p0 p1 p2 p3 K H bs bS wS → wL_law_19 (fun r => r = 1) L xs 6 kc ks (d + 1) (nI (3 * (s + 1))) (nI (s + 1)) (nI 6) (nI 12) fa (nI n) c p0 p1 p2 p3 K H bs bl bS wS :=
      fun n fa c p0 p1 p2 p3 K H bs bl bS wS h => ih (s + 1) n fa c p0 p1 p2 p3 K H bs bl bS wS (by omega) h
    have hC : ∀ n fa c p0 p1 p2 p3 K H bs bl bS wS, dp_ok n fa c p0 p1 p2 p3 K H bs bS wS → wL_law_233 (fun r => r = 1) L xs (wL_law_19 (fun r => r = 1) L xs 6 kc ks (d + 1)) 6 (nI (3 * (s + 1))) (nI (s + 1)) kc ks (nI 6) (nI 12) fa (nI n) c p0 p1 p2 p3 K H bs bl bS wS :=
      fun n fa c p0 p1 p2 p3 K H bs bl bS wS h => dp_233 L xs kc ks _ _ _ _ n fa c p0 p1 p2 p3 K H bs bl bS wS h (hJ n fa c p0 p1 p2 p3 K H bs bl bS wS h)
    refine br_c (fun _ => dp_246 L xs kc ks n fa c p0 p1 p2 p3 K H bs bl bS wS h) (fun _ => br_c (fun _ => dp_246 L xs kc ks n fa c p0 p1 p2 p3 K H bs bl bS wS h) (fun _ => ?_))
    refine dp_cell _ L xs (i := 3 * s) (nI (3 * s)) rfl hL (by omega) (fun y0 => dp_mod _ y0 (k := 8) (by omega) (by omega) (fun o _ => dp_cell _ L xs (i := 3 * s + 1) (nI (3 * s) + 1) (nI_1 _) hL (by omega) (fun y1 => dp_cell _ L xs (i := 3 * s + 2) (nI (3 * s) + 2) (nI_add (3 * s) 2) hL (by omega) (fun y2 => nm_r e3 (nm_r (nI_1 s) (dp_ruleCount n fa c p0 p1 p2 p3 K H bs bl bS wS _ ?_))))))
    refine br_c (fun _ => dp_mod _ y1 (k := 6) (by omega) (by omega) (fun a _ => dp_addFact n fa c p0 p1 p2 p3 K H bs bl bS wS h _ (nI a) (fun r n fa c p0 p1 p2 p3 K H bs bl bS wS h => hC n fa c p0 p1 p2 p3 K H bs bl bS wS h))) (fun _ => ?_)
    refine br_c (fun _ => dp_106 L xs kc ks _ _ _ _ y1 y2 n fa c p0 p1 p2 p3 K H bs bl bS wS h hJ) (fun _ => ?_)
    refine br_c (fun _ => dp_106 L xs kc ks _ _ _ _ y1 y2 n fa c p0 p1 p2 p3 K H bs bl bS wS h hJ) (fun _ => ?_)
    refine br_c (fun _ => dp_138 L xs kc ks _ _ _ _ y1 y2 n fa c p0 p1 p2 p3 K H bs bl bS wS h hJ) (fun _ => ?_)
    refine br_c (fun _ => dp_138 L xs kc ks _ _ _ _ y1 y2 n fa c p0 p1 p2 p3 K H bs bl bS wS h hJ) (fun _ => ?_)
    refine br_c (fun _ => br_c (fun _ => hC n fa c p0 p1 p2 p3 K H bs bl bS wS h) (fun z => ?_)) (fun _ => ?_)
    · have n0 : 0 < n := Nat.pos_of_ne_zero (fun e => z (by subst e; exact nI_le (a := 0) (b := 0) (by omega) (by omega)))
      exact dp_mod _ y1 (k := n) n0 (by omega) (fun a _ => dp_mod _ y2 (k := n) n0 (by omega) (fun b _ => dp_addSuperior n fa c p0 p1 p2 p3 K H bs bl bS wS h _ (nI a) (nI b) (fun r n fa c p0 p1 p2 p3 K H bs bl bS wS h => hC n fa c p0 p1 p2 p3 K H bs bl bS wS h)))
    refine br_c (fun _ => dp_compute n fa c p0 p1 p2 p3 K H bs bl bS wS h _ (fun r n fa c p0 p1 p2 p3 K H bs bl bS wS h => hC n fa c p0 p1 p2 p3 K H bs bl bS wS h)) (fun _ => ?_)
    exact dp_mod _ y1 (k := 4) (by omega) (by omega) (fun a _ => br_c (fun _ => dp_reset n fa c p0 p1 p2 p3 K H bs bl bS wS _ (fun n fa c p0 p1 p2 p3 K H bs bl bS wS h => hC n fa c p0 p1 p2 p3 K H bs bl bS wS h))
      (fun _ => dp_compute n fa c p0 p1 p2 p3 K H bs bl bS wS h _ (fun r n fa c p0 p1 p2 p3 K H bs bl bS wS h => hC n fa c p0 p1 p2 p3 K H bs bl bS wS h)))
end
theorem i_vc (xs : Nat → Int32) (L : Nat) (hL : L ≤ 260) : wpL_law (fun r => r = 1) L xs := by
  refine ⟨6, 288, by omega, by omega, ?_⟩
  unfold wpX_init
  refine ⟨by omega, by omega, by omega, by omega, by omega, by omega, by omega, by omega, by omega, by omega, by omega, by omega, ?_⟩
  refine br_t (by decide) (br_t (by decide) (nm_r (show (2 : Int32) * 3 = nI 6 by decide) (br_t (by decide) (br_t (by decide) ⟨201, ?_⟩))))
  exact dp_law L xs _ _ hL 200 0 0 0 0 0 0 0 0 _ _ _ _ _ _ rfl (dp_ok_0 0 0 0 0 _ _ _ _ _)
end
