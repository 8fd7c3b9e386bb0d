-- rows taken from the rows to paste (bits)
def bt (x : Int32) (i : Nat) : Bool := x.toBitVec.getLsbD i
theorem b_ext {x y : Int32} (h : ∀ i, i < 32 → bt x i = bt y i) : x = y := Int32.toBitVec_inj.mp (BitVec.eq_of_getLsbD_eq (fun i hi => h i hi))
theorem b_or (x y : Int32) (i : Nat) : bt (x ||| y) i = (bt x i || bt y i) := by unfold bt; rw [Int32.toBitVec_or, BitVec.getLsbD_or]
theorem b_and (x y : Int32) (i : Nat) : bt (x &&& y) i = (bt x i && bt y i) := by unfold bt; rw [Int32.toBitVec_and, BitVec.getLsbD_and]
theorem b_0 (i : Nat) : bt 0 i = false := BitVec.getLsbD_zero
theorem s_u : ∀ n, n < 32 → (((nI n).toUInt32 &&& Int32.toUInt32 31).toBitVec % 32).toNat = n := by decide +kernel
theorem b_ushr (n : Nat) (hn : n < 32) (x : Int32) (i : Nat) : bt ((x.toUInt32 >>> ((nI n).toUInt32 &&& Int32.toUInt32 31)).toInt32) i = bt x (n + i) := by
  show (x.toUInt32 >>> ((nI n).toUInt32 &&& Int32.toUInt32 31)).toBitVec.getLsbD i = x.toUInt32.toBitVec.getLsbD (n + i)
  rw [UInt32.toBitVec_shiftRight]
  show (x.toUInt32.toBitVec >>> (((nI n).toUInt32 &&& Int32.toUInt32 31).toBitVec % 32).toNat).getLsbD i = _
  rw [s_u n hn, BitVec.getLsbD_ushiftRight]
theorem nx_xor (a b : Nat) : nI a ^^^ nI b = nI (a ^^^ b) := by
  apply Int32.toBitVec_inj.1
  show BitVec.ofNat 32 a ^^^ BitVec.ofNat 32 b = BitVec.ofNat 32 (a ^^^ b)
  apply BitVec.eq_of_getLsbD_eq
  intro i hi
  simp [hi]
theorem ts_bit {w : Int64} {s : UInt64} {j : Nat} (hj : j < 64) (hs : s.toNat = j) : ((w.toUInt64 >>> s).toInt64 &&& 1) = 0 ↔ w.toBitVec.getLsbD j = false := by
  have e : (w.toUInt64 >>> s).toInt64.toBitVec = w.toBitVec >>> j := by
    apply BitVec.eq_of_toNat_eq
    show (w.toUInt64 >>> s).toNat = _
    rw [UInt64.toNat_shiftRight, hs, Nat.mod_eq_of_lt hj, BitVec.toNat_ushiftRight]
    rfl
  rw [← Int64.toBitVec_inj, Int64.toBitVec_and, e]
  show w.toBitVec >>> j &&& 1#64 = 0#64 ↔ _
  constructor
  · intro h
    have t := congrArg (fun x => x.getLsbD 0) h
    simpa using t
  · intro h
    apply BitVec.eq_of_getLsbD_eq
    intro i hi
    cases i with
    | zero => simp [h]
    | succ i => simp
theorem wb_cu : ∀ k, k < 64 → ((nI k).toInt64.toUInt64 &&& Int64.toUInt64 63) = UInt64.ofNat k := by decide +kernel
theorem u_tn {n : Nat} (h : n < 2 ^ 64) : (UInt64.ofNat n).toNat = n := Nat.mod_eq_of_lt h
-- bits of a long (df_l) and of an int (df_w) as predicates
def df_l (x : Int64) (i : Nat) : Prop := x.toBitVec.getLsbD i = true
def df_w (x : Int32) (i : Nat) : Prop := x.toBitVec.getLsbD i = true
theorem df_l_lt {x : Int64} {i : Nat} (h : df_l x i) : i < 64 := by
  rcases Nat.lt_or_ge i 64 with l | l
  · exact l
  · have t : x.toBitVec.getLsbD i = false := BitVec.getLsbD_of_ge _ _ l
    exact absurd (h.symm.trans t) (by decide)
theorem df_w_lt {x : Int32} {i : Nat} (h : df_w x i) : i < 32 := by
  rcases Nat.lt_or_ge i 32 with l | l
  · exact l
  · have t : x.toBitVec.getLsbD i = false := BitVec.getLsbD_of_ge _ _ l
    exact absurd (h.symm.trans t) (by decide)
theorem df_l_ext {x y : Int64} (h : ∀ i, df_l x i ↔ df_l y i) : x = y :=
  Int64.toBitVec_inj.mp (BitVec.eq_of_getLsbD_eq (fun i _ => Bool.eq_iff_iff.mpr (h i)))
theorem df_w_ext {x y : Int32} (h : ∀ i, df_w x i ↔ df_w y i) : x = y :=
  Int32.toBitVec_inj.mp (BitVec.eq_of_getLsbD_eq (fun i _ => Bool.eq_iff_iff.mpr (h i)))
theorem df_l_0 (i : Nat) : ¬ df_l 0 i := by
  intro h
  have l := df_l_lt h
  exact (by decide +kernel : ∀ i, i < 64 → ¬ ((0 : Int64).toBitVec.getLsbD i = true)) i l h
theorem df_w_0 (i : Nat) : ¬ df_w 0 i := by
  intro h
  have l := df_w_lt h
  exact (by decide +kernel : ∀ i, i < 32 → ¬ ((0 : Int32).toBitVec.getLsbD i = true)) i l h
theorem df_l_or (x y : Int64) (i : Nat) : df_l (x ||| y) i ↔ df_l x i ∨ df_l y i := by
  unfold df_l; rw [Int64.toBitVec_or, BitVec.getLsbD_or, Bool.or_eq_true]
theorem df_w_or (x y : Int32) (i : Nat) : df_w (x ||| y) i ↔ df_w x i ∨ df_w y i := by
  unfold df_w; rw [Int32.toBitVec_or, BitVec.getLsbD_or, Bool.or_eq_true]
theorem df_l_and (x y : Int64) (i : Nat) : df_l (x &&& y) i ↔ df_l x i ∧ df_l y i := by
  unfold df_l; rw [Int64.toBitVec_and, BitVec.getLsbD_and, Bool.and_eq_true]
-- one bit set
theorem df_l_sh : ∀ l, l < 64 → ((1 : Int64) <<< ((nI l).toInt64 &&& 63)).toBitVec = BitVec.twoPow 64 l := by decide +kernel
theorem df_w_sh : ∀ l, l < 32 → ((1 : Int32) <<< (nI l &&& 31)).toBitVec = BitVec.twoPow 32 l := by decide +kernel
theorem df_l_one {l : Nat} (hl : l < 64) (i : Nat) : df_l ((1 : Int64) <<< ((nI l).toInt64 &&& 63)) i ↔ i = l := by
  unfold df_l
  rw [df_l_sh l hl, BitVec.getLsbD_twoPow, Bool.and_eq_true, decide_eq_true_eq, decide_eq_true_eq]
  exact ⟨fun z => z.2.symm, fun z => ⟨hl, z.symm⟩⟩
theorem df_w_one {l : Nat} (hl : l < 32) (i : Nat) : df_w ((1 : Int32) <<< (nI l &&& 31)) i ↔ i = l := by
  unfold df_w
  rw [df_w_sh l hl, BitVec.getLsbD_twoPow, Bool.and_eq_true, decide_eq_true_eq, decide_eq_true_eq]
  exact ⟨fun z => z.2.symm, fun z => ⟨hl, z.symm⟩⟩
theorem df_l_put (x : Int64) {l : Nat} (hl : l < 64) (i : Nat) : df_l (x ||| ((1 : Int64) <<< ((nI l).toInt64 &&& 63))) i ↔ i = l ∨ df_l x i := by
  rw [df_l_or, df_l_one hl]; exact Or.comm
theorem df_w_put (x : Int32) {l : Nat} (hl : l < 32) (i : Nat) : df_w (x ||| ((1 : Int32) <<< (nI l &&& 31))) i ↔ i = l ∨ df_w x i := by
  rw [df_w_or, df_w_one hl]; exact Or.comm
-- one bit read (rests on ts_bit, wb_cu, u_tn and on s_u or nf_bit of the rows to paste)
theorem df_l_get (x : Int64) {l : Nat} (hl : l < 64) : ((x.toUInt64 >>> ((nI l).toInt64.toUInt64 &&& Int64.toUInt64 63)).toInt64 &&& 1) = 0 ↔ ¬ df_l x l := by
  have hs : ((nI l).toInt64.toUInt64 &&& Int64.toUInt64 63).toNat = l := by rw [wb_cu l hl]; exact u_tn (by omega)
  rw [ts_bit hl hs]
  unfold df_l
  exact ⟨fun a b => absurd (b.symm.trans a) (by decide), fun a => Bool.eq_false_iff.mpr a⟩
theorem df_w_get (x : Int32) {l : Nat} (hl : l < 32) : ((x.toUInt32 >>> ((nI l).toUInt32 &&& Int32.toUInt32 31)).toInt32 &&& 1) = 0 ↔ ¬ df_w x l := by
  have e : ((x.toUInt32 >>> ((nI l).toUInt32 &&& Int32.toUInt32 31)).toInt32 &&& 1) = 0 ↔ ¬ bt ((x.toUInt32 >>> ((nI l).toUInt32 &&& Int32.toUInt32 31)).toInt32) 0 = true := by
    generalize (x.toUInt32 >>> ((nI l).toUInt32 &&& Int32.toUInt32 31)).toInt32 = y
    constructor
    · intro h b
      have t := congrArg (fun z => bt z 0) h
      have t2 : bt (y &&& 1) 0 = (bt y 0 && bt 1 0) := b_and y 1 0
      have t3 : bt (0 : Int32) 0 = false := b_0 0
      have t4 : bt (1 : Int32) 0 = true := by decide
      have t5 : bt (y &&& 1) 0 = bt 0 0 := t
      rw [t2, t3, t4, b] at t5
      exact absurd t5 (by decide)
    · intro h
      apply b_ext
      intro i hi
      rw [b_and, b_0]
      rcases Nat.eq_zero_or_pos i with z | z
      · subst z
        rw [Bool.eq_false_iff.mpr h]; rfl
      · have t : bt (1 : Int32) i = false := (by decide +kernel : ∀ i, i < 32 → 0 < i → bt (1 : Int32) i = false) i hi z
        rw [t, Bool.and_false]
  rw [e, b_ushr l hl, Nat.add_zero]
  exact Iff.rfl
-- whole sets
theorem df_l_eq0 (x : Int64) : x = 0 ↔ ∀ i, ¬ df_l x i :=
  ⟨fun h i => h ▸ df_l_0 i, fun h => df_l_ext (fun i => ⟨fun z => absurd z (h i), fun z => absurd z (df_l_0 i)⟩)⟩
theorem df_l_not (x : Int64) {i : Nat} (hi : i < 64) : df_l (x ^^^ (-1)) i ↔ ¬ df_l x i := by
  unfold df_l
  have t : (-1 : Int64).toBitVec.getLsbD i = true := (by decide +kernel : ∀ i, i < 64 → (-1 : Int64).toBitVec.getLsbD i = true) i hi
  rw [Int64.toBitVec_xor, BitVec.getLsbD_xor, t, Bool.xor_true, Bool.not_eq_true']
  exact ⟨fun a b => absurd (b.symm.trans a) (by decide), fun a => Bool.eq_false_iff.mpr a⟩
theorem df_l_sub (b s : Int64) : (b &&& (s ^^^ (-1))) = 0 ↔ ∀ i, df_l b i → df_l s i := by
  rw [df_l_eq0]
  constructor
  · intro h i hb
    apply Classical.byContradiction
    intro hs
    exact h i ((df_l_and _ _ _).mpr ⟨hb, (df_l_not _ (df_l_lt hb)).mpr hs⟩)
  · intro h i hz
    obtain ⟨hb, hn⟩ := (df_l_and _ _ _).mp hz
    exact (df_l_not _ (df_l_lt hb)).mp hn (h i hb)
theorem df_l_dis (b s : Int64) : (b &&& s) = 0 ↔ ¬ ∃ i, df_l b i ∧ df_l s i := by
  rw [df_l_eq0]
  exact ⟨fun h ⟨i, a, c⟩ => h i ((df_l_and _ _ _).mpr ⟨a, c⟩), fun h i z => h ⟨i, (df_l_and _ _ _).mp z⟩⟩
-- the complement of a literal
theorem df_x1 : ∀ q, q < 64 → q ^^^ 1 < 64 := by decide +kernel
theorem df_x1I (q : Nat) : nI q ^^^ 1 = nI (q ^^^ 1) := nx_xor q 1
