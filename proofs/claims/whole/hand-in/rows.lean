section
-- rows taken from the rows to paste (pure)
theorem pk_us {f : Nat → Int32} {k : Nat} {x : Int32} : upd f k x k = x := if_pos rfl
theorem pk_un {f : Nat → Int32} {k j : Nat} {x : Int32} (h : j ≠ k) : upd f k x j = f j := if_neg h
theorem pk_uLs {f : Nat → Int64} {k : Nat} {x : Int64} : vp_updL f k x k = x := if_pos rfl
theorem pk_uLn {f : Nat → Int64} {k j : Nat} {x : Int64} (h : j ≠ k) : vp_updL f k x j = f j := if_neg h
theorem pk_sub {a b : Nat} (h : b ≤ a) : nI a - nI b = nI (a - b) := by
  obtain ⟨c, rfl⟩ : ∃ c, a = c + b := ⟨a - b, by omega⟩
  rw [← nI_add, Int32.add_sub_cancel, Nat.add_sub_cancel]
theorem pk_m1 (n : Nat) : nI (n + 1) + (-1) = nI n := by
  rw [← nI_1, Int32.add_assoc, show (1 : Int32) + (-1) = 0 from rfl, Int32.add_zero]
theorem pk_mul (a b : Nat) : nI a * nI b = nI (a * b) := (Int32.ofNat_mul a b).symm
theorem pk_div {a d : Nat} (ha : a < 2 ^ 31) (h0 : 0 < d) (hd : d < 2 ^ 31) : nI a / nI d = nI (a / d) := by
  apply Int32.toInt_inj.mp
  rw [lg_idiv_nonneg (by rw [nI_toInt ha]; omega) (by rw [nI_toInt hd]; omega), nI_toInt ha, nI_toInt hd, nI_toInt (Nat.lt_of_le_of_lt (Nat.div_le_self a d) ha)]
  first | rfl | exact (Int.natCast_ediv _ _).symm
theorem pk_rem {a d : Nat} (ha : a < 2 ^ 31) (h0 : 0 < d) (hd : d < 2 ^ 31) : nI a - nI a / nI d * nI d = nI (a % d) := by
  rw [pk_div ha h0 hd, pk_mul, pk_sub (Nat.div_mul_le_self a d)]
  exact congrArg nI (by have := Nat.div_add_mod' a d; omega)
theorem pk_ix (x : Int32) {n : Nat} (hn : n < 2 ^ 31) : x < 0 ∨ nI n ≤ x ∨ ∃ j : Nat, j < n ∧ x = nI j := by
  by_cases h : x < 0
  · exact Or.inl h
  · obtain ⟨j, hj, rfl⟩ := nI_of h
    by_cases h2 : j < n
    · exact Or.inr (Or.inr ⟨j, h2, rfl⟩)
    · exact Or.inr (Or.inl (nI_le (by omega) hj))
theorem pk_le {x y : Int32} {A B : Prop} (a b : Nat) (f : a ≤ b → A) (g : b < a → B) (hx : x = nI a := by rfl) (hy : y = nI b := by rfl) (ha : a < 2 ^ 31 := by omega) (hb : b < 2 ^ 31 := by omega) : (x ≤ y → A) ∧ (¬ x ≤ y → B) := by
  subst hx hy
  rw [nI_leI ha hb]
  exact ⟨f, fun z => g (by omega)⟩
theorem pk_lt {x y : Int32} {A B : Prop} (a b : Nat) (f : a < b → A) (g : b ≤ a → B) (hx : x = nI a := by rfl) (hy : y = nI b := by rfl) (ha : a < 2 ^ 31 := by omega) (hb : b < 2 ^ 31 := by omega) : (x < y → A) ∧ (¬ x < y → B) := by
  subst hx hy
  rw [nI_ltI ha hb]
  exact ⟨f, fun z => g (by omega)⟩
theorem pk_eq {x y : Int32} {A B : Prop} (a b : Nat) (f : a = b → A) (g : a ≠ b → B) (hx : x = nI a := by rfl) (hy : y = nI b := by rfl) (ha : a < 2 ^ 31 := by omega) (hb : b < 2 ^ 31 := by omega) : (x = y → A) ∧ (¬ x = y → B) := by
  subst hx hy
  rw [nI_eq ha hb]
  exact ⟨f, g⟩
theorem pk_in {x : Int32} (n N : Nat) (h : n < N) (hx : x = nI n := by rfl) (hN : N < 2 ^ 31 := by omega) : vp_in x N := by
  subst hx
  exact vp_in_nI h hN
theorem pk_cl {x : Int32} (n : Nat) (hx : x = nI n := by rfl) (h : n < 2 ^ 31 := by omega) : x.toNatClampNeg = n := by
  subst hx
  exact nI_clamp h
-- truth as an int, sets as predicates, counts, a growing step
-- truth as an int, sets as predicates
noncomputable def df_b (p : Prop) : Int32 := @ite Int32 p (Classical.propDecidable p) 1 0
theorem df_b1 {p : Prop} (h : p) : df_b p = 1 := if_pos h
theorem df_b0 {p : Prop} (h : ¬ p) : df_b p = 0 := if_neg h
theorem df_bz {p : Prop} : df_b p = 0 ↔ ¬ p := ⟨fun e h => absurd ((df_b1 h).symm.trans e) (by decide), df_b0⟩
theorem df_bo {p : Prop} : df_b p = 1 ↔ p := by
  constructor
  · intro e
    rcases Classical.em p with h | h
    · exact h
    · exact absurd ((df_b0 h).symm.trans e) (by decide)
  · exact df_b1
theorem df_bc {p q : Prop} (h : p ↔ q) : df_b p = df_b q := congrArg df_b (propext h)
theorem df_bF : df_b False = 0 := df_b0 id
theorem df_ext {p q : Nat → Prop} (h : ∀ i, p i ↔ q i) : p = q := funext (fun i => propext (h i))
theorem df_bfun {p q : Nat → Prop} (h : ∀ i, p i ↔ q i) : (fun i => df_b (p i)) = (fun i => df_b (q i)) := funext (fun i => df_bc (h i))
-- stores
theorem df_us (f : Nat → Int32) (k : Nat) (x : Int32) : upd f k x k = x := if_pos rfl
theorem df_un (f : Nat → Int32) {k j : Nat} (x : Int32) (h : j ≠ k) : upd f k x j = f j := if_neg h
theorem df_upb (F : Nat → Prop) (k : Nat) (p : Prop) : upd (fun i => df_b (F i)) k (df_b p) = fun i => df_b ((i = k ∧ p) ∨ (i ≠ k ∧ F i)) := by
  funext j
  rcases Classical.em (j = k) with h | h
  · subst h
    rw [df_us]
    exact df_bc ⟨fun z => Or.inl ⟨rfl, z⟩, fun z => z.elim (fun a => a.2) (fun a => absurd rfl a.1)⟩
  · rw [df_un _ _ h]
    exact df_bc ⟨fun z => Or.inr ⟨h, z⟩, fun z => z.elim (fun a => absurd a.1 h) (fun a => a.2)⟩
theorem df_up1 (F : Nat → Prop) (k : Nat) : upd (fun i => df_b (F i)) k 1 = fun i => df_b (i = k ∨ F i) := by
  rw [← df_b1 True.intro, df_upb]
  exact df_bfun (fun i => ⟨fun z => z.elim (fun a => Or.inl a.1) (fun a => Or.inr a.2), fun z => by
    rcases Classical.em (i = k) with h | h
    · exact Or.inl ⟨h, True.intro⟩
    · exact Or.inr ⟨h, z.resolve_left h⟩⟩)
theorem df_up0 (F : Nat → Prop) (k : Nat) : upd (fun i => df_b (F i)) k 0 = fun i => df_b (i ≠ k ∧ F i) := by
  rw [← df_bF, df_upb]
  exact df_bfun (fun i => ⟨fun z => z.elim (fun a => a.2.elim) (fun a => a), fun z => Or.inr z⟩)
theorem df_upn (H : Nat → Nat) (k h : Nat) : upd (fun i => nI (H i)) k (nI h) = fun i => nI (if i = k then h else H i) := by
  funext j
  rcases Classical.em (j = k) with e | e
  · subst e; rw [df_us, if_pos rfl]
  · rw [df_un _ _ e, if_neg e]
-- counting below a bound
noncomputable def df_c (p : Nat → Prop) : Nat → Nat
  | 0 => 0
  | k + 1 => df_c p k + @ite Nat (p k) (Classical.propDecidable (p k)) 1 0
theorem df_c1 {p : Nat → Prop} {k : Nat} (h : p k) : df_c p (k + 1) = df_c p k + 1 := congrArg (df_c p k + ·) (if_pos h)
theorem df_c0 {p : Nat → Prop} {k : Nat} (h : ¬ p k) : df_c p (k + 1) = df_c p k := congrArg (df_c p k + ·) (if_neg h)
theorem df_c_le (p : Nat → Prop) (k : Nat) : df_c p k ≤ k := by
  induction k with
  | zero => exact Nat.le_refl 0
  | succ k ih =>
    rcases Classical.em (p k) with h | h
    · rw [df_c1 h]; omega
    · rw [df_c0 h]; omega
theorem df_c_mono {p q : Nat → Prop} (h : ∀ i, p i → q i) (k : Nat) : df_c p k ≤ df_c q k := by
  induction k with
  | zero => exact Nat.le_refl 0
  | succ k ih =>
    rcases Classical.em (p k) with a | a
    · rw [df_c1 a, df_c1 (h k a)]; omega
    · rw [df_c0 a]
      rcases Classical.em (q k) with b | b
      · rw [df_c1 b]; omega
      · rw [df_c0 b]; exact ih
theorem df_c_lt {p q : Nat → Prop} (h : ∀ i, p i → q i) {j : Nat} (hq : q j) (hp : ¬ p j) (k : Nat) (hj : j < k) : df_c p k < df_c q k := by
  induction k with
  | zero => omega
  | succ k ih =>
    rcases Nat.lt_or_ge j k with l | l
    · have t := ih l
      rcases Classical.em (p k) with a | a
      · rw [df_c1 a, df_c1 (h k a)]; omega
      · rw [df_c0 a]
        rcases Classical.em (q k) with b | b
        · rw [df_c1 b]; omega
        · rw [df_c0 b]; exact t
    · have e : j = k := by omega
      subst e
      rw [df_c0 hp, df_c1 hq]
      have t := df_c_mono h j
      omega
theorem df_c_pos {p : Nat → Prop} {j : Nat} (hj : p j) (k : Nat) (h : j < k) : 1 ≤ df_c p k := by
  have t := df_c_lt (p := fun _ => False) (q := p) (fun _ z => z.elim) hj id k h
  omega
-- a growing step, iterated
def df_it (f : (Nat → Prop) → Nat → Prop) (s : Nat → Prop) : Nat → Nat → Prop
  | 0 => s
  | k + 1 => f (df_it f s k)
theorem df_it_stay {f : (Nat → Prop) → Nat → Prop} {s : Nat → Prop} {m : Nat} (h : df_it f s (m + 1) = df_it f s m) (j : Nat) : df_it f s (m + j) = df_it f s m := by
  induction j with
  | zero => rfl
  | succ j ih =>
    show f (df_it f s (m + j)) = _
    rw [ih]; exact h
theorem df_it_mono {f : (Nat → Prop) → Nat → Prop} {s : Nat → Prop} (hm : ∀ p i, p i → f p i) (k j i : Nat) (h : df_it f s k i) : df_it f s (k + j) i := by
  induction j with
  | zero => exact h
  | succ j ih => exact hm _ _ ih
theorem df_it_cnt {f : (Nat → Prop) → Nat → Prop} {s : Nat → Prop} {N : Nat} (hm : ∀ p i, p i → f p i) (hb : ∀ k i, df_it f s k i → i < N) (k : Nat) :
    (∃ m, m < k ∧ df_it f s (m + 1) = df_it f s m) ∨ df_c s N + k ≤ df_c (df_it f s k) N := by
  induction k with
  | zero => exact Or.inr (Nat.le_refl _)
  | succ k ih =>
    rcases ih with ⟨m, h1, h2⟩ | ih
    · exact Or.inl ⟨m, by omega, h2⟩
    · rcases Classical.em (df_it f s (k + 1) = df_it f s k) with e | e
      · exact Or.inl ⟨k, by omega, e⟩
      · have hx : ∃ j, df_it f s (k + 1) j ∧ ¬ df_it f s k j := by
          apply Classical.byContradiction
          intro z
          apply e
          apply df_ext
          intro i
          constructor
          · intro a
            apply Classical.byContradiction
            intro b
            exact z ⟨i, a, b⟩
          · exact hm _ _
        obtain ⟨j, a, b⟩ := hx
        have t := df_c_lt (p := df_it f s k) (q := df_it f s (k + 1)) (hm _) a b N (hb _ _ a)
        exact Or.inr (by omega)
theorem df_it_end {f : (Nat → Prop) → Nat → Prop} {s : Nat → Prop} {N : Nat} (hm : ∀ p i, p i → f p i) (hb : ∀ k i, df_it f s k i → i < N) (e : Nat) (he : N ≤ df_c s N + e) (j : Nat) :
    df_it f s (e + j) = df_it f s e := by
  rcases df_it_cnt hm hb (e + 1) with ⟨m, h1, h2⟩ | h
  · have a := df_it_stay h2 (e - m)
    have b := df_it_stay h2 (e - m + j)
    rw [show m + (e - m) = e by omega] at a
    rw [show m + (e - m + j) = e + j by omega] at b
    rw [a, b]
  · have t := df_c_le (df_it f s (e + 1)) N
    omega
end
section
-- rows taken from the rows to paste (bits)
def bt (x : Int32) (i : Nat) : Bool := x.toBitVec.getLsbD i
theorem b_ext {x y : Int32} (h : ∀ i, i < 32 → bt x i = bt y i) : x = y := Int32.toBitVec_inj.mp (BitVec.eq_of_getLsbD_eq (fun i hi => h i hi))
theorem b_or (x y : Int32) (i : Nat) : bt (x ||| y) i = (bt x i || bt y i) := by unfold bt; rw [Int32.toBitVec_or, BitVec.getLsbD_or]
theorem b_and (x y : Int32) (i : Nat) : bt (x &&& y) i = (bt x i && bt y i) := by unfold bt; rw [Int32.toBitVec_and, BitVec.getLsbD_and]
theorem b_0 (i : Nat) : bt 0 i = false := BitVec.getLsbD_zero
theorem s_u : ∀ n, n < 32 → (((nI n).toUInt32 &&& Int32.toUInt32 31).toBitVec % 32).toNat = n := by decide +kernel
theorem b_ushr (n : Nat) (hn : n < 32) (x : Int32) (i : Nat) : bt ((x.toUInt32 >>> ((nI n).toUInt32 &&& Int32.toUInt32 31)).toInt32) i = bt x (n + i) := by
  show (x.toUInt32 >>> ((nI n).toUInt32 &&& Int32.toUInt32 31)).toBitVec.getLsbD i = x.toUInt32.toBitVec.getLsbD (n + i)
  rw [UInt32.toBitVec_shiftRight]
  show (x.toUInt32.toBitVec >>> (((nI n).toUInt32 &&& Int32.toUInt32 31).toBitVec % 32).toNat).getLsbD i = _
  rw [s_u n hn, BitVec.getLsbD_ushiftRight]
theorem nx_xor (a b : Nat) : nI a ^^^ nI b = nI (a ^^^ b) := by
  apply Int32.toBitVec_inj.1
  show BitVec.ofNat 32 a ^^^ BitVec.ofNat 32 b = BitVec.ofNat 32 (a ^^^ b)
  apply BitVec.eq_of_getLsbD_eq
  intro i hi
  simp [hi]
theorem ts_bit {w : Int64} {s : UInt64} {j : Nat} (hj : j < 64) (hs : s.toNat = j) : ((w.toUInt64 >>> s).toInt64 &&& 1) = 0 ↔ w.toBitVec.getLsbD j = false := by
  have e : (w.toUInt64 >>> s).toInt64.toBitVec = w.toBitVec >>> j := by
    apply BitVec.eq_of_toNat_eq
    show (w.toUInt64 >>> s).toNat = _
    rw [UInt64.toNat_shiftRight, hs, Nat.mod_eq_of_lt hj, BitVec.toNat_ushiftRight]
    rfl
  rw [← Int64.toBitVec_inj, Int64.toBitVec_and, e]
  show w.toBitVec >>> j &&& 1#64 = 0#64 ↔ _
  constructor
  · intro h
    have t := congrArg (fun x => x.getLsbD 0) h
    simpa using t
  · intro h
    apply BitVec.eq_of_getLsbD_eq
    intro i hi
    cases i with
    | zero => simp [h]
    | succ i => simp
theorem wb_cu : ∀ k, k < 64 → ((nI k).toInt64.toUInt64 &&& Int64.toUInt64 63) = UInt64.ofNat k := by decide +kernel
theorem u_tn {n : Nat} (h : n < 2 ^ 64) : (UInt64.ofNat n).toNat = n := Nat.mod_eq_of_lt h
-- bits of a long (df_l) and of an int (df_w) as predicates
def df_l (x : Int64) (i : Nat) : Prop := x.toBitVec.getLsbD i = true
def df_w (x : Int32) (i : Nat) : Prop := x.toBitVec.getLsbD i = true
theorem df_l_lt {x : Int64} {i : Nat} (h : df_l x i) : i < 64 := by
  rcases Nat.lt_or_ge i 64 with l | l
  · exact l
  · have t : x.toBitVec.getLsbD i = false := BitVec.getLsbD_of_ge _ _ l
    exact absurd (h.symm.trans t) (by decide)
theorem df_w_lt {x : Int32} {i : Nat} (h : df_w x i) : i < 32 := by
  rcases Nat.lt_or_ge i 32 with l | l
  · exact l
  · have t : x.toBitVec.getLsbD i = false := BitVec.getLsbD_of_ge _ _ l
    exact absurd (h.symm.trans t) (by decide)
theorem df_l_ext {x y : Int64} (h : ∀ i, df_l x i ↔ df_l y i) : x = y :=
  Int64.toBitVec_inj.mp (BitVec.eq_of_getLsbD_eq (fun i _ => Bool.eq_iff_iff.mpr (h i)))
theorem df_w_ext {x y : Int32} (h : ∀ i, df_w x i ↔ df_w y i) : x = y :=
  Int32.toBitVec_inj.mp (BitVec.eq_of_getLsbD_eq (fun i _ => Bool.eq_iff_iff.mpr (h i)))
theorem df_l_0 (i : Nat) : ¬ df_l 0 i := by
  intro h
  have l := df_l_lt h
  exact (by decide +kernel : ∀ i, i < 64 → ¬ ((0 : Int64).toBitVec.getLsbD i = true)) i l h
theorem df_w_0 (i : Nat) : ¬ df_w 0 i := by
  intro h
  have l := df_w_lt h
  exact (by decide +kernel : ∀ i, i < 32 → ¬ ((0 : Int32).toBitVec.getLsbD i = true)) i l h
theorem df_l_or (x y : Int64) (i : Nat) : df_l (x ||| y) i ↔ df_l x i ∨ df_l y i := by
  unfold df_l; rw [Int64.toBitVec_or, BitVec.getLsbD_or, Bool.or_eq_true]
theorem df_w_or (x y : Int32) (i : Nat) : df_w (x ||| y) i ↔ df_w x i ∨ df_w y i := by
  unfold df_w; rw [Int32.toBitVec_or, BitVec.getLsbD_or, Bool.or_eq_true]
theorem df_l_and (x y : Int64) (i : Nat) : df_l (x &&& y) i ↔ df_l x i ∧ df_l y i := by
  unfold df_l; rw [Int64.toBitVec_and, BitVec.getLsbD_and, Bool.and_eq_true]
-- one bit set
theorem df_l_sh : ∀ l, l < 64 → ((1 : Int64) <<< ((nI l).toInt64 &&& 63)).toBitVec = BitVec.twoPow 64 l := by decide +kernel
theorem df_w_sh : ∀ l, l < 32 → ((1 : Int32) <<< (nI l &&& 31)).toBitVec = BitVec.twoPow 32 l := by decide +kernel
theorem df_l_one {l : Nat} (hl : l < 64) (i : Nat) : df_l ((1 : Int64) <<< ((nI l).toInt64 &&& 63)) i ↔ i = l := by
  unfold df_l
  rw [df_l_sh l hl, BitVec.getLsbD_twoPow, Bool.and_eq_true, decide_eq_true_eq, decide_eq_true_eq]
  exact ⟨fun z => z.2.symm, fun z => ⟨hl, z.symm⟩⟩
theorem df_w_one {l : Nat} (hl : l < 32) (i : Nat) : df_w ((1 : Int32) <<< (nI l &&& 31)) i ↔ i = l := by
  unfold df_w
  rw [df_w_sh l hl, BitVec.getLsbD_twoPow, Bool.and_eq_true, decide_eq_true_eq, decide_eq_true_eq]
  exact ⟨fun z => z.2.symm, fun z => ⟨hl, z.symm⟩⟩
theorem df_l_put (x : Int64) {l : Nat} (hl : l < 64) (i : Nat) : df_l (x ||| ((1 : Int64) <<< ((nI l).toInt64 &&& 63))) i ↔ i = l ∨ df_l x i := by
  rw [df_l_or, df_l_one hl]; exact Or.comm
theorem df_w_put (x : Int32) {l : Nat} (hl : l < 32) (i : Nat) : df_w (x ||| ((1 : Int32) <<< (nI l &&& 31))) i ↔ i = l ∨ df_w x i := by
  rw [df_w_or, df_w_one hl]; exact Or.comm
-- one bit read (rests on ts_bit, wb_cu, u_tn and on s_u or nf_bit of the rows to paste)
theorem df_l_get (x : Int64) {l : Nat} (hl : l < 64) : ((x.toUInt64 >>> ((nI l).toInt64.toUInt64 &&& Int64.toUInt64 63)).toInt64 &&& 1) = 0 ↔ ¬ df_l x l := by
  have hs : ((nI l).toInt64.toUInt64 &&& Int64.toUInt64 63).toNat = l := by rw [wb_cu l hl]; exact u_tn (by omega)
  rw [ts_bit hl hs]
  unfold df_l
  exact ⟨fun a b => absurd (b.symm.trans a) (by decide), fun a => Bool.eq_false_iff.mpr a⟩
theorem df_w_get (x : Int32) {l : Nat} (hl : l < 32) : ((x.toUInt32 >>> ((nI l).toUInt32 &&& Int32.toUInt32 31)).toInt32 &&& 1) = 0 ↔ ¬ df_w x l := by
  have e : ((x.toUInt32 >>> ((nI l).toUInt32 &&& Int32.toUInt32 31)).toInt32 &&& 1) = 0 ↔ ¬ bt ((x.toUInt32 >>> ((nI l).toUInt32 &&& Int32.toUInt32 31)).toInt32) 0 = true := by
    generalize (x.toUInt32 >>> ((nI l).toUInt32 &&& Int32.toUInt32 31)).toInt32 = y
    constructor
    · intro h b
      have t := congrArg (fun z => bt z 0) h
      have t2 : bt (y &&& 1) 0 = (bt y 0 && bt 1 0) := b_and y 1 0
      have t3 : bt (0 : Int32) 0 = false := b_0 0
      have t4 : bt (1 : Int32) 0 = true := by decide
      have t5 : bt (y &&& 1) 0 = bt 0 0 := t
      rw [t2, t3, t4, b] at t5
      exact absurd t5 (by decide)
    · intro h
      apply b_ext
      intro i hi
      rw [b_and, b_0]
      rcases Nat.eq_zero_or_pos i with z | z
      · subst z
        rw [Bool.eq_false_iff.mpr h]; rfl
      · have t : bt (1 : Int32) i = false := (by decide +kernel : ∀ i, i < 32 → 0 < i → bt (1 : Int32) i = false) i hi z
        rw [t, Bool.and_false]
  rw [e, b_ushr l hl, Nat.add_zero]
  exact Iff.rfl
-- whole sets
theorem df_l_eq0 (x : Int64) : x = 0 ↔ ∀ i, ¬ df_l x i :=
  ⟨fun h i => h ▸ df_l_0 i, fun h => df_l_ext (fun i => ⟨fun z => absurd z (h i), fun z => absurd z (df_l_0 i)⟩)⟩
theorem df_l_not (x : Int64) {i : Nat} (hi : i < 64) : df_l (x ^^^ (-1)) i ↔ ¬ df_l x i := by
  unfold df_l
  have t : (-1 : Int64).toBitVec.getLsbD i = true := (by decide +kernel : ∀ i, i < 64 → (-1 : Int64).toBitVec.getLsbD i = true) i hi
  rw [Int64.toBitVec_xor, BitVec.getLsbD_xor, t, Bool.xor_true, Bool.not_eq_true']
  exact ⟨fun a b => absurd (b.symm.trans a) (by decide), fun a => Bool.eq_false_iff.mpr a⟩
theorem df_l_sub (b s : Int64) : (b &&& (s ^^^ (-1))) = 0 ↔ ∀ i, df_l b i → df_l s i := by
  rw [df_l_eq0]
  constructor
  · intro h i hb
    apply Classical.byContradiction
    intro hs
    exact h i ((df_l_and _ _ _).mpr ⟨hb, (df_l_not _ (df_l_lt hb)).mpr hs⟩)
  · intro h i hz
    obtain ⟨hb, hn⟩ := (df_l_and _ _ _).mp hz
    exact (df_l_not _ (df_l_lt hb)).mp hn (h i hb)
theorem df_l_dis (b s : Int64) : (b &&& s) = 0 ↔ ¬ ∃ i, df_l b i ∧ df_l s i := by
  rw [df_l_eq0]
  exact ⟨fun h ⟨i, a, c⟩ => h i ((df_l_and _ _ _).mpr ⟨a, c⟩), fun h i z => h ⟨i, (df_l_and _ _ _).mp z⟩⟩
-- the complement of a literal
theorem df_x1 : ∀ q, q < 64 → q ^^^ 1 < 64 := by decide +kernel
theorem df_x1I (q : Nat) : nI q ^^^ 1 = nI (q ^^^ 1) := nx_xor q 1
end
section
-- a theory as plain functions (F facts, K kinds, H heads, B bodies, R recorded pairs), the four tests, one round
section
variable (M n : Nat) (F : Nat → Prop) (K H : Nat → Int32) (B R : Nat → Nat → Prop)
def df_all (S : Nat → Prop) (t r : Nat) : Prop := ∀ q, B r q → S (t * 64 + q)
def df_som (S : Nat → Prop) (t r : Nat) : Prop := ∃ q, B r q ∧ S (t * 64 + q)
def df_str (r q : Nat) : Prop := H r = nI q ∧ K r = 0
def df_sup (r q : Nat) : Prop := H r = nI q ∧ ¬ K r = 2
-- the rule r proves q
def df_fD (S : Nat → Prop) (q r : Nat) : Prop := df_str K H r q ∧ df_all B S 0 r
def df_fd (S : Nat → Prop) (q r : Nat) : Prop := df_sup K H r q ∧ df_all B S 2 r
def df_pD (S : Nat → Prop) (q : Nat) : Prop := F q ∨ ∃ r, r < n ∧ df_fD K H B S q r
def df_mD (S : Nat → Prop) (q : Nat) : Prop := ¬ F q ∧ ∀ r, r < n → df_str K H r q → df_som B S 1 r
-- an attack s on q is beaten; an attack s on q could be beaten
def df_bea (S : Nat → Prop) (s q : Nat) : Prop := ∃ t, t < n ∧ df_sup K H t q ∧ df_all B S 2 t ∧ R t s
def df_can (S : Nat → Prop) (s q : Nat) : Prop := ∃ t, t < n ∧ df_sup K H t q ∧ ¬ df_som B S 3 t ∧ R t s
def df_eaf (S : Nat → Prop) (q : Nat) : Prop := ∀ s, s < n → H s = nI (q ^^^ 1) → ¬ df_som B S 3 s → df_bea n K H B R S s q
def df_esf (S : Nat → Prop) (q : Nat) : Prop := ∀ r, r < n → df_sup K H r q → df_som B S 3 r
def df_sas (S : Nat → Prop) (q : Nat) : Prop := ∃ s, s < n ∧ H s = nI (q ^^^ 1) ∧ df_all B S 2 s ∧ ¬ df_can n K H B R S s q
def df_pd (S : Nat → Prop) (q : Nat) : Prop := S q ∨ ((∃ r, r < n ∧ df_fd K H B S q r) ∧ S (64 + (q ^^^ 1)) ∧ df_eaf n K H B R S q)
def df_md (S : Nat → Prop) (q : Nat) : Prop := S (64 + q) ∧ (df_esf n K H B S q ∨ S (q ^^^ 1) ∨ df_sas n K H B R S q)
-- the test of tag t; all that a round tests; the round
def df_T (S : Nat → Prop) : Nat → Nat → Prop
  | 0 => df_pD n F K H B S
  | 1 => df_mD n F K H B S
  | 2 => df_pd n K H B R S
  | _ => df_md n K H B R S
def df_ts (S : Nat → Prop) (i : Nat) : Prop := i < 256 ∧ i % 64 < M ∧ df_T n F K H B R S (i / 64) (i % 64)
def df_st (S : Nat → Prop) (i : Nat) : Prop := S i ∨ df_ts M n F K H B R S i
def df_S0 : Nat → Prop := fun _ => False
def df_It (k : Nat) : Nat → Prop := df_it (df_st M n F K H B R) df_S0 k
def df_Fin : Nat → Prop := df_It M n F K H B R 300
theorem df_It_lt (k i : Nat) (h : df_It M n F K H B R k i) : i < 256 ∧ i % 64 < M := by
  induction k with
  | zero => exact h.elim
  | succ k ih =>
    rcases h with h | h
    · exact ih h
    · exact ⟨h.1, h.2.1⟩
theorem df_It_256 (j : Nat) : df_It M n F K H B R (256 + j) = df_It M n F K H B R 256 :=
  df_it_end (N := 256) (fun _ _ z => Or.inl z) (fun k i z => (df_It_lt M n F K H B R k i z).1) 256 (by omega) j
theorem df_It_257 : df_It M n F K H B R 257 = df_Fin M n F K H B R :=
  (df_It_256 M n F K H B R 1).trans (df_It_256 M n F K H B R 44).symm
theorem df_It_fix {m : Nat} (hm : m ≤ 300) (h : df_It M n F K H B R (m + 1) = df_It M n F K H B R m) : df_It M n F K H B R (m + 1) = df_Fin M n F K H B R := by
  have t : df_It M n F K H B R (m + (300 - m)) = df_It M n F K H B R m := df_it_stay h (300 - m)
  rw [show m + (300 - m) = 300 by omega] at t
  exact h.trans t.symm
theorem df_Fin_lt (i : Nat) (h : df_Fin M n F K H B R i) : i < 256 ∧ i % 64 < M := df_It_lt M n F K H B R 300 i h
end
-- the theory where it is equal below the rule count (used where a side's rows beyond it are stale)
-- the chain over recorded pairs: one widening, and its end
def df_wn (n : Nat) (R : Nat → Nat → Prop) (p : Nat → Prop) (s : Nat) : Prop := p s ∨ ∃ r, r < n ∧ p r ∧ R r s
def df_ch (n : Nat) (R : Nat → Nat → Prop) (a k : Nat) : Nat → Prop := df_it (df_wn n R) (fun i => i = a) k
theorem df_ch_lt {n : Nat} {R : Nat → Nat → Prop} {a : Nat} (ha : a < n) (hR : ∀ r s, r < n → R r s → s < n) (k i : Nat) (h : df_ch n R a k i) : i < n := by
  induction k generalizing i with
  | zero =>
    have e : i = a := h
    omega
  | succ k ih =>
    rcases h with h | ⟨r, h1, _, h3⟩
    · exact ih i h
    · exact hR r i h1 h3
theorem df_ch_end {n : Nat} {R : Nat → Nat → Prop} {a : Nat} (ha : a < n) (hR : ∀ r s, r < n → R r s → s < n) (j : Nat) : df_ch n R a (n - 1 + j) = df_ch n R a (n - 1) := by
  have c := df_c_pos (p := fun i => i = a) (j := a) rfl n ha
  exact df_it_end (N := n) (fun _ _ z => Or.inl z) (fun k i z => df_ch_lt ha hR k i z) (n - 1) (by omega) j
-- what the 33 passes of the other side keep between: at least k widenings, at most the end
theorem df_ch_cl {n : Nat} {R : Nat → Nat → Prop} {a : Nat} (ha : a < n) (hR : ∀ r s, r < n → R r s → s < n) {r s : Nat} (hr : r < n) (h : df_ch n R a (n - 1) r) (hs : R r s) : df_ch n R a (n - 1) s := by
  have e := df_ch_end ha hR 1
  rw [← e]
  exact Or.inr ⟨r, hr, h, hs⟩
theorem df_ch_sub {n : Nat} {R : Nat → Nat → Prop} {a : Nat} (ha : a < n) (hR : ∀ r s, r < n → R r s → s < n) (k : Nat) (hk : n ≤ k + 1) : df_ch n R a k = df_ch n R a (n - 1) := by
  have e := df_ch_end ha hR (k - (n - 1))
  rw [show n - 1 + (k - (n - 1)) = k by omega] at e
  exact e
-- four longs as one set of pairs (tag, literal): the pair at 64 * tag + literal
def df_pk (p0 p1 p2 p3 : Int64) : Nat → Int64
  | 0 => p0
  | 1 => p1
  | 2 => p2
  | _ => p3
def df_S (p0 p1 p2 p3 : Int64) (i : Nat) : Prop := i < 256 ∧ df_l (df_pk p0 p1 p2 p3 (i / 64)) (i % 64)
theorem df_S_at (p0 p1 p2 p3 : Int64) (t q : Nat) (ht : t < 4) (hq : q < 64) : df_S p0 p1 p2 p3 (t * 64 + q) ↔ df_l (df_pk p0 p1 p2 p3 t) q := by
  have e1 : (t * 64 + q) / 64 = t := by omega
  have e2 : (t * 64 + q) % 64 = q := by omega
  unfold df_S
  rw [e1, e2]
  exact ⟨fun z => z.2, fun z => ⟨by omega, z⟩⟩
theorem df_S_0 (p0 p1 p2 p3 : Int64) {q : Nat} (hq : q < 64) : df_S p0 p1 p2 p3 q ↔ df_l p0 q := by
  have t := df_S_at p0 p1 p2 p3 0 q (by omega) hq
  rw [show 0 * 64 + q = q by omega] at t
  exact t
theorem df_S_1 (p0 p1 p2 p3 : Int64) {q : Nat} (hq : q < 64) : df_S p0 p1 p2 p3 (64 + q) ↔ df_l p1 q := df_S_at p0 p1 p2 p3 1 q (by omega) hq
theorem df_S_2 (p0 p1 p2 p3 : Int64) {q : Nat} (hq : q < 64) : df_S p0 p1 p2 p3 (128 + q) ↔ df_l p2 q := df_S_at p0 p1 p2 p3 2 q (by omega) hq
theorem df_S_3 (p0 p1 p2 p3 : Int64) {q : Nat} (hq : q < 64) : df_S p0 p1 p2 p3 (192 + q) ↔ df_l p3 q := df_S_at p0 p1 p2 p3 3 q (by omega) hq
theorem df_S_z : df_S 0 0 0 0 = df_S0 := by
  apply df_ext
  intro i
  refine ⟨fun z => ?_, fun z => z.elim⟩
  have e : df_pk 0 0 0 0 (i / 64) = 0 := by
    generalize i / 64 = t
    match t with
    | 0 => rfl
    | 1 => rfl
    | 2 => rfl
    | _ + 3 => rfl
  have t := z.2
  rw [e] at t
  exact df_l_0 _ t
theorem df_S_inj {p0 p1 p2 p3 r0 r1 r2 r3 : Int64} (h : df_S p0 p1 p2 p3 = df_S r0 r1 r2 r3) : p0 = r0 ∧ p1 = r1 ∧ p2 = r2 ∧ p3 = r3 := by
  have key : ∀ t, t < 4 → df_pk p0 p1 p2 p3 t = df_pk r0 r1 r2 r3 t := by
    intro t ht
    apply df_l_ext
    intro i
    constructor
    · intro z
      have l := df_l_lt z
      have a := (df_S_at p0 p1 p2 p3 t i ht l).mpr z
      rw [h] at a
      exact (df_S_at r0 r1 r2 r3 t i ht l).mp a
    · intro z
      have l := df_l_lt z
      have a := (df_S_at r0 r1 r2 r3 t i ht l).mpr z
      rw [← h] at a
      exact (df_S_at p0 p1 p2 p3 t i ht l).mp a
  exact ⟨key 0 (by omega), key 1 (by omega), key 2 (by omega), key 3 (by omega)⟩
-- a round by its four longs
theorem df_S_step {M n : Nat} {F : Nat → Prop} {K H : Nat → Int32} {B R : Nat → Nat → Prop} {S : Nat → Prop} {p0 p1 p2 p3 r0 r1 r2 r3 : Int64} (hM : M ≤ 64) (hS : df_S p0 p1 p2 p3 = S)
    (h0 : ∀ j, df_l r0 j ↔ df_l p0 j ∨ (j < M ∧ df_T n F K H B R S 0 j)) (h1 : ∀ j, df_l r1 j ↔ df_l p1 j ∨ (j < M ∧ df_T n F K H B R S 1 j))
    (h2 : ∀ j, df_l r2 j ↔ df_l p2 j ∨ (j < M ∧ df_T n F K H B R S 2 j)) (h3 : ∀ j, df_l r3 j ↔ df_l p3 j ∨ (j < M ∧ df_T n F K H B R S 3 j)) :
    df_S r0 r1 r2 r3 = df_st M n F K H B R S := by
  have key : ∀ t, t < 4 → ∀ j, df_l (df_pk r0 r1 r2 r3 t) j ↔ df_l (df_pk p0 p1 p2 p3 t) j ∨ (j < M ∧ df_T n F K H B R S t j) := by
    intro t ht
    rcases (show t = 0 ∨ t = 1 ∨ t = 2 ∨ t = 3 by omega) with e | e | e | e
    · subst e; exact h0
    · subst e; exact h1
    · subst e; exact h2
    · subst e; exact h3
  apply df_ext
  intro i
  constructor
  · intro z
    rcases (key (i / 64) (by have := z.1; omega) (i % 64)).mp z.2 with a | a
    · left
      rw [← hS]
      exact ⟨z.1, a⟩
    · right
      exact ⟨z.1, a.1, a.2⟩
  · intro z
    rcases z with z | z
    · rw [← hS] at z
      exact ⟨z.1, (key (i / 64) (by have := z.1; omega) (i % 64)).mpr (Or.inl z.2)⟩
    · exact ⟨z.1, (key (i / 64) (by have := z.1; omega) (i % 64)).mpr (Or.inr ⟨z.2.1, z.2.2⟩)⟩
end
section
-- loops over a counter, as the walks print them (fuel, then the counter as a natural)
-- a scan that leaves at the first i with C i
theorem df_scan (W : Nat → Nat → Prop) (C : Nat → Prop) (n : Nat)
    (hx : (∀ r, r < n → ¬ C r) → ∀ m, W (m + 1) n)
    (hs : ∀ m i, i < n → (∀ r, r < i → ¬ C r) → (¬ C i → W m (i + 1)) → W (m + 1) i) : ∃ m, W m 0 := by
  have key : ∀ d i, i + d = n → (∀ r, r < i → ¬ C r) → W (d + 1) i := by
    intro d
    induction d with
    | zero =>
      intro i hi h
      have e : i = n := by omega
      subst e
      exact hx h 0
    | succ d ih =>
      intro i hi h
      exact hs (d + 1) i (by omega) h (fun hc => ih (i + 1) (by omega) (lt_s h hc))
  exact ⟨n + 1, key n 0 (by omega) lt_0⟩
-- a flag that C sets, from 0 to 1
theorem df_acc (W : Nat → Nat → Int32 → Prop) (C : Nat → Prop) (n : Nat)
    (hx : ∀ m, W (m + 1) n (df_b (∃ r, r < n ∧ C r)))
    (hs : ∀ m i x, i < n → (C i → W m (i + 1) 1) → (¬ C i → W m (i + 1) x) → W (m + 1) i x) : ∃ m, W m 0 0 := by
  have key : ∀ d i, i + d = n → W (d + 1) i (df_b (∃ r, r < i ∧ C r)) := by
    intro d
    induction d with
    | zero =>
      intro i hi
      have e : i = n := by omega
      subst e
      exact hx 0
    | succ d ih =>
      intro i hi
      refine hs (d + 1) i _ (by omega) (fun hc => ?_) (fun hc => ?_)
      · have t := ih (i + 1) (by omega)
        rw [df_b1 ⟨i, by omega, hc⟩] at t
        exact t
      · have t := ih (i + 1) (by omega)
        have e : (∃ r, r < i + 1 ∧ C r) ↔ (∃ r, r < i ∧ C r) :=
          ⟨fun ⟨r, a, b⟩ => ⟨r, by
            rcases Nat.lt_or_ge r i with l | l
            · exact l
            · exact absurd ((show r = i by omega) ▸ b) hc, b⟩, fun ⟨r, a, b⟩ => ⟨r, by omega, b⟩⟩
        rw [df_bc e] at t
        exact t
  have t := key n 0 (by omega)
  rw [df_b0 (fun ⟨r, a, _⟩ => absurd a (Nat.not_lt_zero r))] at t
  exact ⟨n + 1, t⟩
-- a flag that C clears, from 1 to 0
theorem df_acc0 (W : Nat → Nat → Int32 → Prop) (C : Nat → Prop) (n : Nat)
    (hx : ∀ m, W (m + 1) n (df_b (∀ r, r < n → ¬ C r)))
    (hs : ∀ m i x, i < n → (C i → W m (i + 1) 0) → (¬ C i → W m (i + 1) x) → W (m + 1) i x) : ∃ m, W m 0 1 := by
  have key : ∀ d i, i + d = n → W (d + 1) i (df_b (∀ r, r < i → ¬ C r)) := by
    intro d
    induction d with
    | zero =>
      intro i hi
      have e : i = n := by omega
      subst e
      exact hx 0
    | succ d ih =>
      intro i hi
      refine hs (d + 1) i _ (by omega) (fun hc => ?_) (fun hc => ?_)
      · have t := ih (i + 1) (by omega)
        rw [df_b0 (fun z => z i (by omega) hc)] at t
        exact t
      · have t := ih (i + 1) (by omega)
        have e : (∀ r, r < i + 1 → ¬ C r) ↔ (∀ r, r < i → ¬ C r) := ⟨fun z r a => z r (by omega), fun z => lt_s z hc⟩
        rw [df_bc e] at t
        exact t
  have t := key n 0 (by omega)
  rw [df_b1 lt_0] at t
  exact ⟨n + 1, t⟩
-- a count
theorem df_cnt (W : Nat → Nat → Int32 → Prop) (C : Nat → Prop) (n : Nat)
    (hx : ∀ m, W (m + 1) n (nI (df_c C n)))
    (hs : ∀ m i x, i < n → (C i → W m (i + 1) (x + 1)) → (¬ C i → W m (i + 1) x) → W (m + 1) i x) : ∃ m, W m 0 0 := by
  have key : ∀ d i, i + d = n → W (d + 1) i (nI (df_c C i)) := by
    intro d
    induction d with
    | zero =>
      intro i hi
      have e : i = n := by omega
      subst e
      exact hx 0
    | succ d ih =>
      intro i hi
      refine hs (d + 1) i _ (by omega) (fun hc => ?_) (fun hc => ?_)
      · have t := ih (i + 1) (by omega)
        rw [df_c1 hc, ← nI_1] at t
        exact t
      · have t := ih (i + 1) (by omega)
        rw [df_c0 hc] at t
        exact t
  exact ⟨n + 1, key n 0 (by omega)⟩
theorem df_c_cut {C : Nat → Prop} {a b : Nat} (h : a ≤ b) (hC : ∀ i, C i → i < a) : df_c C b = df_c C a := by
  obtain ⟨d, rfl⟩ : ∃ d, b = a + d := ⟨b - a, by omega⟩
  clear h
  induction d with
  | zero => rfl
  | succ d ih => exact (df_c0 (k := a + d) (fun z => absurd (hC _ z) (by omega))).trans ih
theorem df_c_eq {C D : Nat → Prop} (h : ∀ i, C i ↔ D i) (n : Nat) : df_c C n = df_c D n := by rw [df_ext h]
-- a state carried by an invariant: W fuel counter state
theorem df_loop {σ : Type} (W : Nat → Nat → σ → Prop) (I : Nat → σ → Prop) (n : Nat)
    (hx : ∀ m s, I n s → W (m + 1) n s)
    (hs : ∀ m i s, i < n → I i s → (∀ s', I (i + 1) s' → W m (i + 1) s') → W (m + 1) i s) (s : σ) (h0 : I 0 s) : ∃ m, W m 0 s :=
  loop_0 W I n s h0 hx hs
end
section
-- helpers at the seam: a branch on a truth, an answer that is a truth
theorem df_br {p A B : Prop} (a : ¬ p → A) (b : p → B) : (df_b p = 0 → A) ∧ (¬ df_b p = 0 → B) :=
  ⟨fun z => a (df_bz.mp z), fun z => b (Classical.byContradiction (fun y => z (df_b0 y)))⟩
theorem df_if {c d A B : Prop} (e : c ↔ d) (f : d → A) (g : ¬ d → B) : (c → A) ∧ (¬ c → B) := ⟨fun z => f (e.mp z), fun z => g (fun y => z (e.mpr y))⟩
theorem df_p0 {post : Int32 → Prop} {p : Prop} (hn : ¬ p) (hp : post (df_b p)) : post 0 := df_b0 hn ▸ hp
theorem df_p1 {post : Int32 → Prop} {p : Prop} (hn : p) (hp : post (df_b p)) : post 1 := df_b1 hn ▸ hp
def df_v (m : Nat) (x : Int32) : Prop := ∃ j, j < m ∧ x = nI j
theorem df_v1 {m j : Nat} (h : j < m) : df_v m (nI j) := ⟨j, h, rfl⟩
theorem df_v_neg {m : Nat} {x : Int32} (hm : m < 2 ^ 31) (h : x < 0) : ¬ df_v m x := by
  rintro ⟨j, hj, rfl⟩
  exact nI_pos (by omega) h
theorem df_v_big {m : Nat} {x : Int32} (hm : m < 2 ^ 31) (h : nI m ≤ x) : ¬ df_v m x := by
  rintro ⟨j, hj, rfl⟩
  exact nI_ge hj hm h
theorem df_v_in {m : Nat} {x : Int32} (hm : m < 2 ^ 31) (h : ¬ x < 0) (h2 : ¬ nI m ≤ x) : df_v m x := by
  obtain ⟨j, hj, rfl⟩ := nI_of h
  refine ⟨j, ?_, rfl⟩
  rw [nI_leI hm hj] at h2
  omega
theorem df_v_ub {m j : Nat} (hm : m < 2 ^ 31) (hj : j < 2 ^ 31) (h : df_v m (nI j)) : j < m := by
  obtain ⟨i, hi, e⟩ := h
  rw [nI_eq hj (by omega)] at e
  omega
theorem df_v4_big {x : Int32} (h : 3 < x) : ¬ df_v 4 x := by
  rintro ⟨j, hj, rfl⟩
  have t : nI 3 < nI j := h
  rw [nI_ltI (by omega) (by omega)] at t
  omega
theorem df_v4_in {x : Int32} (h : ¬ x < 0) (h2 : ¬ 3 < x) : df_v 4 x := by
  obtain ⟨j, hj, rfl⟩ := nI_of h
  refine ⟨j, ?_, rfl⟩
  have t : ¬ nI 3 < nI j := h2
  rw [nI_ltI (by omega) hj] at t
  omega
theorem df_m1 {r : Nat} (h : r < 2 ^ 31) : ¬ nI r = -1 := fun e => nI_pos h (e ▸ (by decide : (-1 : Int32) < 0))
theorem df_ne_lt {r i : Nat} (h : r < i + 1) (g : ¬ r = i) : r < i := by omega
section
variable (M n : Nat) (rl : Int32) (fa : Int64) (c : Int32) (p0 p1 p2 p3 : Int64) (K H bs bl : Nat → Int32) (bS : Nat → Int64) (wS : Nat → Int32)
theorem dx_contains (post : Int32 → Prop) (s : Int64) {l : Nat} (hl : l < 64) (hp : post (df_b (df_l s l))) : wpX_contains post s (nI l) :=
  df_if (df_l_get s hl) (fun h => (df_p0 h hp)) (fun h => (df_p1 (Classical.not_not.mp h) hp))
theorem dx_containsX (post : Int32 → Prop) (s : Int64) {l : Nat} (x : Int32) (hx : x = nI l) (hl : l < 64) (hp : post (df_b (df_l s l))) : wpX_contains post s x := by
  subst hx
  exact dx_contains post s hl hp
theorem dx_isLiteral (post : Int32 → Prop) (x : Int32) (hM : M ≤ 64) (hp : post (df_b (df_v M x))) : wpX_isLiteral post (nI M, rl, fa, nI n, c, p0, p1, p2, p3, K, H, bs, bl, bS, wS) x :=
  br_c (fun h => (df_p0 (df_v_neg (by omega) h) hp)) (fun h => br_c (fun h2 => (df_p0 (df_v_big (by omega) h2) hp)) (fun h2 => (df_p1 (df_v_in (by omega) h h2) hp)))
theorem dx_isRule (post : Int32 → Prop) (x : Int32) (hn : n ≤ 32) (hp : post (df_b (df_v n x))) : wpX_isRule post (nI M, rl, fa, nI n, c, p0, p1, p2, p3, K, H, bs, bl, bS, wS) x :=
  br_c (fun h => (df_p0 (df_v_neg (by omega) h) hp)) (fun h => br_c (fun h2 => (df_p0 (df_v_big (by omega) h2) hp)) (fun h2 => (df_p1 (df_v_in (by omega) h h2) hp)))
theorem dx_isKind (post : Int32 → Prop) (x : Int32) (hp : post (df_b (x = 0 ∨ x = 1 ∨ x = 2))) : wpX_isKind post x :=
  br_c (fun h => (df_p1 (Or.inl h) hp)) (fun h => br_c (fun h2 => (df_p1 (Or.inr (Or.inl h2)) hp)) (fun h2 => br_c (fun h3 => (df_p1 (Or.inr (Or.inr h3)) hp))
    (fun h3 => (df_p0 (fun z => z.elim h (fun y => y.elim h2 h3)) hp))))
theorem dx_isTag (post : Int32 → Prop) (x : Int32) (hp : post (df_b (df_v 4 x))) : wpX_isTag post x :=
  br_c (fun h => (df_p0 (df_v_neg (by omega) h) hp)) (fun h => br_c (fun h2 => (df_p0 (df_v4_big h2) hp)) (fun h2 => (df_p1 (df_v4_in h h2) hp)))
theorem dx_sizeOf (post : Int32 → Prop) (s : Int64) (hp : post (nI (df_c (df_l s) 64))) : wpX_sizeOf post s :=
  df_cnt (fun m i x => wX_sizeOf_4 post s m x (nI i)) (df_l s) 64
    (fun m => br_t (nI_le (a := 64) (b := 64) (by omega) (by omega)) hp)
    (fun m i x hi ht hf => br_f (nI_ge (b := 64) hi (by omega)) (dx_contains _ s hi (df_br (fun h => nm_r (nI_1 i) (hf h)) (fun h => nm_e (nm_r (nI_1 i) (ht h))))))
theorem dx_isRecorded (post : Int32 → Prop) {r s : Nat} (hr : r < 32) (hs : s < 32) (hp : post (df_b (df_w (wS r) s))) : wpX_isRecorded post (nI M, rl, fa, nI n, c, p0, p1, p2, p3, K, H, bs, bl, bS, wS) (nI r) (nI s) :=
  ⟨vp_in_nI hr (by decide), df_if (by rw [nI_clamp (n := r) (by omega)]; exact df_w_get (wS r) hs) (fun h => (df_p0 h hp)) (fun h => (df_p1 (Classical.not_not.mp h) hp))⟩
theorem dx_isStrictFor (post : Int32 → Prop) {r q : Nat} (hr : r < 32) (hp : post (df_b (df_str K H r q))) : wpX_isStrictFor post (nI M, rl, fa, nI n, c, p0, p1, p2, p3, K, H, bs, bl, bS, wS) (nI r) (nI q) :=
  ⟨vp_in_nI hr (by decide), df_if (d := H r = nI q) (by rw [nI_clamp (n := r) (by omega)]) (fun h => ⟨vp_in_nI hr (by decide), df_if (d := K r = 0) (by rw [nI_clamp (n := r) (by omega)])
    (fun h2 => (df_p1 ⟨h, h2⟩ hp)) (fun h2 => (df_p0 (fun z => h2 z.2) hp))⟩) (fun h => (df_p0 (fun z => h z.1) hp))⟩
theorem dx_canSupport (post : Int32 → Prop) {r q : Nat} (hr : r < 32) (hp : post (df_b (df_sup K H r q))) : wpX_canSupport post (nI M, rl, fa, nI n, c, p0, p1, p2, p3, K, H, bs, bl, bS, wS) (nI r) (nI q) :=
  ⟨vp_in_nI hr (by decide), df_if (d := H r = nI q) (by rw [nI_clamp (n := r) (by omega)]) (fun h => ⟨vp_in_nI hr (by decide), df_if (d := K r = 2) (by rw [nI_clamp (n := r) (by omega)])
    (fun h2 => (df_p0 (fun z => z.2 h2) hp)) (fun h2 => (df_p1 ⟨h, h2⟩ hp))⟩) (fun h => (df_p0 (fun z => h z.1) hp))⟩
-- bodies against the four longs
def df_R (wS : Nat → Int32) (r s : Nat) : Prop := df_w (wS r) s
def df_B (bS : Nat → Int64) (r q : Nat) : Prop := df_l (bS r) q
theorem df_all_x {t r : Nat} (ht : t < 4) : (bS r &&& (df_pk p0 p1 p2 p3 t ^^^ (-1))) = 0 ↔ df_all (df_B bS) (df_S p0 p1 p2 p3) t r := by
  rw [df_l_sub]
  exact ⟨fun h q hq => (df_S_at p0 p1 p2 p3 t q ht (df_l_lt hq)).mpr (h q hq), fun h q hq => (df_S_at p0 p1 p2 p3 t q ht (df_l_lt hq)).mp (h q hq)⟩
theorem df_som_x {t r : Nat} (ht : t < 4) : (bS r &&& df_pk p0 p1 p2 p3 t) = 0 ↔ ¬ df_som (df_B bS) (df_S p0 p1 p2 p3) t r := by
  rw [df_l_dis]
  exact ⟨fun h ⟨q, hq, hs⟩ => h ⟨q, hq, (df_S_at p0 p1 p2 p3 t q ht (df_l_lt hq)).mp hs⟩, fun h ⟨q, hq, hs⟩ => h ⟨q, hq, (df_S_at p0 p1 p2 p3 t q ht (df_l_lt hq)).mpr hs⟩⟩
theorem dx_isApplicable (post : Int32 → Prop) {r : Nat} (hr : r < 32) (hp : post (df_b (df_all (df_B bS) (df_S p0 p1 p2 p3) 2 r))) : wpX_isApplicable post (nI M, rl, fa, nI n, c, p0, p1, p2, p3, K, H, bs, bl, bS, wS) (nI r) :=
  ⟨vp_in_nI hr (by decide), df_if (by rw [nI_clamp (n := r) (by omega)]; exact df_all_x p0 p1 p2 p3 bS (t := 2) (by omega)) (fun h => (df_p1 h hp)) (fun h => (df_p0 h hp))⟩
theorem dx_isDiscarded (post : Int32 → Prop) {r : Nat} (hr : r < 32) (hp : post (df_b (df_som (df_B bS) (df_S p0 p1 p2 p3) 3 r))) : wpX_isDiscarded post (nI M, rl, fa, nI n, c, p0, p1, p2, p3, K, H, bs, bl, bS, wS) (nI r) :=
  ⟨vp_in_nI hr (by decide), df_if (by rw [nI_clamp (n := r) (by omega)]; exact df_som_x p0 p1 p2 p3 bS (t := 3) (by omega)) (fun h => (df_p0 h hp)) (fun h => (df_p1 (Classical.not_not.mp h) hp))⟩
theorem dx_firstDefiniteProof (post : Int32 → Prop) {q : Nat} (hn : n ≤ 32)
    (hy : ∀ r, r < n → df_fD K H (df_B bS) (df_S p0 p1 p2 p3) q r → (∀ s, s < r → ¬ df_fD K H (df_B bS) (df_S p0 p1 p2 p3) q s) → post (nI r))
    (ho : (∀ r, r < n → ¬ df_fD K H (df_B bS) (df_S p0 p1 p2 p3) q r) → post (-1)) : wpX_firstDefiniteProof post (nI M, rl, fa, nI n, c, p0, p1, p2, p3, K, H, bs, bl, bS, wS) (nI q) :=
  df_scan (fun m i => wX_firstDefiniteProof_2 post (nI q) (nI M) rl fa (nI n) c p0 p1 p2 p3 K H bs bl bS wS m (nI i)) (df_fD K H (df_B bS) (df_S p0 p1 p2 p3) q) n
    (fun h m => br_t (nI_le (Nat.le_refl n) (by omega)) (ho h))
    (fun m i hi h k => br_f (nI_ge hi (by omega)) (dx_isStrictFor M n rl fa c p0 p1 p2 p3 K H bs bl bS wS _ (r := i) (by omega) (df_br (fun a => nm_r (nI_1 i) (k (fun z => a z.1)))
      (fun a => ⟨vp_in_nI (by omega) (by decide), df_if (by rw [nI_clamp (n := i) (by omega)]; exact df_all_x p0 p1 p2 p3 bS (t := 0) (by omega)) (fun b => hy i hi ⟨a, b⟩ h) (fun b => nm_r (nI_1 i) (k (fun z => b z.2)))⟩))))
theorem dx_firstSupport (post : Int32 → Prop) {q : Nat} (hn : n ≤ 32)
    (hy : ∀ r, r < n → df_fd K H (df_B bS) (df_S p0 p1 p2 p3) q r → (∀ s, s < r → ¬ df_fd K H (df_B bS) (df_S p0 p1 p2 p3) q s) → post (nI r))
    (ho : (∀ r, r < n → ¬ df_fd K H (df_B bS) (df_S p0 p1 p2 p3) q r) → post (-1)) : wpX_firstSupport post (nI M, rl, fa, nI n, c, p0, p1, p2, p3, K, H, bs, bl, bS, wS) (nI q) :=
  df_scan (fun m i => wX_firstSupport_2 post (nI q) (nI M) rl fa (nI n) c p0 p1 p2 p3 K H bs bl bS wS m (nI i)) (df_fd K H (df_B bS) (df_S p0 p1 p2 p3) q) n
    (fun h m => br_t (nI_le (Nat.le_refl n) (by omega)) (ho h))
    (fun m i hi h k => br_f (nI_ge hi (by omega)) (dx_canSupport M n rl fa c p0 p1 p2 p3 K H bs bl bS wS _ (r := i) (by omega) (df_br (fun a => nm_r (nI_1 i) (k (fun z => a z.1)))
      (fun a => dx_isApplicable M n rl fa c p0 p1 p2 p3 K H bs bl bS wS _ (r := i) (by omega) (df_br (fun b => nm_r (nI_1 i) (k (fun z => b z.2))) (fun b => hy i hi ⟨a, b⟩ h))))))
theorem dx_everySupportFails (post : Int32 → Prop) {q : Nat} (hn : n ≤ 32) (hp : post (df_b (df_esf n K H (df_B bS) (df_S p0 p1 p2 p3) q))) : wpX_everySupportFails post (nI M, rl, fa, nI n, c, p0, p1, p2, p3, K, H, bs, bl, bS, wS) (nI q) :=
  df_scan (fun m i => wX_everySupportFails_2 post (nI q) (nI M) rl fa (nI n) c p0 p1 p2 p3 K H bs bl bS wS m (nI i)) (fun r => df_sup K H r q ∧ ¬ df_som (df_B bS) (df_S p0 p1 p2 p3) 3 r) n
    (fun h m => br_t (nI_le (Nat.le_refl n) (by omega)) (df_p1 (fun r hr a => Classical.byContradiction (fun b => h r hr ⟨a, b⟩)) hp))
    (fun m i hi h k => br_f (nI_ge hi (by omega)) (dx_canSupport M n rl fa c p0 p1 p2 p3 K H bs bl bS wS _ (r := i) (by omega) (df_br (fun a => nm_r (nI_1 i) (k (fun z => a z.1)))
      (fun a => dx_isDiscarded M n rl fa c p0 p1 p2 p3 K H bs bl bS wS _ (r := i) (by omega) (df_br (fun b => df_p0 (fun z => b (z i hi a)) hp) (fun b => nm_r (nI_1 i) (k (fun z => z.2 b))))))))
theorem dx_isBeaten (post : Int32 → Prop) {s q : Nat} (hs : s < 32) (hn : n ≤ 32) (hp : post (df_b (df_bea n K H (df_B bS) (df_R wS) (df_S p0 p1 p2 p3) s q))) : wpX_isBeaten post (nI M, rl, fa, nI n, c, p0, p1, p2, p3, K, H, bs, bl, bS, wS) (nI s) (nI q) :=
  df_scan (fun m i => wX_isBeaten_2 post (nI s) (nI q) (nI M) rl fa (nI n) c p0 p1 p2 p3 K H bs bl bS wS m (nI i)) (fun r => df_sup K H r q ∧ df_all (df_B bS) (df_S p0 p1 p2 p3) 2 r ∧ df_w (wS r) s) n
    (fun h m => br_t (nI_le (Nat.le_refl n) (by omega)) (df_p0 (fun ⟨r, hr, a⟩ => h r hr a) hp))
    (fun m i hi h k => br_f (nI_ge hi (by omega)) (dx_canSupport M n rl fa c p0 p1 p2 p3 K H bs bl bS wS _ (r := i) (by omega) (df_br (fun a => nm_r (nI_1 i) (k (fun z => a z.1)))
      (fun a => dx_isApplicable M n rl fa c p0 p1 p2 p3 K H bs bl bS wS _ (r := i) (by omega) (df_br (fun b => nm_r (nI_1 i) (k (fun z => b z.2.1)))
        (fun b => dx_isRecorded M n rl fa c p0 p1 p2 p3 K H bs bl bS wS _ (r := i) (by omega) hs (df_br (fun d => nm_r (nI_1 i) (k (fun z => d z.2.2))) (fun d => df_p1 ⟨i, hi, a, b, d⟩ hp))))))))
theorem dx_canBeBeaten (post : Int32 → Prop) {s q : Nat} (hs : s < 32) (hn : n ≤ 32) (hp : post (df_b (df_can n K H (df_B bS) (df_R wS) (df_S p0 p1 p2 p3) s q))) : wpX_canBeBeaten post (nI M, rl, fa, nI n, c, p0, p1, p2, p3, K, H, bs, bl, bS, wS) (nI s) (nI q) :=
  df_scan (fun m i => wX_canBeBeaten_2 post (nI s) (nI q) (nI M) rl fa (nI n) c p0 p1 p2 p3 K H bs bl bS wS m (nI i)) (fun r => df_sup K H r q ∧ ¬ df_som (df_B bS) (df_S p0 p1 p2 p3) 3 r ∧ df_w (wS r) s) n
    (fun h m => br_t (nI_le (Nat.le_refl n) (by omega)) (df_p0 (fun ⟨r, hr, a⟩ => h r hr a) hp))
    (fun m i hi h k => br_f (nI_ge hi (by omega)) (dx_canSupport M n rl fa c p0 p1 p2 p3 K H bs bl bS wS _ (r := i) (by omega) (df_br (fun a => nm_r (nI_1 i) (k (fun z => a z.1)))
      (fun a => dx_isDiscarded M n rl fa c p0 p1 p2 p3 K H bs bl bS wS _ (r := i) (by omega) (df_br
        (fun b => dx_isRecorded M n rl fa c p0 p1 p2 p3 K H bs bl bS wS _ (r := i) (by omega) hs (df_br (fun d => nm_r (nI_1 i) (k (fun z => d z.2.2))) (fun d => df_p1 ⟨i, hi, a, b, d⟩ hp)))
        (fun b => nm_r (nI_1 i) (k (fun z => z.2.1 b))))))))
theorem dx_everyAttackFails (post : Int32 → Prop) {q : Nat} (hn : n ≤ 32) (hp : post (df_b (df_eaf n K H (df_B bS) (df_R wS) (df_S p0 p1 p2 p3) q))) : wpX_everyAttackFails post (nI M, rl, fa, nI n, c, p0, p1, p2, p3, K, H, bs, bl, bS, wS) (nI q) :=
  df_scan (fun m i => wX_everyAttackFails_2 post (nI q) (nI M) rl fa (nI n) c p0 p1 p2 p3 K H bs bl bS wS m (nI i)) (fun s => H s = nI (q ^^^ 1) ∧ ¬ df_som (df_B bS) (df_S p0 p1 p2 p3) 3 s ∧ ¬ df_bea n K H (df_B bS) (df_R wS) (df_S p0 p1 p2 p3) s q) n
    (fun h m => br_t (nI_le (Nat.le_refl n) (by omega)) (df_p1 (fun s hs a b => Classical.byContradiction (fun d => h s hs ⟨a, b, d⟩)) hp))
    (fun m i hi h k => br_f (nI_ge hi (by omega)) ⟨vp_in_nI (by omega) (by decide), df_if (d := H i = nI (q ^^^ 1)) (by rw [nI_clamp (n := i) (by omega), df_x1I]) 
      (fun a => dx_isDiscarded M n rl fa c p0 p1 p2 p3 K H bs bl bS wS _ (r := i) (by omega) (df_br
        (fun b => dx_isBeaten M n rl fa c p0 p1 p2 p3 K H bs bl bS wS _ (s := i) (by omega) hn (df_br (fun d => df_p0 (fun z => d (z i hi a b)) hp) (fun d => nm_r (nI_1 i) (k (fun z => z.2.2 d)))))
        (fun b => nm_r (nI_1 i) (k (fun z => z.2.1 b)))))
      (fun a => nm_r (nI_1 i) (k (fun z => a z.1)))⟩)
theorem dx_someAttackStands (post : Int32 → Prop) {q : Nat} (hn : n ≤ 32) (hp : post (df_b (df_sas n K H (df_B bS) (df_R wS) (df_S p0 p1 p2 p3) q))) : wpX_someAttackStands post (nI M, rl, fa, nI n, c, p0, p1, p2, p3, K, H, bs, bl, bS, wS) (nI q) :=
  df_scan (fun m i => wX_someAttackStands_2 post (nI q) (nI M) rl fa (nI n) c p0 p1 p2 p3 K H bs bl bS wS m (nI i)) (fun s => H s = nI (q ^^^ 1) ∧ df_all (df_B bS) (df_S p0 p1 p2 p3) 2 s ∧ ¬ df_can n K H (df_B bS) (df_R wS) (df_S p0 p1 p2 p3) s q) n
    (fun h m => br_t (nI_le (Nat.le_refl n) (by omega)) (df_p0 (fun ⟨s, hs, a⟩ => h s hs a) hp))
    (fun m i hi h k => br_f (nI_ge hi (by omega)) ⟨vp_in_nI (by omega) (by decide), df_if (d := H i = nI (q ^^^ 1)) (by rw [nI_clamp (n := i) (by omega), df_x1I])
      (fun a => dx_isApplicable M n rl fa c p0 p1 p2 p3 K H bs bl bS wS _ (r := i) (by omega) (df_br
        (fun b => nm_r (nI_1 i) (k (fun z => b z.2.1)))
        (fun b => dx_canBeBeaten M n rl fa c p0 p1 p2 p3 K H bs bl bS wS _ (s := i) (by omega) hn (df_br (fun d => df_p1 ⟨i, hi, a, b, d⟩ hp) (fun d => nm_r (nI_1 i) (k (fun z => z.2.2 d)))))))
      (fun a => nm_r (nI_1 i) (k (fun z => a z.1)))⟩)
end
end
section
section
variable (M n : Nat) (rl : Int32) (fa : Int64) (c : Int32) (p0 p1 p2 p3 : Int64) (K H bs bl : Nat → Int32) (bS : Nat → Int64) (wS : Nat → Int32)
theorem dx_passesPlusDefinite (post : Int32 → Prop) {q : Nat} (hq : q < 64) (hn : n ≤ 32) (hp : post (df_b (df_pD n (df_l fa) K H (df_B bS) (df_S p0 p1 p2 p3) q))) : wpX_passesPlusDefinite post (nI M, rl, fa, nI n, c, p0, p1, p2, p3, K, H, bs, bl, bS, wS) (nI q) := by
  unfold wpX_passesPlusDefinite
  exact dx_contains _ fa hq (df_br
    (fun a => dx_firstDefiniteProof M n rl fa c p0 p1 p2 p3 K H bs bl bS wS _ hn
      (fun r hr b _ => br_f (df_m1 (by omega)) (df_p1 (Or.inr ⟨r, hr, b⟩) hp))
      (fun b => br_t rfl (df_p0 (fun z => z.elim a (fun ⟨r, hr, d⟩ => b r hr d)) hp)))
    (fun a => (df_p1 (Or.inl a) hp)))
theorem dx_passesMinusDefinite (post : Int32 → Prop) {q : Nat} (hq : q < 64) (hn : n ≤ 32) (hp : post (df_b (df_mD n (df_l fa) K H (df_B bS) (df_S p0 p1 p2 p3) q))) : wpX_passesMinusDefinite post (nI M, rl, fa, nI n, c, p0, p1, p2, p3, K, H, bs, bl, bS, wS) (nI q) := by
  unfold wpX_passesMinusDefinite
  exact dx_contains _ fa hq (df_br
    (fun f => df_scan (fun m i => wX_passesMinusDefinite_15 post (nI q) (nI M) rl fa (nI n) c p0 p1 p2 p3 K H bs bl bS wS m (nI i)) (fun r => df_str K H r q ∧ ¬ df_som (df_B bS) (df_S p0 p1 p2 p3) 1 r) n
      (fun h m => br_t (nI_le (Nat.le_refl n) (by omega)) (df_p1 ⟨f, fun r hr a => Classical.byContradiction (fun b => h r hr ⟨a, b⟩)⟩ hp))
      (fun m i hi h k => br_f (nI_ge hi (by omega)) (dx_isStrictFor M n rl fa c p0 p1 p2 p3 K H bs bl bS wS _ (r := i) (by omega) (df_br (fun a => nm_r (nI_1 i) (k (fun z => a z.1)))
        (fun a => ⟨vp_in_nI (by omega) (by decide), df_if (by rw [nI_clamp (n := i) (by omega)]; exact df_som_x p0 p1 p2 p3 bS (t := 1) (by omega)) (fun b => df_p0 (fun z => b (z.2 i hi a)) hp) (fun b => nm_r (nI_1 i) (k (fun z => b z.2)))⟩)))))
    (fun f => df_p0 (fun z => z.1 f) hp))
theorem dx_passesPlusDefeasible (post : Int32 → Prop) {q : Nat} (hq : q < 64) (hn : n ≤ 32) (hp : post (df_b (df_pd n K H (df_B bS) (df_R wS) (df_S p0 p1 p2 p3) q))) : wpX_passesPlusDefeasible post (nI M, rl, fa, nI n, c, p0, p1, p2, p3, K, H, bs, bl, bS, wS) (nI q) := by
  unfold wpX_passesPlusDefeasible
  exact dx_contains _ p0 hq (df_br
    (fun a => dx_firstSupport M n rl fa c p0 p1 p2 p3 K H bs bl bS wS _ hn
      (fun r hr b _ => br_f (df_m1 (by omega)) ((dx_containsX _ p1 (nI q ^^^ 1) (df_x1I q) (df_x1 q hq) (df_br
        (fun d => (df_p0 (fun z => z.elim (fun y => a ((df_S_0 p0 p1 p2 p3 hq).mp y)) (fun y => d ((df_S_1 p0 p1 p2 p3 (df_x1 q hq)).mp y.2.1))) hp))
        (fun d => dx_everyAttackFails M n rl fa c p0 p1 p2 p3 K H bs bl bS wS _ hn (df_br
          (fun e => (df_p0 (fun z => z.elim (fun y => a ((df_S_0 p0 p1 p2 p3 hq).mp y)) (fun y => e y.2.2)) hp))
          (fun e => (df_p1 (Or.inr ⟨⟨r, hr, b⟩, (df_S_1 p0 p1 p2 p3 (df_x1 q hq)).mpr d, e⟩) hp))))))))
      (fun b => br_t rfl (df_p0 (fun z => z.elim (fun y => a ((df_S_0 p0 p1 p2 p3 hq).mp y)) (fun ⟨⟨r, hr, d⟩, _⟩ => b r hr d)) hp)))
    (fun a => df_p1 (Or.inl ((df_S_0 p0 p1 p2 p3 hq).mpr a)) hp))
theorem dx_passesMinusDefeasible (post : Int32 → Prop) {q : Nat} (hq : q < 64) (hn : n ≤ 32) (hp : post (df_b (df_md n K H (df_B bS) (df_R wS) (df_S p0 p1 p2 p3) q))) : wpX_passesMinusDefeasible post (nI M, rl, fa, nI n, c, p0, p1, p2, p3, K, H, bs, bl, bS, wS) (nI q) := by
  unfold wpX_passesMinusDefeasible
  exact dx_contains _ p1 hq (df_br
    (fun a => df_p0 (fun z => a ((df_S_1 p0 p1 p2 p3 hq).mp z.1)) hp)
    (fun a => dx_everySupportFails M n rl fa c p0 p1 p2 p3 K H bs bl bS wS _ hn (df_br
      (fun b => (dx_containsX _ p0 (nI q ^^^ 1) (df_x1I q) (df_x1 q hq) (df_br
        (fun d => dx_someAttackStands M n rl fa c p0 p1 p2 p3 K H bs bl bS wS _ hn (df_br
          (fun e => (df_p0 (fun z => z.2.elim b (fun y => y.elim (fun x => d ((df_S_0 p0 p1 p2 p3 (df_x1 q hq)).mp x)) e)) hp))
          (fun e => (df_p1 ⟨(df_S_1 p0 p1 p2 p3 hq).mpr a, Or.inr (Or.inr e)⟩ hp))))
        (fun d => (df_p1 ⟨(df_S_1 p0 p1 p2 p3 hq).mpr a, Or.inr (Or.inl ((df_S_0 p0 p1 p2 p3 (df_x1 q hq)).mpr d))⟩ hp)))))
      (fun b => (df_p1 ⟨(df_S_1 p0 p1 p2 p3 hq).mpr a, Or.inl b⟩ hp)))))
-- withNextStep, hasChain
theorem dx_withNextStep (post : Int32 → Prop) (w : Int32) (hn : n ≤ 32) (hp : ∀ w', (∀ j, df_w w' j ↔ df_wn n (df_R wS) (df_w w) j) → post w') : wpX_withNextStep post (nI M, rl, fa, nI n, c, p0, p1, p2, p3, K, H, bs, bl, bS, wS) w :=
  df_loop (σ := Int32) (fun m i s => wX_withNextStep_4 post w (nI M) rl fa (nI n) c p0 p1 p2 p3 K H bs bl bS wS m s (nI i)) (fun i s => ∀ j, df_w s j ↔ (df_w w j ∨ ∃ r, r < i ∧ df_w w r ∧ df_w (wS r) j)) n
    (fun m s h => br_t (nI_le (Nat.le_refl n) (by omega)) (hp s h))
    (fun m i s hi h k => br_f (nI_ge hi (by omega)) (df_if (df_w_get w (l := i) (by omega))
      (fun a => nm_r (nI_1 i) (k s (fun j => (h j).trans ⟨fun z => z.elim Or.inl (fun ⟨r, x, y⟩ => Or.inr ⟨r, by omega, y⟩), fun z => z.elim Or.inl (fun ⟨r, x, y⟩ => Or.inr ⟨r, df_ne_lt x (fun e => a (e ▸ y.1)), y⟩)⟩)))
      (fun a => ⟨vp_in_nI (by omega) (by decide), nm_r (congrArg (fun t => s ||| wS t) (nI_clamp (n := i) (by omega))) (nm_r (nI_1 i) (k (s ||| wS i) (fun j => by
        rw [df_w_or, h j]
        constructor
        · rintro ((z | ⟨r, x, y⟩) | z)
          · exact Or.inl z
          · exact Or.inr ⟨r, by omega, y⟩
          · exact Or.inr ⟨i, by omega, Classical.not_not.mp a, z⟩
        · rintro (z | ⟨r, x, y⟩)
          · exact Or.inl (Or.inl z)
          · rcases Nat.lt_or_ge r i with l | l
            · exact Or.inl (Or.inr ⟨r, l, y⟩)
            · have e : r = i := by omega
              subst e
              exact Or.inr y.2)))⟩)))
    w (fun j => ⟨Or.inl, fun z => z.elim id (fun ⟨r, x, _⟩ => absurd x (Nat.not_lt_zero r))⟩)
theorem dx_hasChain (post : Int32 → Prop) {a b : Nat} (hn : n ≤ 32) (ha : a < n) (hb : b < n) (hp : post (df_b (df_ch n (df_R wS) a (n - 1) b))) : wpX_hasChain post (nI M, rl, fa, nI n, c, p0, p1, p2, p3, K, H, bs, bl, bS, wS) (nI a) (nI b) :=
  nm_e (df_loop (σ := Int32) (fun m i s => wX_hasChain_7 post (nI b) (nI M) rl fa (nI n) c p0 p1 p2 p3 K H bs bl bS wS m s (nI (i + 1))) (fun i s => ∀ j, df_w s j ↔ df_ch n (df_R wS) a i j) (n - 1)
    (fun m s h => br_t (nI_le (by omega) (by omega)) (df_if (df_w_get s (l := b) (by omega)) (fun g => df_p0 (fun z => g ((h b).mpr z)) hp) (fun g => df_p1 ((h b).mp (Classical.not_not.mp g)) hp)))
    (fun m i s hi h k => br_f (nI_ge (by omega) (by omega)) (dx_withNextStep M n rl fa c p0 p1 p2 p3 K H bs bl bS wS _ s hn (fun w hw => nm_r (nI_1 (i + 1)) (k w (fun j => by
      have e : df_w s = df_ch n (df_R wS) a i := df_ext h
      rw [hw j, e]
      exact Iff.rfl)))))
    _ (fun j => df_w_one (l := a) (by omega) j))
-- one round
theorem df_orT {P : Prop} (x : Int64) {i : Nat} (hi : i < 64) (a : P) (j : Nat) : df_l (x ||| ((1 : Int64) <<< ((nI i).toInt64 &&& 63))) j ↔ df_l x j ∨ (j = i ∧ P) :=
  (df_l_put x hi j).trans ⟨fun z => z.elim (fun e => Or.inr ⟨e, a⟩) Or.inl, fun z => z.elim Or.inr (fun y => Or.inl y.1)⟩
theorem df_orF {P : Prop} (x : Int64) {i : Nat} (a : ¬ P) (j : Nat) : df_l x j ↔ df_l x j ∨ (j = i ∧ P) := ⟨Or.inl, fun z => z.elim id (fun y => absurd y.2 a)⟩
theorem df_grow {p s y : Int64} {i : Nat} {Q : Nat → Prop} (h : ∀ j, df_l s j ↔ df_l p j ∨ (j < i ∧ Q j)) (g : ∀ j, df_l y j ↔ df_l s j ∨ (j = i ∧ Q i)) (j : Nat) : df_l y j ↔ df_l p j ∨ (j < i + 1 ∧ Q j) := by
  rw [g j, h j]
  constructor
  · rintro ((z | z) | z)
    · exact Or.inl z
    · exact Or.inr ⟨by omega, z.2⟩
    · exact Or.inr ⟨by omega, z.1.symm ▸ z.2⟩
  · rintro (z | z)
    · exact Or.inl (Or.inl z)
    · rcases Nat.lt_or_ge j i with l | l
      · exact Or.inl (Or.inr ⟨l, z.2⟩)
      · have e : j = i := by omega
        exact Or.inr ⟨e, e ▸ z.2⟩
theorem dx_rr84 (post : Int32 → SX → Prop) (J : Int64 → Int64 → Int64 → Int64 → Int32 → Prop) (x1 x3 x5 x7 : Int64) {i : Nat} (hi : i < 64) (hn : n ≤ 32)
    (hJ : ∀ y7, (∀ j, df_l y7 j ↔ df_l x7 j ∨ (j = i ∧ df_md n K H (df_B bS) (df_R wS) (df_S p0 p1 p2 p3) i)) → J x1 x3 x5 y7 (nI (i + 1))) :
    wX_runRound_84 post J x1 x3 x5 x7 (nI i) ((1 : Int64) <<< ((nI i).toInt64 &&& 63)) (nI M) rl fa (nI n) c p0 p1 p2 p3 K H bs bl bS wS := by
  unfold wX_runRound_84
  exact dx_passesMinusDefeasible M n rl fa c p0 p1 p2 p3 K H bs bl bS wS _ hi hn (df_br (fun a => nm_r (nI_1 i) (hJ x7 (df_orF x7 a))) (fun a => nm_e (nm_r (nI_1 i) (hJ _ (df_orT x7 hi a)))))
theorem dx_rr68 (post : Int32 → SX → Prop) (J : Int64 → Int64 → Int64 → Int64 → Int32 → Prop) (x1 x3 x5 x7 : Int64) {i : Nat} (hi : i < 64) (hn : n ≤ 32)
    (hJ : ∀ y5 y7, (∀ j, df_l y5 j ↔ df_l x5 j ∨ (j = i ∧ df_pd n K H (df_B bS) (df_R wS) (df_S p0 p1 p2 p3) i)) → (∀ j, df_l y7 j ↔ df_l x7 j ∨ (j = i ∧ df_md n K H (df_B bS) (df_R wS) (df_S p0 p1 p2 p3) i)) → J x1 x3 y5 y7 (nI (i + 1))) :
    wX_runRound_68 post J x1 x3 x5 x7 (nI i) ((1 : Int64) <<< ((nI i).toInt64 &&& 63)) (nI M) rl fa (nI n) c p0 p1 p2 p3 K H bs bl bS wS := by
  unfold wX_runRound_68
  exact dx_passesPlusDefeasible M n rl fa c p0 p1 p2 p3 K H bs bl bS wS _ hi hn (df_br (fun a => dx_rr84 M n rl fa c p0 p1 p2 p3 K H bs bl bS wS post J x1 x3 x5 x7 hi hn (fun y7 => hJ x5 y7 (df_orF x5 a))) (fun a => nm_e (dx_rr84 M n rl fa c p0 p1 p2 p3 K H bs bl bS wS post J x1 x3 _ x7 hi hn (fun y7 => hJ _ y7 (df_orT x5 hi a)))))
theorem dx_rr54 (post : Int32 → SX → Prop) (J : Int64 → Int64 → Int64 → Int64 → Int32 → Prop) (x1 x3 x5 x7 : Int64) {i : Nat} (hi : i < 64) (hn : n ≤ 32)
    (hJ : ∀ y3 y5 y7, (∀ j, df_l y3 j ↔ df_l x3 j ∨ (j = i ∧ df_mD n (df_l fa) K H (df_B bS) (df_S p0 p1 p2 p3) i)) → (∀ j, df_l y5 j ↔ df_l x5 j ∨ (j = i ∧ df_pd n K H (df_B bS) (df_R wS) (df_S p0 p1 p2 p3) i)) → (∀ j, df_l y7 j ↔ df_l x7 j ∨ (j = i ∧ df_md n K H (df_B bS) (df_R wS) (df_S p0 p1 p2 p3) i)) → J x1 y3 y5 y7 (nI (i + 1))) :
    wX_runRound_54 post J x1 x3 x5 x7 (nI i) ((1 : Int64) <<< ((nI i).toInt64 &&& 63)) (nI M) rl fa (nI n) c p0 p1 p2 p3 K H bs bl bS wS := by
  unfold wX_runRound_54
  exact dx_passesMinusDefinite M n rl fa c p0 p1 p2 p3 K H bs bl bS wS _ hi hn (df_br (fun a => dx_rr68 M n rl fa c p0 p1 p2 p3 K H bs bl bS wS post J x1 x3 x5 x7 hi hn (fun y5 y7 => hJ x3 y5 y7 (df_orF x3 a))) (fun a => nm_e (dx_rr68 M n rl fa c p0 p1 p2 p3 K H bs bl bS wS post J x1 _ x5 x7 hi hn (fun y5 y7 => hJ _ y5 y7 (df_orT x3 hi a)))))
theorem dx_runRound (post : Int32 → SX → Prop) (hM : M ≤ 64) (hn : n ≤ 32)
    (hp : ∀ r0 r1 r2 r3, df_S r0 r1 r2 r3 = df_st M n (df_l fa) K H (df_B bS) (df_R wS) (df_S p0 p1 p2 p3) → post (df_b (¬ df_S r0 r1 r2 r3 = df_S p0 p1 p2 p3)) (nI M, rl, fa, nI n, c, r0, r1, r2, r3, K, H, bs, bl, bS, wS)) : wpX_runRound post (nI M, rl, fa, nI n, c, p0, p1, p2, p3, K, H, bs, bl, bS, wS) := by
  refine df_loop (σ := Int64 × Int64 × Int64 × Int64) (fun m i s => wX_runRound_25 post (nI M) rl fa (nI n) c p0 p1 p2 p3 K H bs bl bS wS m s.1 s.2.1 s.2.2.1 s.2.2.2 (nI i))
    (fun i s => (∀ j, df_l s.1 j ↔ df_l p0 j ∨ (j < i ∧ df_pD n (df_l fa) K H (df_B bS) (df_S p0 p1 p2 p3) j)) ∧ (∀ j, df_l s.2.1 j ↔ df_l p1 j ∨ (j < i ∧ df_mD n (df_l fa) K H (df_B bS) (df_S p0 p1 p2 p3) j))
      ∧ (∀ j, df_l s.2.2.1 j ↔ df_l p2 j ∨ (j < i ∧ df_pd n K H (df_B bS) (df_R wS) (df_S p0 p1 p2 p3) j)) ∧ (∀ j, df_l s.2.2.2 j ↔ df_l p3 j ∨ (j < i ∧ df_md n K H (df_B bS) (df_R wS) (df_S p0 p1 p2 p3) j))) M ?_ ?_ (p0, p1, p2, p3) ?_
  · rintro m ⟨r0, r1, r2, r3⟩ ⟨h0, h1, h2, h3⟩
    have t := hp r0 r1 r2 r3 (df_S_step (n := n) (F := df_l fa) (K := K) (H := H) (B := df_B bS) (R := df_R wS) hM rfl h0 h1 h2 h3)
    refine br_t (nI_le (Nat.le_refl M) (by omega)) ?_
    have no : (¬ r0 = p0 ∨ ¬ r1 = p1 ∨ ¬ r2 = p2 ∨ ¬ r3 = p3) → wX_runRound_144 post r0 r1 r2 r3 (nI M) rl fa (nI n) c p0 p1 p2 p3 K H bs bl bS wS := by
      intro z
      have e : ¬ df_S r0 r1 r2 r3 = df_S p0 p1 p2 p3 := fun w => by
        obtain ⟨w0, w1, w2, w3⟩ := df_S_inj w
        rcases z with z | z | z | z
        · exact z w0
        · exact z w1
        · exact z w2
        · exact z w3
      rw [df_b1 e] at t
      exact ⟨rfl, t⟩
    refine br_c (fun a0 => br_c (fun a1 => br_c (fun a2 => br_c (fun a3 => ?_) (fun a3 => no (Or.inr (Or.inr (Or.inr a3))))) (fun a2 => no (Or.inr (Or.inr (Or.inl a2))))) (fun a1 => no (Or.inr (Or.inl a1)))) (fun a0 => no (Or.inl a0))
    have e : ¬ ¬ df_S r0 r1 r2 r3 = df_S p0 p1 p2 p3 := fun w => w (by rw [show r0 = p0 from a0, show r1 = p1 from a1, show r2 = p2 from a2, show r3 = p3 from a3])
    rw [df_b0 e] at t
    exact ⟨rfl, t⟩
  · rintro m i ⟨s0, s1, s2, s3⟩ hi ⟨h0, h1, h2, h3⟩ k
    refine br_f (nI_ge hi (by omega)) (nm_e (dx_passesPlusDefinite M n rl fa c p0 p1 p2 p3 K H bs bl bS wS _ (by omega) hn (df_br (fun a => dx_rr54 M n rl fa c p0 p1 p2 p3 K H bs bl bS wS post _ s0 s1 s2 s3 (by omega) hn (fun y3 y5 y7 g3 g5 g7 => ?_)) (fun a => nm_e (dx_rr54 M n rl fa c p0 p1 p2 p3 K H bs bl bS wS post _ _ s1 s2 s3 (by omega) hn (fun y3 y5 y7 g3 g5 g7 => ?_))))))
    · exact k (s0, y3, y5, y7) ⟨df_grow h0 (df_orF s0 a), df_grow h1 g3, df_grow h2 g5, df_grow h3 g7⟩
    · exact k (_, y3, y5, y7) ⟨df_grow h0 (df_orT s0 (by omega) a), df_grow h1 g3, df_grow h2 g5, df_grow h3 g7⟩
  · have z : ∀ (p : Int64) (Q : Nat → Prop) (j : Nat), df_l p j ↔ df_l p j ∨ (j < 0 ∧ Q j) := fun p Q j => ⟨Or.inl, fun y => y.elim id (fun w => absurd w.1 (Nat.not_lt_zero j))⟩
    exact ⟨z _ _, z _ _, z _ _, z _ _⟩
theorem dx_compute (post : Int32 → SX → Prop) (hM : M ≤ 64) (hn : n ≤ 32)
    (hp : ∀ r0 r1 r2 r3, df_S r0 r1 r2 r3 = df_Fin M n (df_l fa) K H (df_B bS) (df_R wS) → post (nI (df_c (df_l r2) 64)) (nI M, rl, fa, nI n, 1, r0, r1, r2, r3, K, H, bs, bl, bS, wS)) : wpX_compute post (nI M, rl, fa, nI n, c, p0, p1, p2, p3, K, H, bs, bl, bS, wS) := by
  have fin : ∀ r0 r1 r2 r3, df_S r0 r1 r2 r3 = df_Fin M n (df_l fa) K H (df_B bS) (df_R wS) → wX_compute_46 post (nI M) rl fa (nI n) c r0 r1 r2 r3 K H bs bl bS wS :=
    fun r0 r1 r2 r3 h => by
      unfold wX_compute_46
      exact dx_sizeOf _ r2 (hp r0 r1 r2 r3 h)
  have key : ∀ d k r0 r1 r2 r3 (g : Int32), k + d = 257 → df_S r0 r1 r2 r3 = df_It M n (df_l fa) K H (df_B bS) (df_R wS) k → (g = 0 → df_It M n (df_l fa) K H (df_B bS) (df_R wS) k = df_Fin M n (df_l fa) K H (df_B bS) (df_R wS)) →
      wX_compute_24 post (d + 1) g (nI k) (nI M) rl fa (nI n) c r0 r1 r2 r3 K H bs bl bS wS := by
    intro d
    induction d with
    | zero =>
      intro k r0 r1 r2 r3 g hk hS hg
      have e : k = 257 := by omega
      subst e
      exact br_c (fun z => fin r0 r1 r2 r3 (hS.trans (hg z))) (fun _ => br_t (nI_le (a := 257) (b := 257) (by omega) (by omega)) (fin r0 r1 r2 r3 (hS.trans (df_It_257 M n (df_l fa) K H (df_B bS) (df_R wS)))))
    | succ d ih =>
      intro k r0 r1 r2 r3 g hk hS hg
      refine br_c (fun z => fin r0 r1 r2 r3 (hS.trans (hg z))) (fun _ => br_f (nI_ge (a := k) (b := 257) (by omega) (by omega)) (dx_runRound M n rl fa c r0 r1 r2 r3 K H bs bl bS wS _ hM hn (fun s0 s1 s2 s3 hs => nm_r (nI_1 k) (ih (k + 1) s0 s1 s2 s3 _ (by omega) ?_ ?_))))
      · rw [hs, hS]
        rfl
      · intro z
        have e : df_S s0 s1 s2 s3 = df_S r0 r1 r2 r3 := Classical.not_not.mp (df_bz.mp z)
        rw [hS, hs, hS] at e
        exact df_It_fix M n (df_l fa) K H (df_B bS) (df_R wS) (by omega) e
  exact ⟨258, key 257 0 0 0 0 0 1 rfl df_S_z (fun z => absurd z (by decide))⟩
end
end
section
-- the reference's state against the theory
def df_hF (F : Nat → Prop) (fact : Nat → Int32) : Prop := ∀ i, i < 64 → fact i = df_b (F i)
def df_hB (n : Nat) (B : Nat → Nat → Prop) (bl body : Nat → Int32) : Prop := ∀ r, r < n → ∃ z, z ≤ 4 ∧ bl r = nI z ∧ (∀ i, i < z → ∃ l, l < 64 ∧ body (r * 4 + i) = nI l ∧ B r l) ∧ (∀ q, B r q → q < 64 ∧ ∃ i, i < z ∧ body (r * 4 + i) = nI q)
def df_hR (n : Nat) (R : Nat → Nat → Prop) (sup : Nat → Int32) : Prop := ∀ r s, r < 32 → s < 32 → sup (r * 32 + s) = df_b (r < n ∧ R r s)
def df_hT (S : Nat → Prop) (tags : Nat → Int32) : Prop := ∀ i, i < 256 → tags i = df_b (S i)
theorem df_ix4 (r i : Nat) : nI r * 4 + nI i = nI (r * 4 + i) := by
  rw [show (4 : Int32) = nI 4 from rfl, pk_mul, nI_add]
theorem df_ix32 (r i : Nat) : nI r * 32 + nI i = nI (r * 32 + i) := by
  rw [show (32 : Int32) = nI 32 from rfl, pk_mul, nI_add]
theorem df_ix64 (r i : Nat) : nI r * 64 + nI i = nI (r * 64 + i) := by
  rw [show (64 : Int32) = nI 64 from rfl, pk_mul, nI_add]
theorem df_2A (A : Nat) : 2 * nI A = nI (2 * A) := by
  rw [show (2 : Int32) = nI 2 from rfl, pk_mul]
section
variable (A n : Nat) (mr c : Int32) (fact K H bl body sup reach tags nxt : Nat → Int32)
theorem dy_validLit (post : Int32 → Prop) (x : Int32) (hA : A ≤ 32) (hp : post (df_b (df_v (2 * A) x))) : wpY_validLit post (nI A, mr, nI n, c, fact, K, H, bl, body, sup, reach, tags, nxt) x :=
  br_c (fun h => (df_p0 (df_v_neg (by omega) h) hp)) (fun h => br_c (fun h2 => (df_p0 (df_v_big (by omega) (df_2A A ▸ h2)) hp)) (fun h2 => (df_p1 (df_v_in (by omega) h (df_2A A ▸ h2)) hp)))
theorem dy_validRule (post : Int32 → Prop) (x : Int32) (hn : n ≤ 32) (hp : post (df_b (df_v n x))) : wpY_validRule post (nI A, mr, nI n, c, fact, K, H, bl, body, sup, reach, tags, nxt) x :=
  br_c (fun h => (df_p0 (df_v_neg (by omega) h) hp)) (fun h => br_c (fun h2 => (df_p0 (df_v_big (by omega) h2) hp)) (fun h2 => (df_p1 (df_v_in (by omega) h h2) hp)))
theorem dy_supports (post : Int32 → Prop) {r q : Nat} (hr : r < 32) (hp : post (df_b (df_sup K H r q))) : wpY_supports post (nI A, mr, nI n, c, fact, K, H, bl, body, sup, reach, tags, nxt) (nI r) (nI q) :=
  ⟨vp_in_nI hr (by decide), df_if (d := H r = nI q) (by rw [nI_clamp (n := r) (by omega)]) (fun h => ⟨vp_in_nI hr (by decide), df_if (d := K r = 2) (by rw [nI_clamp (n := r) (by omega)])
    (fun h2 => (df_p0 (fun z => z.2 h2) hp)) (fun h2 => (df_p1 ⟨h, h2⟩ hp))⟩) (fun h => (df_p0 (fun z => h z.1) hp))⟩
theorem dy_allIn (B : Nat → Nat → Prop) (S : Nat → Prop) (hB : df_hB n B bl body) (hT : df_hT S tags) (post : Int32 → Prop) {r t : Nat} (hn : n ≤ 32) (hr : r < n) (ht : t < 4) (hp : post (df_b (df_all B S t r))) : wpY_allIn post (nI A, mr, nI n, c, fact, K, H, bl, body, sup, reach, tags, nxt) (nI r) (nI t) := by
  obtain ⟨z, hz, ez, h1, h2⟩ := hB r hr
  refine df_scan (fun m i => wY_allIn_2 post (nI r) (nI t) (nI A) mr (nI n) c fact K H bl body sup reach tags nxt m (nI i)) (fun i => ∃ l, l < 64 ∧ body (r * 4 + i) = nI l ∧ ¬ S (t * 64 + l)) z ?_ ?_
  · intro h m
    refine ⟨vp_in_nI (by omega) (by decide), br_t ?_ (df_p1 ?_ hp)⟩
    · rw [nI_clamp (by omega), ez]
      exact nI_le (Nat.le_refl z) (by omega)
    · intro q hq
      obtain ⟨q64, i, hi, e⟩ := h2 q hq
      exact Classical.byContradiction (fun hs => h i hi ⟨q, q64, e, hs⟩)
  · intro m i hi h k
    obtain ⟨l, hl, el, hb⟩ := h1 i hi
    have e1 : nI r * 4 + nI i = nI (r * 4 + i) := df_ix4 r i
    have e2 : nI t * 64 + body (nI r * 4 + nI i).toNatClampNeg = nI (t * 64 + l) := by rw [e1, nI_clamp (by omega), el, df_ix64]
    refine ⟨vp_in_nI (by omega) (by decide), br_f ?_ ⟨pk_in (r * 4 + i) 128 (by omega) e1, pk_in (t * 64 + l) 256 (by omega) e2, df_if (d := ¬ S (t * 64 + l)) ?_ (fun a => df_p0 (fun w => a (w l hb)) hp) (fun a => nm_r (nI_1 i) (k ?_))⟩⟩
    · rw [nI_clamp (by omega), ez]
      exact nI_ge hi (by omega)
    · rw [e2, nI_clamp (by omega), hT _ (by omega)]
      exact df_bz
    · rintro ⟨l', hl', el', hs⟩
      rw [el, nI_eq (by omega) (by omega)] at el'
      exact a (el' ▸ hs)
theorem dy_someIn (B : Nat → Nat → Prop) (S : Nat → Prop) (hB : df_hB n B bl body) (hT : df_hT S tags) (post : Int32 → Prop) {r t : Nat} (hn : n ≤ 32) (hr : r < n) (ht : t < 4) (hp : post (df_b (df_som B S t r))) : wpY_someIn post (nI A, mr, nI n, c, fact, K, H, bl, body, sup, reach, tags, nxt) (nI r) (nI t) := by
  obtain ⟨z, hz, ez, h1, h2⟩ := hB r hr
  refine df_scan (fun m i => wY_someIn_2 post (nI r) (nI t) (nI A) mr (nI n) c fact K H bl body sup reach tags nxt m (nI i)) (fun i => ∃ l, l < 64 ∧ body (r * 4 + i) = nI l ∧ S (t * 64 + l)) z ?_ ?_
  · intro h m
    refine ⟨vp_in_nI (by omega) (by decide), br_t ?_ (df_p0 ?_ hp)⟩
    · rw [nI_clamp (by omega), ez]
      exact nI_le (Nat.le_refl z) (by omega)
    · rintro ⟨q, hq, hs⟩
      obtain ⟨q64, i, hi, e⟩ := h2 q hq
      exact h i hi ⟨q, q64, e, hs⟩
  · intro m i hi h k
    obtain ⟨l, hl, el, hb⟩ := h1 i hi
    have e1 : nI r * 4 + nI i = nI (r * 4 + i) := df_ix4 r i
    have e2 : nI t * 64 + body (nI r * 4 + nI i).toNatClampNeg = nI (t * 64 + l) := by rw [e1, nI_clamp (by omega), el, df_ix64]
    refine ⟨vp_in_nI (by omega) (by decide), br_f ?_ ⟨pk_in (r * 4 + i) 128 (by omega) e1, pk_in (t * 64 + l) 256 (by omega) e2, df_if (d := ¬ S (t * 64 + l)) ?_ (fun a => nm_r (nI_1 i) (k ?_)) (fun a => df_p1 ⟨l, hb, Classical.not_not.mp a⟩ hp)⟩⟩
    · rw [nI_clamp (by omega), ez]
      exact nI_ge hi (by omega)
    · rw [e2, nI_clamp (by omega), hT _ (by omega)]
      exact df_bz
    · rintro ⟨l', hl', el', hs⟩
      rw [el, nI_eq (by omega) (by omega)] at el'
      exact a (el' ▸ hs)
section
variable (F : Nat → Prop) (B R : Nat → Nat → Prop) (S : Nat → Prop)
theorem dy_testPlusD (hF : df_hF F fact) (hB : df_hB n B bl body) (hT : df_hT S tags) (post : Int32 → Prop) {q : Nat} (hn : n ≤ 32) (hq : q < 64) (hp : post (df_b (df_pD n F K H B S q))) : wpY_testPlusD post (nI A, mr, nI n, c, fact, K, H, bl, body, sup, reach, tags, nxt) (nI q) := by
  refine ⟨vp_in_nI hq (by decide), df_if (d := ¬ F q) (by rw [nI_clamp (n := q) (by omega), hF q hq]; exact df_bz) (fun f => ?_) (fun f => df_p1 (Or.inl (Classical.not_not.mp f)) hp)⟩
  exact df_scan (fun m i => wY_testPlusD_13 post (nI q) (nI A) mr (nI n) c fact K H bl body sup reach tags nxt m (nI i)) (df_fD K H B S q) n
    (fun h m => br_t (nI_le (Nat.le_refl n) (by omega)) (df_p0 (fun z => z.elim f (fun ⟨r, hr, a⟩ => h r hr a)) hp))
    (fun m i hi h k => br_f (nI_ge hi (by omega)) ⟨vp_in_nI (by omega) (by decide), df_if (d := K i = 0) (by rw [nI_clamp (n := i) (by omega)])
      (fun a => ⟨vp_in_nI (by omega) (by decide), df_if (d := H i = nI q) (by rw [nI_clamp (n := i) (by omega)])
        (fun b => dy_allIn A n mr c fact K H bl body sup reach tags nxt B S hB hT _ (r := i) (t := 0) hn hi (by omega) (df_br (fun d => nm_r (nI_1 i) (k (fun z => d z.2))) (fun d => df_p1 (Or.inr ⟨i, hi, ⟨b, a⟩, d⟩) hp)))
        (fun b => nm_r (nI_1 i) (k (fun z => b z.1.1)))⟩)
      (fun a => nm_r (nI_1 i) (k (fun z => a z.1.2)))⟩)
theorem dy_testMinusD (hF : df_hF F fact) (hB : df_hB n B bl body) (hT : df_hT S tags) (post : Int32 → Prop) {q : Nat} (hn : n ≤ 32) (hq : q < 64) (hp : post (df_b (df_mD n F K H B S q))) : wpY_testMinusD post (nI A, mr, nI n, c, fact, K, H, bl, body, sup, reach, tags, nxt) (nI q) := by
  refine ⟨vp_in_nI hq (by decide), df_if (d := ¬ F q) (by rw [nI_clamp (n := q) (by omega), hF q hq]; exact df_bz) (fun f => ?_) (fun f => df_p0 (fun z => f z.1) hp)⟩
  exact df_scan (fun m i => wY_testMinusD_13 post (nI q) (nI A) mr (nI n) c fact K H bl body sup reach tags nxt m (nI i)) (fun r => df_str K H r q ∧ ¬ df_som B S 1 r) n
    (fun h m => br_t (nI_le (Nat.le_refl n) (by omega)) (df_p1 ⟨f, fun r hr a => Classical.byContradiction (fun b => h r hr ⟨a, b⟩)⟩ hp))
    (fun m i hi h k => br_f (nI_ge hi (by omega)) ⟨vp_in_nI (by omega) (by decide), df_if (d := K i = 0) (by rw [nI_clamp (n := i) (by omega)])
      (fun a => ⟨vp_in_nI (by omega) (by decide), df_if (d := H i = nI q) (by rw [nI_clamp (n := i) (by omega)])
        (fun b => dy_someIn A n mr c fact K H bl body sup reach tags nxt B S hB hT _ (r := i) (t := 1) hn hi (by omega) (df_br (fun d => df_p0 (fun z => d (z.2 i hi ⟨b, a⟩)) hp) (fun d => nm_r (nI_1 i) (k (fun z => z.2 d)))))
        (fun b => nm_r (nI_1 i) (k (fun z => b z.1.1)))⟩)
      (fun a => nm_r (nI_1 i) (k (fun z => a z.1.2)))⟩)
theorem df_supz {j i : Nat} (hR : df_hR n R sup) (hj : j < n) (hn : n ≤ 32) (hi : i < 32) : sup (nI j * 32 + nI i).toNatClampNeg = 0 ↔ ¬ R j i := by
  rw [df_ix32, nI_clamp (by omega), hR j i (by omega) hi]
  exact ⟨fun z r => df_bz.mp z ⟨hj, r⟩, fun z => df_b0 (fun y => z y.2)⟩
theorem df_e0 (x : Int32) : (0 : Int32) + x = x := Int32.zero_add x
theorem df_e64 (q : Nat) : (64 : Int32) + nI q = nI (64 + q) := nI_add 64 q
theorem df_e128 (q : Nat) : (128 : Int32) + nI q = nI (128 + q) := nI_add 128 q
theorem df_e192 (q : Nat) : (192 : Int32) + nI q = nI (192 + q) := nI_add 192 q
theorem dy_testPlusd (hB : df_hB n B bl body) (hR : df_hR n R sup) (hT : df_hT S tags) (post : Int32 → Prop) {q : Nat} (hn : n ≤ 32) (hq : q < 64) (hp : post (df_b (df_pd n K H B R S q))) : wpY_testPlusd post (nI A, mr, nI n, c, fact, K, H, bl, body, sup, reach, tags, nxt) (nI q) := by
  refine ⟨pk_in q 256 (by omega) (df_e0 _), df_if (d := ¬ S q) (by rw [df_e0, nI_clamp (n := q) (by omega), hT q (by omega)]; exact df_bz) (fun s0 => ?_) (fun s0 => df_p1 (Or.inl (Classical.not_not.mp s0)) hp)⟩
  refine df_acc (fun m i x => wY_testPlusd_17 post (nI q) (nI A) mr (nI n) c fact K H bl body sup reach tags nxt m x (nI i)) (df_fd K H B S q) n
    (fun m => br_t (nI_le (Nat.le_refl n) (by omega)) (df_br (fun a => df_p0 (fun z => z.elim s0 (fun y => a y.1)) hp) (fun a => ?_)))
    (fun m i x hi ht hf => br_f (nI_ge hi (by omega)) (dy_supports A n mr c fact K H bl body sup reach tags nxt _ (r := i) (by omega) (df_br (fun a => nm_r (nI_1 i) (hf (fun z => a z.1)))
      (fun a => dy_allIn A n mr c fact K H bl body sup reach tags nxt B S hB hT _ (r := i) (t := 2) hn hi (by omega) (df_br (fun b => nm_r (nI_1 i) (hf (fun z => b z.2))) (fun b => nm_r (nI_1 i) (ht ⟨a, b⟩)))))))
  have hx := df_x1 q hq
  have e1 : (64 : Int32) + (nI q ^^^ 1) = nI (64 + (q ^^^ 1)) := by rw [df_x1I, df_e64]
  refine ⟨pk_in (64 + (q ^^^ 1)) 256 (by omega) e1, df_if (d := ¬ S (64 + (q ^^^ 1))) (by rw [e1, nI_clamp (by omega), hT _ (by omega)]; exact df_bz) (fun s1 => df_p0 (fun z => z.elim s0 (fun y => s1 y.2.1)) hp) (fun s1 => ?_)⟩
  refine df_scan (fun m i => wY_testPlusd_75 post (nI q) (nI A) mr (nI n) c fact K H bl body sup reach tags nxt m (nI i)) (fun s => H s = nI (q ^^^ 1) ∧ ¬ df_som B S 3 s ∧ ¬ df_bea n K H B R S s q) n
    (fun h m => br_t (nI_le (Nat.le_refl n) (by omega)) (df_p1 (Or.inr ⟨a, Classical.not_not.mp s1, fun s hs x y => Classical.byContradiction (fun d => h s hs ⟨x, y, d⟩)⟩) hp))
    (fun m i hi h k => br_f (nI_ge hi (by omega)) ⟨vp_in_nI (by omega) (by decide), df_if (d := H i = nI (q ^^^ 1)) (by rw [nI_clamp (n := i) (by omega), df_x1I])
      (fun b => dy_someIn A n mr c fact K H bl body sup reach tags nxt B S hB hT _ (r := i) (t := 3) hn hi (by omega) (df_br (fun d => ?_) (fun d => nm_r (nI_1 i) (k (fun z => z.2.1 d)))))
      (fun b => nm_r (nI_1 i) (k (fun z => b z.1)))⟩)
  exact df_acc (fun m' j x => wY_testPlusd_110 post (wY_testPlusd_75 post (nI q) (nI A) mr (nI n) c fact K H bl body sup reach tags nxt m) (nI q) (nI i) (nI A) mr (nI n) c fact K H bl body sup reach tags nxt m' x (nI j)) (fun t => df_sup K H t q ∧ df_all B S 2 t ∧ R t i) n
    (fun m' => br_t (nI_le (Nat.le_refl n) (by omega)) (df_br (fun e => df_p0 (fun z => z.elim s0 (fun y => e (y.2.2 i hi b d))) hp) (fun e => nm_r (nI_1 i) (k (fun z => z.2.2 e)))))
    (fun m' j x hj ht hf => br_f (nI_ge hj (by omega)) (dy_supports A n mr c fact K H bl body sup reach tags nxt _ (r := j) (by omega) (df_br (fun a1 => nm_r (nI_1 j) (hf (fun z => a1 z.1)))
      (fun a1 => ⟨pk_in (j * 32 + i) 1024 (by omega) (df_ix32 j i), df_if (df_supz n sup R hR hj hn (by omega)) (fun r1 => nm_r (nI_1 j) (hf (fun z => r1 z.2.2)))
        (fun r1 => dy_allIn A n mr c fact K H bl body sup reach tags nxt B S hB hT _ (r := j) (t := 2) hn hj (by omega) (df_br (fun b1 => nm_r (nI_1 j) (hf (fun z => b1 z.2.1))) (fun b1 => nm_r (nI_1 j) (ht ⟨a1, b1, Classical.not_not.mp r1⟩))))⟩))))
theorem dy_testMinusd (hB : df_hB n B bl body) (hR : df_hR n R sup) (hT : df_hT S tags) (post : Int32 → Prop) {q : Nat} (hn : n ≤ 32) (hq : q < 64) (hp : post (df_b (df_md n K H B R S q))) : wpY_testMinusd post (nI A, mr, nI n, c, fact, K, H, bl, body, sup, reach, tags, nxt) (nI q) := by
  refine ⟨pk_in (64 + q) 256 (by omega) (df_e64 q), df_if (d := ¬ S (64 + q)) (by rw [df_e64, nI_clamp (by omega), hT _ (by omega)]; exact df_bz) (fun s0 => df_p0 (fun z => s0 z.1) hp) (fun s0 => ?_)⟩
  have s0 := Classical.not_not.mp s0
  refine df_acc0 (fun m i x => wY_testMinusd_18 post (nI q) (nI A) mr (nI n) c fact K H bl body sup reach tags nxt m x (nI i)) (fun r => df_sup K H r q ∧ ¬ df_som B S 3 r) n
    (fun m => br_t (nI_le (Nat.le_refl n) (by omega)) (df_br (fun a => ?_) (fun a => df_p1 ⟨s0, Or.inl (fun r hr b => Classical.byContradiction (fun d => a r hr ⟨b, d⟩))⟩ hp)))
    (fun m i x hi ht hf => br_f (nI_ge hi (by omega)) (dy_supports A n mr c fact K H bl body sup reach tags nxt _ (r := i) (by omega) (df_br (fun a => nm_r (nI_1 i) (hf (fun z => a z.1)))
      (fun a => dy_someIn A n mr c fact K H bl body sup reach tags nxt B S hB hT _ (r := i) (t := 3) hn hi (by omega) (df_br (fun b => nm_r (nI_1 i) (ht ⟨a, b⟩)) (fun b => nm_r (nI_1 i) (hf (fun z => z.2 b))))))))
  have na : ¬ df_esf n K H B S q := fun z => a (fun r hr y => y.2 (z r hr y.1))
  have hx := df_x1 q hq
  have e1 : (0 : Int32) + (nI q ^^^ 1) = nI (q ^^^ 1) := by rw [df_e0, df_x1I]
  refine ⟨pk_in (q ^^^ 1) 256 (by omega) e1, df_if (d := ¬ S (q ^^^ 1)) (by rw [e1, nI_clamp (by omega), hT _ (by omega)]; exact df_bz) (fun s1 => ?_) (fun s1 => df_p1 ⟨s0, Or.inr (Or.inl (Classical.not_not.mp s1))⟩ hp)⟩
  refine df_scan (fun m i => wY_testMinusd_75 post (nI q) (nI A) mr (nI n) c fact K H bl body sup reach tags nxt m (nI i)) (fun s => H s = nI (q ^^^ 1) ∧ df_all B S 2 s ∧ ¬ df_can n K H B R S s q) n
    (fun h m => br_t (nI_le (Nat.le_refl n) (by omega)) (df_p0 (fun z => z.2.elim na (fun y => y.elim s1 (fun ⟨s, hs, x⟩ => h s hs x))) hp))
    (fun m i hi h k => br_f (nI_ge hi (by omega)) ⟨vp_in_nI (by omega) (by decide), df_if (d := H i = nI (q ^^^ 1)) (by rw [nI_clamp (n := i) (by omega), df_x1I])
      (fun b => dy_allIn A n mr c fact K H bl body sup reach tags nxt B S hB hT _ (r := i) (t := 2) hn hi (by omega) (df_br (fun d => nm_r (nI_1 i) (k (fun z => d z.2.1))) (fun d => ?_)))
      (fun b => nm_r (nI_1 i) (k (fun z => b z.1)))⟩)
  exact df_acc0 (fun m' j x => wY_testMinusd_110 post (wY_testMinusd_75 post (nI q) (nI A) mr (nI n) c fact K H bl body sup reach tags nxt m) (nI q) (nI i) (nI A) mr (nI n) c fact K H bl body sup reach tags nxt m' x (nI j)) (fun t => df_sup K H t q ∧ ¬ df_som B S 3 t ∧ R t i) n
    (fun m' => br_t (nI_le (Nat.le_refl n) (by omega)) (df_br (fun e => nm_r (nI_1 i) (k (fun z => e (fun t ht y => z.2.2 ⟨t, ht, y⟩)))) (fun e => df_p1 ⟨s0, Or.inr (Or.inr ⟨i, hi, b, d, fun ⟨t, ht, y⟩ => e t ht y⟩)⟩ hp)))
    (fun m' j x hj ht hf => br_f (nI_ge hj (by omega)) (dy_supports A n mr c fact K H bl body sup reach tags nxt _ (r := j) (by omega) (df_br (fun a1 => nm_r (nI_1 j) (hf (fun z => a1 z.1)))
      (fun a1 => dy_someIn A n mr c fact K H bl body sup reach tags nxt B S hB hT _ (r := j) (t := 3) hn hj (by omega) (df_br
        (fun b1 => ⟨pk_in (j * 32 + i) 1024 (by omega) (df_ix32 j i), df_if (df_supz n sup R hR hj hn (by omega)) (fun r1 => nm_r (nI_1 j) (hf (fun z => r1 z.2.2))) (fun r1 => nm_r (nI_1 j) (ht ⟨a1, b1, Classical.not_not.mp r1⟩))⟩)
        (fun b1 => nm_r (nI_1 j) (hf (fun z => z.2.1 b1))))))))
end
end
end
section
theorem df_vn (p : Prop) : vp_nar .boolean (df_b p) = df_b p := by
  rcases Classical.em p with h | h
  · rw [df_b1 h]; rfl
  · rw [df_b0 h]; rfl
theorem df_vn1 : vp_nar .boolean 1 = 1 := rfl
theorem df_vn0 : vp_nar .boolean 0 = 0 := rfl
theorem df_nb (p : Prop) : narrow .boolean (.int (df_b p)) = .int (df_b p) := by
  rcases Classical.em p with h | h
  · rw [df_b1 h]; rfl
  · rw [df_b0 h]; rfl
-- nxt while the literals below i have been tested
def df_N (M n : Nat) (F : Nat → Prop) (K H : Nat → Int32) (B R : Nat → Nat → Prop) (S : Nat → Prop) (i : Nat) (s : Nat → Int32) : Prop :=
  ∀ j, j < 256 → (j % 64 < i → s j = df_b (df_T n F K H B R S (j / 64) (j % 64))) ∧ (M ≤ j % 64 → s j = 0)
theorem df_N_step {M n : Nat} {F : Nat → Prop} {K H : Nat → Int32} {B R : Nat → Nat → Prop} {S : Nat → Prop} {i : Nat} {s : Nat → Int32} (hM : M ≤ 64) (hi : i < M) (h : df_N M n F K H B R S i s) :
    df_N M n F K H B R S (i + 1) (upd (upd (upd (upd s i (df_b (df_pD n F K H B S i))) (64 + i) (df_b (df_mD n F K H B S i))) (128 + i) (df_b (df_pd n K H B R S i))) (192 + i) (df_b (df_md n K H B R S i))) := by
  intro j hj
  obtain ⟨h1, h2⟩ := h j hj
  rcases Nat.lt_or_ge (j % 64) i with l | l
  · rw [pk_un (by omega), pk_un (by omega), pk_un (by omega), pk_un (by omega)]
    exact ⟨fun _ => h1 l, fun z => absurd z (by omega)⟩
  · rcases Nat.lt_or_ge i (j % 64) with g | g
    · rw [pk_un (by omega), pk_un (by omega), pk_un (by omega), pk_un (by omega)]
      exact ⟨fun z => absurd z (by omega), h2⟩
    · have e : j % 64 = i := by omega
      refine ⟨fun _ => ?_, fun z => absurd z (by omega)⟩
      rw [e]
      rcases (show j = i ∨ j = 64 + i ∨ j = 128 + i ∨ j = 192 + i by omega) with w | w | w | w
      · subst w
        rw [pk_un (by omega), pk_un (by omega), pk_un (by omega), pk_us, show j / 64 = 0 by omega]
        rfl
      · subst w
        rw [pk_un (by omega), pk_un (by omega), pk_us, show (64 + i) / 64 = 1 by omega]
        rfl
      · subst w
        rw [pk_un (by omega), pk_us, show (128 + i) / 64 = 2 by omega]
        rfl
      · subst w
        rw [pk_us, show (192 + i) / 64 = 3 by omega]
        rfl
theorem df_N_end {M n : Nat} {F : Nat → Prop} {K H : Nat → Int32} {B R : Nat → Nat → Prop} {S : Nat → Prop} {s : Nat → Int32} (h : df_N M n F K H B R S M s) {j : Nat} (hj : j < 256) : s j = df_b (df_ts M n F K H B R S j) := by
  obtain ⟨h1, h2⟩ := h j hj
  rcases Nat.lt_or_ge (j % 64) M with l | l
  · rw [h1 l]
    exact df_bc ⟨fun z => ⟨hj, l, z⟩, fun z => z.2.2⟩
  · rw [h2 l]
    exact (df_b0 (fun z => absurd z.2.1 (by omega))).symm
section
variable (A n : Nat) (mr c : Int32) (fact K H bl body sup reach tags nxt : Nat → Int32)
theorem dy_count (S : Nat → Prop) (hT : df_hT S tags) (post : Int32 → Prop) {t : Nat} (hA : A ≤ 32) (ht : t < 4) (hp : post (nI (df_c (fun q => S (t * 64 + q)) (2 * A)))) : ∃ m, wY_countTag_25 post (nI t) (nI A) mr (nI n) c fact K H bl body sup reach tags nxt m 0 0 :=
  df_cnt (fun m i x => wY_countTag_25 post (nI t) (nI A) mr (nI n) c fact K H bl body sup reach tags nxt m x (nI i)) (fun q => S (t * 64 + q)) (2 * A)
    (fun m => br_t (by rw [df_2A]; exact nI_le (Nat.le_refl _) (by omega)) hp)
    (fun m i x hi hy hf => br_f (by rw [df_2A]; exact nI_ge hi (by omega)) ⟨pk_in (t * 64 + i) 256 (by omega) (df_ix64 t i), df_if (d := ¬ S (t * 64 + i)) (by rw [df_ix64, nI_clamp (by omega), hT _ (by omega)]; exact df_bz)
      (fun a => nm_r (nI_1 i) (hf a)) (fun a => nm_e (nm_r (nI_1 i) (hy (Classical.not_not.mp a))))⟩)
theorem dy_countTag (S : Nat → Prop) (hT : df_hT S tags) (post : Int32 → Prop) {t : Nat} (hc : ¬ c = 0) (hA : A ≤ 32) (ht : t < 4) (hp : post (nI (df_c (fun q => S (t * 64 + q)) (2 * A)))) : wpY_countTag post (nI A, mr, nI n, c, fact, K, H, bl, body, sup, reach, tags, nxt) (nI t) :=
  br_f hc (br_f (nI_pos (by omega)) (br_t (nI_le (a := t) (b := 3) (by omega) (by omega)) (dy_count A n mr c fact K H bl body sup reach tags nxt S hT post hA ht hp)))
theorem dy_compute (F : Nat → Prop) (B R : Nat → Nat → Prop) (hF : df_hF F fact) (hB : df_hB n B bl body) (hR : df_hR n R sup) (post : Int32 → SY → Prop) (hA : A ≤ 32) (hn : n ≤ 32)
    (hp : ∀ tg nx, df_hT (df_Fin (2 * A) n F K H B R) tg → post (nI (df_c (fun q => df_Fin (2 * A) n F K H B R (2 * 64 + q)) (2 * A))) (nI A, mr, nI n, 1, fact, K, H, bl, body, sup, reach, tg, nx)) : wpY_compute post (nI A, mr, nI n, c, fact, K, H, bl, body, sup, reach, tags, nxt) := by
  have fin : ∀ tg nx, df_hT (df_Fin (2 * A) n F K H B R) tg → wY_compute_175 post (nI A) mr (nI n) c fact K H bl body sup reach tg nx :=
    fun tg nx h => by
      unfold wY_compute_175
      exact dy_countTag A n mr 1 fact K H bl body sup reach tg nx (df_Fin (2 * A) n F K H B R) h _ (t := 2) (by decide) hA (by omega) (hp tg nx h)
  have key : ∀ d k tg nx, k + d = 300 → df_hT (df_It (2 * A) n F K H B R k) tg → (∀ j, j < 256 → 2 * A ≤ j % 64 → nx j = 0) →
      wY_compute_38 post (nI (2 * A)) (nI A) mr (nI n) c (d + 1) (nI k) fact K H bl body sup reach tg nx := by
    intro d
    induction d with
    | zero =>
      intro k tg nx hk hT hN
      have e : k = 300 := by omega
      subst e
      exact br_t (nI_le (a := 300) (b := 300) (by omega) (by omega)) (fin tg nx hT)
    | succ d ih =>
      intro k tg nx hk hT hN
      refine br_f (nI_ge (a := k) (b := 300) (by omega) (by omega)) ?_
      refine df_loop (σ := Nat → Int32) (fun m i s => wY_compute_47 post (wY_compute_38 post (nI (2 * A)) (nI A) mr (nI n) c (d + 1)) (nI (2 * A)) (nI k) (nI A) mr (nI n) c m (nI i) fact K H bl body sup reach tg s)
        (fun i s => df_N (2 * A) n F K H B R (df_It (2 * A) n F K H B R k) i s) (2 * A) ?_ ?_ nx (fun j hj => ⟨fun z => absurd z (Nat.not_lt_zero _), hN j hj⟩)
      · intro m s hs
        refine br_t (nI_le (Nat.le_refl _) (by omega)) ?_
        refine df_loop (σ := Int32 × (Nat → Int32)) (fun m i z => wY_compute_118 post (wY_compute_38 post (nI (2 * A)) (nI A) mr (nI n) c (d + 1)) (nI (2 * A)) (nI k) (nI A) mr (nI n) c m z.1 (nI i) fact K H bl body sup reach z.2 s)
          (fun i z => (∀ j, j < 256 → z.2 j = df_b (df_It (2 * A) n F K H B R k j ∨ (j < i ∧ df_ts (2 * A) n F K H B R (df_It (2 * A) n F K H B R k) j))) ∧ z.1 = df_b (∃ j, j < i ∧ df_ts (2 * A) n F K H B R (df_It (2 * A) n F K H B R k) j ∧ ¬ df_It (2 * A) n F K H B R k j)) 256 ?_ ?_ (0, tg) ?_
        · rintro m ⟨x, tg'⟩ ⟨h1, h2⟩
          have h2 : x = df_b (∃ j, j < 256 ∧ df_ts (2 * A) n F K H B R (df_It (2 * A) n F K H B R k) j ∧ ¬ df_It (2 * A) n F K H B R k j) := h2
          have h1 : ∀ j, j < 256 → tg' j = df_b (df_It (2 * A) n F K H B R k j ∨ (j < 256 ∧ df_ts (2 * A) n F K H B R (df_It (2 * A) n F K H B R k) j)) := h1
          have hT' : df_hT (df_It (2 * A) n F K H B R (k + 1)) tg' := fun j hj => (h1 j hj).trans (df_bc ⟨fun z => z.elim Or.inl (fun y => Or.inr y.2), fun z => z.elim Or.inl (fun y => Or.inr ⟨hj, y⟩)⟩)
          subst h2
          refine br_t (nI_le (a := 256) (b := 256) (by omega) (by omega)) (df_br (fun a => fin tg' s ?_) (fun a => nm_r (nI_1 k) (ih (k + 1) tg' s (by omega) hT' (fun j hj z => (hs j hj).2 z))))
          have e : df_It (2 * A) n F K H B R (k + 1) = df_It (2 * A) n F K H B R k := by
            apply df_ext
            intro j
            refine ⟨fun z => ?_, Or.inl⟩
            rcases z with z | z
            · exact z
            · exact Classical.byContradiction (fun y => a ⟨j, z.1, z, y⟩)
          rw [← df_It_fix (2 * A) n F K H B R (by omega) e]
          exact hT'
        · rintro m i ⟨x, tg'⟩ hi ⟨h1, h2⟩ kk
          have h2 : x = df_b (∃ j, j < i ∧ df_ts (2 * A) n F K H B R (df_It (2 * A) n F K H B R k) j ∧ ¬ df_It (2 * A) n F K H B R k j) := h2
          have h1 : ∀ j, j < 256 → tg' j = df_b (df_It (2 * A) n F K H B R k j ∨ (j < i ∧ df_ts (2 * A) n F K H B R (df_It (2 * A) n F K H B R k) j)) := h1
          have hti : tg' i = df_b (df_It (2 * A) n F K H B R k i) := (h1 i hi).trans (df_bc ⟨fun z => z.elim id (fun y => absurd y.1 (by omega)), Or.inl⟩)
          have hni : s i = df_b (df_ts (2 * A) n F K H B R (df_It (2 * A) n F K H B R k) i) := df_N_end hs hi
          have stay : (df_ts (2 * A) n F K H B R (df_It (2 * A) n F K H B R k) i → df_It (2 * A) n F K H B R k i) →
              (∀ j, j < 256 → tg' j = df_b (df_It (2 * A) n F K H B R k j ∨ (j < i + 1 ∧ df_ts (2 * A) n F K H B R (df_It (2 * A) n F K H B R k) j))) ∧ x = df_b (∃ j, j < i + 1 ∧ df_ts (2 * A) n F K H B R (df_It (2 * A) n F K H B R k) j ∧ ¬ df_It (2 * A) n F K H B R k j) := by
            intro w
            refine ⟨fun j hj => (h1 j hj).trans (df_bc ⟨fun z => z.elim Or.inl (fun y => Or.inr ⟨by omega, y.2⟩), fun z => z.elim Or.inl (fun y => ?_)⟩), h2.trans (df_bc ⟨fun ⟨j, a, b⟩ => ⟨j, by omega, b⟩, fun ⟨j, a, b⟩ => ⟨j, ?_, b⟩⟩)⟩
            · rcases Nat.lt_or_ge j i with l | l
              · exact Or.inr ⟨l, y.2⟩
              · have e : j = i := by omega
                subst e
                exact Or.inl (w y.2)
            · rcases Nat.lt_or_ge j i with l | l
              · exact l
              · have e : j = i := by omega
                subst e
                exact absurd (w b.1) b.2
          refine br_f (nI_ge (a := i) (b := 256) hi (by omega)) ⟨vp_in_nI hi (by decide), df_if (d := ¬ df_ts (2 * A) n F K H B R (df_It (2 * A) n F K H B R k) i) (by rw [nI_clamp (n := i) (by omega), hni]; exact df_bz)
            (fun a => nm_r (nI_1 i) (kk (x, tg') (stay (fun z => absurd z a))))
            (fun a => ⟨vp_in_nI hi (by decide), df_if (d := ¬ df_It (2 * A) n F K H B R k i) (by rw [nI_clamp (n := i) (by omega)]; show tg' i = 0 ↔ _; rw [hti]; exact df_bz)
              (fun b => ⟨vp_in_nI hi (by decide), nm_r (show upd tg' (nI i).toNatClampNeg (vp_nar .boolean 1) = upd tg' i 1 by rw [nI_clamp (n := i) (by omega), df_vn1]) (nm_r (nI_1 i) (kk (1, upd tg' i 1) ⟨fun j hj => ?_, ?_⟩))⟩)
              (fun b => nm_r (nI_1 i) (kk (x, tg') (stay (fun _ => Classical.not_not.mp b))))⟩)⟩
          · have ta := Classical.not_not.mp a
            rcases Classical.em (j = i) with e | e
            · subst e
              show upd tg' j 1 j = _
              rw [pk_us]
              exact (df_b1 (Or.inr ⟨by omega, ta⟩)).symm
            · show upd tg' i 1 j = _
              rw [pk_un e, h1 j hj]
              exact df_bc ⟨fun z => z.elim Or.inl (fun y => Or.inr ⟨by omega, y.2⟩), fun z => z.elim Or.inl (fun y => Or.inr ⟨by omega, y.2⟩)⟩
          · exact (df_b1 ⟨i, by omega, Classical.not_not.mp a, b⟩).symm
        · exact ⟨fun j hj => (hT j hj).trans (df_bc ⟨Or.inl, fun z => z.elim id (fun y => absurd y.1 (Nat.not_lt_zero j))⟩), (df_b0 (fun ⟨j, a, _⟩ => absurd a (Nat.not_lt_zero j))).symm⟩
      · intro m i s hi hs kk
        have q64 : i < 64 := by omega
        refine br_f (nI_ge hi (by omega)) (dy_testPlusD A n mr c fact K H bl body sup reach tg s F B (df_It (2 * A) n F K H B R k) hF hB hT _ hn q64 ⟨pk_in i 256 (by omega), nm_r (e' := upd s i (df_b (df_pD n F K H B (df_It (2 * A) n F K H B R k) i))) (by rw [nI_clamp (n := i) (by omega), df_vn])
          (dy_testMinusD A n mr c fact K H bl body sup reach tg _ F B (df_It (2 * A) n F K H B R k) hF hB hT _ hn q64 ⟨pk_in (64 + i) 256 (by omega) (df_e64 i), nm_r (e' := upd (upd s i (df_b (df_pD n F K H B (df_It (2 * A) n F K H B R k) i))) (64 + i) (df_b (df_mD n F K H B (df_It (2 * A) n F K H B R k) i))) (by rw [df_e64, nI_clamp (by omega), df_vn])
            (dy_testPlusd A n mr c fact K H bl body sup reach tg _ B R (df_It (2 * A) n F K H B R k) hB hR hT _ hn q64 ⟨pk_in (128 + i) 256 (by omega) (df_e128 i), nm_r (e' := upd (upd (upd s i (df_b (df_pD n F K H B (df_It (2 * A) n F K H B R k) i))) (64 + i) (df_b (df_mD n F K H B (df_It (2 * A) n F K H B R k) i))) (128 + i) (df_b (df_pd n K H B R (df_It (2 * A) n F K H B R k) i))) (by rw [df_e128, nI_clamp (by omega), df_vn])
              (dy_testMinusd A n mr c fact K H bl body sup reach tg _ B R (df_It (2 * A) n F K H B R k) hB hR hT _ hn q64 ⟨pk_in (192 + i) 256 (by omega) (df_e192 i), nm_r (e' := upd (upd (upd (upd s i (df_b (df_pD n F K H B (df_It (2 * A) n F K H B R k) i))) (64 + i) (df_b (df_mD n F K H B (df_It (2 * A) n F K H B R k) i))) (128 + i) (df_b (df_pd n K H B R (df_It (2 * A) n F K H B R k) i))) (192 + i) (df_b (df_md n K H B R (df_It (2 * A) n F K H B R k) i))) (by rw [df_e192, nI_clamp (by omega), df_vn])
                (nm_r (nI_1 i) (kk _ (df_N_step (by omega) hi hs)))⟩)⟩)⟩)⟩)
  refine df_loop (σ := (Nat → Int32) × (Nat → Int32)) (fun m i s => wY_compute_2 post (nI A) mr (nI n) c m (nI i) fact K H bl body sup reach s.1 s.2) (fun i s => ∀ j, j < i → s.1 j = 0 ∧ s.2 j = 0) 256 ?_ ?_ (tags, nxt) (fun j hj => absurd hj (Nat.not_lt_zero j))
  · rintro m ⟨tg, nx⟩ h
    exact br_t (nI_le (a := 256) (b := 256) (by omega) (by omega)) (nm_r (df_2A A) ⟨301, key 300 0 tg nx rfl (fun j hj => (h j hj).1.trans (df_b0 (fun z => z)).symm) (fun j hj _ => (h j hj).2)⟩)
  · rintro m i ⟨tg, nx⟩ hi h kk
    refine br_f (nI_ge (a := i) (b := 256) hi (by omega)) ⟨vp_in_nI hi (by decide), nm_r (show upd tg (nI i).toNatClampNeg (vp_nar .boolean 0) = upd tg i 0 by rw [nI_clamp (n := i) (by omega), df_vn0]) ⟨vp_in_nI hi (by decide), nm_r (show upd nx (nI i).toNatClampNeg (vp_nar .boolean 0) = upd nx i 0 by rw [nI_clamp (n := i) (by omega), df_vn0]) (nm_r (nI_1 i) (kk (upd tg i 0, upd nx i 0) (fun j hj => ?_)))⟩⟩
    rcases Classical.em (j = i) with e | e
    · subst e
      exact ⟨pk_us, pk_us⟩
    · exact ⟨(pk_un e).trans (h j (by omega)).1, (pk_un e).trans (h j (by omega)).2⟩
end
end
section
section
variable (A n : Nat) (mr c : Int32) (fact K H bl body sup reach tags nxt : Nat → Int32)
theorem dy_addSuperiorR (R : Nat → Nat → Prop) (hR : df_hR n R sup) (hRn : ∀ r s, r < n → R r s → s < n) (post : Int32 → SY → Prop) {a b : Nat} (hn : n ≤ 32) (ha : a < n) (hb : b < n) (hab : ¬ a = b) (hnr : ¬ R a b)
    (hp1 : ¬ df_ch n R b (n - 1) a → ∀ rc, post 1 (nI A, mr, nI n, 0, fact, K, H, bl, body, upd sup (a * 32 + b) 1, rc, tags, nxt)) (hp0 : df_ch n R b (n - 1) a → ∀ rc, post 0 (nI A, mr, nI n, c, fact, K, H, bl, body, sup, rc, tags, nxt)) : wpY_addSuperior post (nI A, mr, nI n, c, fact, K, H, bl, body, sup, reach, tags, nxt) (nI a) (nI b) := by
  unfold wpY_addSuperior
  refine dy_validRule A n mr c fact K H bl body sup reach tags nxt _ (nI a) hn (df_br (fun h => absurd (df_v1 ha) h) (fun _ => dy_validRule A n mr c fact K H bl body sup reach tags nxt _ (nI b) hn (df_br (fun h => absurd (df_v1 hb) h) (fun _ => br_f (fun e => hab ((nI_eq (by omega) (by omega)).mp e)) ⟨pk_in (a * 32 + b) 1024 (by omega) (df_ix32 a b), br_t ((df_supz n sup R hR ha hn (by omega)).mpr hnr) ?_⟩))))
  have key : ∀ d k rc, k + d = 33 → (∃ Q : Nat → Prop, (∀ i, i < 32 → rc i = df_b (Q i)) ∧ (∀ i, df_ch n R b k i → Q i) ∧ (∀ i, Q i → df_ch n R b (n - 1) i)) → wY_addSuperior_71 post (nI a) (nI b) (nI A) mr (nI n) c (d + 1) (nI k) fact K H bl body sup rc tags nxt := by
    intro d
    induction d with
    | zero =>
      rintro k rc hk ⟨Q, h1, h2, h3⟩
      have e : k = 33 := by omega
      subst e
      have hQ : Q a ↔ df_ch n R b (n - 1) a := ⟨h3 a, fun z => h2 a (by rw [df_ch_sub hb hRn 33 (by omega)]; exact z)⟩
      exact br_t (nI_le (a := 33) (b := 33) (by omega) (by omega)) ⟨vp_in_nI (by omega) (by decide), df_if (d := ¬ df_ch n R b (n - 1) a) (by rw [nI_clamp (n := a) (by omega), h1 a (by omega), df_bc hQ]; exact df_bz)
        (fun z => ⟨pk_in (a * 32 + b) 1024 (by omega) (df_ix32 a b), nm_r (show upd sup (nI a * 32 + nI b).toNatClampNeg (vp_nar .boolean 1) = upd sup (a * 32 + b) 1 by rw [df_ix32, nI_clamp (by omega), df_vn1]) (hp1 z rc)⟩) (fun z => hp0 (Classical.not_not.mp z) rc)⟩
    | succ d ih =>
      rintro k rc hk ⟨Q, h1, h2, h3⟩
      refine br_f (nI_ge (a := k) (b := 33) (by omega) (by omega)) ?_
      refine df_loop (σ := Nat → Int32) (fun m i s => wY_addSuperior_80 post (wY_addSuperior_71 post (nI a) (nI b) (nI A) mr (nI n) c (d + 1)) (nI a) (nI b) (nI k) (nI A) mr (nI n) c m (nI i) fact K H bl body sup s tags nxt)
        (fun i s => ∃ Q : Nat → Prop, (∀ j, j < 32 → s j = df_b (Q j)) ∧ (∀ j, df_ch n R b k j → Q j) ∧ (∀ j, Q j → df_ch n R b (n - 1) j) ∧ (∀ r t, r < n → t < n → r * 32 + t < i → df_ch n R b k r → R r t → Q t)) 1024 ?_ ?_ rc ⟨Q, h1, h2, h3, fun r t _ _ z => absurd z (Nat.not_lt_zero _)⟩
      · rintro m s ⟨Q', g1, g2, g3, g4⟩
        refine br_t (nI_le (a := 1024) (b := 1024) (by omega) (by omega)) (nm_r (nI_1 k) (ih (k + 1) s (by omega) ⟨Q', g1, fun i z => ?_, g3⟩))
        rcases z with z | ⟨r, hr, zr, zR⟩
        · exact g2 i z
        · have l := hRn r i hr zR
          exact g4 r i hr l (by omega) zr zR
      · rintro m i s hi ⟨Q', g1, g2, g3, g4⟩ kk
        have hs : sup i = df_b (i / 32 < n ∧ R (i / 32) (i % 32)) := by
          have t := hR (i / 32) (i % 32) (by omega) (by omega)
          rw [show i / 32 * 32 + i % 32 = i by omega] at t
          exact t
        have stay : (i / 32 < n → R (i / 32) (i % 32) → df_ch n R b k (i / 32) → Q' (i % 32)) →
            ∃ Q : Nat → Prop, (∀ j, j < 32 → s j = df_b (Q j)) ∧ (∀ j, df_ch n R b k j → Q j) ∧ (∀ j, Q j → df_ch n R b (n - 1) j) ∧ (∀ r t, r < n → t < n → r * 32 + t < i + 1 → df_ch n R b k r → R r t → Q t) := by
          intro w
          refine ⟨Q', g1, g2, g3, fun r t hr ht z zc zR => ?_⟩
          rcases Nat.lt_or_ge (r * 32 + t) i with l | l
          · exact g4 r t hr ht l zc zR
          · have e1 : r = i / 32 := by omega
            have e2 : t = i % 32 := by omega
            rw [e1] at hr zc zR
            rw [e2] at zR ⊢
            exact w hr zR zc
        have ed : nI i / 32 = nI (i / 32) := pk_div (a := i) (d := 32) (by omega) (by omega) (by omega)
        have er : nI i - nI i / 32 * 32 = nI (i % 32) := pk_rem (a := i) (d := 32) (by omega) (by omega) (by omega)
        refine br_f (nI_ge (a := i) (b := 1024) hi (by omega)) ⟨vp_in_nI hi (by decide), df_if (d := ¬ (i / 32 < n ∧ R (i / 32) (i % 32))) (by rw [nI_clamp (n := i) (by omega), hs]; exact df_bz)
          (fun z => nm_r (nI_1 i) (kk s (stay (fun x y _ => absurd ⟨x, y⟩ z))))
          (fun z => ⟨by decide, pk_in (i / 32) 32 (by omega) ed, df_if (d := ¬ Q' (i / 32)) (by rw [ed, nI_clamp (by omega), g1 _ (by omega)]; exact df_bz)
            (fun w => nm_r (nI_1 i) (kk s (stay (fun _ _ y => absurd (g2 _ y) w))))
            (fun w => ⟨by decide, pk_in (i % 32) 32 (by omega) er, nm_r (show upd s (nI i - nI i / 32 * 32).toNatClampNeg (vp_nar .boolean 1) = upd s (i % 32) 1 by rw [er, nI_clamp (by omega), df_vn1]) (nm_r (nI_1 i) (kk (upd s (i % 32) 1) ⟨fun j => j = i % 32 ∨ Q' j, fun j hj => ?_, fun j y => Or.inr (g2 j y), fun j y => ?_, fun r t hr ht y zc zR => ?_⟩))⟩)⟩)⟩
        · rcases Classical.em (j = i % 32) with e | e
          · rw [e, pk_us]
            exact (df_b1 (Or.inl rfl)).symm
          · rw [pk_un e, g1 j hj]
            exact df_bc ⟨Or.inr, fun y => y.resolve_left e⟩
        · rcases y with y | y
          · rw [y]
            have z' := Classical.not_not.mp z
            exact df_ch_cl hb hRn z'.1 (g3 _ (Classical.not_not.mp w)) z'.2
          · exact g3 j y
        · rcases Nat.lt_or_ge (r * 32 + t) i with l | l
          · exact Or.inr (g4 r t hr ht l zc zR)
          · exact Or.inl (by omega)
  refine df_loop (σ := Nat → Int32) (fun m i s => wY_addSuperior_43 post (nI a) (nI b) (nI A) mr (nI n) c m (nI i) fact K H bl body sup s tags nxt) (fun i s => ∀ j, j < i → s j = 0) 32 ?_ ?_ reach (fun j hj => absurd hj (Nat.not_lt_zero j))
  · intro m s h
    refine br_t (nI_le (a := 32) (b := 32) (by omega) (by omega)) ⟨vp_in_nI (by omega) (by decide), nm_r (show upd s (nI b).toNatClampNeg (vp_nar .boolean 1) = upd s b 1 by rw [nI_clamp (n := b) (by omega), df_vn1]) ⟨34, key 33 0 (upd s b 1) rfl ⟨fun i => i = b, fun i hi => ?_, fun i z => z, fun i z => ?_⟩⟩⟩
    · rcases Classical.em (i = b) with e | e
      · rw [e, pk_us]
        exact (df_b1 rfl).symm
      · rw [pk_un e, h i hi]
        exact (df_b0 e).symm
    · have t := df_it_mono (f := df_wn n R) (s := fun i => i = b) (fun _ _ z => Or.inl z) 0 (n - 1) i z
      rw [Nat.zero_add] at t
      exact t
  · intro m i s hi h kk
    refine br_f (nI_ge (a := i) (b := 32) hi (by omega)) ⟨vp_in_nI hi (by decide), nm_r (show upd s (nI i).toNatClampNeg (vp_nar .boolean 0) = upd s i 0 by rw [nI_clamp (n := i) (by omega), df_vn0]) (nm_r (nI_1 i) (kk (upd s i 0) (fun j hj => ?_)))⟩
    rcases Classical.em (j = i) with e | e
    · rw [e]
      exact pk_us
    · exact (pk_un e).trans (h j (by omega))
theorem dy_addSuperior0 (R : Nat → Nat → Prop) (hR : df_hR n R sup) (post : Int32 → SY → Prop) (x y : Int32) (hn : n ≤ 32) (hno : ∀ a b, a < n → b < n → x = nI a → y = nI b → a = b ∨ R a b) (hp : post 0 (nI A, mr, nI n, c, fact, K, H, bl, body, sup, reach, tags, nxt)) : wpY_addSuperior post (nI A, mr, nI n, c, fact, K, H, bl, body, sup, reach, tags, nxt) x y := by
  unfold wpY_addSuperior
  refine dy_validRule A n mr c fact K H bl body sup reach tags nxt _ x hn (df_br (fun _ => hp) (fun h => ?_))
  obtain ⟨a, ha, rfl⟩ := h
  refine dy_validRule A n mr c fact K H bl body sup reach tags nxt _ y hn (df_br (fun _ => hp) (fun h => ?_))
  obtain ⟨b, hb, rfl⟩ := h
  refine br_c (fun _ => hp) (fun e => ⟨pk_in (a * 32 + b) 1024 (by omega) (df_ix32 a b), br_f (fun z => ?_) hp⟩)
  rcases hno a b ha hb rfl rfl with w | w
  · exact e (by rw [w])
  · exact (df_supz n sup R hR ha hn (by omega)).mp z w
theorem dy_isSuperior (R : Nat → Nat → Prop) (hR : df_hR n R sup) (post : Int32 → Prop) (x y : Int32) (hn : n ≤ 32) (hp : post (df_b (∃ a b, a < n ∧ b < n ∧ x = nI a ∧ y = nI b ∧ R a b))) : wpY_isSuperior post (nI A, mr, nI n, c, fact, K, H, bl, body, sup, reach, tags, nxt) x y := by
  unfold wpY_isSuperior
  refine dy_validRule A n mr c fact K H bl body sup reach tags nxt _ x hn (df_br (fun h => df_p0 (fun ⟨a, b, ha, _, e, _⟩ => h ⟨a, ha, e⟩) hp) (fun h => ?_))
  obtain ⟨a, ha, rfl⟩ := h
  refine dy_validRule A n mr c fact K H bl body sup reach tags nxt _ y hn (df_br (fun h => df_p0 (fun ⟨a, b, _, hb, _, e, _⟩ => h ⟨b, hb, e⟩) hp) (fun h => ?_))
  obtain ⟨b, hb, rfl⟩ := h
  refine ⟨pk_in (a * 32 + b) 1024 (by omega) (df_ix32 a b), df_if (df_supz n sup R hR ha hn (by omega)) (fun z => df_p0 ?_ hp) (fun z => df_p1 ⟨a, b, ha, hb, rfl, rfl, Classical.not_not.mp z⟩ hp)⟩
  rintro ⟨a', b', ha', hb', e1, e2, w⟩
  rw [nI_eq (by omega) (by omega)] at e1 e2
  subst e1 e2
  exact z w
-- reset
theorem dy_reset (post : SY → Prop) (hp : ∀ ft sp ln, (∀ j, j < 64 → ft j = 0) → (∀ j, j < 1024 → sp j = 0) → post (nI A, mr, nI 0, 0, ft, K, H, ln, body, sp, reach, tags, nxt)) : wpY_reset post (nI A, mr, nI n, c, fact, K, H, bl, body, sup, reach, tags, nxt) := by
  refine df_loop (σ := Nat → Int32) (fun m i s => wY_reset_2 post (nI A) mr (nI n) c m (nI i) s K H bl body sup reach tags nxt) (fun i s => ∀ j, j < i → s j = 0) 64 ?_ ?_ fact (fun j hj => absurd hj (Nat.not_lt_zero j))
  · intro m ft hft
    refine br_t (nI_le (a := 64) (b := 64) (by omega) (by omega)) ?_
    refine df_loop (σ := Nat → Int32) (fun m i s => wY_reset_23 post (nI A) mr (nI n) c m (nI i) ft K H bl body s reach tags nxt) (fun i s => ∀ j, j < i → s j = 0) 1024 ?_ ?_ sup (fun j hj => absurd hj (Nat.not_lt_zero j))
    · intro m sp hsp
      refine br_t (nI_le (a := 1024) (b := 1024) (by omega) (by omega)) ?_
      refine df_loop (σ := Nat → Int32) (fun m i s => wY_reset_45 post (nI A) mr (nI n) c m (nI i) ft K H s body sp reach tags nxt) (fun i s => True) 32 ?_ ?_ bl trivial
      · intro m ln _
        exact br_t (nI_le (a := 32) (b := 32) (by omega) (by omega)) (hp ft sp ln hft hsp)
      · intro m i s hi _ kk
        exact br_f (nI_ge (a := i) (b := 32) hi (by omega)) ⟨vp_in_nI hi (by decide), nm_e (nm_r (nI_1 i) (kk _ trivial))⟩
    · intro m i s hi h kk
      refine br_f (nI_ge (a := i) (b := 1024) hi (by omega)) ⟨vp_in_nI hi (by decide), nm_r (show upd s (nI i).toNatClampNeg (vp_nar .boolean 0) = upd s i 0 by rw [nI_clamp (n := i) (by omega), df_vn0]) (nm_r (nI_1 i) (kk (upd s i 0) (fun j hj => ?_)))⟩
      rcases Classical.em (j = i) with e | e
      · rw [e]
        exact pk_us
      · exact (pk_un e).trans (h j (by omega))
  · intro m i s hi h kk
    refine br_f (nI_ge (a := i) (b := 64) hi (by omega)) ⟨vp_in_nI hi (by decide), nm_r (show upd s (nI i).toNatClampNeg (vp_nar .boolean 0) = upd s i 0 by rw [nI_clamp (n := i) (by omega), df_vn0]) (nm_r (nI_1 i) (kk (upd s i 0) (fun j hj => ?_)))⟩
    rcases Classical.em (j = i) with e | e
    · rw [e]
      exact pk_us
    · exact (pk_un e).trans (h j (by omega))
end
end
section
section
variable (M n : Nat) (rl : Int32) (fa : Int64) (c : Int32) (p0 p1 p2 p3 : Int64) (K H bs bl : Nat → Int32) (bS : Nat → Int64) (wS : Nat → Int32)
theorem dx_reset (post : SX → Prop) (hp : post (nI M, rl, 0, nI 0, 0, p0, p1, p2, p3, K, H, bs, bl, bS, wS)) : wpX_reset post (nI M, rl, fa, nI n, c, p0, p1, p2, p3, K, H, bs, bl, bS, wS) := hp
theorem dx_addFact1 (post : Int32 → SX → Prop) {j : Nat} (hM : M ≤ 64) (hj : j < M) (hf : ¬ df_l fa j) (hp : post 1 (nI M, rl, fa ||| ((1 : Int64) <<< ((nI j).toInt64 &&& 63)), nI n, 0, p0, p1, p2, p3, K, H, bs, bl, bS, wS)) : wpX_addFact post (nI M, rl, fa, nI n, c, p0, p1, p2, p3, K, H, bs, bl, bS, wS) (nI j) := by
  unfold wpX_addFact
  exact dx_isLiteral M n rl fa c p0 p1 p2 p3 K H bs bl bS wS _ (nI j) hM (df_br (fun h => absurd (df_v1 hj) h) (fun _ => dx_contains _ fa (by omega) (df_br (fun _ => nm_e hp) (fun h => absurd h hf))))
theorem dx_addFact0 (post : Int32 → SX → Prop) (x : Int32) (hM : M ≤ 64) (hf : ∀ j, j < M → x = nI j → df_l fa j) (hp : post 0 (nI M, rl, fa, nI n, c, p0, p1, p2, p3, K, H, bs, bl, bS, wS)) : wpX_addFact post (nI M, rl, fa, nI n, c, p0, p1, p2, p3, K, H, bs, bl, bS, wS) x := by
  unfold wpX_addFact
  refine dx_isLiteral M n rl fa c p0 p1 p2 p3 K H bs bl bS wS _ x hM (df_br (fun _ => hp) (fun h => ?_))
  obtain ⟨j, hj, rfl⟩ := h
  exact dx_contains _ fa (by omega) (df_br (fun h => absurd (hf j hj rfl) h) (fun _ => hp))
theorem dx_isFact (post : Int32 → Prop) (x : Int32) (hM : M ≤ 64) (hp : post (df_b (∃ j, j < M ∧ x = nI j ∧ df_l fa j))) : wpX_isFact post (nI M, rl, fa, nI n, c, p0, p1, p2, p3, K, H, bs, bl, bS, wS) x := by
  unfold wpX_isFact
  refine dx_isLiteral M n rl fa c p0 p1 p2 p3 K H bs bl bS wS _ x hM (df_br (fun h => df_p0 (fun ⟨j, a, b, _⟩ => h ⟨j, a, b⟩) hp) (fun h => ?_))
  obtain ⟨j, hj, rfl⟩ := h
  refine dx_contains _ fa (by omega) (df_br (fun h => df_p0 (fun ⟨i, a, b, d⟩ => ?_) hp) (fun h => df_p1 ⟨j, hj, rfl, h⟩ hp))
  rw [nI_eq (by omega) (by omega)] at b
  exact h (b ▸ d)
theorem dx_newRule1 (post : Int32 → SX → Prop) (k : Int32) {q : Nat} (hM : M ≤ 64) (hn : n < 32) (hk : k = 0 ∨ k = 1 ∨ k = 2) (hq : q < M) (hl : nI n < rl)
    (hp : post (nI n) (nI M, rl, fa, nI (n + 1), 0, p0, p1, p2, p3, upd K n k, upd H n (nI q), upd bs n 0, bl, vp_updL bS n 0, upd wS n 0)) : wpX_newRule post (nI M, rl, fa, nI n, c, p0, p1, p2, p3, K, H, bs, bl, bS, wS) k (nI q) := by
  unfold wpX_newRule
  have e : (nI n).toNatClampNeg = n := nI_clamp (by omega)
  exact dx_isKind _ k (df_br (fun h => absurd hk h) (fun _ => dx_isLiteral M n rl fa c p0 p1 p2 p3 K H bs bl bS wS _ (nI q) hM (df_br (fun h => absurd (df_v1 hq) h) (fun _ => br_t hl
    ⟨vp_in_nI hn (by decide), nm_r (e' := upd K n k) (by rw [e]) ⟨vp_in_nI hn (by decide), nm_r (e' := upd H n (nI q)) (by rw [e]) ⟨vp_in_nI hn (by decide), nm_r (e' := upd bs n 0) (by rw [e]) ⟨vp_in_nI hn (by decide), nm_r (e' := vp_updL bS n 0) (by rw [e])
      ⟨vp_in_nI hn (by decide), nm_r (e' := upd wS n 0) (by rw [e]) (nm_r (nI_1 n) hp)⟩⟩⟩⟩⟩))))
theorem dx_newRule0 (post : Int32 → SX → Prop) (k x : Int32) (hM : M ≤ 64) (hno : ¬ ((k = 0 ∨ k = 1 ∨ k = 2) ∧ df_v M x ∧ nI n < rl)) (hp : post (-1) (nI M, rl, fa, nI n, c, p0, p1, p2, p3, K, H, bs, bl, bS, wS)) : wpX_newRule post (nI M, rl, fa, nI n, c, p0, p1, p2, p3, K, H, bs, bl, bS, wS) k x := by
  unfold wpX_newRule
  exact dx_isKind _ k (df_br (fun _ => hp) (fun h => dx_isLiteral M n rl fa c p0 p1 p2 p3 K H bs bl bS wS _ x hM (df_br (fun _ => hp) (fun h2 => br_f (fun h3 => hno ⟨h, h2, h3⟩) hp))))
theorem dx_addBody1 (post : Int32 → SX → Prop) {r q z : Nat} (hM : M ≤ 64) (hn : n ≤ 32) (hr : r < n) (hq : q < M) (hz : z < 4) (ez : bs r = nI z) (hb : ¬ df_B bS r q)
    (hp : post 1 (nI M, rl, fa, nI n, 0, p0, p1, p2, p3, K, H, upd bs r (nI (z + 1)), upd bl (r * 4 + z) (nI q), vp_updL bS r (bS r ||| ((1 : Int64) <<< ((nI q).toInt64 &&& 63))), wS)) : wpX_addBody post (nI M, rl, fa, nI n, c, p0, p1, p2, p3, K, H, bs, bl, bS, wS) (nI r) (nI q) := by
  unfold wpX_addBody
  have e : (nI r).toNatClampNeg = r := nI_clamp (by omega)
  have hr' : r < 32 := by omega
  refine dx_isRule M n rl fa c p0 p1 p2 p3 K H bs bl bS wS _ (nI r) hn (df_br (fun h => absurd (df_v1 hr) h) (fun _ => dx_isLiteral M n rl fa c p0 p1 p2 p3 K H bs bl bS wS _ (nI q) hM (df_br (fun h => absurd (df_v1 hq) h) (fun _ => ⟨vp_in_nI hr' (by decide), nm_r (e' := nI z) (by rw [e, ez]) (br_f (nI_ge (a := z) (b := 4) hz (by omega)) ⟨vp_in_nI hr' (by decide), ?_⟩)⟩))))
  rw [e]
  exact dx_contains _ (bS r) (by omega) (df_br (fun _ => ⟨pk_in (r * 4 + z) 128 (by omega) (df_ix4 r z), nm_r (e' := upd bl (r * 4 + z) (nI q)) (by rw [df_ix4, nI_clamp (by omega)]) ⟨vp_in_nI hr' (by decide), vp_in_nI hr' (by decide), nm_e ⟨vp_in_nI hr' (by decide), nm_r (e' := upd bs r (nI (z + 1))) (by rw [nI_1]) hp⟩⟩⟩) (fun h => absurd h hb))
theorem dx_addBody0 (post : Int32 → SX → Prop) (x y : Int32) (hM : M ≤ 64) (hn : n ≤ 32) (hbs : ∀ r, r < n → ∃ z, z ≤ 4 ∧ bs r = nI z) (hno : ∀ r q, r < n → q < M → x = nI r → y = nI q → bs r = nI 4 ∨ df_B bS r q) (hp : post 0 (nI M, rl, fa, nI n, c, p0, p1, p2, p3, K, H, bs, bl, bS, wS)) : wpX_addBody post (nI M, rl, fa, nI n, c, p0, p1, p2, p3, K, H, bs, bl, bS, wS) x y := by
  unfold wpX_addBody
  refine dx_isRule M n rl fa c p0 p1 p2 p3 K H bs bl bS wS _ x hn (df_br (fun _ => hp) (fun h => ?_))
  obtain ⟨r, hr, rfl⟩ := h
  refine dx_isLiteral M n rl fa c p0 p1 p2 p3 K H bs bl bS wS _ y hM (df_br (fun _ => hp) (fun h => ?_))
  obtain ⟨q, hq, rfl⟩ := h
  have e : (nI r).toNatClampNeg = r := nI_clamp (by omega)
  have hr' : r < 32 := by omega
  refine ⟨vp_in_nI hr' (by decide), nm_r (e' := bs r) (by rw [e]) (br_c (fun _ => hp) (fun h4 => ⟨vp_in_nI hr' (by decide), ?_⟩))⟩
  rw [e]
  refine dx_contains _ (bS r) (by omega) (df_br (fun h => ?_) (fun _ => hp))
  rcases hno r q hr hq rfl rfl with w | w
  · rw [w] at h4
    exact absurd (nI_le (a := 4) (b := 4) (by omega) (by omega)) h4
  · exact absurd w h
theorem dx_addSuperiorR (post : Int32 → SX → Prop) {a b : Nat} (hn : n ≤ 32) (ha : a < n) (hb : b < n) (hab : ¬ a = b) (hnr : ¬ df_R wS a b)
    (hp1 : ¬ df_ch n (df_R wS) b (n - 1) a → post 1 (nI M, rl, fa, nI n, 0, p0, p1, p2, p3, K, H, bs, bl, bS, upd wS a (wS a ||| ((1 : Int32) <<< (nI b &&& 31))))) (hp0 : df_ch n (df_R wS) b (n - 1) a → post 0 (nI M, rl, fa, nI n, c, p0, p1, p2, p3, K, H, bs, bl, bS, wS)) : wpX_addSuperior post (nI M, rl, fa, nI n, c, p0, p1, p2, p3, K, H, bs, bl, bS, wS) (nI a) (nI b) := by
  unfold wpX_addSuperior
  have e : (nI a).toNatClampNeg = a := nI_clamp (by omega)
  have ha' : a < 32 := by omega
  exact dx_isRule M n rl fa c p0 p1 p2 p3 K H bs bl bS wS _ (nI a) hn (df_br (fun h => absurd (df_v1 ha) h) (fun _ => dx_isRule M n rl fa c p0 p1 p2 p3 K H bs bl bS wS _ (nI b) hn (df_br (fun h => absurd (df_v1 hb) h) (fun _ => br_f (fun e => hab ((nI_eq (by omega) (by omega)).mp e))
    (dx_isRecorded M n rl fa c p0 p1 p2 p3 K H bs bl bS wS _ ha' (by omega) (df_br (fun _ => dx_hasChain M n rl fa c p0 p1 p2 p3 K H bs bl bS wS _ hn hb ha (df_br (fun z => ⟨vp_in_nI ha' (by decide), vp_in_nI ha' (by decide), nm_r (e' := upd wS a (wS a ||| ((1 : Int32) <<< (nI b &&& 31)))) (by rw [e]) (hp1 z)⟩) (fun z => hp0 z))) (fun h => absurd h hnr)))))))
theorem dx_addSuperior0 (post : Int32 → SX → Prop) (x y : Int32) (hn : n ≤ 32) (hno : ∀ a b, a < n → b < n → x = nI a → y = nI b → a = b ∨ df_R wS a b) (hp : post 0 (nI M, rl, fa, nI n, c, p0, p1, p2, p3, K, H, bs, bl, bS, wS)) : wpX_addSuperior post (nI M, rl, fa, nI n, c, p0, p1, p2, p3, K, H, bs, bl, bS, wS) x y := by
  unfold wpX_addSuperior
  refine dx_isRule M n rl fa c p0 p1 p2 p3 K H bs bl bS wS _ x hn (df_br (fun _ => hp) (fun h => ?_))
  obtain ⟨a, ha, rfl⟩ := h
  refine dx_isRule M n rl fa c p0 p1 p2 p3 K H bs bl bS wS _ y hn (df_br (fun _ => hp) (fun h => ?_))
  obtain ⟨b, hb, rfl⟩ := h
  refine br_c (fun _ => hp) (fun e => dx_isRecorded M n rl fa c p0 p1 p2 p3 K H bs bl bS wS _ (r := a) (s := b) (by omega) (by omega) (df_br (fun h => ?_) (fun _ => hp)))
  rcases hno a b ha hb rfl rfl with w | w
  · exact absurd (by rw [w]) e
  · exact absurd w h
theorem dx_isSuperior (post : Int32 → Prop) (x y : Int32) (hn : n ≤ 32) (hp : post (df_b (∃ a b, a < n ∧ b < n ∧ x = nI a ∧ y = nI b ∧ df_R wS a b))) : wpX_isSuperior post (nI M, rl, fa, nI n, c, p0, p1, p2, p3, K, H, bs, bl, bS, wS) x y := by
  unfold wpX_isSuperior
  refine dx_isRule M n rl fa c p0 p1 p2 p3 K H bs bl bS wS _ x hn (df_br (fun h => df_p0 (fun ⟨a, b, ha, _, e, _⟩ => h ⟨a, ha, e⟩) hp) (fun h => ?_))
  obtain ⟨a, ha, rfl⟩ := h
  refine dx_isRule M n rl fa c p0 p1 p2 p3 K H bs bl bS wS _ y hn (df_br (fun h => df_p0 (fun ⟨a, b, _, hb, _, e, _⟩ => h ⟨b, hb, e⟩) hp) (fun h => ?_))
  obtain ⟨b, hb, rfl⟩ := h
  refine dx_isRecorded M n rl fa c p0 p1 p2 p3 K H bs bl bS wS _ (r := a) (s := b) (by omega) (by omega) (df_br (fun z => df_p0 ?_ hp) (fun z => df_p1 ⟨a, b, ha, hb, rfl, rfl, z⟩ hp))
  rintro ⟨a', b', ha', hb', e1, e2, w⟩
  rw [nI_eq (by omega) (by omega)] at e1 e2
  subst e1 e2
  exact z w
theorem dx_ruleKind (post : Int32 → Prop) (x : Int32) (hn : n ≤ 32) (h1 : ∀ r, r < n → x = nI r → post (K r)) (h0 : ¬ df_v n x → post (-1)) : wpX_ruleKind post (nI M, rl, fa, nI n, c, p0, p1, p2, p3, K, H, bs, bl, bS, wS) x := by
  unfold wpX_ruleKind
  refine dx_isRule M n rl fa c p0 p1 p2 p3 K H bs bl bS wS _ x hn (df_br (fun h => h0 h) (fun h => ?_))
  obtain ⟨r, hr, rfl⟩ := h
  refine ⟨vp_in_nI (by omega) (by decide), ?_⟩
  rw [nI_clamp (n := r) (by omega)]
  exact h1 r hr rfl
theorem dx_ruleHead (post : Int32 → Prop) (x : Int32) (hn : n ≤ 32) (h1 : ∀ r, r < n → x = nI r → post (H r)) (h0 : ¬ df_v n x → post (-1)) : wpX_ruleHead post (nI M, rl, fa, nI n, c, p0, p1, p2, p3, K, H, bs, bl, bS, wS) x := by
  unfold wpX_ruleHead
  refine dx_isRule M n rl fa c p0 p1 p2 p3 K H bs bl bS wS _ x hn (df_br (fun h => h0 h) (fun h => ?_))
  obtain ⟨r, hr, rfl⟩ := h
  refine ⟨vp_in_nI (by omega) (by decide), ?_⟩
  rw [nI_clamp (n := r) (by omega)]
  exact h1 r hr rfl
theorem dx_ruleBody1 (post : Int32 → Prop) {r i z : Nat} (hn : n ≤ 32) (hr : r < n) (hz : z ≤ 4) (ez : bs r = nI z) (hi : i < z) (hp : post (bl (r * 4 + i))) : wpX_ruleBody post (nI M, rl, fa, nI n, c, p0, p1, p2, p3, K, H, bs, bl, bS, wS) (nI r) (nI i) := by
  unfold wpX_ruleBody
  have e : (nI r).toNatClampNeg = r := nI_clamp (by omega)
  refine dx_isRule M n rl fa c p0 p1 p2 p3 K H bs bl bS wS _ (nI r) hn (df_br (fun h => absurd (df_v1 hr) h) (fun _ => br_f (nI_pos (by omega)) ⟨vp_in_nI (by omega) (by decide), br_t (by rw [e, ez]; exact nI_lt hi (by omega)) ⟨pk_in (r * 4 + i) 128 (by omega) (df_ix4 r i), ?_⟩⟩))
  rw [df_ix4, nI_clamp (by omega)]
  exact hp
theorem dx_ruleBody0 (post : Int32 → Prop) (x y : Int32) (hn : n ≤ 32) (hno : ∀ r, r < n → x = nI r → ¬ y < 0 → ¬ y < bs r) (hp : post (-1)) : wpX_ruleBody post (nI M, rl, fa, nI n, c, p0, p1, p2, p3, K, H, bs, bl, bS, wS) x y := by
  unfold wpX_ruleBody
  refine dx_isRule M n rl fa c p0 p1 p2 p3 K H bs bl bS wS _ x hn (df_br (fun _ => hp) (fun h => ?_))
  obtain ⟨r, hr, rfl⟩ := h
  refine br_c (fun _ => hp) (fun h => ⟨vp_in_nI (by omega) (by decide), br_f ?_ hp⟩)
  rw [nI_clamp (n := r) (by omega)]
  exact hno r hr rfl h
theorem dx_taggedBy (post : Int64 → Prop) {t : Nat} (ht : t < 4) (hp : post (df_pk p0 p1 p2 p3 t)) : wpX_taggedBy post (nI M, rl, fa, nI n, c, p0, p1, p2, p3, K, H, bs, bl, bS, wS) (nI t) := by
  rcases (show t = 0 ∨ t = 1 ∨ t = 2 ∨ t = 3 by omega) with e | e | e | e
  · subst e
    exact br_f (by decide) (br_f (by decide) (br_t (by decide) hp))
  · subst e
    exact br_f (by decide) (br_f (by decide) (br_f (by decide) (br_t (by decide) hp)))
  · subst e
    exact br_f (by decide) (br_f (by decide) (br_f (by decide) (br_f (by decide) (br_t (by decide) hp))))
  · subst e
    exact br_f (by decide) (br_t (by decide) hp)
theorem dx_hasTag (post : Int32 → Prop) (x y : Int32) (hM : M ≤ 64) (hp : post (df_b (¬ c = 0 ∧ ∃ j t, j < M ∧ t < 4 ∧ x = nI j ∧ y = nI t ∧ df_S p0 p1 p2 p3 (t * 64 + j)))) : wpX_hasTag post (nI M, rl, fa, nI n, c, p0, p1, p2, p3, K, H, bs, bl, bS, wS) x y := by
  unfold wpX_hasTag
  refine br_c (fun h => df_p0 (fun z => z.1 h) hp) (fun hc => dx_isLiteral M n rl fa c p0 p1 p2 p3 K H bs bl bS wS _ x hM (df_br (fun h => df_p0 (fun ⟨_, j, t, hj, _, e, _⟩ => h ⟨j, hj, e⟩) hp) (fun h => ?_)))
  obtain ⟨j, hj, rfl⟩ := h
  refine dx_isTag _ y (df_br (fun h => df_p0 (fun ⟨_, j, t, _, ht, _, e, _⟩ => h ⟨t, ht, e⟩) hp) (fun h => ?_))
  obtain ⟨t, ht, rfl⟩ := h
  refine dx_taggedBy M n rl fa c p0 p1 p2 p3 K H bs bl bS wS _ ht (dx_contains _ _ (l := j) (by omega) ⟨df_nb _, ?_⟩)
  have e : df_l (df_pk p0 p1 p2 p3 t) j ↔ (¬ c = 0 ∧ ∃ j' t', j' < M ∧ t' < 4 ∧ nI j = nI j' ∧ nI t = nI t' ∧ df_S p0 p1 p2 p3 (t' * 64 + j')) := by
    rw [← df_S_at p0 p1 p2 p3 t j ht (by omega)]
    refine ⟨fun z => ⟨hc, j, t, hj, ht, rfl, rfl, z⟩, ?_⟩
    rintro ⟨_, j', t', hj', ht', e1, e2, w⟩
    rw [nI_eq (by omega) (by omega)] at e1 e2
    subst e1 e2
    exact w
  rw [df_bc e]
  exact hp
theorem dx_countTag (post : Int32 → Prop) (x : Int32) (h2 : c = 0 → post (-2)) (h1 : ¬ c = 0 → ¬ df_v 4 x → post (-1)) (h0 : ¬ c = 0 → ∀ t, t < 4 → x = nI t → post (nI (df_c (df_l (df_pk p0 p1 p2 p3 t)) 64))) : wpX_countTag post (nI M, rl, fa, nI n, c, p0, p1, p2, p3, K, H, bs, bl, bS, wS) x := by
  unfold wpX_countTag
  refine br_c h2 (fun hc => dx_isTag _ x (df_br (fun h => h1 hc h) (fun h => ?_)))
  obtain ⟨t, ht, rfl⟩ := h
  exact dx_taggedBy M n rl fa c p0 p1 p2 p3 K H bs bl bS wS _ ht (dx_sizeOf _ _ (h0 hc t ht rfl))
theorem dx_winner (post : Int32 → Prop) (x : Int32) (hM : M ≤ 64) (hn : n ≤ 32) (h2 : c = 0 → post (-2))
    (h1 : ¬ c = 0 → (∀ j, j < M → x = nI j → ¬ df_S p0 p1 p2 p3 (128 + j)) → post (-1))
    (h3 : ∀ j, ¬ c = 0 → j < M → x = nI j → df_S p0 p1 p2 p3 (128 + j) → df_l fa j → post (-3))
    (hD : ∀ j, ¬ c = 0 → j < M → x = nI j → df_S p0 p1 p2 p3 (128 + j) → ¬ df_l fa j → df_S p0 p1 p2 p3 j → ((∀ r, r < n → df_fD K H (df_B bS) (df_S p0 p1 p2 p3) j r → (∀ s, s < r → ¬ df_fD K H (df_B bS) (df_S p0 p1 p2 p3) j s) → post (nI r)) ∧ ((∀ r, r < n → ¬ df_fD K H (df_B bS) (df_S p0 p1 p2 p3) j r) → post (-1))))
    (hd : ∀ j, ¬ c = 0 → j < M → x = nI j → df_S p0 p1 p2 p3 (128 + j) → ¬ df_l fa j → ¬ df_S p0 p1 p2 p3 j → ((∀ r, r < n → df_fd K H (df_B bS) (df_S p0 p1 p2 p3) j r → (∀ s, s < r → ¬ df_fd K H (df_B bS) (df_S p0 p1 p2 p3) j s) → post (nI r)) ∧ ((∀ r, r < n → ¬ df_fd K H (df_B bS) (df_S p0 p1 p2 p3) j r) → post (-1)))) :
    wpX_winner post (nI M, rl, fa, nI n, c, p0, p1, p2, p3, K, H, bs, bl, bS, wS) x := by
  unfold wpX_winner
  refine br_c h2 (fun hc => dx_isLiteral M n rl fa c p0 p1 p2 p3 K H bs bl bS wS _ x hM (df_br (fun h => h1 hc (fun j hj e => absurd ⟨j, hj, e⟩ h)) (fun h => ?_)))
  obtain ⟨j, hj, rfl⟩ := h
  have j64 : j < 64 := by omega
  refine dx_contains _ p2 j64 (df_br (fun h => h1 hc (fun i hi e => ?_)) (fun s2 => ?_))
  · rw [nI_eq (by omega) (by omega)] at e
    subst e
    exact fun z => h ((df_S_2 p0 p1 p2 p3 j64).mp z)
  have s2' := (df_S_2 p0 p1 p2 p3 j64).mpr s2
  refine dx_contains _ fa j64 (df_br (fun hf => ?_) (fun hf => h3 j hc hj rfl s2' hf))
  refine dx_contains _ p0 j64 (df_br (fun s0 => ?_) (fun s0 => ?_))
  · obtain ⟨y, o⟩ := hd j hc hj rfl s2' hf (fun z => s0 ((df_S_0 p0 p1 p2 p3 j64).mp z))
    exact dx_firstSupport M n rl fa c p0 p1 p2 p3 K H bs bl bS wS _ hn y o
  · obtain ⟨y, o⟩ := hD j hc hj rfl s2' hf ((df_S_0 p0 p1 p2 p3 j64).mpr s0)
    exact dx_firstDefiniteProof M n rl fa c p0 p1 p2 p3 K H bs bl bS wS _ hn y o
end
end
section
section
variable (A n : Nat) (mr c : Int32) (fact K H bl body sup reach tags nxt : Nat → Int32)
theorem dy_addFact1 (F : Nat → Prop) (hF : df_hF F fact) (post : Int32 → SY → Prop) {j : Nat} (hA : A ≤ 32) (hj : j < 2 * A) (hf : ¬ F j) (hp : post 1 (nI A, mr, nI n, 0, upd fact j 1, K, H, bl, body, sup, reach, tags, nxt)) : wpY_addFact post (nI A, mr, nI n, c, fact, K, H, bl, body, sup, reach, tags, nxt) (nI j) := by
  unfold wpY_addFact
  have e : (nI j).toNatClampNeg = j := nI_clamp (by omega)
  exact dy_validLit A n mr c fact K H bl body sup reach tags nxt _ (nI j) hA (df_br (fun h => absurd (df_v1 hj) h) (fun _ => ⟨vp_in_nI (by omega) (by decide), br_t (by rw [e, hF j (by omega)]; exact df_b0 hf) ⟨vp_in_nI (by omega) (by decide), nm_r (e' := upd fact j 1) (by rw [e, df_vn1]) hp⟩⟩))
theorem dy_addFact0 (F : Nat → Prop) (hF : df_hF F fact) (post : Int32 → SY → Prop) (x : Int32) (hA : A ≤ 32) (hf : ∀ j, j < 2 * A → x = nI j → F j) (hp : post 0 (nI A, mr, nI n, c, fact, K, H, bl, body, sup, reach, tags, nxt)) : wpY_addFact post (nI A, mr, nI n, c, fact, K, H, bl, body, sup, reach, tags, nxt) x := by
  unfold wpY_addFact
  refine dy_validLit A n mr c fact K H bl body sup reach tags nxt _ x hA (df_br (fun _ => hp) (fun h => ?_))
  obtain ⟨j, hj, rfl⟩ := h
  refine ⟨vp_in_nI (by omega) (by decide), br_f ?_ hp⟩
  rw [nI_clamp (n := j) (by omega), hF j (by omega), df_bz]
  exact fun z => z (hf j hj rfl)
theorem dy_isFact (F : Nat → Prop) (hF : df_hF F fact) (post : Int32 → Prop) (x : Int32) (hA : A ≤ 32) (hp : post (df_b (∃ j, j < 2 * A ∧ x = nI j ∧ F j))) : wpY_isFact post (nI A, mr, nI n, c, fact, K, H, bl, body, sup, reach, tags, nxt) x := by
  unfold wpY_isFact
  refine dy_validLit A n mr c fact K H bl body sup reach tags nxt _ x hA (df_br (fun h => df_p0 (fun ⟨j, a, b, _⟩ => h ⟨j, a, b⟩) hp) (fun h => ?_))
  obtain ⟨j, hj, rfl⟩ := h
  refine ⟨vp_in_nI (by omega) (by decide), df_if (d := ¬ F j) (by rw [nI_clamp (n := j) (by omega), hF j (by omega)]; exact df_bz) (fun h => df_p0 (fun ⟨i, a, b, d⟩ => ?_) hp) (fun h => df_p1 ⟨j, hj, rfl, Classical.not_not.mp h⟩ hp)⟩
  rw [nI_eq (by omega) (by omega)] at b
  exact h (b ▸ d)
theorem dy_newRule1 (post : Int32 → SY → Prop) (k : Int32) {q : Nat} (hA : A ≤ 32) (hn : n < 32) (hk : k = 0 ∨ k = 1 ∨ k = 2) (hq : q < 2 * A) (hl : ¬ nI n = mr)
    (hp : post (nI n) (nI A, mr, nI (n + 1), 0, fact, upd K n k, upd H n (nI q), upd bl n 0, body, sup, reach, tags, nxt)) : wpY_newRule post (nI A, mr, nI n, c, fact, K, H, bl, body, sup, reach, tags, nxt) k (nI q) := by
  have e : (nI n).toNatClampNeg = n := nI_clamp (by omega)
  have t : wY_newRule_16 post k (nI q) (nI A) mr (nI n) c fact K H bl body sup reach tags nxt := by
    unfold wY_newRule_16
    exact dy_validLit A n mr c fact K H bl body sup reach tags nxt _ (nI q) hA (df_br (fun h => absurd (df_v1 hq) h) (fun _ => br_f hl
      ⟨vp_in_nI hn (by decide), nm_r (e' := upd K n k) (by rw [e]) ⟨vp_in_nI hn (by decide), nm_r (e' := upd H n (nI q)) (by rw [e]) ⟨vp_in_nI hn (by decide), nm_r (e' := upd bl n 0) (by rw [e]) (nm_r (nI_1 n) hp)⟩⟩⟩))
  exact br_c (fun _ => t) (fun h => br_c (fun _ => t) (fun h1 => br_c (fun _ => t) (fun h2 => absurd hk (fun z => z.elim h (fun y => y.elim h1 h2)))))
theorem dy_newRule0 (post : Int32 → SY → Prop) (k x : Int32) (hA : A ≤ 32) (hno : ¬ ((k = 0 ∨ k = 1 ∨ k = 2) ∧ df_v (2 * A) x ∧ ¬ nI n = mr)) (hp : post (-1) (nI A, mr, nI n, c, fact, K, H, bl, body, sup, reach, tags, nxt)) : wpY_newRule post (nI A, mr, nI n, c, fact, K, H, bl, body, sup, reach, tags, nxt) k x := by
  have t : (k = 0 ∨ k = 1 ∨ k = 2) → wY_newRule_16 post k x (nI A) mr (nI n) c fact K H bl body sup reach tags nxt := by
    intro hk
    unfold wY_newRule_16
    exact dy_validLit A n mr c fact K H bl body sup reach tags nxt _ x hA (df_br (fun _ => hp) (fun h => br_c (fun _ => hp) (fun h2 => absurd ⟨hk, h, h2⟩ hno)))
  exact br_c (fun h => t (Or.inl h)) (fun h => br_c (fun h1 => t (Or.inr (Or.inl h1))) (fun h1 => br_c (fun h2 => t (Or.inr (Or.inr h2))) (fun h2 => hp)))
theorem dy_addBody1 (B : Nat → Nat → Prop) (hB : df_hB n B bl body) (post : Int32 → SY → Prop) {r q z : Nat} (hA : A ≤ 32) (hn : n ≤ 32) (hr : r < n) (hq : q < 2 * A) (hz : z < 4) (ez : bl r = nI z) (hb : ¬ B r q)
    (hp : post 1 (nI A, mr, nI n, 0, fact, K, H, upd bl r (nI (z + 1)), upd body (r * 4 + z) (nI q), sup, reach, tags, nxt)) : wpY_addBody post (nI A, mr, nI n, c, fact, K, H, bl, body, sup, reach, tags, nxt) (nI r) (nI q) := by
  unfold wpY_addBody
  have e : (nI r).toNatClampNeg = r := nI_clamp (by omega)
  have hr' : r < 32 := by omega
  obtain ⟨z', hz', ez', h1, h2⟩ := hB r hr
  have zz : z = z' := by
    rw [ez, nI_eq (by omega) (by omega)] at ez'
    exact ez'
  subst zz
  refine dy_validRule A n mr c fact K H bl body sup reach tags nxt _ (nI r) hn (df_br (fun h => absurd (df_v1 hr) h) (fun _ => dy_validLit A n mr c fact K H bl body sup reach tags nxt _ (nI q) hA (df_br (fun h => absurd (df_v1 hq) h) (fun _ => ⟨vp_in_nI hr' (by decide), br_t (by rw [e, ez]; exact nI_lt (a := z) (b := 4) hz (by omega)) ?_⟩))))
  refine df_scan (fun m i => wY_addBody_34 post (nI r) (nI q) (nI A) mr (nI n) c fact K H bl body sup reach tags nxt m (nI i)) (fun _ => False) z ?_ ?_
  · intro _ m
    have e2 : nI r * 4 + bl (nI r).toNatClampNeg = nI (r * 4 + z) := by rw [e, ez, df_ix4]
    exact ⟨vp_in_nI hr' (by decide), br_t (by rw [e, ez]; exact nI_le (Nat.le_refl z) (by omega)) ⟨vp_in_nI hr' (by decide), pk_in (r * 4 + z) 128 (by omega) e2, nm_r (e' := upd body (r * 4 + z) (nI q)) (by rw [e2, nI_clamp (by omega)]) ⟨vp_in_nI hr' (by decide), vp_in_nI hr' (by decide), nm_r (e' := upd bl r (nI (z + 1))) (by rw [e, ez, nI_1]) hp⟩⟩⟩
  · intro m i hi _ k
    obtain ⟨l, hl, el, hbl⟩ := h1 i hi
    refine ⟨vp_in_nI hr' (by decide), br_f (by rw [e, ez]; exact nI_ge hi (by omega)) ⟨pk_in (r * 4 + i) 128 (by omega) (df_ix4 r i), br_f ?_ (nm_r (nI_1 i) (k id))⟩⟩
    rw [df_ix4, nI_clamp (by omega), el, nI_eq (by omega) (by omega)]
    exact fun w => hb (w ▸ hbl)
theorem dy_addBody0 (B : Nat → Nat → Prop) (hB : df_hB n B bl body) (post : Int32 → SY → Prop) (x y : Int32) (hA : A ≤ 32) (hn : n ≤ 32) (hno : ∀ r q, r < n → q < 2 * A → x = nI r → y = nI q → bl r = nI 4 ∨ B r q) (hp : post 0 (nI A, mr, nI n, c, fact, K, H, bl, body, sup, reach, tags, nxt)) : wpY_addBody post (nI A, mr, nI n, c, fact, K, H, bl, body, sup, reach, tags, nxt) x y := by
  unfold wpY_addBody
  refine dy_validRule A n mr c fact K H bl body sup reach tags nxt _ x hn (df_br (fun _ => hp) (fun h => ?_))
  obtain ⟨r, hr, rfl⟩ := h
  refine dy_validLit A n mr c fact K H bl body sup reach tags nxt _ y hA (df_br (fun _ => hp) (fun h => ?_))
  obtain ⟨q, hq, rfl⟩ := h
  have e : (nI r).toNatClampNeg = r := nI_clamp (by omega)
  have hr' : r < 32 := by omega
  obtain ⟨z, hz, ez, h1, h2⟩ := hB r hr
  refine ⟨vp_in_nI hr' (by decide), br_c (fun h4 => ?_) (fun _ => hp)⟩
  have z4 : z < 4 := by
    rw [e, ez] at h4
    have t : nI z < nI 4 := h4
    rw [nI_ltI (by omega) (by omega)] at t
    exact t
  have hb : B r q := by
    rcases hno r q hr hq rfl rfl with w | w
    · rw [ez, nI_eq (by omega) (by omega)] at w
      omega
    · exact w
  obtain ⟨_, i0, hi0, e0⟩ := h2 q hb
  refine df_scan (fun m i => wY_addBody_34 post (nI r) (nI q) (nI A) mr (nI n) c fact K H bl body sup reach tags nxt m (nI i)) (fun i => body (r * 4 + i) = nI q) z ?_ ?_
  · intro w m
    exact absurd e0 (w i0 hi0)
  · intro m i hi _ k
    refine ⟨vp_in_nI hr' (by decide), br_f (by rw [e, ez]; exact nI_ge hi (by omega)) ⟨pk_in (r * 4 + i) 128 (by omega) (df_ix4 r i), df_if (d := body (r * 4 + i) = nI q) (by rw [df_ix4, nI_clamp (by omega)]) (fun _ => hp) (fun w => nm_r (nI_1 i) (k w))⟩⟩
theorem dy_ruleKind (post : Int32 → Prop) (x : Int32) (hn : n ≤ 32) (h1 : ∀ r, r < n → x = nI r → post (K r)) (h0 : ¬ df_v n x → post (-1)) : wpY_ruleKind post (nI A, mr, nI n, c, fact, K, H, bl, body, sup, reach, tags, nxt) x := by
  unfold wpY_ruleKind
  refine dy_validRule A n mr c fact K H bl body sup reach tags nxt _ x hn (df_br (fun h => h0 h) (fun h => ?_))
  obtain ⟨r, hr, rfl⟩ := h
  refine ⟨vp_in_nI (by omega) (by decide), ?_⟩
  rw [nI_clamp (n := r) (by omega)]
  exact h1 r hr rfl
theorem dy_ruleHead (post : Int32 → Prop) (x : Int32) (hn : n ≤ 32) (h1 : ∀ r, r < n → x = nI r → post (H r)) (h0 : ¬ df_v n x → post (-1)) : wpY_ruleHead post (nI A, mr, nI n, c, fact, K, H, bl, body, sup, reach, tags, nxt) x := by
  unfold wpY_ruleHead
  refine dy_validRule A n mr c fact K H bl body sup reach tags nxt _ x hn (df_br (fun h => h0 h) (fun h => ?_))
  obtain ⟨r, hr, rfl⟩ := h
  refine ⟨vp_in_nI (by omega) (by decide), ?_⟩
  rw [nI_clamp (n := r) (by omega)]
  exact h1 r hr rfl
theorem dy_ruleBody1 (post : Int32 → Prop) {r i z : Nat} (hn : n ≤ 32) (hr : r < n) (hz : z ≤ 4) (ez : bl r = nI z) (hi : i < z) (hp : post (body (r * 4 + i))) : wpY_ruleBody post (nI A, mr, nI n, c, fact, K, H, bl, body, sup, reach, tags, nxt) (nI r) (nI i) := by
  unfold wpY_ruleBody
  have e : (nI r).toNatClampNeg = r := nI_clamp (by omega)
  refine dy_validRule A n mr c fact K H bl body sup reach tags nxt _ (nI r) hn (df_br (fun h => absurd (df_v1 hr) h) (fun _ => br_f (nI_pos (by omega)) ⟨vp_in_nI (by omega) (by decide), br_t (by rw [e, ez]; exact nI_lt hi (by omega)) ⟨pk_in (r * 4 + i) 128 (by omega) (df_ix4 r i), ?_⟩⟩))
  rw [df_ix4, nI_clamp (by omega)]
  exact hp
theorem dy_ruleBody0 (post : Int32 → Prop) (x y : Int32) (hn : n ≤ 32) (hno : ∀ r, r < n → x = nI r → ¬ y < 0 → ¬ y < bl r) (hp : post (-1)) : wpY_ruleBody post (nI A, mr, nI n, c, fact, K, H, bl, body, sup, reach, tags, nxt) x y := by
  unfold wpY_ruleBody
  refine dy_validRule A n mr c fact K H bl body sup reach tags nxt _ x hn (df_br (fun _ => hp) (fun h => ?_))
  obtain ⟨r, hr, rfl⟩ := h
  refine br_c (fun _ => hp) (fun h => ⟨vp_in_nI (by omega) (by decide), br_f ?_ hp⟩)
  rw [nI_clamp (n := r) (by omega)]
  exact hno r hr rfl h
theorem df_v4_le {x : Int32} (h : ¬ x < 0) (h2 : x ≤ 3) : df_v 4 x := by
  obtain ⟨j, hj, rfl⟩ := nI_of h
  refine ⟨j, ?_, rfl⟩
  have t : nI j ≤ nI 3 := h2
  rw [nI_leI hj (by omega)] at t
  omega
theorem df_v4_nle {x : Int32} (h2 : ¬ x ≤ 3) : ¬ df_v 4 x := by
  rintro ⟨j, hj, rfl⟩
  exact h2 (nI_le (a := j) (b := 3) (by omega) (by omega))
theorem dy_hasTag (S : Nat → Prop) (hT : ¬ c = 0 → df_hT S tags) (post : Int32 → Prop) (x y : Int32) (hA : A ≤ 32) (hp : post (df_b (¬ c = 0 ∧ ∃ j t, j < 2 * A ∧ t < 4 ∧ x = nI j ∧ y = nI t ∧ S (t * 64 + j)))) : wpY_hasTag post (nI A, mr, nI n, c, fact, K, H, bl, body, sup, reach, tags, nxt) x y := by
  unfold wpY_hasTag
  refine br_c (fun h => df_p0 (fun z => z.1 h) hp) (fun hc => dy_validLit A n mr c fact K H bl body sup reach tags nxt _ x hA (df_br (fun h => df_p0 (fun ⟨_, j, t, hj, _, e, _⟩ => h ⟨j, hj, e⟩) hp) (fun h => ?_)))
  obtain ⟨j, hj, rfl⟩ := h
  refine br_c (fun h => df_p0 (fun ⟨_, j, t, _, ht, _, e, _⟩ => df_v_neg (m := 4) (by omega) h ⟨t, ht, e⟩) hp) (fun h => br_c (fun h3 => ?_) (fun h3 => df_p0 (fun ⟨_, j, t, _, ht, _, e, _⟩ => df_v4_nle h3 ⟨t, ht, e⟩) hp))
  obtain ⟨t, ht, rfl⟩ := df_v4_le h h3
  have ev : tags (nI t * 64 + nI j).toNatClampNeg = df_b (S (t * 64 + j)) := by rw [df_ix64, nI_clamp (by omega), hT hc _ (by omega)]
  refine ⟨pk_in (t * 64 + j) 256 (by omega) (df_ix64 t j), by rw [ev]; exact df_nb _, ?_⟩
  have e : S (t * 64 + j) ↔ (¬ c = 0 ∧ ∃ j' t', j' < 2 * A ∧ t' < 4 ∧ nI j = nI j' ∧ nI t = nI t' ∧ S (t' * 64 + j')) := by
    refine ⟨fun z => ⟨hc, j, t, hj, ht, rfl, rfl, z⟩, ?_⟩
    rintro ⟨_, j', t', hj', ht', e1, e2, w⟩
    rw [nI_eq (by omega) (by omega)] at e1 e2
    subst e1 e2
    exact w
  rw [ev, df_bc e]
  exact hp
theorem dy_countTagA (S : Nat → Prop) (hT : ¬ c = 0 → df_hT S tags) (post : Int32 → Prop) (x : Int32) (hA : A ≤ 32) (h2 : c = 0 → post (-2)) (h1 : ¬ c = 0 → ¬ df_v 4 x → post (-1)) (h0 : ¬ c = 0 → ∀ t, t < 4 → x = nI t → post (nI (df_c (fun q => S (t * 64 + q)) (2 * A)))) : wpY_countTag post (nI A, mr, nI n, c, fact, K, H, bl, body, sup, reach, tags, nxt) x := by
  refine br_c h2 (fun hc => br_c (fun h => h1 hc (df_v_neg (m := 4) (by omega) h)) (fun h => br_c (fun h3 => ?_) (fun h3 => h1 hc (df_v4_nle h3))))
  obtain ⟨t, ht, rfl⟩ := df_v4_le h h3
  exact dy_count A n mr c fact K H bl body sup reach tags nxt S (hT hc) post hA ht (h0 hc t ht rfl)
theorem dy_win60 (B : Nat → Nat → Prop) (S : Nat → Prop) (hB : df_hB n B bl body) (hT : df_hT S tags) (post : Int32 → Prop) {q : Nat} (hn : n ≤ 32)
    (hy : ∀ r, r < n → df_fD K H B S q r → (∀ s, s < r → ¬ df_fD K H B S q s) → post (nI r)) (ho : (∀ r, r < n → ¬ df_fD K H B S q r) → post (-1)) : ∃ m, wY_winner_60 post (nI q) (nI A) mr (nI n) c fact K H bl body sup reach tags nxt m 0 :=
  df_scan (fun m i => wY_winner_60 post (nI q) (nI A) mr (nI n) c fact K H bl body sup reach tags nxt m (nI i)) (df_fD K H B S q) n
    (fun h m => br_t (nI_le (Nat.le_refl n) (by omega)) (ho h))
    (fun m i hi h k => br_f (nI_ge hi (by omega)) ⟨vp_in_nI (by omega) (by decide), df_if (d := K i = 0) (by rw [nI_clamp (n := i) (by omega)])
      (fun a => ⟨vp_in_nI (by omega) (by decide), df_if (d := H i = nI q) (by rw [nI_clamp (n := i) (by omega)])
        (fun b => dy_allIn A n mr c fact K H bl body sup reach tags nxt B S hB hT _ (r := i) (t := 0) hn hi (by omega) (df_br (fun d => nm_r (nI_1 i) (k (fun z => d z.2))) (fun d => hy i hi ⟨⟨b, a⟩, d⟩ h)))
        (fun b => nm_r (nI_1 i) (k (fun z => b z.1.1)))⟩)
      (fun a => nm_r (nI_1 i) (k (fun z => a z.1.2)))⟩)
theorem dy_win108 (B : Nat → Nat → Prop) (S : Nat → Prop) (hB : df_hB n B bl body) (hT : df_hT S tags) (post : Int32 → Prop) {q : Nat} (hn : n ≤ 32)
    (hy : ∀ r, r < n → df_fd K H B S q r → (∀ s, s < r → ¬ df_fd K H B S q s) → post (nI r)) (ho : (∀ r, r < n → ¬ df_fd K H B S q r) → post (-1)) : ∃ m, wY_winner_108 post (nI q) (nI A) mr (nI n) c fact K H bl body sup reach tags nxt m 0 :=
  df_scan (fun m i => wY_winner_108 post (nI q) (nI A) mr (nI n) c fact K H bl body sup reach tags nxt m (nI i)) (df_fd K H B S q) n
    (fun h m => br_t (nI_le (Nat.le_refl n) (by omega)) (ho h))
    (fun m i hi h k => br_f (nI_ge hi (by omega)) (dy_supports A n mr c fact K H bl body sup reach tags nxt _ (r := i) (by omega) (df_br (fun a => nm_r (nI_1 i) (k (fun z => a z.1)))
      (fun a => dy_allIn A n mr c fact K H bl body sup reach tags nxt B S hB hT _ (r := i) (t := 2) hn hi (by omega) (df_br (fun d => nm_r (nI_1 i) (k (fun z => d z.2))) (fun d => hy i hi ⟨a, d⟩ h))))))
theorem dy_winner (F : Nat → Prop) (B : Nat → Nat → Prop) (S : Nat → Prop) (hF : df_hF F fact) (hB : df_hB n B bl body) (hT : ¬ c = 0 → df_hT S tags) (post : Int32 → Prop) (x : Int32) (hA : A ≤ 32) (hn : n ≤ 32) (h2 : c = 0 → post (-2))
    (h1 : ¬ c = 0 → (∀ j, j < 2 * A → x = nI j → ¬ S (128 + j)) → post (-1))
    (h3 : ∀ j, ¬ c = 0 → j < 2 * A → x = nI j → S (128 + j) → F j → post (-3))
    (hD : ∀ j, ¬ c = 0 → j < 2 * A → x = nI j → S (128 + j) → ¬ F j → S j → ((∀ r, r < n → df_fD K H B S j r → (∀ s, s < r → ¬ df_fD K H B S j s) → post (nI r)) ∧ ((∀ r, r < n → ¬ df_fD K H B S j r) → post (-1))))
    (hd : ∀ j, ¬ c = 0 → j < 2 * A → x = nI j → S (128 + j) → ¬ F j → ¬ S j → ((∀ r, r < n → df_fd K H B S j r → (∀ s, s < r → ¬ df_fd K H B S j s) → post (nI r)) ∧ ((∀ r, r < n → ¬ df_fd K H B S j r) → post (-1)))) :
    wpY_winner post (nI A, mr, nI n, c, fact, K, H, bl, body, sup, reach, tags, nxt) x := by
  unfold wpY_winner
  refine br_c h2 (fun hc => dy_validLit A n mr c fact K H bl body sup reach tags nxt _ x hA (df_br (fun h => h1 hc (fun j hj e => absurd ⟨j, hj, e⟩ h)) (fun h => ?_)))
  obtain ⟨j, hj, rfl⟩ := h
  have j64 : j < 64 := by omega
  have tj := hT hc
  refine ⟨pk_in (128 + j) 256 (by omega) (df_e128 j), df_if (d := ¬ S (128 + j)) (by rw [df_e128, nI_clamp (by omega), tj _ (by omega)]; exact df_bz) (fun h => h1 hc (fun i hi e => ?_)) (fun s2 => ?_)⟩
  · rw [nI_eq (by omega) (by omega)] at e
    subst e
    exact h
  have s2 := Classical.not_not.mp s2
  refine ⟨vp_in_nI j64 (by decide), df_if (d := ¬ F j) (by rw [nI_clamp (n := j) (by omega), hF j j64]; exact df_bz) (fun hf => ?_) (fun hf => h3 j hc hj rfl s2 (Classical.not_not.mp hf))⟩
  refine ⟨pk_in j 256 (by omega) (df_e0 _), df_if (d := ¬ S j) (by rw [df_e0, nI_clamp (n := j) (by omega), tj j (by omega)]; exact df_bz) (fun s0 => ?_) (fun s0 => ?_)⟩
  · obtain ⟨y, o⟩ := hd j hc hj rfl s2 hf s0
    exact dy_win108 A n mr c fact K H bl body sup reach tags nxt B S hB tj post hn y o
  · obtain ⟨y, o⟩ := hD j hc hj rfl s2 hf (Classical.not_not.mp s0)
    exact dy_win60 A n mr c fact K H bl body sup reach tags nxt B S hB tj post hn y o
end
end
section
def df_ok (A n m : Nat) (fa : Int64) (c : Int32) (p0 p1 p2 p3 : Int64) (bs body : Nat → Int32) (bS : Nat → Int64) (wS fact ln sup tags : Nat → Int32) : Prop :=
  A ≤ 32 ∧ m ≤ 32 ∧ n ≤ m ∧ df_hF (df_l fa) fact ∧ df_hB n (df_B bS) ln body ∧ (∀ r, r < n → bs r = ln r) ∧ df_hR n (df_R wS) sup ∧ (∀ r s, r < n → df_R wS r s → s < n) ∧
    (¬ c = 0 → df_hT (df_S p0 p1 p2 p3) tags ∧ ∀ i, df_S p0 p1 p2 p3 i → i % 64 < 2 * A)
theorem df_uB {bS : Nat → Int64} {r r' : Nat} {x : Int64} (h : ¬ r' = r) (q : Nat) : df_B (vp_updL bS r x) r' q ↔ df_B bS r' q := by
  unfold df_B
  rw [pk_uLn h]
theorem df_uBs {bS : Nat → Int64} {r : Nat} {x : Int64} (q : Nat) : df_B (vp_updL bS r x) r q ↔ df_l x q := by
  unfold df_B
  rw [pk_uLs]
theorem df_uR {wS : Nat → Int32} {r r' : Nat} {x : Int32} (h : ¬ r' = r) (q : Nat) : df_R (upd wS r x) r' q ↔ df_R wS r' q := by
  unfold df_R
  rw [pk_un h]
theorem df_uRs {wS : Nat → Int32} {r : Nat} {x : Int32} (q : Nat) : df_R (upd wS r x) r q ↔ df_w x q := by
  unfold df_R
  rw [pk_us]
section
variable (A n m : Nat) (fa : Int64) (c : Int32) (p0 p1 p2 p3 : Int64) (bs body : Nat → Int32) (bS : Nat → Int64) (wS fact ln sup tags : Nat → Int32)
theorem df_ok_0 (hA : A ≤ 32) (hm : m ≤ 32) (h1 : ∀ j, j < 64 → fact j = 0) (h2 : ∀ j, j < 1024 → sup j = 0) : df_ok A 0 m 0 0 p0 p1 p2 p3 bs body bS wS fact ln sup tags :=
  ⟨hA, hm, Nat.zero_le m, fun i hi => (h1 i hi).trans (df_b0 (df_l_0 i)).symm, fun r hr => absurd hr (Nat.not_lt_zero r), fun r hr => absurd hr (Nat.not_lt_zero r),
    fun r s hr hs => (h2 _ (by omega)).trans (df_b0 (fun z => absurd z.1 (Nat.not_lt_zero r))).symm, fun r s hr => absurd hr (Nat.not_lt_zero r), fun z => absurd rfl z⟩
theorem df_ok_fact (h : df_ok A n m fa c p0 p1 p2 p3 bs body bS wS fact ln sup tags) {j : Nat} (hj : j < 64) : df_ok A n m (fa ||| ((1 : Int64) <<< ((nI j).toInt64 &&& 63))) 0 p0 p1 p2 p3 bs body bS wS (upd fact j 1) ln sup tags := by
  obtain ⟨a1, a2, a3, hF, hB, hL, hR, hRn, hS⟩ := h
  refine ⟨a1, a2, a3, fun i hi => ?_, hB, hL, hR, hRn, fun z => absurd rfl z⟩
  rcases Classical.em (i = j) with e | e
  · rw [e, pk_us]
    exact (df_b1 ((df_l_put fa hj j).mpr (Or.inl rfl))).symm
  · rw [pk_un e, hF i hi]
    exact df_bc ⟨fun z => (df_l_put fa hj i).mpr (Or.inr z), fun z => ((df_l_put fa hj i).mp z).resolve_left e⟩
theorem df_ok_rule (h : df_ok A n m fa c p0 p1 p2 p3 bs body bS wS fact ln sup tags) (hn : n < m) : df_ok A (n + 1) m fa 0 p0 p1 p2 p3 (upd bs n 0) body (vp_updL bS n 0) (upd wS n 0) fact (upd ln n 0) sup tags := by
  obtain ⟨a1, a2, a3, hF, hB, hL, hR, hRn, hS⟩ := h
  refine ⟨a1, a2, by omega, hF, fun r hr => ?_, fun r hr => ?_, fun r s hr hs => ?_, fun r s hr z => ?_, fun z => absurd rfl z⟩
  · rcases Classical.em (r = n) with e | e
    · subst e
      exact ⟨0, by omega, pk_us, fun i hi => absurd hi (Nat.not_lt_zero i), fun q z => absurd ((df_uBs q).mp z) (df_l_0 q)⟩
    · obtain ⟨z, hz, ez, h1, h2⟩ := hB r (by omega)
      refine ⟨z, hz, (pk_un e).trans ez, fun i hi => ?_, fun q w => h2 q ((df_uB e q).mp w)⟩
      obtain ⟨l, hl, el, hb⟩ := h1 i hi
      exact ⟨l, hl, el, (df_uB e l).mpr hb⟩
  · rcases Classical.em (r = n) with e | e
    · subst e
      exact pk_us.trans pk_us.symm
    · exact (pk_un e).trans ((hL r (by omega)).trans (pk_un e).symm)
  · rw [hR r s hr hs]
    rcases Classical.em (r = n) with e | e
    · subst e
      exact df_bc ⟨fun z => absurd z.1 (Nat.lt_irrefl r), fun z => absurd ((df_uRs s).mp z.2) (df_w_0 s)⟩
    · exact df_bc ⟨fun z => ⟨by omega, (df_uR e s).mpr z.2⟩, fun z => ⟨by omega, (df_uR e s).mp z.2⟩⟩
  · rcases Classical.em (r = n) with e | e
    · subst e
      exact absurd ((df_uRs s).mp z) (df_w_0 s)
    · have t := hRn r s (by omega) ((df_uR e s).mp z)
      omega
theorem df_ok_body (h : df_ok A n m fa c p0 p1 p2 p3 bs body bS wS fact ln sup tags) {r q z : Nat} (hr : r < n) (hq : q < 64) (hz : z < 4) (ez : ln r = nI z) :
    df_ok A n m fa 0 p0 p1 p2 p3 (upd bs r (nI (z + 1))) (upd body (r * 4 + z) (nI q)) (vp_updL bS r (bS r ||| ((1 : Int64) <<< ((nI q).toInt64 &&& 63)))) wS fact (upd ln r (nI (z + 1))) sup tags := by
  obtain ⟨a1, a2, a3, hF, hB, hL, hR, hRn, hS⟩ := h
  refine ⟨a1, a2, a3, hF, fun r' hr' => ?_, fun r' hr' => ?_, hR, hRn, fun w => absurd rfl w⟩
  · rcases Classical.em (r' = r) with e | e
    · subst e
      obtain ⟨z', hz', ez', h1, h2⟩ := hB r' hr'
      have zz : z = z' := by
        rw [ez, nI_eq (by omega) (by omega)] at ez'
        exact ez'
      subst zz
      refine ⟨z + 1, by omega, pk_us, fun i hi => ?_, fun q' w => ?_⟩
      · rcases Nat.lt_or_ge i z with l | l
        · obtain ⟨t, ht, et, hb⟩ := h1 i l
          exact ⟨t, ht, (pk_un (by omega)).trans et, (df_uBs t).mpr ((df_l_put _ hq t).mpr (Or.inr hb))⟩
        · have e : i = z := by omega
          subst e
          exact ⟨q, hq, pk_us, (df_uBs q).mpr ((df_l_put _ hq q).mpr (Or.inl rfl))⟩
      · rcases (df_l_put _ hq q').mp ((df_uBs q').mp w) with e | e
        · subst e
          exact ⟨hq, z, by omega, pk_us⟩
        · obtain ⟨l, i, hi, ei⟩ := h2 q' e
          exact ⟨l, i, by omega, (pk_un (by omega)).trans ei⟩
    · obtain ⟨z', hz', ez', h1, h2⟩ := hB r' hr'
      refine ⟨z', hz', (pk_un e).trans ez', fun i hi => ?_, fun q' w => ?_⟩
      · obtain ⟨l, hl, el, hb⟩ := h1 i hi
        exact ⟨l, hl, (pk_un (by omega)).trans el, (df_uB e l).mpr hb⟩
      · obtain ⟨l, i, hi, ei⟩ := h2 q' ((df_uB e q').mp w)
        exact ⟨l, i, hi, (pk_un (by omega)).trans ei⟩
  · rcases Classical.em (r' = r) with e | e
    · subst e
      exact pk_us.trans pk_us.symm
    · exact (pk_un e).trans ((hL r' hr').trans (pk_un e).symm)
theorem df_ok_pair (h : df_ok A n m fa c p0 p1 p2 p3 bs body bS wS fact ln sup tags) {a b : Nat} (ha : a < n) (hb : b < n) :
    df_ok A n m fa 0 p0 p1 p2 p3 bs body bS (upd wS a (wS a ||| ((1 : Int32) <<< (nI b &&& 31)))) fact ln (upd sup (a * 32 + b) 1) tags := by
  obtain ⟨a1, a2, a3, hF, hB, hL, hR, hRn, hS⟩ := h
  have b32 : b < 32 := by omega
  refine ⟨a1, a2, a3, hF, hB, hL, fun r s hr hs => ?_, fun r s hr z => ?_, fun w => absurd rfl w⟩
  · rcases Classical.em (r * 32 + s = a * 32 + b) with e | e
    · have e1 : r = a := by omega
      have e2 : s = b := by omega
      subst e1 e2
      rw [pk_us]
      exact (df_b1 ⟨ha, (df_uRs s).mpr ((df_w_put _ b32 s).mpr (Or.inl rfl))⟩).symm
    · rw [pk_un e, hR r s hr hs]
      rcases Classical.em (r = a) with g | g
      · subst g
        exact df_bc ⟨fun z => ⟨z.1, (df_uRs s).mpr ((df_w_put _ b32 s).mpr (Or.inr z.2))⟩, fun z => ⟨z.1, ((df_w_put _ b32 s).mp ((df_uRs s).mp z.2)).resolve_left (fun w => e (by rw [w]))⟩⟩
      · exact df_bc ⟨fun z => ⟨z.1, (df_uR g s).mpr z.2⟩, fun z => ⟨z.1, (df_uR g s).mp z.2⟩⟩
  · rcases Classical.em (r = a) with g | g
    · subst g
      rcases (df_w_put _ b32 s).mp ((df_uRs s).mp z) with e | e
      · omega
      · exact hRn r s hr e
    · exact hRn r s hr ((df_uR g s).mp z)
end
-- the count of a tag, over all 64 bits and over the valid literals
theorem df_cnt_eq {p0 p1 p2 p3 : Int64} {M : Nat} {S : Nat → Prop} (hM : M ≤ 64) (hS : df_S p0 p1 p2 p3 = S) (hl : ∀ i, df_S p0 p1 p2 p3 i → i % 64 < M) {t : Nat} (ht : t < 4) :
    df_c (fun q => S (t * 64 + q)) M = df_c (df_l (df_pk p0 p1 p2 p3 t)) 64 := by
  subst hS
  have e : ∀ q, q < 64 → (df_S p0 p1 p2 p3 (t * 64 + q) ↔ df_l (df_pk p0 p1 p2 p3 t) q) := fun q hq => df_S_at p0 p1 p2 p3 t q ht hq
  have hc : ∀ q, df_l (df_pk p0 p1 p2 p3 t) q → q < M := fun q z => by
    have l := df_l_lt z
    have w := hl _ ((e q l).mpr z)
    omega
  rw [df_c_cut hM hc]
  have key : ∀ k, k ≤ 64 → df_c (fun q => df_S p0 p1 p2 p3 (t * 64 + q)) k = df_c (df_l (df_pk p0 p1 p2 p3 t)) k := by
    intro k
    induction k with
    | zero => exact fun _ => rfl
    | succ k ih =>
      intro hk
      have i1 := ih (by omega)
      rcases Classical.em (df_l (df_pk p0 p1 p2 p3 t) k) with z | z
      · have z' : (fun q => df_S p0 p1 p2 p3 (t * 64 + q)) k := (e k (by omega)).mpr z
        rw [df_c1 (p := fun q => df_S p0 p1 p2 p3 (t * 64 + q)) (k := k) z', df_c1 z, i1]
      · have z' : ¬ (fun q => df_S p0 p1 p2 p3 (t * 64 + q)) k := fun w => z ((e k (by omega)).mp w)
        rw [df_c0 (p := fun q => df_S p0 p1 p2 p3 (t * 64 + q)) (k := k) z', df_c0 z, i1]
  exact key M hM
theorem df_1st {C : Nat → Prop} {r s : Nat} (h1 : C r) (h2 : ∀ i, i < r → ¬ C i) (h3 : C s) (h4 : ∀ i, i < s → ¬ C i) : r = s := by
  rcases Nat.lt_trichotomy r s with l | l | l
  · exact absurd h1 (h4 r l)
  · exact l
  · exact absurd h3 (h2 s l)
end
section
def i_Rel (k : Nat) (u : SX) (v : SY) : Prop :=
  ∃ (A n m : Nat) (fa : Int64) (c : Int32) (p0 p1 p2 p3 : Int64) (K H bs body : Nat → Int32) (bS : Nat → Int64) (wS fact ln sup reach tags nxt : Nat → Int32),
    u = (nI (2 * A), nI m, fa, nI n, c, p0, p1, p2, p3, K, H, bs, body, bS, wS) ∧ v = (nI A, nI m, nI n, c, fact, K, H, ln, body, sup, reach, tags, nxt) ∧ df_ok A n m fa c p0 p1 p2 p3 bs body bS wS fact ln sup tags
theorem i_up {k : Nat} {u : SX} {v : SY} (h : i_Rel k u v) : i_Rel (k + 3) u v := h
theorem df_mk {k : Nat} (A n m : Nat) (fa : Int64) (c : Int32) (p0 p1 p2 p3 : Int64) (K H bs body : Nat → Int32) (bS : Nat → Int64) (wS fact ln sup reach tags nxt : Nat → Int32) (h : df_ok A n m fa c p0 p1 p2 p3 bs body bS wS fact ln sup tags) :
    i_Rel k (nI (2 * A), nI m, fa, nI n, c, p0, p1, p2, p3, K, H, bs, body, bS, wS) (nI A, nI m, nI n, c, fact, K, H, ln, body, sup, reach, tags, nxt) :=
  ⟨A, n, m, fa, c, p0, p1, p2, p3, K, H, bs, body, bS, wS, fact, ln, sup, reach, tags, nxt, rfl, rfl, h⟩
-- the constructors
theorem df_clx (x : Int32) : ∃ a, a ≤ 32 ∧ (∀ post : Int32 → Prop, post (nI a) → wpX_clamp post x 32) ∧ (∀ post : Int32 → Prop, post (nI a) → ((1 ≤ x → (((x ≤ 32 → post x) ∧ (¬ x ≤ 32 → post 32)))) ∧ (¬ 1 ≤ x → post 1))) := by
  by_cases h1 : 1 ≤ x
  · by_cases h2 : x ≤ 32
    · have h0 : ¬ x < 0 := fun z => Int32.lt_irrefl (Int32.lt_of_le_of_lt (Int32.le_trans (by decide : (0 : Int32) ≤ 1) h1) z)
      obtain ⟨j, hj, rfl⟩ := nI_of h0
      have t : nI j ≤ nI 32 := h2
      rw [nI_leI hj (by omega)] at t
      exact ⟨j, t, fun _ hp => br_t h1 (br_t h2 hp), fun _ hp => br_t h1 (br_t h2 hp)⟩
    · exact ⟨32, Nat.le_refl 32, fun _ hp => br_t h1 (br_f h2 hp), fun _ hp => br_t h1 (br_f h2 hp)⟩
  · exact ⟨1, by omega, fun _ hp => br_f h1 hp, fun _ hp => br_f h1 hp⟩
theorem i_vc0 (k0 : Int32) (k1 : Int32) : wpX_init (fun u => wpY_init (fun v => i_Rel 2 u v) k0 k1) k0 k1 := by
  obtain ⟨a, ha, xa, ya⟩ := df_clx k0
  obtain ⟨b, hb, xb, yb⟩ := df_clx k1
  unfold wpX_init
  refine xa _ (nm_r (df_2A a) (xb _ ?_))
  refine ya (fun z => wY_init_102 _ k1 z 0 0 0 0 (fun _ => 0) (fun _ => 0) (fun _ => 0) (fun _ => 0) (fun _ => 0) (fun _ => 0) (fun _ => 0) (fun _ => 0) (fun _ => 0)) ?_
  exact yb (fun z => i_Rel 2 _ (nI a, z, 0, 0, _, _, _, _, _, _, _, _, _)) (df_mk a 0 b 0 0 0 0 0 0 _ _ _ _ _ _ _ _ _ _ _ _ (df_ok_0 a b 0 0 0 0 _ _ _ _ _ _ _ _ ha hb (fun _ _ => rfl) (fun _ _ => rfl)))
theorem i_vc_reset {k : Nat} {u : SX} {v : SY} (I : i_Rel k u v) (hk : k + 3 ≤ 1538) : wpX_reset (fun u' => wpY_reset (fun v' => i_Rel (k + 3) u' v') v) u := by
  obtain ⟨A, n, m, fa, c, p0, p1, p2, p3, K, H, bs, body, bS, wS, fact, ln, sup, reach, tags, nxt, rfl, rfl, h⟩ := I
  exact dy_reset A n (nI m) c fact K H ln body sup reach tags nxt _ (fun ft sp ln' h1 h2 => df_mk A 0 m 0 0 p0 p1 p2 p3 K H bs body bS wS ft ln' sp reach tags nxt (df_ok_0 A m p0 p1 p2 p3 bs body bS wS ft ln' sp tags h.1 h.2.1 h1 h2))
theorem i_vc_addFact {k : Nat} {u : SX} {v : SY} (I : i_Rel k u v) (hk : k + 3 ≤ 1538) (v1 : Int32) : wpX_addFact (fun r u' => wpY_addFact (fun r' v' => r' = r ∧ i_Rel (k + 3) u' v') v v1) u v1 := by
  obtain ⟨A, n, m, fa, c, p0, p1, p2, p3, K, H, bs, body, bS, wS, fact, ln, sup, reach, tags, nxt, rfl, rfl, h⟩ := I
  have hA := h.1
  have hF := h.2.2.2.1
  rcases Classical.em (∃ j, j < 2 * A ∧ v1 = nI j ∧ ¬ df_l fa j) with ⟨j, hj, rfl, hf⟩ | z
  · exact dx_addFact1 (2 * A) n (nI m) fa c p0 p1 p2 p3 K H bs body bS wS _ (by omega) hj hf (dy_addFact1 A n (nI m) c fact K H ln body sup reach tags nxt (df_l fa) hF _ hA hj hf ⟨rfl, df_mk A n m _ 0 p0 p1 p2 p3 K H bs body bS wS _ ln sup reach tags nxt (df_ok_fact A n m fa c p0 p1 p2 p3 bs body bS wS fact ln sup tags h (by omega))⟩)
  · have z' : ∀ j, j < 2 * A → v1 = nI j → df_l fa j := fun j hj e => Classical.byContradiction (fun w => z ⟨j, hj, e, w⟩)
    exact dx_addFact0 (2 * A) n (nI m) fa c p0 p1 p2 p3 K H bs body bS wS _ v1 (by omega) z' (dy_addFact0 A n (nI m) c fact K H ln body sup reach tags nxt (df_l fa) hF _ v1 hA z' ⟨rfl, df_mk A n m fa c p0 p1 p2 p3 K H bs body bS wS fact ln sup reach tags nxt h⟩)
theorem i_vc_isFact {k : Nat} {u : SX} {v : SY} (I : i_Rel k u v) (hk : k + 3 ≤ 1538) (v1 : Int32) : wpX_isFact (fun r => wpY_isFact (fun r' => r' = r ∧ i_Rel (k + 3) u v) v v1) u v1 := by
  obtain ⟨A, n, m, fa, c, p0, p1, p2, p3, K, H, bs, body, bS, wS, fact, ln, sup, reach, tags, nxt, rfl, rfl, h⟩ := I
  have hA := h.1
  exact dx_isFact (2 * A) n (nI m) fa c p0 p1 p2 p3 K H bs body bS wS _ v1 (by omega) (dy_isFact A n (nI m) c fact K H ln body sup reach tags nxt (df_l fa) h.2.2.2.1 _ v1 hA ⟨rfl, df_mk A n m fa c p0 p1 p2 p3 K H bs body bS wS fact ln sup reach tags nxt h⟩)
theorem i_vc_newRule {k : Nat} {u : SX} {v : SY} (I : i_Rel k u v) (hk : k + 3 ≤ 1538) (v1 : Int32) (v2 : Int32) : wpX_newRule (fun r u' => wpY_newRule (fun r' v' => r' = r ∧ i_Rel (k + 3) u' v') v v1 v2) u v1 v2 := by
  obtain ⟨A, n, m, fa, c, p0, p1, p2, p3, K, H, bs, body, bS, wS, fact, ln, sup, reach, tags, nxt, rfl, rfl, h⟩ := I
  have hA := h.1
  have hm := h.2.1
  have hn := h.2.2.1
  rcases Classical.em ((v1 = 0 ∨ v1 = 1 ∨ v1 = 2) ∧ df_v (2 * A) v2 ∧ n < m) with ⟨hk, ⟨q, hq, rfl⟩, hl⟩ | z
  · exact dx_newRule1 (2 * A) n (nI m) fa c p0 p1 p2 p3 K H bs body bS wS _ v1 (by omega) (by omega) hk hq (nI_lt hl (by omega)) (dy_newRule1 A n (nI m) c fact K H ln body sup reach tags nxt _ v1 hA (by omega) hk hq (fun e => by rw [nI_eq (by omega) (by omega)] at e; omega)
      ⟨rfl, df_mk A (n + 1) m fa 0 p0 p1 p2 p3 _ _ _ body _ _ fact _ sup reach tags nxt (df_ok_rule A n m fa c p0 p1 p2 p3 bs body bS wS fact ln sup tags h hl)⟩)
  · refine dx_newRule0 (2 * A) n (nI m) fa c p0 p1 p2 p3 K H bs body bS wS _ v1 v2 (by omega) (fun w => z ⟨w.1, w.2.1, ?_⟩) (dy_newRule0 A n (nI m) c fact K H ln body sup reach tags nxt _ v1 v2 hA (fun w => z ⟨w.1, w.2.1, ?_⟩) ⟨rfl, df_mk A n m fa c p0 p1 p2 p3 K H bs body bS wS fact ln sup reach tags nxt h⟩)
    · have t := w.2.2
      rw [nI_ltI (by omega) (by omega)] at t
      exact t
    · have t := w.2.2
      rw [nI_eq (by omega) (by omega)] at t
      omega
theorem i_vc_addBody {k : Nat} {u : SX} {v : SY} (I : i_Rel k u v) (hk : k + 3 ≤ 1538) (v1 : Int32) (v2 : Int32) : wpX_addBody (fun r u' => wpY_addBody (fun r' v' => r' = r ∧ i_Rel (k + 3) u' v') v v1 v2) u v1 v2 := by
  obtain ⟨A, n, m, fa, c, p0, p1, p2, p3, K, H, bs, body, bS, wS, fact, ln, sup, reach, tags, nxt, rfl, rfl, h⟩ := I
  have hA := h.1
  have hm := h.2.1
  have hn := h.2.2.1
  have hB := h.2.2.2.2.1
  have hL := h.2.2.2.2.2.1
  rcases Classical.em (∃ r q z, r < n ∧ q < 2 * A ∧ z < 4 ∧ v1 = nI r ∧ v2 = nI q ∧ ln r = nI z ∧ ¬ df_B bS r q) with ⟨r, q, z, hr, hq, hz, rfl, rfl, ez, hb⟩ | w
  · exact dx_addBody1 (2 * A) n (nI m) fa c p0 p1 p2 p3 K H bs body bS wS _ (by omega) (by omega) hr hq hz ((hL r hr).trans ez) hb (dy_addBody1 A n (nI m) c fact K H ln body sup reach tags nxt (df_B bS) hB _ hA (by omega) hr hq hz ez hb
      ⟨rfl, df_mk A n m fa 0 p0 p1 p2 p3 K H _ _ _ wS fact _ sup reach tags nxt (df_ok_body A n m fa c p0 p1 p2 p3 bs body bS wS fact ln sup tags h hr (by omega) hz ez)⟩)
  · have no : ∀ r q, r < n → q < 2 * A → v1 = nI r → v2 = nI q → ln r = nI 4 ∨ df_B bS r q := by
      intro r q hr hq e1 e2
      obtain ⟨z, hz, ez, _⟩ := hB r hr
      rcases Nat.lt_or_ge z 4 with l | l
      · exact Or.inr (Classical.byContradiction (fun y => w ⟨r, q, z, hr, hq, l, e1, e2, ez, y⟩))
      · exact Or.inl (by rw [ez, show z = 4 by omega])
    exact dx_addBody0 (2 * A) n (nI m) fa c p0 p1 p2 p3 K H bs body bS wS _ v1 v2 (by omega) (by omega) (fun r hr => by obtain ⟨z, hz, ez, _⟩ := hB r hr; exact ⟨z, hz, (hL r hr).trans ez⟩) (fun r q hr hq e1 e2 => by rw [hL r hr]; exact no r q hr hq e1 e2)
      (dy_addBody0 A n (nI m) c fact K H ln body sup reach tags nxt (df_B bS) hB _ v1 v2 hA (by omega) no ⟨rfl, df_mk A n m fa c p0 p1 p2 p3 K H bs body bS wS fact ln sup reach tags nxt h⟩)
theorem i_vc_addSuperior {k : Nat} {u : SX} {v : SY} (I : i_Rel k u v) (hk : k + 3 ≤ 1538) (v1 : Int32) (v2 : Int32) : wpX_addSuperior (fun r u' => wpY_addSuperior (fun r' v' => r' = r ∧ i_Rel (k + 3) u' v') v v1 v2) u v1 v2 := by
  obtain ⟨A, n, m, fa, c, p0, p1, p2, p3, K, H, bs, body, bS, wS, fact, ln, sup, reach, tags, nxt, rfl, rfl, h⟩ := I
  have hm := h.2.1
  have hn := h.2.2.1
  have hR := h.2.2.2.2.2.2.1
  have hRn := h.2.2.2.2.2.2.2.1
  rcases Classical.em (∃ a b, a < n ∧ b < n ∧ v1 = nI a ∧ v2 = nI b ∧ ¬ a = b ∧ ¬ df_R wS a b) with ⟨a, b, ha, hb, rfl, rfl, hab, hnr⟩ | z
  · refine dx_addSuperiorR (2 * A) n (nI m) fa c p0 p1 p2 p3 K H bs body bS wS _ (by omega) ha hb hab hnr (fun y => ?_) (fun y => ?_)
    · exact dy_addSuperiorR A n (nI m) c fact K H ln body sup reach tags nxt (df_R wS) hR hRn _ (by omega) ha hb hab hnr (fun _ rc => ⟨rfl, df_mk A n m fa 0 p0 p1 p2 p3 K H bs body bS _ fact ln _ rc tags nxt (df_ok_pair A n m fa c p0 p1 p2 p3 bs body bS wS fact ln sup tags h ha hb)⟩) (fun w => absurd w y)
    · exact dy_addSuperiorR A n (nI m) c fact K H ln body sup reach tags nxt (df_R wS) hR hRn _ (by omega) ha hb hab hnr (fun w => absurd y w) (fun _ rc => ⟨rfl, df_mk A n m fa c p0 p1 p2 p3 K H bs body bS wS fact ln sup rc tags nxt h⟩)
  · have no : ∀ a b, a < n → b < n → v1 = nI a → v2 = nI b → a = b ∨ df_R wS a b := fun a b ha hb e1 e2 => by
      rcases Classical.em (a = b) with w | w
      · exact Or.inl w
      · exact Or.inr (Classical.byContradiction (fun y => z ⟨a, b, ha, hb, e1, e2, w, y⟩))
    exact dx_addSuperior0 (2 * A) n (nI m) fa c p0 p1 p2 p3 K H bs body bS wS _ v1 v2 (by omega) no (dy_addSuperior0 A n (nI m) c fact K H ln body sup reach tags nxt (df_R wS) hR _ v1 v2 (by omega) no ⟨rfl, df_mk A n m fa c p0 p1 p2 p3 K H bs body bS wS fact ln sup reach tags nxt h⟩)
theorem i_vc_isSuperior {k : Nat} {u : SX} {v : SY} (I : i_Rel k u v) (hk : k + 3 ≤ 1538) (v1 : Int32) (v2 : Int32) : wpX_isSuperior (fun r => wpY_isSuperior (fun r' => r' = r ∧ i_Rel (k + 3) u v) v v1 v2) u v1 v2 := by
  obtain ⟨A, n, m, fa, c, p0, p1, p2, p3, K, H, bs, body, bS, wS, fact, ln, sup, reach, tags, nxt, rfl, rfl, h⟩ := I
  have hm := h.2.1
  have hn := h.2.2.1
  exact dx_isSuperior (2 * A) n (nI m) fa c p0 p1 p2 p3 K H bs body bS wS _ v1 v2 (by omega) (dy_isSuperior A n (nI m) c fact K H ln body sup reach tags nxt (df_R wS) h.2.2.2.2.2.2.1 _ v1 v2 (by omega) ⟨rfl, df_mk A n m fa c p0 p1 p2 p3 K H bs body bS wS fact ln sup reach tags nxt h⟩)
theorem i_vc_ruleCount {k : Nat} {u : SX} {v : SY} (I : i_Rel k u v) (hk : k + 3 ≤ 1538) : wpX_ruleCount (fun r => wpY_ruleCount (fun r' => r' = r ∧ i_Rel (k + 3) u v) v) u := by
  obtain ⟨A, n, m, fa, c, p0, p1, p2, p3, K, H, bs, body, bS, wS, fact, ln, sup, reach, tags, nxt, rfl, rfl, h⟩ := I
  exact ⟨rfl, df_mk A n m fa c p0 p1 p2 p3 K H bs body bS wS fact ln sup reach tags nxt h⟩
theorem i_vc_ruleKind {k : Nat} {u : SX} {v : SY} (I : i_Rel k u v) (hk : k + 3 ≤ 1538) (v1 : Int32) : wpX_ruleKind (fun r => wpY_ruleKind (fun r' => r' = r ∧ i_Rel (k + 3) u v) v v1) u v1 := by
  obtain ⟨A, n, m, fa, c, p0, p1, p2, p3, K, H, bs, body, bS, wS, fact, ln, sup, reach, tags, nxt, rfl, rfl, h⟩ := I
  have hm := h.2.1
  have hn := h.2.2.1
  have g := df_mk (k := k + 3) A n m fa c p0 p1 p2 p3 K H bs body bS wS fact ln sup reach tags nxt h
  exact dx_ruleKind (2 * A) n (nI m) fa c p0 p1 p2 p3 K H bs body bS wS _ v1 (by omega)
    (fun r hr e => dy_ruleKind A n (nI m) c fact K H ln body sup reach tags nxt _ v1 (by omega) (fun r' hr' e' => ⟨by rw [e, nI_eq (by omega) (by omega)] at e'; rw [e'], g⟩) (fun z => absurd ⟨r, hr, e⟩ z))
    (fun z => dy_ruleKind A n (nI m) c fact K H ln body sup reach tags nxt _ v1 (by omega) (fun r hr e => absurd ⟨r, hr, e⟩ z) (fun _ => ⟨rfl, g⟩))
theorem i_vc_ruleHead {k : Nat} {u : SX} {v : SY} (I : i_Rel k u v) (hk : k + 3 ≤ 1538) (v1 : Int32) : wpX_ruleHead (fun r => wpY_ruleHead (fun r' => r' = r ∧ i_Rel (k + 3) u v) v v1) u v1 := by
  obtain ⟨A, n, m, fa, c, p0, p1, p2, p3, K, H, bs, body, bS, wS, fact, ln, sup, reach, tags, nxt, rfl, rfl, h⟩ := I
  have hm := h.2.1
  have hn := h.2.2.1
  have g := df_mk (k := k + 3) A n m fa c p0 p1 p2 p3 K H bs body bS wS fact ln sup reach tags nxt h
  exact dx_ruleHead (2 * A) n (nI m) fa c p0 p1 p2 p3 K H bs body bS wS _ v1 (by omega)
    (fun r hr e => dy_ruleHead A n (nI m) c fact K H ln body sup reach tags nxt _ v1 (by omega) (fun r' hr' e' => ⟨by rw [e, nI_eq (by omega) (by omega)] at e'; rw [e'], g⟩) (fun z => absurd ⟨r, hr, e⟩ z))
    (fun z => dy_ruleHead A n (nI m) c fact K H ln body sup reach tags nxt _ v1 (by omega) (fun r hr e => absurd ⟨r, hr, e⟩ z) (fun _ => ⟨rfl, g⟩))
theorem i_vc_ruleBody {k : Nat} {u : SX} {v : SY} (I : i_Rel k u v) (hk : k + 3 ≤ 1538) (v1 : Int32) (v2 : Int32) : wpX_ruleBody (fun r => wpY_ruleBody (fun r' => r' = r ∧ i_Rel (k + 3) u v) v v1 v2) u v1 v2 := by
  obtain ⟨A, n, m, fa, c, p0, p1, p2, p3, K, H, bs, body, bS, wS, fact, ln, sup, reach, tags, nxt, rfl, rfl, h⟩ := I
  have hm := h.2.1
  have hn := h.2.2.1
  have hB := h.2.2.2.2.1
  have hL := h.2.2.2.2.2.1
  have g := df_mk (k := k + 3) A n m fa c p0 p1 p2 p3 K H bs body bS wS fact ln sup reach tags nxt h
  rcases Classical.em (∃ r i z, r < n ∧ z ≤ 4 ∧ i < z ∧ v1 = nI r ∧ v2 = nI i ∧ ln r = nI z) with ⟨r, i, z, hr, hz, hi, rfl, rfl, ez⟩ | w
  · exact dx_ruleBody1 (2 * A) n (nI m) fa c p0 p1 p2 p3 K H bs body bS wS _ (by omega) hr hz ((hL r hr).trans ez) hi (dy_ruleBody1 A n (nI m) c fact K H ln body sup reach tags nxt _ (by omega) hr hz ez hi ⟨rfl, g⟩)
  · have no : ∀ r, r < n → v1 = nI r → ¬ v2 < 0 → ¬ v2 < ln r := by
      intro r hr e h0 hlt
      obtain ⟨z, hz, ez, _⟩ := hB r hr
      obtain ⟨i, hi, rfl⟩ := nI_of h0
      rw [ez, nI_ltI hi (by omega)] at hlt
      exact w ⟨r, i, z, hr, hz, hlt, e, rfl, ez⟩
    exact dx_ruleBody0 (2 * A) n (nI m) fa c p0 p1 p2 p3 K H bs body bS wS _ v1 v2 (by omega) (fun r hr e h0 => by rw [hL r hr]; exact no r hr e h0) (dy_ruleBody0 A n (nI m) c fact K H ln body sup reach tags nxt _ v1 v2 (by omega) no ⟨rfl, g⟩)
theorem i_vc_compute {k : Nat} {u : SX} {v : SY} (I : i_Rel k u v) (hk : k + 3 ≤ 1538) : wpX_compute (fun r u' => wpY_compute (fun r' v' => r' = r ∧ i_Rel (k + 3) u' v') v) u := by
  obtain ⟨A, n, m, fa, c, p0, p1, p2, p3, K, H, bs, body, bS, wS, fact, ln, sup, reach, tags, nxt, rfl, rfl, h⟩ := I
  obtain ⟨hA, hm, hn, hF, hB, hL, hR, hRn, hS⟩ := h
  refine dx_compute (2 * A) n (nI m) fa c p0 p1 p2 p3 K H bs body bS wS _ (by omega) (by omega) (fun r0 r1 r2 r3 hr => dy_compute A n (nI m) c fact K H ln body sup reach tags nxt (df_l fa) (df_B bS) (df_R wS) hF hB hR _ hA (by omega) (fun tg nx ht => ⟨?_, df_mk A n m fa 1 r0 r1 r2 r3 K H bs body bS wS fact ln sup reach tg nx ⟨hA, hm, hn, hF, hB, hL, hR, hRn, fun _ => ?_⟩⟩))
  · have t := df_cnt_eq (S := df_Fin (2 * A) n (df_l fa) K H (df_B bS) (df_R wS)) (M := 2 * A) (by omega) hr (fun i z => (df_Fin_lt (2 * A) n (df_l fa) K H (df_B bS) (df_R wS) i (hr ▸ z)).2) (t := 2) (by omega)
    rw [t]
    rfl
  · rw [hr]
    exact ⟨ht, fun i z => (df_Fin_lt (2 * A) n (df_l fa) K H (df_B bS) (df_R wS) i z).2⟩
theorem i_vc_hasTag {k : Nat} {u : SX} {v : SY} (I : i_Rel k u v) (hk : k + 3 ≤ 1538) (v1 : Int32) (v2 : Int32) : wpX_hasTag (fun r => wpY_hasTag (fun r' => r' = r ∧ i_Rel (k + 3) u v) v v1 v2) u v1 v2 := by
  obtain ⟨A, n, m, fa, c, p0, p1, p2, p3, K, H, bs, body, bS, wS, fact, ln, sup, reach, tags, nxt, rfl, rfl, h⟩ := I
  have hA := h.1
  have hS := h.2.2.2.2.2.2.2.2
  exact dx_hasTag (2 * A) n (nI m) fa c p0 p1 p2 p3 K H bs body bS wS _ v1 v2 (by omega) (dy_hasTag A n (nI m) c fact K H ln body sup reach tags nxt (df_S p0 p1 p2 p3) (fun z => (hS z).1) _ v1 v2 hA ⟨rfl, df_mk A n m fa c p0 p1 p2 p3 K H bs body bS wS fact ln sup reach tags nxt h⟩)
theorem i_vc_countTag {k : Nat} {u : SX} {v : SY} (I : i_Rel k u v) (hk : k + 3 ≤ 1538) (v1 : Int32) : wpX_countTag (fun r => wpY_countTag (fun r' => r' = r ∧ i_Rel (k + 3) u v) v v1) u v1 := by
  obtain ⟨A, n, m, fa, c, p0, p1, p2, p3, K, H, bs, body, bS, wS, fact, ln, sup, reach, tags, nxt, rfl, rfl, h⟩ := I
  have hA := h.1
  have hS := h.2.2.2.2.2.2.2.2
  have g := df_mk (k := k + 3) A n m fa c p0 p1 p2 p3 K H bs body bS wS fact ln sup reach tags nxt h
  have hT : ¬ c = 0 → df_hT (df_S p0 p1 p2 p3) tags := fun z => (hS z).1
  refine dx_countTag (2 * A) n (nI m) fa c p0 p1 p2 p3 K H bs body bS wS _ v1
    (fun e => dy_countTagA A n (nI m) c fact K H ln body sup reach tags nxt (df_S p0 p1 p2 p3) hT _ v1 hA (fun _ => ⟨rfl, g⟩) (fun z => absurd e z) (fun z => absurd e z))
    (fun e w => dy_countTagA A n (nI m) c fact K H ln body sup reach tags nxt (df_S p0 p1 p2 p3) hT _ v1 hA (fun z => absurd z e) (fun _ _ => ⟨rfl, g⟩) (fun _ t ht et => absurd ⟨t, ht, et⟩ w))
    (fun e t ht et => dy_countTagA A n (nI m) c fact K H ln body sup reach tags nxt (df_S p0 p1 p2 p3) hT _ v1 hA (fun z => absurd z e) (fun _ w => absurd ⟨t, ht, et⟩ w) (fun _ t' ht' et' => ⟨?_, g⟩))
  rw [et, nI_eq (by omega) (by omega)] at et'
  subst et'
  rw [df_cnt_eq (M := 2 * A) (by omega) rfl (hS e).2 ht]
theorem i_vc_winner {k : Nat} {u : SX} {v : SY} (I : i_Rel k u v) (hk : k + 3 ≤ 1538) (v1 : Int32) : wpX_winner (fun r => wpY_winner (fun r' => r' = r ∧ i_Rel (k + 3) u v) v v1) u v1 := by
  obtain ⟨A, n, m, fa, c, p0, p1, p2, p3, K, H, bs, body, bS, wS, fact, ln, sup, reach, tags, nxt, rfl, rfl, h⟩ := I
  have g := df_mk (k := k + 3) A n m fa c p0 p1 p2 p3 K H bs body bS wS fact ln sup reach tags nxt h
  obtain ⟨hA, hm, hn, hF, hB, hL, hR, hRn, hS⟩ := h
  have hT : ¬ c = 0 → df_hT (df_S p0 p1 p2 p3) tags := fun z => (hS z).1
  have ui : ∀ {i j : Nat}, i < 2 * A → j < 2 * A → v1 = nI i → v1 = nI j → i = j := fun hi hj e1 e2 => by
    rw [e1, nI_eq (by omega) (by omega)] at e2
    exact e2
  have Y := fun post => dy_winner A n (nI m) c fact K H ln body sup reach tags nxt (df_l fa) (df_B bS) (df_S p0 p1 p2 p3) hF hB hT post v1 hA (by omega)
  refine dx_winner (2 * A) n (nI m) fa c p0 p1 p2 p3 K H bs body bS wS _ v1 (by omega) (by omega)
    (fun e => Y _ (fun _ => ⟨rfl, g⟩) (fun z => absurd e z) (fun _ z => absurd e z) (fun _ z => absurd e z) (fun _ z => absurd e z))
    (fun e w => Y _ (fun z => absurd z e) (fun _ _ => ⟨rfl, g⟩) (fun j _ hj ej s2 => absurd s2 (w j hj ej)) (fun j _ hj ej s2 => absurd s2 (w j hj ej)) (fun j _ hj ej s2 => absurd s2 (w j hj ej)))
    (fun j e hj ej s2 f => Y _ (fun z => absurd z e) (fun _ w => absurd s2 (w j hj ej)) (fun _ _ _ _ _ _ => ⟨rfl, g⟩) (fun i _ hi ei _ nf => absurd (ui hj hi ej ei ▸ f) nf) (fun i _ hi ei _ nf => absurd (ui hj hi ej ei ▸ f) nf))
    (fun j e hj ej s2 nf s0 => ⟨fun r hr cr fr => ?_, fun no => ?_⟩) (fun j e hj ej s2 nf s0 => ⟨fun r hr cr fr => ?_, fun no => ?_⟩)
  · refine Y _ (fun z => absurd z e) (fun _ w => absurd s2 (w j hj ej)) (fun i _ hi ei _ f => absurd f (ui hj hi ej ei ▸ nf)) (fun i _ hi ei _ _ _ => ⟨fun r' hr' cr' fr' => ⟨?_, g⟩, fun no => ?_⟩) (fun i _ hi ei _ _ s => absurd s0 ((ui hj hi ej ei).symm ▸ s))
    · have eij := ui hj hi ej ei
      subst eij
      rw [df_1st cr fr cr' fr']
    · have eij := ui hj hi ej ei
      subst eij
      exact absurd cr (no r hr)
  · refine Y _ (fun z => absurd z e) (fun _ w => absurd s2 (w j hj ej)) (fun i _ hi ei _ f => absurd f (ui hj hi ej ei ▸ nf)) (fun i _ hi ei _ _ _ => ⟨fun r' hr' cr' fr' => ?_, fun _ => ⟨rfl, g⟩⟩) (fun i _ hi ei _ _ s => absurd s0 ((ui hj hi ej ei).symm ▸ s))
    have eij := ui hj hi ej ei
    subst eij
    exact absurd cr' (no r' hr')
  · refine Y _ (fun z => absurd z e) (fun _ w => absurd s2 (w j hj ej)) (fun i _ hi ei _ f => absurd f (ui hj hi ej ei ▸ nf)) (fun i _ hi ei _ _ s => absurd s (ui hj hi ej ei ▸ s0)) (fun i _ hi ei _ _ _ => ⟨fun r' hr' cr' fr' => ⟨?_, g⟩, fun no => ?_⟩)
    · have eij := ui hj hi ej ei
      subst eij
      rw [df_1st cr fr cr' fr']
    · have eij := ui hj hi ej ei
      subst eij
      exact absurd cr (no r hr)
  · refine Y _ (fun z => absurd z e) (fun _ w => absurd s2 (w j hj ej)) (fun i _ hi ei _ f => absurd f (ui hj hi ej ei ▸ nf)) (fun i _ hi ei _ _ s => absurd s (ui hj hi ej ei ▸ s0)) (fun i _ hi ei _ _ _ => ⟨fun r' hr' cr' fr' => ?_, fun _ => ⟨rfl, g⟩⟩)
    have eij := ui hj hi ej ei
    subst eij
    exact absurd cr' (no r' hr')
end
