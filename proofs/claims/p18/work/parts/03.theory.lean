-- a theory as plain functions (F facts, K kinds, H heads, B bodies, R recorded pairs), the four tests, one round
section
variable (M n : Nat) (F : Nat → Prop) (K H : Nat → Int32) (B R : Nat → Nat → Prop)
def df_all (S : Nat → Prop) (t r : Nat) : Prop := ∀ q, B r q → S (t * 64 + q)
def df_som (S : Nat → Prop) (t r : Nat) : Prop := ∃ q, B r q ∧ S (t * 64 + q)
def df_str (r q : Nat) : Prop := H r = nI q ∧ K r = 0
def df_sup (r q : Nat) : Prop := H r = nI q ∧ ¬ K r = 2
-- the rule r proves q
def df_fD (S : Nat → Prop) (q r : Nat) : Prop := df_str K H r q ∧ df_all B S 0 r
def df_fd (S : Nat → Prop) (q r : Nat) : Prop := df_sup K H r q ∧ df_all B S 2 r
def df_pD (S : Nat → Prop) (q : Nat) : Prop := F q ∨ ∃ r, r < n ∧ df_fD K H B S q r
def df_mD (S : Nat → Prop) (q : Nat) : Prop := ¬ F q ∧ ∀ r, r < n → df_str K H r q → df_som B S 1 r
-- an attack s on q is beaten; an attack s on q could be beaten
def df_bea (S : Nat → Prop) (s q : Nat) : Prop := ∃ t, t < n ∧ df_sup K H t q ∧ df_all B S 2 t ∧ R t s
def df_can (S : Nat → Prop) (s q : Nat) : Prop := ∃ t, t < n ∧ df_sup K H t q ∧ ¬ df_som B S 3 t ∧ R t s
def df_eaf (S : Nat → Prop) (q : Nat) : Prop := ∀ s, s < n → H s = nI (q ^^^ 1) → ¬ df_som B S 3 s → df_bea n K H B R S s q
def df_esf (S : Nat → Prop) (q : Nat) : Prop := ∀ r, r < n → df_sup K H r q → df_som B S 3 r
def df_sas (S : Nat → Prop) (q : Nat) : Prop := ∃ s, s < n ∧ H s = nI (q ^^^ 1) ∧ df_all B S 2 s ∧ ¬ df_can n K H B R S s q
def df_pd (S : Nat → Prop) (q : Nat) : Prop := S q ∨ ((∃ r, r < n ∧ df_fd K H B S q r) ∧ S (64 + (q ^^^ 1)) ∧ df_eaf n K H B R S q)
def df_md (S : Nat → Prop) (q : Nat) : Prop := S (64 + q) ∧ (df_esf n K H B S q ∨ S (q ^^^ 1) ∨ df_sas n K H B R S q)
-- the test of tag t; all that a round tests; the round
def df_T (S : Nat → Prop) : Nat → Nat → Prop
  | 0 => df_pD n F K H B S
  | 1 => df_mD n F K H B S
  | 2 => df_pd n K H B R S
  | _ => df_md n K H B R S
def df_ts (S : Nat → Prop) (i : Nat) : Prop := i < 256 ∧ i % 64 < M ∧ df_T n F K H B R S (i / 64) (i % 64)
def df_st (S : Nat → Prop) (i : Nat) : Prop := S i ∨ df_ts M n F K H B R S i
def df_S0 : Nat → Prop := fun _ => False
def df_It (k : Nat) : Nat → Prop := df_it (df_st M n F K H B R) df_S0 k
def df_Fin : Nat → Prop := df_It M n F K H B R 300
theorem df_It_lt (k i : Nat) (h : df_It M n F K H B R k i) : i < 256 ∧ i % 64 < M := by
  induction k with
  | zero => exact h.elim
  | succ k ih =>
    rcases h with h | h
    · exact ih h
    · exact ⟨h.1, h.2.1⟩
theorem df_It_256 (j : Nat) : df_It M n F K H B R (256 + j) = df_It M n F K H B R 256 :=
  df_it_end (N := 256) (fun _ _ z => Or.inl z) (fun k i z => (df_It_lt M n F K H B R k i z).1) 256 (by omega) j
theorem df_It_257 : df_It M n F K H B R 257 = df_Fin M n F K H B R :=
  (df_It_256 M n F K H B R 1).trans (df_It_256 M n F K H B R 44).symm
theorem df_It_fix {m : Nat} (hm : m ≤ 300) (h : df_It M n F K H B R (m + 1) = df_It M n F K H B R m) : df_It M n F K H B R (m + 1) = df_Fin M n F K H B R := by
  have t : df_It M n F K H B R (m + (300 - m)) = df_It M n F K H B R m := df_it_stay h (300 - m)
  rw [show m + (300 - m) = 300 by omega] at t
  exact h.trans t.symm
theorem df_Fin_lt (i : Nat) (h : df_Fin M n F K H B R i) : i < 256 ∧ i % 64 < M := df_It_lt M n F K H B R 300 i h
end
-- the theory where it is equal below the rule count (used where a side's rows beyond it are stale)
-- the chain over recorded pairs: one widening, and its end
def df_wn (n : Nat) (R : Nat → Nat → Prop) (p : Nat → Prop) (s : Nat) : Prop := p s ∨ ∃ r, r < n ∧ p r ∧ R r s
def df_ch (n : Nat) (R : Nat → Nat → Prop) (a k : Nat) : Nat → Prop := df_it (df_wn n R) (fun i => i = a) k
theorem df_ch_lt {n : Nat} {R : Nat → Nat → Prop} {a : Nat} (ha : a < n) (hR : ∀ r s, r < n → R r s → s < n) (k i : Nat) (h : df_ch n R a k i) : i < n := by
  induction k generalizing i with
  | zero =>
    have e : i = a := h
    omega
  | succ k ih =>
    rcases h with h | ⟨r, h1, _, h3⟩
    · exact ih i h
    · exact hR r i h1 h3
theorem df_ch_end {n : Nat} {R : Nat → Nat → Prop} {a : Nat} (ha : a < n) (hR : ∀ r s, r < n → R r s → s < n) (j : Nat) : df_ch n R a (n - 1 + j) = df_ch n R a (n - 1) := by
  have c := df_c_pos (p := fun i => i = a) (j := a) rfl n ha
  exact df_it_end (N := n) (fun _ _ z => Or.inl z) (fun k i z => df_ch_lt ha hR k i z) (n - 1) (by omega) j
-- what the 33 passes of the other side keep between: at least k widenings, at most the end
theorem df_ch_cl {n : Nat} {R : Nat → Nat → Prop} {a : Nat} (ha : a < n) (hR : ∀ r s, r < n → R r s → s < n) {r s : Nat} (hr : r < n) (h : df_ch n R a (n - 1) r) (hs : R r s) : df_ch n R a (n - 1) s := by
  have e := df_ch_end ha hR 1
  rw [← e]
  exact Or.inr ⟨r, hr, h, hs⟩
theorem df_ch_sub {n : Nat} {R : Nat → Nat → Prop} {a : Nat} (ha : a < n) (hR : ∀ r s, r < n → R r s → s < n) (k : Nat) (hk : n ≤ k + 1) : df_ch n R a k = df_ch n R a (n - 1) := by
  have e := df_ch_end ha hR (k - (n - 1))
  rw [show n - 1 + (k - (n - 1)) = k by omega] at e
  exact e
-- four longs as one set of pairs (tag, literal): the pair at 64 * tag + literal
def df_pk (p0 p1 p2 p3 : Int64) : Nat → Int64
  | 0 => p0
  | 1 => p1
  | 2 => p2
  | _ => p3
def df_S (p0 p1 p2 p3 : Int64) (i : Nat) : Prop := i < 256 ∧ df_l (df_pk p0 p1 p2 p3 (i / 64)) (i % 64)
theorem df_S_at (p0 p1 p2 p3 : Int64) (t q : Nat) (ht : t < 4) (hq : q < 64) : df_S p0 p1 p2 p3 (t * 64 + q) ↔ df_l (df_pk p0 p1 p2 p3 t) q := by
  have e1 : (t * 64 + q) / 64 = t := by omega
  have e2 : (t * 64 + q) % 64 = q := by omega
  unfold df_S
  rw [e1, e2]
  exact ⟨fun z => z.2, fun z => ⟨by omega, z⟩⟩
theorem df_S_0 (p0 p1 p2 p3 : Int64) {q : Nat} (hq : q < 64) : df_S p0 p1 p2 p3 q ↔ df_l p0 q := by
  have t := df_S_at p0 p1 p2 p3 0 q (by omega) hq
  rw [show 0 * 64 + q = q by omega] at t
  exact t
theorem df_S_1 (p0 p1 p2 p3 : Int64) {q : Nat} (hq : q < 64) : df_S p0 p1 p2 p3 (64 + q) ↔ df_l p1 q := df_S_at p0 p1 p2 p3 1 q (by omega) hq
theorem df_S_2 (p0 p1 p2 p3 : Int64) {q : Nat} (hq : q < 64) : df_S p0 p1 p2 p3 (128 + q) ↔ df_l p2 q := df_S_at p0 p1 p2 p3 2 q (by omega) hq
theorem df_S_3 (p0 p1 p2 p3 : Int64) {q : Nat} (hq : q < 64) : df_S p0 p1 p2 p3 (192 + q) ↔ df_l p3 q := df_S_at p0 p1 p2 p3 3 q (by omega) hq
theorem df_S_z : df_S 0 0 0 0 = df_S0 := by
  apply df_ext
  intro i
  refine ⟨fun z => ?_, fun z => z.elim⟩
  have e : df_pk 0 0 0 0 (i / 64) = 0 := by
    generalize i / 64 = t
    match t with
    | 0 => rfl
    | 1 => rfl
    | 2 => rfl
    | _ + 3 => rfl
  have t := z.2
  rw [e] at t
  exact df_l_0 _ t
theorem df_S_inj {p0 p1 p2 p3 r0 r1 r2 r3 : Int64} (h : df_S p0 p1 p2 p3 = df_S r0 r1 r2 r3) : p0 = r0 ∧ p1 = r1 ∧ p2 = r2 ∧ p3 = r3 := by
  have key : ∀ t, t < 4 → df_pk p0 p1 p2 p3 t = df_pk r0 r1 r2 r3 t := by
    intro t ht
    apply df_l_ext
    intro i
    constructor
    · intro z
      have l := df_l_lt z
      have a := (df_S_at p0 p1 p2 p3 t i ht l).mpr z
      rw [h] at a
      exact (df_S_at r0 r1 r2 r3 t i ht l).mp a
    · intro z
      have l := df_l_lt z
      have a := (df_S_at r0 r1 r2 r3 t i ht l).mpr z
      rw [← h] at a
      exact (df_S_at p0 p1 p2 p3 t i ht l).mp a
  exact ⟨key 0 (by omega), key 1 (by omega), key 2 (by omega), key 3 (by omega)⟩
-- a round by its four longs
theorem df_S_step {M n : Nat} {F : Nat → Prop} {K H : Nat → Int32} {B R : Nat → Nat → Prop} {S : Nat → Prop} {p0 p1 p2 p3 r0 r1 r2 r3 : Int64} (hM : M ≤ 64) (hS : df_S p0 p1 p2 p3 = S)
    (h0 : ∀ j, df_l r0 j ↔ df_l p0 j ∨ (j < M ∧ df_T n F K H B R S 0 j)) (h1 : ∀ j, df_l r1 j ↔ df_l p1 j ∨ (j < M ∧ df_T n F K H B R S 1 j))
    (h2 : ∀ j, df_l r2 j ↔ df_l p2 j ∨ (j < M ∧ df_T n F K H B R S 2 j)) (h3 : ∀ j, df_l r3 j ↔ df_l p3 j ∨ (j < M ∧ df_T n F K H B R S 3 j)) :
    df_S r0 r1 r2 r3 = df_st M n F K H B R S := by
  have key : ∀ t, t < 4 → ∀ j, df_l (df_pk r0 r1 r2 r3 t) j ↔ df_l (df_pk p0 p1 p2 p3 t) j ∨ (j < M ∧ df_T n F K H B R S t j) := by
    intro t ht
    rcases (show t = 0 ∨ t = 1 ∨ t = 2 ∨ t = 3 by omega) with e | e | e | e
    · subst e; exact h0
    · subst e; exact h1
    · subst e; exact h2
    · subst e; exact h3
  apply df_ext
  intro i
  constructor
  · intro z
    rcases (key (i / 64) (by have := z.1; omega) (i % 64)).mp z.2 with a | a
    · left
      rw [← hS]
      exact ⟨z.1, a⟩
    · right
      exact ⟨z.1, a.1, a.2⟩
  · intro z
    rcases z with z | z
    · rw [← hS] at z
      exact ⟨z.1, (key (i / 64) (by have := z.1; omega) (i % 64)).mpr (Or.inl z.2)⟩
    · exact ⟨z.1, (key (i / 64) (by have := z.1; omega) (i % 64)).mpr (Or.inr ⟨z.2.1, z.2.2⟩)⟩
