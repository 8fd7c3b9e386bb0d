-- the state between two steps of the law, and what it says of the tags
def dp_ok (n : Nat) (fa : Int64) (c : Int32) (p0 p1 p2 p3 : Int64) (K H bs : Nat → Int32) (bS : Nat → Int64) (wS : Nat → Int32) : Prop :=
  n ≤ 12 ∧ (∀ r, r < n → ∃ z, z ≤ 4 ∧ bs r = nI z) ∧ (∀ r s, r < n → df_R wS r s → s < n) ∧ df_ac n (df_R wS) ∧ (¬ c = 0 → df_S p0 p1 p2 p3 = df_Fin 6 n (df_l fa) K H (df_B bS) (df_R wS))
def dp_Q (c : Int32) (S : Nat → Prop) (t : Nat) (x : Int32) : Prop := ¬ c = 0 ∧ ∃ j, j < 6 ∧ x = nI j ∧ S (t * 64 + j)
theorem dp_bl (bS : Nat → Int64) (r q : Nat) (h : df_B bS r q) : q < 64 := df_l_lt h
section
variable (n : Nat) (fa : Int64) (c : Int32) (p0 p1 p2 p3 : Int64) (K H bs : Nat → Int32) (bS : Nat → Int64) (wS : Nat → Int32)
theorem dp_D (h : dp_ok n fa c p0 p1 p2 p3 K H bs bS wS) {x : Int32} (h0 : dp_Q c (df_S p0 p1 p2 p3) 0 x) (h1 : dp_Q c (df_S p0 p1 p2 p3) 1 x) : False := by
  obtain ⟨hc, j, hj, e, s0⟩ := h0
  obtain ⟨_, i, hi, e', s1⟩ := h1
  rw [e, nI_eq (by omega) (by omega)] at e'
  subst e'
  rw [h.2.2.2.2 hc] at s0 s1
  exact df_cohD 6 n (df_l fa) K H (df_B bS) (df_R wS) (dp_bl bS) 300 300 j (by omega) s0 s1
theorem dp_d (h : dp_ok n fa c p0 p1 p2 p3 K H bs bS wS) {x : Int32} (h0 : dp_Q c (df_S p0 p1 p2 p3) 2 x) (h1 : dp_Q c (df_S p0 p1 p2 p3) 3 x) : False := by
  obtain ⟨hc, j, hj, e, s0⟩ := h0
  obtain ⟨_, i, hi, e', s1⟩ := h1
  rw [e, nI_eq (by omega) (by omega)] at e'
  subst e'
  rw [h.2.2.2.2 hc] at s0 s1
  exact df_cohd 6 n (df_l fa) K H (df_B bS) (df_R wS) (dp_bl bS) 600 300 300 j (by omega) (by omega) s0 s1
theorem dp_c (h : dp_ok n fa c p0 p1 p2 p3 K H bs bS wS) {x : Int32} (h0 : dp_Q c (df_S p0 p1 p2 p3) 2 x) (h1 : dp_Q c (df_S p0 p1 p2 p3) 2 (x ^^^ 1)) : dp_Q c (df_S p0 p1 p2 p3) 0 x ∧ dp_Q c (df_S p0 p1 p2 p3) 0 (x ^^^ 1) := by
  obtain ⟨hc, j, hj, e, s0⟩ := h0
  obtain ⟨_, i, hi, e', s1⟩ := h1
  have hx := df_x1 j (by omega)
  rw [e, df_x1I, nI_eq (by omega) (by omega)] at e'
  subst e'
  have g := h.2.2.2.2 hc
  rw [g] at s0 s1
  obtain ⟨a, b⟩ := df_cons 6 n (df_l fa) K H (df_B bS) (df_R wS) (dp_bl bS) h.2.2.2.1 (q := j) (by omega) s0 s1
  refine ⟨⟨hc, j, hj, e, ?_⟩, ⟨hc, j ^^^ 1, hi, by rw [e, df_x1I], ?_⟩⟩
  · rw [g, show 0 * 64 + j = j by omega]
    exact a
  · rw [g, show 0 * 64 + (j ^^^ 1) = j ^^^ 1 by omega]
    exact b
theorem dp_ok_0 : dp_ok 0 0 0 p0 p1 p2 p3 K H bs bS wS :=
  ⟨by omega, fun r hr => absurd hr (Nat.not_lt_zero r), fun r s hr => absurd hr (Nat.not_lt_zero r), df_ac_0 _, fun z => absurd rfl z⟩
theorem dp_ok_fact (h : dp_ok n fa c p0 p1 p2 p3 K H bs bS wS) (fa' : Int64) : dp_ok n fa' 0 p0 p1 p2 p3 K H bs bS wS :=
  ⟨h.1, h.2.1, h.2.2.1, h.2.2.2.1, fun z => absurd rfl z⟩
theorem dp_ok_rule (h : dp_ok n fa c p0 p1 p2 p3 K H bs bS wS) (hn : n < 12) (K' H' : Nat → Int32) (bS' : Nat → Int64) : dp_ok (n + 1) fa 0 p0 p1 p2 p3 K' H' (upd bs n 0) bS' (upd wS n 0) := by
  obtain ⟨h1, h2, h3, h4, h5⟩ := h
  refine ⟨by omega, fun r hr => ?_, fun r s hr z => ?_, df_ac_new h4 (fun r s hr hs z => ?_) (fun s z => absurd ((df_uRs s).mp z) (df_w_0 s)) (fun r hr z => ?_), fun z => absurd rfl z⟩
  · rcases Classical.em (r = n) with e | e
    · subst e
      exact ⟨0, by omega, pk_us⟩
    · obtain ⟨z, hz, ez⟩ := h2 r (by omega)
      exact ⟨z, hz, (pk_un e).trans ez⟩
  · rcases Classical.em (r = n) with e | e
    · subst e
      exact absurd ((df_uRs s).mp z) (df_w_0 s)
    · have t := h3 r s (by omega) ((df_uR e s).mp z)
      omega
  · exact (df_uR (by omega) s).mp z
  · have t := h3 r n hr ((df_uR (by omega) n).mp z)
    omega
theorem dp_ok_body (h : dp_ok n fa c p0 p1 p2 p3 K H bs bS wS) {r z : Nat} (hz : z < 4) (bS' : Nat → Int64) : dp_ok n fa 0 p0 p1 p2 p3 K H (upd bs r (nI (z + 1))) bS' wS := by
  refine ⟨h.1, fun r' hr' => ?_, h.2.2.1, h.2.2.2.1, fun w => absurd rfl w⟩
  rcases Classical.em (r' = r) with e | e
  · subst e
    exact ⟨z + 1, by omega, pk_us⟩
  · obtain ⟨z', hz', ez⟩ := h.2.1 r' hr'
    exact ⟨z', hz', (pk_un e).trans ez⟩
theorem dp_ok_pair (h : dp_ok n fa c p0 p1 p2 p3 K H bs bS wS) {a b : Nat} (ha : a < n) (hb : b < n) (hc : ¬ df_ch n (df_R wS) b (n - 1) a) : dp_ok n fa 0 p0 p1 p2 p3 K H bs bS (upd wS a (wS a ||| ((1 : Int32) <<< (nI b &&& 31)))) := by
  obtain ⟨h1, h2, h3, h4, h5⟩ := h
  have b32 : b < 32 := by omega
  have key : ∀ r s, r < n → df_R (upd wS a (wS a ||| ((1 : Int32) <<< (nI b &&& 31)))) r s → df_R wS r s ∨ (r = a ∧ s = b) := by
    intro r s hr z
    rcases Classical.em (r = a) with g | g
    · subst g
      rcases (df_w_put _ b32 s).mp ((df_uRs s).mp z) with e | e
      · exact Or.inr ⟨rfl, e⟩
      · exact Or.inl e
    · exact Or.inl ((df_uR g s).mp z)
  refine ⟨h1, h2, fun r s hr z => ?_, df_ac_pair h4 ha hb h3 key hc, fun w => absurd rfl w⟩
  rcases key r s hr z with w | ⟨_, w⟩
  · exact h3 r s hr w
  · omega
end
