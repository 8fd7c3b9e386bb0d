def df_ok (A n m : Nat) (fa : Int64) (c : Int32) (p0 p1 p2 p3 : Int64) (bs body : Nat → Int32) (bS : Nat → Int64) (wS fact ln sup tags : Nat → Int32) : Prop :=
  A ≤ 32 ∧ m ≤ 32 ∧ n ≤ m ∧ df_hF (df_l fa) fact ∧ df_hB n (df_B bS) ln body ∧ (∀ r, r < n → bs r = ln r) ∧ df_hR n (df_R wS) sup ∧ (∀ r s, r < n → df_R wS r s → s < n) ∧
    (¬ c = 0 → df_hT (df_S p0 p1 p2 p3) tags ∧ ∀ i, df_S p0 p1 p2 p3 i → i % 64 < 2 * A)
theorem df_uB {bS : Nat → Int64} {r r' : Nat} {x : Int64} (h : ¬ r' = r) (q : Nat) : df_B (vp_updL bS r x) r' q ↔ df_B bS r' q := by
  unfold df_B
  rw [pk_uLn h]
theorem df_uBs {bS : Nat → Int64} {r : Nat} {x : Int64} (q : Nat) : df_B (vp_updL bS r x) r q ↔ df_l x q := by
  unfold df_B
  rw [pk_uLs]
theorem df_uR {wS : Nat → Int32} {r r' : Nat} {x : Int32} (h : ¬ r' = r) (q : Nat) : df_R (upd wS r x) r' q ↔ df_R wS r' q := by
  unfold df_R
  rw [pk_un h]
theorem df_uRs {wS : Nat → Int32} {r : Nat} {x : Int32} (q : Nat) : df_R (upd wS r x) r q ↔ df_w x q := by
  unfold df_R
  rw [pk_us]
section
variable (A n m : Nat) (fa : Int64) (c : Int32) (p0 p1 p2 p3 : Int64) (bs body : Nat → Int32) (bS : Nat → Int64) (wS fact ln sup tags : Nat → Int32)
theorem df_ok_0 (hA : A ≤ 32) (hm : m ≤ 32) (h1 : ∀ j, j < 64 → fact j = 0) (h2 : ∀ j, j < 1024 → sup j = 0) : df_ok A 0 m 0 0 p0 p1 p2 p3 bs body bS wS fact ln sup tags :=
  ⟨hA, hm, Nat.zero_le m, fun i hi => (h1 i hi).trans (df_b0 (df_l_0 i)).symm, fun r hr => absurd hr (Nat.not_lt_zero r), fun r hr => absurd hr (Nat.not_lt_zero r),
    fun r s hr hs => (h2 _ (by omega)).trans (df_b0 (fun z => absurd z.1 (Nat.not_lt_zero r))).symm, fun r s hr => absurd hr (Nat.not_lt_zero r), fun z => absurd rfl z⟩
theorem df_ok_fact (h : df_ok A n m fa c p0 p1 p2 p3 bs body bS wS fact ln sup tags) {j : Nat} (hj : j < 64) : df_ok A n m (fa ||| ((1 : Int64) <<< ((nI j).toInt64 &&& 63))) 0 p0 p1 p2 p3 bs body bS wS (upd fact j 1) ln sup tags := by
  obtain ⟨a1, a2, a3, hF, hB, hL, hR, hRn, hS⟩ := h
  refine ⟨a1, a2, a3, fun i hi => ?_, hB, hL, hR, hRn, fun z => absurd rfl z⟩
  rcases Classical.em (i = j) with e | e
  · rw [e, pk_us]
    exact (df_b1 ((df_l_put fa hj j).mpr (Or.inl rfl))).symm
  · rw [pk_un e, hF i hi]
    exact df_bc ⟨fun z => (df_l_put fa hj i).mpr (Or.inr z), fun z => ((df_l_put fa hj i).mp z).resolve_left e⟩
theorem df_ok_rule (h : df_ok A n m fa c p0 p1 p2 p3 bs body bS wS fact ln sup tags) (hn : n < m) : df_ok A (n + 1) m fa 0 p0 p1 p2 p3 (upd bs n 0) body (vp_updL bS n 0) (upd wS n 0) fact (upd ln n 0) sup tags := by
  obtain ⟨a1, a2, a3, hF, hB, hL, hR, hRn, hS⟩ := h
  refine ⟨a1, a2, by omega, hF, fun r hr => ?_, fun r hr => ?_, fun r s hr hs => ?_, fun r s hr z => ?_, fun z => absurd rfl z⟩
  · rcases Classical.em (r = n) with e | e
    · subst e
      exact ⟨0, by omega, pk_us, fun i hi => absurd hi (Nat.not_lt_zero i), fun q z => absurd ((df_uBs q).mp z) (df_l_0 q)⟩
    · obtain ⟨z, hz, ez, h1, h2⟩ := hB r (by omega)
      refine ⟨z, hz, (pk_un e).trans ez, fun i hi => ?_, fun q w => h2 q ((df_uB e q).mp w)⟩
      obtain ⟨l, hl, el, hb⟩ := h1 i hi
      exact ⟨l, hl, el, (df_uB e l).mpr hb⟩
  · rcases Classical.em (r = n) with e | e
    · subst e
      exact pk_us.trans pk_us.symm
    · exact (pk_un e).trans ((hL r (by omega)).trans (pk_un e).symm)
  · rw [hR r s hr hs]
    rcases Classical.em (r = n) with e | e
    · subst e
      exact df_bc ⟨fun z => absurd z.1 (Nat.lt_irrefl r), fun z => absurd ((df_uRs s).mp z.2) (df_w_0 s)⟩
    · exact df_bc ⟨fun z => ⟨by omega, (df_uR e s).mpr z.2⟩, fun z => ⟨by omega, (df_uR e s).mp z.2⟩⟩
  · rcases Classical.em (r = n) with e | e
    · subst e
      exact absurd ((df_uRs s).mp z) (df_w_0 s)
    · have t := hRn r s (by omega) ((df_uR e s).mp z)
      omega
theorem df_ok_body (h : df_ok A n m fa c p0 p1 p2 p3 bs body bS wS fact ln sup tags) {r q z : Nat} (hr : r < n) (hq : q < 64) (hz : z < 4) (ez : ln r = nI z) :
    df_ok A n m fa 0 p0 p1 p2 p3 (upd bs r (nI (z + 1))) (upd body (r * 4 + z) (nI q)) (vp_updL bS r (bS r ||| ((1 : Int64) <<< ((nI q).toInt64 &&& 63)))) wS fact (upd ln r (nI (z + 1))) sup tags := by
  obtain ⟨a1, a2, a3, hF, hB, hL, hR, hRn, hS⟩ := h
  refine ⟨a1, a2, a3, hF, fun r' hr' => ?_, fun r' hr' => ?_, hR, hRn, fun w => absurd rfl w⟩
  · rcases Classical.em (r' = r) with e | e
    · subst e
      obtain ⟨z', hz', ez', h1, h2⟩ := hB r' hr'
      have zz : z = z' := by
        rw [ez, nI_eq (by omega) (by omega)] at ez'
        exact ez'
      subst zz
      refine ⟨z + 1, by omega, pk_us, fun i hi => ?_, fun q' w => ?_⟩
      · rcases Nat.lt_or_ge i z with l | l
        · obtain ⟨t, ht, et, hb⟩ := h1 i l
          exact ⟨t, ht, (pk_un (by omega)).trans et, (df_uBs t).mpr ((df_l_put _ hq t).mpr (Or.inr hb))⟩
        · have e : i = z := by omega
          subst e
          exact ⟨q, hq, pk_us, (df_uBs q).mpr ((df_l_put _ hq q).mpr (Or.inl rfl))⟩
      · rcases (df_l_put _ hq q').mp ((df_uBs q').mp w) with e | e
        · subst e
          exact ⟨hq, z, by omega, pk_us⟩
        · obtain ⟨l, i, hi, ei⟩ := h2 q' e
          exact ⟨l, i, by omega, (pk_un (by omega)).trans ei⟩
    · obtain ⟨z', hz', ez', h1, h2⟩ := hB r' hr'
      refine ⟨z', hz', (pk_un e).trans ez', fun i hi => ?_, fun q' w => ?_⟩
      · obtain ⟨l, hl, el, hb⟩ := h1 i hi
        exact ⟨l, hl, (pk_un (by omega)).trans el, (df_uB e l).mpr hb⟩
      · obtain ⟨l, i, hi, ei⟩ := h2 q' ((df_uB e q').mp w)
        exact ⟨l, i, hi, (pk_un (by omega)).trans ei⟩
  · rcases Classical.em (r' = r) with e | e
    · subst e
      exact pk_us.trans pk_us.symm
    · exact (pk_un e).trans ((hL r' hr').trans (pk_un e).symm)
theorem df_ok_pair (h : df_ok A n m fa c p0 p1 p2 p3 bs body bS wS fact ln sup tags) {a b : Nat} (ha : a < n) (hb : b < n) :
    df_ok A n m fa 0 p0 p1 p2 p3 bs body bS (upd wS a (wS a ||| ((1 : Int32) <<< (nI b &&& 31)))) fact ln (upd sup (a * 32 + b) 1) tags := by
  obtain ⟨a1, a2, a3, hF, hB, hL, hR, hRn, hS⟩ := h
  have b32 : b < 32 := by omega
  refine ⟨a1, a2, a3, hF, hB, hL, fun r s hr hs => ?_, fun r s hr z => ?_, fun w => absurd rfl w⟩
  · rcases Classical.em (r * 32 + s = a * 32 + b) with e | e
    · have e1 : r = a := by omega
      have e2 : s = b := by omega
      subst e1 e2
      rw [pk_us]
      exact (df_b1 ⟨ha, (df_uRs s).mpr ((df_w_put _ b32 s).mpr (Or.inl rfl))⟩).symm
    · rw [pk_un e, hR r s hr hs]
      rcases Classical.em (r = a) with g | g
      · subst g
        exact df_bc ⟨fun z => ⟨z.1, (df_uRs s).mpr ((df_w_put _ b32 s).mpr (Or.inr z.2))⟩, fun z => ⟨z.1, ((df_w_put _ b32 s).mp ((df_uRs s).mp z.2)).resolve_left (fun w => e (by rw [w]))⟩⟩
      · exact df_bc ⟨fun z => ⟨z.1, (df_uR g s).mpr z.2⟩, fun z => ⟨z.1, (df_uR g s).mp z.2⟩⟩
  · rcases Classical.em (r = a) with g | g
    · subst g
      rcases (df_w_put _ b32 s).mp ((df_uRs s).mp z) with e | e
      · omega
      · exact hRn r s hr e
    · exact hRn r s hr ((df_uR g s).mp z)
end
-- the count of a tag, over all 64 bits and over the valid literals
theorem df_cnt_eq {p0 p1 p2 p3 : Int64} {M : Nat} {S : Nat → Prop} (hM : M ≤ 64) (hS : df_S p0 p1 p2 p3 = S) (hl : ∀ i, df_S p0 p1 p2 p3 i → i % 64 < M) {t : Nat} (ht : t < 4) :
    df_c (fun q => S (t * 64 + q)) M = df_c (df_l (df_pk p0 p1 p2 p3 t)) 64 := by
  subst hS
  have e : ∀ q, q < 64 → (df_S p0 p1 p2 p3 (t * 64 + q) ↔ df_l (df_pk p0 p1 p2 p3 t) q) := fun q hq => df_S_at p0 p1 p2 p3 t q ht hq
  have hc : ∀ q, df_l (df_pk p0 p1 p2 p3 t) q → q < M := fun q z => by
    have l := df_l_lt z
    have w := hl _ ((e q l).mpr z)
    omega
  rw [df_c_cut hM hc]
  have key : ∀ k, k ≤ 64 → df_c (fun q => df_S p0 p1 p2 p3 (t * 64 + q)) k = df_c (df_l (df_pk p0 p1 p2 p3 t)) k := by
    intro k
    induction k with
    | zero => exact fun _ => rfl
    | succ k ih =>
      intro hk
      have i1 := ih (by omega)
      rcases Classical.em (df_l (df_pk p0 p1 p2 p3 t) k) with z | z
      · have z' : (fun q => df_S p0 p1 p2 p3 (t * 64 + q)) k := (e k (by omega)).mpr z
        rw [df_c1 (p := fun q => df_S p0 p1 p2 p3 (t * 64 + q)) (k := k) z', df_c1 z, i1]
      · have z' : ¬ (fun q => df_S p0 p1 p2 p3 (t * 64 + q)) k := fun w => z ((e k (by omega)).mp w)
        rw [df_c0 (p := fun q => df_S p0 p1 p2 p3 (t * 64 + q)) (k := k) z', df_c0 z, i1]
  exact key M hM
theorem df_1st {C : Nat → Prop} {r s : Nat} (h1 : C r) (h2 : ∀ i, i < r → ¬ C i) (h3 : C s) (h4 : ∀ i, i < s → ¬ C i) : r = s := by
  rcases Nat.lt_trichotomy r s with l | l | l
  · exact absurd h1 (h4 r l)
  · exact l
  · exact absurd h3 (h2 s l)
