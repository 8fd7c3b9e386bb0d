section
variable (L : Nat) (xs : Nat → Int32) (kc ks : Nat)
theorem dp_233 (post : Int32 → Prop) (J : Int32 → Int32 → Int32 → Int32 → Int64 → Int32 → Int32 → Int64 → Int64 → Int64 → Int64 → (Nat → Int32) → (Nat → Int32) → (Nat → Int32) → (Nat → Int32) → (Nat → Int64) → (Nat → Int32) → Prop) (x3 x4 : Int32)
    (n : Nat) (fa : Int64) (c : Int32) (p0 p1 p2 p3 : Int64) (K H bs bl : Nat → Int32) (bS : Nat → Int64) (wS : Nat → Int32) (h : dp_ok n fa c p0 p1 p2 p3 K H bs bS wS) (hJ : J x3 x4 (nI 6) (nI 12) fa (nI n) c p0 p1 p2 p3 K H bs bl bS wS) :
    wL_law_233 post L xs J 6 x3 x4 kc ks (nI 6) (nI 12) fa (nI n) c p0 p1 p2 p3 K H bs bl bS wS := by
  unfold wL_law_233
  exact dp_check n fa c p0 p1 p2 p3 K H bs bl bS wS h _ (br_f (by decide) hJ)
theorem dp_246 (n : Nat) (fa : Int64) (c : Int32) (p0 p1 p2 p3 : Int64) (K H bs bl : Nat → Int32) (bS : Nat → Int64) (wS : Nat → Int32) (h : dp_ok n fa c p0 p1 p2 p3 K H bs bS wS) :
    wL_law_246 (fun r => r = 1) L xs 6 kc ks (nI 6) (nI 12) fa (nI n) c p0 p1 p2 p3 K H bs bl bS wS := by
  unfold wL_law_246
  exact dp_compute n fa c p0 p1 p2 p3 K H bs bl bS wS h _ (fun r n fa c p0 p1 p2 p3 K H bs bl bS wS h => dp_check n fa c p0 p1 p2 p3 K H bs bl bS wS h _ rfl)
theorem dp_106 (post : Int32 → Prop) (J : Int32 → Int32 → Int32 → Int32 → Int64 → Int32 → Int32 → Int64 → Int64 → Int64 → Int64 → (Nat → Int32) → (Nat → Int32) → (Nat → Int32) → (Nat → Int32) → (Nat → Int64) → (Nat → Int32) → Prop) (x3 x4 x6 x7 : Int32)
    (n : Nat) (fa : Int64) (c : Int32) (p0 p1 p2 p3 : Int64) (K H bs bl : Nat → Int32) (bS : Nat → Int64) (wS : Nat → Int32) (h : dp_ok n fa c p0 p1 p2 p3 K H bs bS wS)
    (hJ : ∀ n fa c p0 p1 p2 p3 K H bs bl bS wS, dp_ok n fa c p0 p1 p2 p3 K H bs bS wS → J x3 x4 (nI 6) (nI 12) fa (nI n) c p0 p1 p2 p3 K H bs bl bS wS) :
    wL_law_106 post L xs J 6 x3 x4 x6 x7 kc ks (nI 6) (nI 12) fa (nI n) c p0 p1 p2 p3 K H bs bl bS wS := by
  unfold wL_law_106
  exact dp_mod _ x6 (k := 3) (by omega) (by omega) (fun a _ => dp_mod _ x7 (k := 6) (by omega) (by omega) (fun b _ => dp_newRule n fa c p0 p1 p2 p3 K H bs bl bS wS h _ (nI a) (nI b)
    (fun r n fa c p0 p1 p2 p3 K H bs bl bS wS h => dp_233 L xs kc ks post J x3 x4 n fa c p0 p1 p2 p3 K H bs bl bS wS h (hJ n fa c p0 p1 p2 p3 K H bs bl bS wS h))))
theorem dp_138 (post : Int32 → Prop) (J : Int32 → Int32 → Int32 → Int32 → Int64 → Int32 → Int32 → Int64 → Int64 → Int64 → Int64 → (Nat → Int32) → (Nat → Int32) → (Nat → Int32) → (Nat → Int32) → (Nat → Int64) → (Nat → Int32) → Prop) (x3 x4 x6 x7 : Int32)
    (n : Nat) (fa : Int64) (c : Int32) (p0 p1 p2 p3 : Int64) (K H bs bl : Nat → Int32) (bS : Nat → Int64) (wS : Nat → Int32) (h : dp_ok n fa c p0 p1 p2 p3 K H bs bS wS)
    (hJ : ∀ n fa c p0 p1 p2 p3 K H bs bl bS wS, dp_ok n fa c p0 p1 p2 p3 K H bs bS wS → J x3 x4 (nI 6) (nI 12) fa (nI n) c p0 p1 p2 p3 K H bs bl bS wS) :
    wL_law_138 post L xs J 6 x3 x4 x6 x7 (nI n) kc ks (nI 6) (nI 12) fa (nI n) c p0 p1 p2 p3 K H bs bl bS wS := by
  have hn := h.1
  refine br_c (fun _ => dp_233 L xs kc ks post J x3 x4 n fa c p0 p1 p2 p3 K H bs bl bS wS h (hJ n fa c p0 p1 p2 p3 K H bs bl bS wS h)) (fun z => ?_)
  have n0 : 0 < n := Nat.pos_of_ne_zero (fun e => z (by subst e; exact nI_le (a := 0) (b := 0) (by omega) (by omega)))
  exact dp_mod _ x6 (k := n) n0 (by omega) (fun a _ => dp_mod _ x7 (k := 6) (by omega) (by omega) (fun b _ => dp_addBody n fa c p0 p1 p2 p3 K H bs bl bS wS h _ (nI a) (nI b)
    (fun r n fa c p0 p1 p2 p3 K H bs bl bS wS h => dp_233 L xs kc ks post J x3 x4 n fa c p0 p1 p2 p3 K H bs bl bS wS h (hJ n fa c p0 p1 p2 p3 K H bs bl bS wS h))))
theorem dp_law (hL : L ≤ 260) : ∀ (d s n : Nat) (fa : Int64) (c : Int32) (p0 p1 p2 p3 : Int64) (K H bs bl : Nat → Int32) (bS : Nat → Int64) (wS : Nat → Int32), s + d = 200 → dp_ok n fa c p0 p1 p2 p3 K H bs bS wS →
    wL_law_19 (fun r => r = 1) L xs 6 kc ks (d + 1) (nI (3 * s)) (nI s) (nI 6) (nI 12) fa (nI n) c p0 p1 p2 p3 K H bs bl bS wS := by
  intro d
  induction d with
  | zero =>
    intro s n fa c p0 p1 p2 p3 K H bs bl bS wS hs h
    have e : s = 200 := by omega
    subst e
    exact br_c (fun _ => dp_246 L xs kc ks n fa c p0 p1 p2 p3 K H bs bl bS wS h) (fun _ => br_t (nI_le (a := 200) (b := 200) (by omega) (by omega)) (dp_246 L xs kc ks n fa c p0 p1 p2 p3 K H bs bl bS wS h))
  | succ d ih =>
    intro s n fa c p0 p1 p2 p3 K H bs bl bS wS hs h
    have hn := h.1
    have e3 : nI (3 * s) + 3 = nI (3 * (s + 1)) := nI_add (3 * s) 3
    have hJ : ∀ n fa c p0 p1 p2 p3 K H bs bl bS wS, dp_ok n fa c p0 p1 p2 p3 K H bs bS wS → wL_law_19 (fun r => r = 1) L xs 6 kc ks (d + 1) (nI (3 * (s + 1))) (nI (s + 1)) (nI 6) (nI 12) fa (nI n) c p0 p1 p2 p3 K H bs bl bS wS :=
      fun n fa c p0 p1 p2 p3 K H bs bl bS wS h => ih (s + 1) n fa c p0 p1 p2 p3 K H bs bl bS wS (by omega) h
    have hC : ∀ n fa c p0 p1 p2 p3 K H bs bl bS wS, dp_ok n fa c p0 p1 p2 p3 K H bs bS wS → wL_law_233 (fun r => r = 1) L xs (wL_law_19 (fun r => r = 1) L xs 6 kc ks (d + 1)) 6 (nI (3 * (s + 1))) (nI (s + 1)) kc ks (nI 6) (nI 12) fa (nI n) c p0 p1 p2 p3 K H bs bl bS wS :=
      fun n fa c p0 p1 p2 p3 K H bs bl bS wS h => dp_233 L xs kc ks _ _ _ _ n fa c p0 p1 p2 p3 K H bs bl bS wS h (hJ n fa c p0 p1 p2 p3 K H bs bl bS wS h)
    refine br_c (fun _ => dp_246 L xs kc ks n fa c p0 p1 p2 p3 K H bs bl bS wS h) (fun _ => br_c (fun _ => dp_246 L xs kc ks n fa c p0 p1 p2 p3 K H bs bl bS wS h) (fun _ => ?_))
    refine dp_cell _ L xs (i := 3 * s) (nI (3 * s)) rfl hL (by omega) (fun y0 => dp_mod _ y0 (k := 8) (by omega) (by omega) (fun o _ => dp_cell _ L xs (i := 3 * s + 1) (nI (3 * s) + 1) (nI_1 _) hL (by omega) (fun y1 => dp_cell _ L xs (i := 3 * s + 2) (nI (3 * s) + 2) (nI_add (3 * s) 2) hL (by omega) (fun y2 => nm_r e3 (nm_r (nI_1 s) (dp_ruleCount n fa c p0 p1 p2 p3 K H bs bl bS wS _ ?_))))))
    refine br_c (fun _ => dp_mod _ y1 (k := 6) (by omega) (by omega) (fun a _ => dp_addFact n fa c p0 p1 p2 p3 K H bs bl bS wS h _ (nI a) (fun r n fa c p0 p1 p2 p3 K H bs bl bS wS h => hC n fa c p0 p1 p2 p3 K H bs bl bS wS h))) (fun _ => ?_)
    refine br_c (fun _ => dp_106 L xs kc ks _ _ _ _ y1 y2 n fa c p0 p1 p2 p3 K H bs bl bS wS h hJ) (fun _ => ?_)
    refine br_c (fun _ => dp_106 L xs kc ks _ _ _ _ y1 y2 n fa c p0 p1 p2 p3 K H bs bl bS wS h hJ) (fun _ => ?_)
    refine br_c (fun _ => dp_138 L xs kc ks _ _ _ _ y1 y2 n fa c p0 p1 p2 p3 K H bs bl bS wS h hJ) (fun _ => ?_)
    refine br_c (fun _ => dp_138 L xs kc ks _ _ _ _ y1 y2 n fa c p0 p1 p2 p3 K H bs bl bS wS h hJ) (fun _ => ?_)
    refine br_c (fun _ => br_c (fun _ => hC n fa c p0 p1 p2 p3 K H bs bl bS wS h) (fun z => ?_)) (fun _ => ?_)
    · have n0 : 0 < n := Nat.pos_of_ne_zero (fun e => z (by subst e; exact nI_le (a := 0) (b := 0) (by omega) (by omega)))
      exact dp_mod _ y1 (k := n) n0 (by omega) (fun a _ => dp_mod _ y2 (k := n) n0 (by omega) (fun b _ => dp_addSuperior n fa c p0 p1 p2 p3 K H bs bl bS wS h _ (nI a) (nI b) (fun r n fa c p0 p1 p2 p3 K H bs bl bS wS h => hC n fa c p0 p1 p2 p3 K H bs bl bS wS h)))
    refine br_c (fun _ => dp_compute n fa c p0 p1 p2 p3 K H bs bl bS wS h _ (fun r n fa c p0 p1 p2 p3 K H bs bl bS wS h => hC n fa c p0 p1 p2 p3 K H bs bl bS wS h)) (fun _ => ?_)
    exact dp_mod _ y1 (k := 4) (by omega) (by omega) (fun a _ => br_c (fun _ => dp_reset n fa c p0 p1 p2 p3 K H bs bl bS wS _ (fun n fa c p0 p1 p2 p3 K H bs bl bS wS h => hC n fa c p0 p1 p2 p3 K H bs bl bS wS h))
      (fun _ => dp_compute n fa c p0 p1 p2 p3 K H bs bl bS wS h _ (fun r n fa c p0 p1 p2 p3 K H bs bl bS wS h => hC n fa c p0 p1 p2 p3 K H bs bl bS wS h)))
end
theorem i_vc (xs : Nat → Int32) (L : Nat) (hL : L ≤ 260) : wpL_law (fun r => r = 1) L xs := by
  refine ⟨6, 288, by omega, by omega, ?_⟩
  unfold wpX_init
  refine ⟨by omega, by omega, by omega, by omega, by omega, by omega, by omega, by omega, by omega, by omega, by omega, by omega, ?_⟩
  refine br_t (by decide) (br_t (by decide) (nm_r (show (2 : Int32) * 3 = nI 6 by decide) (br_t (by decide) (br_t (by decide) ⟨201, ?_⟩))))
  exact dp_law L xs _ _ hL 200 0 0 0 0 0 0 0 0 _ _ _ _ _ _ rfl (dp_ok_0 0 0 0 0 _ _ _ _ _)
