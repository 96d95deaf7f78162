/-! a round of the law -/
def Nx (K : Int32 → zM → Option (Int32 × zM)) (k : Nat) (h : zM) (r : Option (Int32 × zM)) : Prop := ∃ h2, r = K (nI (k + 6)) h2 ∧ (∃ np n, Inv h2 np n) ∧ Scr h h2 ∧ ncM h2 ≤ ncM h + 20 ∧ nsM h2 ≤ nsM h + 200
theorem p2 (k : Nat) : nI k + 2 = nI (k + 2) := nI_add k 2
theorem p3 (k : Nat) : nI k + 3 = nI (k + 3) := nI_add k 3
theorem p4 (k : Nat) : nI k + 4 = nI (k + 4) := nI_add k 4
theorem p5 (k : Nat) : nI k + 5 = nI (k + 5) := nI_add k 5
theorem p6 (k : Nat) : nI k + 6 = nI (k + 6) := nI_add k 6
def lc_0 (K : Int32 → zM → Option (Int32 × zM)) (x3 : Int32) (h : zM) : Option (Int32 × zM) := (if (true && (true && (true && (ixOk (slM h) (x3 + 2) && (true && (ixOk (slM h) (x3 + 1) && true)))))) = true then ((f_X10_row (rI h 19 0 (Int32.toNatClampNeg (x3 + 1))) (rI h 19 0 (Int32.toNatClampNeg (x3 + 2))) h).bind fun q231 => (if (true && (true && (true && (ixOk (slM q231.2) (x3 + 2) && (true && (ixOk (slM q231.2) (x3 + 1) && true)))))) = true then ((f_X11_row (rI q231.2 19 0 (Int32.toNatClampNeg (x3 + 1))) (rI q231.2 19 0 (Int32.toNatClampNeg (x3 + 2))) q231.2).bind fun q245 => (if q231.1 = q245.1 then (f_L_law_1588 K x3 q245.2) else (some (0, q245.2)))) else none)) else none)
theorem lk_0 {h : zM} {np n L k : Nat} {K : Int32 → zM → Option (Int32 × zM)} (hI : Inv h np n) (hs : slM h = L) (hk : k + 6 ≤ L) (hL : L ≤ 3072) : Nx K k h (lc_0 K (nI k) h) := by
  obtain ⟨a, h1, h2, e1, e2, s1, s2, i, nc, ns⟩ := op_row hI (rI h 19 0 (k + 1)) (rI h 19 0 (k + 2))
  refine ⟨h2, ?_, i, s2, nc, ns⟩
  unfold lc_0 f_L_law_1588
  simp -implicitDefEqProofs only [nI_1, p2, p3, p4, p5, p6, hs, s1.1, s1.2, ixOk_nI (show k + 1 < L by omega) (by omega), nI_clamp (show k + 1 < 2 ^ 31 by omega), ixOk_nI (show k + 2 < L by omega) (by omega), nI_clamp (show k + 2 < 2 ^ 31 by omega), ixOk_nI (show k + 3 < L by omega) (by omega), nI_clamp (show k + 3 < 2 ^ 31 by omega), ixOk_nI (show k + 4 < L by omega) (by omega), nI_clamp (show k + 4 < 2 ^ 31 by omega), ixOk_nI (show k + 5 < L by omega) (by omega), nI_clamp (show k + 5 < 2 ^ 31 by omega), e1, e2, decide_true, Bool.true_and, Bool.and_true, if_true, Option.bind_some]
def lc_1 (K : Int32 → zM → Option (Int32 × zM)) (x3 : Int32) (h : zM) : Option (Int32 × zM) := (if (true && (true && (true && (ixOk (slM h) (x3 + 3) && (true && (ixOk (slM h) (x3 + 2) && (true && (ixOk (slM h) (x3 + 1) && true)))))))) = true then ((f_X10_lay (rI h 19 0 (Int32.toNatClampNeg (x3 + 1))) (rI h 19 0 (Int32.toNatClampNeg (x3 + 2))) (rI h 19 0 (Int32.toNatClampNeg (x3 + 3))) h).bind fun q269 => (if (true && (true && (true && (ixOk (slM q269.2) (x3 + 3) && (true && (ixOk (slM q269.2) (x3 + 2) && (true && (ixOk (slM q269.2) (x3 + 1) && true)))))))) = true then ((f_X11_lay (rI q269.2 19 0 (Int32.toNatClampNeg (x3 + 1))) (rI q269.2 19 0 (Int32.toNatClampNeg (x3 + 2))) (rI q269.2 19 0 (Int32.toNatClampNeg (x3 + 3))) q269.2).bind fun q288 => (if q269.1 = q288.1 then (f_L_law_1588 K x3 q288.2) else (some (0, q288.2)))) else none)) else none)
theorem lk_1 {h : zM} {np n L k : Nat} {K : Int32 → zM → Option (Int32 × zM)} (hI : Inv h np n) (hs : slM h = L) (hk : k + 6 ≤ L) (hL : L ≤ 3072) : Nx K k h (lc_1 K (nI k) h) := by
  obtain ⟨a, h1, h2, e1, e2, s1, s2, i, nc, ns⟩ := op_lay hI (rI h 19 0 (k + 1)) (rI h 19 0 (k + 2)) (rI h 19 0 (k + 3))
  refine ⟨h2, ?_, i, s2, nc, ns⟩
  unfold lc_1 f_L_law_1588
  simp -implicitDefEqProofs only [nI_1, p2, p3, p4, p5, p6, hs, s1.1, s1.2, ixOk_nI (show k + 1 < L by omega) (by omega), nI_clamp (show k + 1 < 2 ^ 31 by omega), ixOk_nI (show k + 2 < L by omega) (by omega), nI_clamp (show k + 2 < 2 ^ 31 by omega), ixOk_nI (show k + 3 < L by omega) (by omega), nI_clamp (show k + 3 < 2 ^ 31 by omega), ixOk_nI (show k + 4 < L by omega) (by omega), nI_clamp (show k + 4 < 2 ^ 31 by omega), ixOk_nI (show k + 5 < L by omega) (by omega), nI_clamp (show k + 5 < 2 ^ 31 by omega), e1, e2, decide_true, Bool.true_and, Bool.and_true, if_true, Option.bind_some]
def lc_2 (K : Int32 → zM → Option (Int32 × zM)) (x3 : Int32) (h : zM) : Option (Int32 × zM) := (if (true && (true && (true && (ixOk (slM h) (x3 + 1) && true)))) = true then ((f_X10_tear (rI h 19 0 (Int32.toNatClampNeg (x3 + 1))) h).bind fun q302 => (if (true && (true && (true && (ixOk (slM q302.2) (x3 + 1) && true)))) = true then ((f_X11_tear (rI q302.2 19 0 (Int32.toNatClampNeg (x3 + 1))) q302.2).bind fun q311 => (if q302.1 = q311.1 then (f_L_law_1588 K x3 q311.2) else (some (0, q311.2)))) else none)) else none)
theorem lk_2 {h : zM} {np n L k : Nat} {K : Int32 → zM → Option (Int32 × zM)} (hI : Inv h np n) (hs : slM h = L) (hk : k + 6 ≤ L) (hL : L ≤ 3072) : Nx K k h (lc_2 K (nI k) h) := by
  obtain ⟨a, h1, h2, e1, e2, s1, s2, i, nc, ns⟩ := op_tear hI (rI h 19 0 (k + 1))
  refine ⟨h2, ?_, i, s2, nc, ns⟩
  unfold lc_2 f_L_law_1588
  simp -implicitDefEqProofs only [nI_1, p2, p3, p4, p5, p6, hs, s1.1, s1.2, ixOk_nI (show k + 1 < L by omega) (by omega), nI_clamp (show k + 1 < 2 ^ 31 by omega), ixOk_nI (show k + 2 < L by omega) (by omega), nI_clamp (show k + 2 < 2 ^ 31 by omega), ixOk_nI (show k + 3 < L by omega) (by omega), nI_clamp (show k + 3 < 2 ^ 31 by omega), ixOk_nI (show k + 4 < L by omega) (by omega), nI_clamp (show k + 4 < 2 ^ 31 by omega), ixOk_nI (show k + 5 < L by omega) (by omega), nI_clamp (show k + 5 < 2 ^ 31 by omega), e1, e2, decide_true, Bool.true_and, Bool.and_true, if_true, Option.bind_some]
def lc_3 (K : Int32 → zM → Option (Int32 × zM)) (x3 : Int32) (h : zM) : Option (Int32 × zM) := (if (true && (true && (true && (ixOk (slM h) (x3 + 5) && (true && (ixOk (slM h) (x3 + 4) && (true && (ixOk (slM h) (x3 + 3) && (true && (ixOk (slM h) (x3 + 2) && (true && (ixOk (slM h) (x3 + 1) && true)))))))))))) = true then ((f_X10_copy (rI h 19 0 (Int32.toNatClampNeg (x3 + 1))) (rI h 19 0 (Int32.toNatClampNeg (x3 + 2))) (rI h 19 0 (Int32.toNatClampNeg (x3 + 3))) (rI h 19 0 (Int32.toNatClampNeg (x3 + 4))) (rI h 19 0 (Int32.toNatClampNeg (x3 + 5))) h).bind fun q345 => (if (true && (true && (true && (ixOk (slM q345.2) (x3 + 5) && (true && (ixOk (slM q345.2) (x3 + 4) && (true && (ixOk (slM q345.2) (x3 + 3) && (true && (ixOk (slM q345.2) (x3 + 2) && (true && (ixOk (slM q345.2) (x3 + 1) && true)))))))))))) = true then ((f_X11_copy (rI q345.2 19 0 (Int32.toNatClampNeg (x3 + 1))) (rI q345.2 19 0 (Int32.toNatClampNeg (x3 + 2))) (rI q345.2 19 0 (Int32.toNatClampNeg (x3 + 3))) (rI q345.2 19 0 (Int32.toNatClampNeg (x3 + 4))) (rI q345.2 19 0 (Int32.toNatClampNeg (x3 + 5))) q345.2).bind fun q374 => (if q345.1 = q374.1 then (f_L_law_1588 K x3 q374.2) else (some (0, q374.2)))) else none)) else none)
theorem lk_3 {h : zM} {np n L k : Nat} {K : Int32 → zM → Option (Int32 × zM)} (hI : Inv h np n) (hs : slM h = L) (hk : k + 6 ≤ L) (hL : L ≤ 3072) : Nx K k h (lc_3 K (nI k) h) := by
  obtain ⟨a, h1, h2, e1, e2, s1, s2, i, nc, ns⟩ := op_copy hI (rI h 19 0 (k + 1)) (rI h 19 0 (k + 2)) (rI h 19 0 (k + 3)) (rI h 19 0 (k + 4)) (rI h 19 0 (k + 5))
  refine ⟨h2, ?_, i, s2, nc, ns⟩
  unfold lc_3 f_L_law_1588
  simp -implicitDefEqProofs only [nI_1, p2, p3, p4, p5, p6, hs, s1.1, s1.2, ixOk_nI (show k + 1 < L by omega) (by omega), nI_clamp (show k + 1 < 2 ^ 31 by omega), ixOk_nI (show k + 2 < L by omega) (by omega), nI_clamp (show k + 2 < 2 ^ 31 by omega), ixOk_nI (show k + 3 < L by omega) (by omega), nI_clamp (show k + 3 < 2 ^ 31 by omega), ixOk_nI (show k + 4 < L by omega) (by omega), nI_clamp (show k + 4 < 2 ^ 31 by omega), ixOk_nI (show k + 5 < L by omega) (by omega), nI_clamp (show k + 5 < 2 ^ 31 by omega), e1, e2, decide_true, Bool.true_and, Bool.and_true, if_true, Option.bind_some]
def lc_4 (K : Int32 → zM → Option (Int32 × zM)) (x3 : Int32) (h : zM) : Option (Int32 × zM) := (if (true && (true && (true && (ixOk (slM h) (x3 + 1) && true)))) = true then ((f_X10_mean (rI h 19 0 (Int32.toNatClampNeg (x3 + 1))) h).bind fun q388 => (if (true && (true && (true && (ixOk (slM q388.2) (x3 + 1) && true)))) = true then ((f_X11_mean (rI q388.2 19 0 (Int32.toNatClampNeg (x3 + 1))) q388.2).bind fun q397 => (if q388.1 = q397.1 then (f_L_law_1588 K x3 q397.2) else (some (0, q397.2)))) else none)) else none)
theorem lk_4 {h : zM} {np n L k : Nat} {K : Int32 → zM → Option (Int32 × zM)} (hI : Inv h np n) (hs : slM h = L) (hk : k + 6 ≤ L) (hL : L ≤ 3072) : Nx K k h (lc_4 K (nI k) h) := by
  obtain ⟨a, h1, h2, e1, e2, s1, s2, i, nc, ns⟩ := op_mean hI (rI h 19 0 (k + 1))
  refine ⟨h2, ?_, i, s2, nc, ns⟩
  unfold lc_4 f_L_law_1588
  simp -implicitDefEqProofs only [nI_1, p2, p3, p4, p5, p6, hs, s1.1, s1.2, ixOk_nI (show k + 1 < L by omega) (by omega), nI_clamp (show k + 1 < 2 ^ 31 by omega), ixOk_nI (show k + 2 < L by omega) (by omega), nI_clamp (show k + 2 < 2 ^ 31 by omega), ixOk_nI (show k + 3 < L by omega) (by omega), nI_clamp (show k + 3 < 2 ^ 31 by omega), ixOk_nI (show k + 4 < L by omega) (by omega), nI_clamp (show k + 4 < 2 ^ 31 by omega), ixOk_nI (show k + 5 < L by omega) (by omega), nI_clamp (show k + 5 < 2 ^ 31 by omega), e1, e2, decide_true, Bool.true_and, Bool.and_true, if_true, Option.bind_some]
def lc_5 (K : Int32 → zM → Option (Int32 × zM)) (x3 : Int32) (h : zM) : Option (Int32 × zM) := (if (true && (true && (true && (ixOk (slM h) (x3 + 2) && (true && (ixOk (slM h) (x3 + 1) && true)))))) = true then ((f_X10_text (rI h 19 0 (Int32.toNatClampNeg (x3 + 1))) (rI h 19 0 (Int32.toNatClampNeg (x3 + 2))) h).bind fun q416 => (if (true && (true && (true && (ixOk (slM q416.2) (x3 + 2) && (true && (ixOk (slM q416.2) (x3 + 1) && true)))))) = true then ((f_X11_text (rI q416.2 19 0 (Int32.toNatClampNeg (x3 + 1))) (rI q416.2 19 0 (Int32.toNatClampNeg (x3 + 2))) q416.2).bind fun q430 => (if q416.1 = q430.1 then (f_L_law_1588 K x3 q430.2) else (some (0, q430.2)))) else none)) else none)
theorem lk_5 {h : zM} {np n L k : Nat} {K : Int32 → zM → Option (Int32 × zM)} (hI : Inv h np n) (hs : slM h = L) (hk : k + 6 ≤ L) (hL : L ≤ 3072) : Nx K k h (lc_5 K (nI k) h) := by
  obtain ⟨a, h1, h2, e1, e2, s1, s2, i, nc, ns⟩ := op_text hI (rI h 19 0 (k + 1)) (rI h 19 0 (k + 2))
  refine ⟨h2, ?_, i, s2, nc, ns⟩
  unfold lc_5 f_L_law_1588
  simp -implicitDefEqProofs only [nI_1, p2, p3, p4, p5, p6, hs, s1.1, s1.2, ixOk_nI (show k + 1 < L by omega) (by omega), nI_clamp (show k + 1 < 2 ^ 31 by omega), ixOk_nI (show k + 2 < L by omega) (by omega), nI_clamp (show k + 2 < 2 ^ 31 by omega), ixOk_nI (show k + 3 < L by omega) (by omega), nI_clamp (show k + 3 < 2 ^ 31 by omega), ixOk_nI (show k + 4 < L by omega) (by omega), nI_clamp (show k + 4 < 2 ^ 31 by omega), ixOk_nI (show k + 5 < L by omega) (by omega), nI_clamp (show k + 5 < 2 ^ 31 by omega), e1, e2, decide_true, Bool.true_and, Bool.and_true, if_true, Option.bind_some]
def lc_6 (K : Int32 → zM → Option (Int32 × zM)) (x3 : Int32) (h : zM) : Option (Int32 × zM) := (if (true && (true && (true && (ixOk (slM h) (x3 + 3) && (true && (ixOk (slM h) (x3 + 2) && (true && (ixOk (slM h) (x3 + 1) && true)))))))) = true then ((f_X10_put (rI h 19 0 (Int32.toNatClampNeg (x3 + 1))) (rI h 19 0 (Int32.toNatClampNeg (x3 + 2))) (rI h 19 0 (Int32.toNatClampNeg (x3 + 3))) h).bind fun q454 => (if (true && (true && (true && (ixOk (slM q454.2) (x3 + 3) && (true && (ixOk (slM q454.2) (x3 + 2) && (true && (ixOk (slM q454.2) (x3 + 1) && true)))))))) = true then ((f_X11_put (rI q454.2 19 0 (Int32.toNatClampNeg (x3 + 1))) (rI q454.2 19 0 (Int32.toNatClampNeg (x3 + 2))) (rI q454.2 19 0 (Int32.toNatClampNeg (x3 + 3))) q454.2).bind fun q473 => (if q454.1 = q473.1 then (f_L_law_1588 K x3 q473.2) else (some (0, q473.2)))) else none)) else none)
theorem lk_6 {h : zM} {np n L k : Nat} {K : Int32 → zM → Option (Int32 × zM)} (hI : Inv h np n) (hs : slM h = L) (hk : k + 6 ≤ L) (hL : L ≤ 3072) : Nx K k h (lc_6 K (nI k) h) := by
  obtain ⟨a, h1, h2, e1, e2, s1, s2, i, nc, ns⟩ := op_put hI (rI h 19 0 (k + 1)) (rI h 19 0 (k + 2)) (rI h 19 0 (k + 3))
  refine ⟨h2, ?_, i, s2, nc, ns⟩
  unfold lc_6 f_L_law_1588
  simp -implicitDefEqProofs only [nI_1, p2, p3, p4, p5, p6, hs, s1.1, s1.2, ixOk_nI (show k + 1 < L by omega) (by omega), nI_clamp (show k + 1 < 2 ^ 31 by omega), ixOk_nI (show k + 2 < L by omega) (by omega), nI_clamp (show k + 2 < 2 ^ 31 by omega), ixOk_nI (show k + 3 < L by omega) (by omega), nI_clamp (show k + 3 < 2 ^ 31 by omega), ixOk_nI (show k + 4 < L by omega) (by omega), nI_clamp (show k + 4 < 2 ^ 31 by omega), ixOk_nI (show k + 5 < L by omega) (by omega), nI_clamp (show k + 5 < 2 ^ 31 by omega), e1, e2, decide_true, Bool.true_and, Bool.and_true, if_true, Option.bind_some]
def lc_7 (K : Int32 → zM → Option (Int32 × zM)) (x3 : Int32) (h : zM) : Option (Int32 × zM) := (if (true && (true && (true && (ixOk (slM h) (x3 + 1) && true)))) = true then ((f_X10_later (rI h 19 0 (Int32.toNatClampNeg (x3 + 1))) h).bind fun q487 => (if (true && (true && (true && (ixOk (slM q487.2) (x3 + 1) && true)))) = true then ((f_X11_later (rI q487.2 19 0 (Int32.toNatClampNeg (x3 + 1))) q487.2).bind fun q496 => (if q487.1 = q496.1 then (f_L_law_1588 K x3 q496.2) else (some (0, q496.2)))) else none)) else none)
theorem lk_7 {h : zM} {np n L k : Nat} {K : Int32 → zM → Option (Int32 × zM)} (hI : Inv h np n) (hs : slM h = L) (hk : k + 6 ≤ L) (hL : L ≤ 3072) : Nx K k h (lc_7 K (nI k) h) := by
  obtain ⟨a, h1, h2, e1, e2, s1, s2, i, nc, ns⟩ := op_later hI (rI h 19 0 (k + 1))
  refine ⟨h2, ?_, i, s2, nc, ns⟩
  unfold lc_7 f_L_law_1588
  simp -implicitDefEqProofs only [nI_1, p2, p3, p4, p5, p6, hs, s1.1, s1.2, ixOk_nI (show k + 1 < L by omega) (by omega), nI_clamp (show k + 1 < 2 ^ 31 by omega), ixOk_nI (show k + 2 < L by omega) (by omega), nI_clamp (show k + 2 < 2 ^ 31 by omega), ixOk_nI (show k + 3 < L by omega) (by omega), nI_clamp (show k + 3 < 2 ^ 31 by omega), ixOk_nI (show k + 4 < L by omega) (by omega), nI_clamp (show k + 4 < 2 ^ 31 by omega), ixOk_nI (show k + 5 < L by omega) (by omega), nI_clamp (show k + 5 < 2 ^ 31 by omega), e1, e2, decide_true, Bool.true_and, Bool.and_true, if_true, Option.bind_some]
def lc_8 (K : Int32 → zM → Option (Int32 × zM)) (x3 : Int32) (h : zM) : Option (Int32 × zM) := (if (true && (true && (true && (ixOk (slM h) (x3 + 4) && (true && (ixOk (slM h) (x3 + 3) && (true && (ixOk (slM h) (x3 + 2) && (true && (ixOk (slM h) (x3 + 1) && true)))))))))) = true then ((f_X10_place (rI h 19 0 (Int32.toNatClampNeg (x3 + 1))) (rI h 19 0 (Int32.toNatClampNeg (x3 + 2))) (rI h 19 0 (Int32.toNatClampNeg (x3 + 3))) (rI h 19 0 (Int32.toNatClampNeg (x3 + 4))) h).bind fun q525 => (if (true && (true && (true && (ixOk (slM q525.2) (x3 + 4) && (true && (ixOk (slM q525.2) (x3 + 3) && (true && (ixOk (slM q525.2) (x3 + 2) && (true && (ixOk (slM q525.2) (x3 + 1) && true)))))))))) = true then ((f_X11_place (rI q525.2 19 0 (Int32.toNatClampNeg (x3 + 1))) (rI q525.2 19 0 (Int32.toNatClampNeg (x3 + 2))) (rI q525.2 19 0 (Int32.toNatClampNeg (x3 + 3))) (rI q525.2 19 0 (Int32.toNatClampNeg (x3 + 4))) q525.2).bind fun q549 => (if q525.1 = q549.1 then (f_L_law_1588 K x3 q549.2) else (some (0, q549.2)))) else none)) else none)
theorem lk_8 {h : zM} {np n L k : Nat} {K : Int32 → zM → Option (Int32 × zM)} (hI : Inv h np n) (hs : slM h = L) (hk : k + 6 ≤ L) (hL : L ≤ 3072) : Nx K k h (lc_8 K (nI k) h) := by
  obtain ⟨a, h1, h2, e1, e2, s1, s2, i, nc, ns⟩ := op_place hI (rI h 19 0 (k + 1)) (rI h 19 0 (k + 2)) (rI h 19 0 (k + 3)) (rI h 19 0 (k + 4))
  refine ⟨h2, ?_, i, s2, nc, ns⟩
  unfold lc_8 f_L_law_1588
  simp -implicitDefEqProofs only [nI_1, p2, p3, p4, p5, p6, hs, s1.1, s1.2, ixOk_nI (show k + 1 < L by omega) (by omega), nI_clamp (show k + 1 < 2 ^ 31 by omega), ixOk_nI (show k + 2 < L by omega) (by omega), nI_clamp (show k + 2 < 2 ^ 31 by omega), ixOk_nI (show k + 3 < L by omega) (by omega), nI_clamp (show k + 3 < 2 ^ 31 by omega), ixOk_nI (show k + 4 < L by omega) (by omega), nI_clamp (show k + 4 < 2 ^ 31 by omega), ixOk_nI (show k + 5 < L by omega) (by omega), nI_clamp (show k + 5 < 2 ^ 31 by omega), e1, e2, decide_true, Bool.true_and, Bool.and_true, if_true, Option.bind_some]
def lc_9 (K : Int32 → zM → Option (Int32 × zM)) (x3 : Int32) (h : zM) : Option (Int32 × zM) := (if (true && (true && (true && (ixOk (slM h) (x3 + 5) && (true && (ixOk (slM h) (x3 + 4) && (true && (ixOk (slM h) (x3 + 3) && (true && (ixOk (slM h) (x3 + 2) && (true && (ixOk (slM h) (x3 + 1) && true)))))))))))) = true then ((f_X10_mark (rI h 19 0 (Int32.toNatClampNeg (x3 + 1))) (rI h 19 0 (Int32.toNatClampNeg (x3 + 2))) (rI h 19 0 (Int32.toNatClampNeg (x3 + 3))) (rI h 19 0 (Int32.toNatClampNeg (x3 + 4))) (rI h 19 0 (Int32.toNatClampNeg (x3 + 5))) h).bind fun q583 => (if (true && (true && (true && (ixOk (slM q583.2) (x3 + 5) && (true && (ixOk (slM q583.2) (x3 + 4) && (true && (ixOk (slM q583.2) (x3 + 3) && (true && (ixOk (slM q583.2) (x3 + 2) && (true && (ixOk (slM q583.2) (x3 + 1) && true)))))))))))) = true then ((f_X11_mark (rI q583.2 19 0 (Int32.toNatClampNeg (x3 + 1))) (rI q583.2 19 0 (Int32.toNatClampNeg (x3 + 2))) (rI q583.2 19 0 (Int32.toNatClampNeg (x3 + 3))) (rI q583.2 19 0 (Int32.toNatClampNeg (x3 + 4))) (rI q583.2 19 0 (Int32.toNatClampNeg (x3 + 5))) q583.2).bind fun q612 => (if q583.1 = q612.1 then (f_L_law_1588 K x3 q612.2) else (some (0, q612.2)))) else none)) else none)
theorem lk_9 {h : zM} {np n L k : Nat} {K : Int32 → zM → Option (Int32 × zM)} (hI : Inv h np n) (hs : slM h = L) (hk : k + 6 ≤ L) (hL : L ≤ 3072) : Nx K k h (lc_9 K (nI k) h) := by
  obtain ⟨a, h1, h2, e1, e2, s1, s2, i, nc, ns⟩ := op_mark hI (rI h 19 0 (k + 1)) (rI h 19 0 (k + 2)) (rI h 19 0 (k + 3)) (rI h 19 0 (k + 4)) (rI h 19 0 (k + 5))
  refine ⟨h2, ?_, i, s2, nc, ns⟩
  unfold lc_9 f_L_law_1588
  simp -implicitDefEqProofs only [nI_1, p2, p3, p4, p5, p6, hs, s1.1, s1.2, ixOk_nI (show k + 1 < L by omega) (by omega), nI_clamp (show k + 1 < 2 ^ 31 by omega), ixOk_nI (show k + 2 < L by omega) (by omega), nI_clamp (show k + 2 < 2 ^ 31 by omega), ixOk_nI (show k + 3 < L by omega) (by omega), nI_clamp (show k + 3 < 2 ^ 31 by omega), ixOk_nI (show k + 4 < L by omega) (by omega), nI_clamp (show k + 4 < 2 ^ 31 by omega), ixOk_nI (show k + 5 < L by omega) (by omega), nI_clamp (show k + 5 < 2 ^ 31 by omega), e1, e2, decide_true, Bool.true_and, Bool.and_true, if_true, Option.bind_some]
def lc_10 (K : Int32 → zM → Option (Int32 × zM)) (x3 : Int32) (h : zM) : Option (Int32 × zM) := (if (true && (true && (true && (ixOk (slM h) (x3 + 3) && (true && (ixOk (slM h) (x3 + 2) && (true && (ixOk (slM h) (x3 + 1) && true)))))))) = true then ((f_X10_marks (rI h 19 0 (Int32.toNatClampNeg (x3 + 1))) (rI h 19 0 (Int32.toNatClampNeg (x3 + 2))) (rI h 19 0 (Int32.toNatClampNeg (x3 + 3))) h).bind fun q636 => (if (true && (true && (true && (ixOk (slM q636.2) (x3 + 3) && (true && (ixOk (slM q636.2) (x3 + 2) && (true && (ixOk (slM q636.2) (x3 + 1) && true)))))))) = true then ((f_X11_marks (rI q636.2 19 0 (Int32.toNatClampNeg (x3 + 1))) (rI q636.2 19 0 (Int32.toNatClampNeg (x3 + 2))) (rI q636.2 19 0 (Int32.toNatClampNeg (x3 + 3))) q636.2).bind fun q655 => (if q636.1 = q655.1 then (f_L_law_1588 K x3 q655.2) else (some (0, q655.2)))) else none)) else none)
theorem lk_10 {h : zM} {np n L k : Nat} {K : Int32 → zM → Option (Int32 × zM)} (hI : Inv h np n) (hs : slM h = L) (hk : k + 6 ≤ L) (hL : L ≤ 3072) : Nx K k h (lc_10 K (nI k) h) := by
  obtain ⟨a, h1, h2, e1, e2, s1, s2, i, nc, ns⟩ := op_marks hI (rI h 19 0 (k + 1)) (rI h 19 0 (k + 2)) (rI h 19 0 (k + 3))
  refine ⟨h2, ?_, i, s2, nc, ns⟩
  unfold lc_10 f_L_law_1588
  simp -implicitDefEqProofs only [nI_1, p2, p3, p4, p5, p6, hs, s1.1, s1.2, ixOk_nI (show k + 1 < L by omega) (by omega), nI_clamp (show k + 1 < 2 ^ 31 by omega), ixOk_nI (show k + 2 < L by omega) (by omega), nI_clamp (show k + 2 < 2 ^ 31 by omega), ixOk_nI (show k + 3 < L by omega) (by omega), nI_clamp (show k + 3 < 2 ^ 31 by omega), ixOk_nI (show k + 4 < L by omega) (by omega), nI_clamp (show k + 4 < 2 ^ 31 by omega), ixOk_nI (show k + 5 < L by omega) (by omega), nI_clamp (show k + 5 < 2 ^ 31 by omega), e1, e2, decide_true, Bool.true_and, Bool.and_true, if_true, Option.bind_some]
def lc_11 (K : Int32 → zM → Option (Int32 × zM)) (x3 : Int32) (h : zM) : Option (Int32 × zM) := (if (true && (true && (true && (ixOk (slM h) (x3 + 3) && (true && (ixOk (slM h) (x3 + 2) && (true && (ixOk (slM h) (x3 + 1) && true)))))))) = true then ((f_X10_help (rI h 19 0 (Int32.toNatClampNeg (x3 + 1))) (rI h 19 0 (Int32.toNatClampNeg (x3 + 2))) (rI h 19 0 (Int32.toNatClampNeg (x3 + 3))) h).bind fun q679 => (if (true && (true && (true && (ixOk (slM q679.2) (x3 + 3) && (true && (ixOk (slM q679.2) (x3 + 2) && (true && (ixOk (slM q679.2) (x3 + 1) && true)))))))) = true then ((f_X11_help (rI q679.2 19 0 (Int32.toNatClampNeg (x3 + 1))) (rI q679.2 19 0 (Int32.toNatClampNeg (x3 + 2))) (rI q679.2 19 0 (Int32.toNatClampNeg (x3 + 3))) q679.2).bind fun q698 => (if q679.1 = q698.1 then (f_L_law_1588 K x3 q698.2) else (some (0, q698.2)))) else none)) else none)
theorem lk_11 {h : zM} {np n L k : Nat} {K : Int32 → zM → Option (Int32 × zM)} (hI : Inv h np n) (hs : slM h = L) (hk : k + 6 ≤ L) (hL : L ≤ 3072) : Nx K k h (lc_11 K (nI k) h) := by
  obtain ⟨a, h1, h2, e1, e2, s1, s2, i, nc, ns⟩ := op_help hI (rI h 19 0 (k + 1)) (rI h 19 0 (k + 2)) (rI h 19 0 (k + 3))
  refine ⟨h2, ?_, i, s2, nc, ns⟩
  unfold lc_11 f_L_law_1588
  simp -implicitDefEqProofs only [nI_1, p2, p3, p4, p5, p6, hs, s1.1, s1.2, ixOk_nI (show k + 1 < L by omega) (by omega), nI_clamp (show k + 1 < 2 ^ 31 by omega), ixOk_nI (show k + 2 < L by omega) (by omega), nI_clamp (show k + 2 < 2 ^ 31 by omega), ixOk_nI (show k + 3 < L by omega) (by omega), nI_clamp (show k + 3 < 2 ^ 31 by omega), ixOk_nI (show k + 4 < L by omega) (by omega), nI_clamp (show k + 4 < 2 ^ 31 by omega), ixOk_nI (show k + 5 < L by omega) (by omega), nI_clamp (show k + 5 < 2 ^ 31 by omega), e1, e2, decide_true, Bool.true_and, Bool.and_true, if_true, Option.bind_some]
def lc_12 (K : Int32 → zM → Option (Int32 × zM)) (x3 : Int32) (h : zM) : Option (Int32 × zM) := (if (true && (true && (true && (ixOk (slM h) (x3 + 2) && (true && (ixOk (slM h) (x3 + 1) && true)))))) = true then ((f_X10_paper (rI h 19 0 (Int32.toNatClampNeg (x3 + 1))) (rI h 19 0 (Int32.toNatClampNeg (x3 + 2))) h).bind fun q717 => (if (true && (true && (true && (ixOk (slM q717.2) (x3 + 2) && (true && (ixOk (slM q717.2) (x3 + 1) && true)))))) = true then ((f_X11_paper (rI q717.2 19 0 (Int32.toNatClampNeg (x3 + 1))) (rI q717.2 19 0 (Int32.toNatClampNeg (x3 + 2))) q717.2).bind fun q731 => (if q717.1 = q731.1 then (f_L_law_1588 K x3 q731.2) else (some (0, q731.2)))) else none)) else none)
theorem lk_12 {h : zM} {np n L k : Nat} {K : Int32 → zM → Option (Int32 × zM)} (hI : Inv h np n) (hs : slM h = L) (hk : k + 6 ≤ L) (hL : L ≤ 3072) : Nx K k h (lc_12 K (nI k) h) := by
  obtain ⟨a, h1, h2, e1, e2, s1, s2, i, nc, ns⟩ := op_paper hI (rI h 19 0 (k + 1)) (rI h 19 0 (k + 2))
  refine ⟨h2, ?_, i, s2, nc, ns⟩
  unfold lc_12 f_L_law_1588
  simp -implicitDefEqProofs only [nI_1, p2, p3, p4, p5, p6, hs, s1.1, s1.2, ixOk_nI (show k + 1 < L by omega) (by omega), nI_clamp (show k + 1 < 2 ^ 31 by omega), ixOk_nI (show k + 2 < L by omega) (by omega), nI_clamp (show k + 2 < 2 ^ 31 by omega), ixOk_nI (show k + 3 < L by omega) (by omega), nI_clamp (show k + 3 < 2 ^ 31 by omega), ixOk_nI (show k + 4 < L by omega) (by omega), nI_clamp (show k + 4 < 2 ^ 31 by omega), ixOk_nI (show k + 5 < L by omega) (by omega), nI_clamp (show k + 5 < 2 ^ 31 by omega), e1, e2, decide_true, Bool.true_and, Bool.and_true, if_true, Option.bind_some]
def lc_13 (K : Int32 → zM → Option (Int32 × zM)) (x3 : Int32) (h : zM) : Option (Int32 × zM) := (if (true && (true && (true && (ixOk (slM h) (x3 + 2) && (true && (ixOk (slM h) (x3 + 1) && true)))))) = true then ((f_X10_cut (rI h 19 0 (Int32.toNatClampNeg (x3 + 1))) (rI h 19 0 (Int32.toNatClampNeg (x3 + 2))) h).bind fun q750 => (if (true && (true && (true && (ixOk (slM q750.2) (x3 + 2) && (true && (ixOk (slM q750.2) (x3 + 1) && true)))))) = true then ((f_X11_cut (rI q750.2 19 0 (Int32.toNatClampNeg (x3 + 1))) (rI q750.2 19 0 (Int32.toNatClampNeg (x3 + 2))) q750.2).bind fun q764 => (if q750.1 = q764.1 then (f_L_law_1588 K x3 q764.2) else (some (0, q764.2)))) else none)) else none)
theorem lk_13 {h : zM} {np n L k : Nat} {K : Int32 → zM → Option (Int32 × zM)} (hI : Inv h np n) (hs : slM h = L) (hk : k + 6 ≤ L) (hL : L ≤ 3072) : Nx K k h (lc_13 K (nI k) h) := by
  obtain ⟨a, h1, h2, e1, e2, s1, s2, i, nc, ns⟩ := op_cut hI (rI h 19 0 (k + 1)) (rI h 19 0 (k + 2))
  refine ⟨h2, ?_, i, s2, nc, ns⟩
  unfold lc_13 f_L_law_1588
  simp -implicitDefEqProofs only [nI_1, p2, p3, p4, p5, p6, hs, s1.1, s1.2, ixOk_nI (show k + 1 < L by omega) (by omega), nI_clamp (show k + 1 < 2 ^ 31 by omega), ixOk_nI (show k + 2 < L by omega) (by omega), nI_clamp (show k + 2 < 2 ^ 31 by omega), ixOk_nI (show k + 3 < L by omega) (by omega), nI_clamp (show k + 3 < 2 ^ 31 by omega), ixOk_nI (show k + 4 < L by omega) (by omega), nI_clamp (show k + 4 < 2 ^ 31 by omega), ixOk_nI (show k + 5 < L by omega) (by omega), nI_clamp (show k + 5 < 2 ^ 31 by omega), e1, e2, decide_true, Bool.true_and, Bool.and_true, if_true, Option.bind_some]
def lc_14 (K : Int32 → zM → Option (Int32 × zM)) (x3 : Int32) (h : zM) : Option (Int32 × zM) := (if (true && (true && (true && (ixOk (slM h) (x3 + 2) && (true && (ixOk (slM h) (x3 + 1) && true)))))) = true then ((f_X10_strike (rI h 19 0 (Int32.toNatClampNeg (x3 + 1))) (rI h 19 0 (Int32.toNatClampNeg (x3 + 2))) h).bind fun q783 => (if (true && (true && (true && (ixOk (slM q783.2) (x3 + 2) && (true && (ixOk (slM q783.2) (x3 + 1) && true)))))) = true then ((f_X11_strike (rI q783.2 19 0 (Int32.toNatClampNeg (x3 + 1))) (rI q783.2 19 0 (Int32.toNatClampNeg (x3 + 2))) q783.2).bind fun q797 => (if q783.1 = q797.1 then (f_L_law_1588 K x3 q797.2) else (some (0, q797.2)))) else none)) else none)
theorem lk_14 {h : zM} {np n L k : Nat} {K : Int32 → zM → Option (Int32 × zM)} (hI : Inv h np n) (hs : slM h = L) (hk : k + 6 ≤ L) (hL : L ≤ 3072) : Nx K k h (lc_14 K (nI k) h) := by
  obtain ⟨a, h1, h2, e1, e2, s1, s2, i, nc, ns⟩ := op_strike hI (rI h 19 0 (k + 1)) (rI h 19 0 (k + 2))
  refine ⟨h2, ?_, i, s2, nc, ns⟩
  unfold lc_14 f_L_law_1588
  simp -implicitDefEqProofs only [nI_1, p2, p3, p4, p5, p6, hs, s1.1, s1.2, ixOk_nI (show k + 1 < L by omega) (by omega), nI_clamp (show k + 1 < 2 ^ 31 by omega), ixOk_nI (show k + 2 < L by omega) (by omega), nI_clamp (show k + 2 < 2 ^ 31 by omega), ixOk_nI (show k + 3 < L by omega) (by omega), nI_clamp (show k + 3 < 2 ^ 31 by omega), ixOk_nI (show k + 4 < L by omega) (by omega), nI_clamp (show k + 4 < 2 ^ 31 by omega), ixOk_nI (show k + 5 < L by omega) (by omega), nI_clamp (show k + 5 < 2 ^ 31 by omega), e1, e2, decide_true, Bool.true_and, Bool.and_true, if_true, Option.bind_some]
def lc_15 (K : Int32 → zM → Option (Int32 × zM)) (x3 : Int32) (h : zM) : Option (Int32 × zM) := (if (true && (true && (true && (ixOk (slM h) (x3 + 2) && (true && (ixOk (slM h) (x3 + 1) && true)))))) = true then ((f_X10_told (rI h 19 0 (Int32.toNatClampNeg (x3 + 1))) (rI h 19 0 (Int32.toNatClampNeg (x3 + 2))) h).bind fun q816 => (if (true && (true && (true && (ixOk (slM q816.2) (x3 + 2) && (true && (ixOk (slM q816.2) (x3 + 1) && true)))))) = true then ((f_X11_told (rI q816.2 19 0 (Int32.toNatClampNeg (x3 + 1))) (rI q816.2 19 0 (Int32.toNatClampNeg (x3 + 2))) q816.2).bind fun q830 => (if q816.1 = q830.1 then (f_L_law_1588 K x3 q830.2) else (some (0, q830.2)))) else none)) else none)
theorem lk_15 {h : zM} {np n L k : Nat} {K : Int32 → zM → Option (Int32 × zM)} (hI : Inv h np n) (hs : slM h = L) (hk : k + 6 ≤ L) (hL : L ≤ 3072) : Nx K k h (lc_15 K (nI k) h) := by
  obtain ⟨a, h1, h2, e1, e2, s1, s2, i, nc, ns⟩ := op_told hI (rI h 19 0 (k + 1)) (rI h 19 0 (k + 2))
  refine ⟨h2, ?_, i, s2, nc, ns⟩
  unfold lc_15 f_L_law_1588
  simp -implicitDefEqProofs only [nI_1, p2, p3, p4, p5, p6, hs, s1.1, s1.2, ixOk_nI (show k + 1 < L by omega) (by omega), nI_clamp (show k + 1 < 2 ^ 31 by omega), ixOk_nI (show k + 2 < L by omega) (by omega), nI_clamp (show k + 2 < 2 ^ 31 by omega), ixOk_nI (show k + 3 < L by omega) (by omega), nI_clamp (show k + 3 < 2 ^ 31 by omega), ixOk_nI (show k + 4 < L by omega) (by omega), nI_clamp (show k + 4 < 2 ^ 31 by omega), ixOk_nI (show k + 5 < L by omega) (by omega), nI_clamp (show k + 5 < 2 ^ 31 by omega), e1, e2, decide_true, Bool.true_and, Bool.and_true, if_true, Option.bind_some]
def lc_16 (K : Int32 → zM → Option (Int32 × zM)) (x3 : Int32) (h : zM) : Option (Int32 × zM) := (if (true && (true && (true && (ixOk (slM h) (x3 + 2) && (true && (ixOk (slM h) (x3 + 1) && true)))))) = true then ((f_X10_tells (rI h 19 0 (Int32.toNatClampNeg (x3 + 1))) (rI h 19 0 (Int32.toNatClampNeg (x3 + 2))) h).bind fun q849 => (if (true && (true && (true && (ixOk (slM q849.2) (x3 + 2) && (true && (ixOk (slM q849.2) (x3 + 1) && true)))))) = true then ((f_X11_tells (rI q849.2 19 0 (Int32.toNatClampNeg (x3 + 1))) (rI q849.2 19 0 (Int32.toNatClampNeg (x3 + 2))) q849.2).bind fun q863 => (if q849.1 = q863.1 then (f_L_law_1588 K x3 q863.2) else (some (0, q863.2)))) else none)) else none)
theorem lk_16 {h : zM} {np n L k : Nat} {K : Int32 → zM → Option (Int32 × zM)} (hI : Inv h np n) (hs : slM h = L) (hk : k + 6 ≤ L) (hL : L ≤ 3072) : Nx K k h (lc_16 K (nI k) h) := by
  obtain ⟨a, h1, h2, e1, e2, s1, s2, i, nc, ns⟩ := op_tells hI (rI h 19 0 (k + 1)) (rI h 19 0 (k + 2))
  refine ⟨h2, ?_, i, s2, nc, ns⟩
  unfold lc_16 f_L_law_1588
  simp -implicitDefEqProofs only [nI_1, p2, p3, p4, p5, p6, hs, s1.1, s1.2, ixOk_nI (show k + 1 < L by omega) (by omega), nI_clamp (show k + 1 < 2 ^ 31 by omega), ixOk_nI (show k + 2 < L by omega) (by omega), nI_clamp (show k + 2 < 2 ^ 31 by omega), ixOk_nI (show k + 3 < L by omega) (by omega), nI_clamp (show k + 3 < 2 ^ 31 by omega), ixOk_nI (show k + 4 < L by omega) (by omega), nI_clamp (show k + 4 < 2 ^ 31 by omega), ixOk_nI (show k + 5 < L by omega) (by omega), nI_clamp (show k + 5 < 2 ^ 31 by omega), e1, e2, decide_true, Bool.true_and, Bool.and_true, if_true, Option.bind_some]
def lc_17 (K : Int32 → zM → Option (Int32 × zM)) (x3 : Int32) (h : zM) : Option (Int32 × zM) := (if (true && (true && (true && (ixOk (slM h) (x3 + 2) && (true && (ixOk (slM h) (x3 + 1) && true)))))) = true then ((f_X10_about (rI h 19 0 (Int32.toNatClampNeg (x3 + 1))) (rI h 19 0 (Int32.toNatClampNeg (x3 + 2))) h).bind fun q882 => (if (true && (true && (true && (ixOk (slM q882.2) (x3 + 2) && (true && (ixOk (slM q882.2) (x3 + 1) && true)))))) = true then ((f_X11_about (rI q882.2 19 0 (Int32.toNatClampNeg (x3 + 1))) (rI q882.2 19 0 (Int32.toNatClampNeg (x3 + 2))) q882.2).bind fun q896 => (if q882.1 = q896.1 then (f_L_law_1588 K x3 q896.2) else (some (0, q896.2)))) else none)) else none)
theorem lk_17 {h : zM} {np n L k : Nat} {K : Int32 → zM → Option (Int32 × zM)} (hI : Inv h np n) (hs : slM h = L) (hk : k + 6 ≤ L) (hL : L ≤ 3072) : Nx K k h (lc_17 K (nI k) h) := by
  obtain ⟨a, h1, h2, e1, e2, s1, s2, i, nc, ns⟩ := op_about hI (rI h 19 0 (k + 1)) (rI h 19 0 (k + 2))
  refine ⟨h2, ?_, i, s2, nc, ns⟩
  unfold lc_17 f_L_law_1588
  simp -implicitDefEqProofs only [nI_1, p2, p3, p4, p5, p6, hs, s1.1, s1.2, ixOk_nI (show k + 1 < L by omega) (by omega), nI_clamp (show k + 1 < 2 ^ 31 by omega), ixOk_nI (show k + 2 < L by omega) (by omega), nI_clamp (show k + 2 < 2 ^ 31 by omega), ixOk_nI (show k + 3 < L by omega) (by omega), nI_clamp (show k + 3 < 2 ^ 31 by omega), ixOk_nI (show k + 4 < L by omega) (by omega), nI_clamp (show k + 4 < 2 ^ 31 by omega), ixOk_nI (show k + 5 < L by omega) (by omega), nI_clamp (show k + 5 < 2 ^ 31 by omega), e1, e2, decide_true, Bool.true_and, Bool.and_true, if_true, Option.bind_some]
def lc_18 (K : Int32 → zM → Option (Int32 × zM)) (x3 : Int32) (h : zM) : Option (Int32 × zM) := (if (true && (ixOk (slM h) (x3 + 2) && (true && (ixOk (slM h) (x3 + 1) && true)))) = true then (if (rI h 19 0 (Int32.toNatClampNeg (x3 + 2))) = 0 then (f_L_law_923 K x3 (rI h 19 0 (Int32.toNatClampNeg (x3 + 1))) 0 h) else (f_L_law_923 K x3 (rI h 19 0 (Int32.toNatClampNeg (x3 + 1))) 1 h)) else none)
theorem lk_18 {h : zM} {np n L k : Nat} {K : Int32 → zM → Option (Int32 × zM)} (hI : Inv h np n) (hs : slM h = L) (hk : k + 6 ≤ L) (hL : L ≤ 3072) : Nx K k h (lc_18 K (nI k) h) := by
  by_cases z : rI h 19 0 (k + 2) = 0
  · obtain ⟨a, h1, h2, e1, e2, s1, s2, i, nc, ns⟩ := op_fault hI (rI h 19 0 (k + 1)) 0 (Or.inl rfl)
    refine ⟨h2, ?_, i, s2, nc, ns⟩
    unfold lc_18 f_L_law_923 f_L_law_945 f_L_law_1588
    simp -implicitDefEqProofs only [nI_1, p2, p3, p4, p5, p6, hs, s1.1, s1.2, ixOk_nI (show k + 1 < L by omega) (by omega), nI_clamp (show k + 1 < 2 ^ 31 by omega), ixOk_nI (show k + 2 < L by omega) (by omega), nI_clamp (show k + 2 < 2 ^ 31 by omega), ixOk_nI (show k + 3 < L by omega) (by omega), nI_clamp (show k + 3 < 2 ^ 31 by omega), ixOk_nI (show k + 4 < L by omega) (by omega), nI_clamp (show k + 4 < 2 ^ 31 by omega), ixOk_nI (show k + 5 < L by omega) (by omega), nI_clamp (show k + 5 < 2 ^ 31 by omega), e1, e2, decide_true, Bool.true_and, Bool.and_true, if_true, Option.bind_some, z]
  · obtain ⟨a, h1, h2, e1, e2, s1, s2, i, nc, ns⟩ := op_fault hI (rI h 19 0 (k + 1)) 1 (Or.inr rfl)
    refine ⟨h2, ?_, i, s2, nc, ns⟩
    unfold lc_18 f_L_law_923 f_L_law_945 f_L_law_1588
    simp -implicitDefEqProofs only [nI_1, p2, p3, p4, p5, p6, hs, s1.1, s1.2, ixOk_nI (show k + 1 < L by omega) (by omega), nI_clamp (show k + 1 < 2 ^ 31 by omega), ixOk_nI (show k + 2 < L by omega) (by omega), nI_clamp (show k + 2 < 2 ^ 31 by omega), ixOk_nI (show k + 3 < L by omega) (by omega), nI_clamp (show k + 3 < 2 ^ 31 by omega), ixOk_nI (show k + 4 < L by omega) (by omega), nI_clamp (show k + 4 < 2 ^ 31 by omega), ixOk_nI (show k + 5 < L by omega) (by omega), nI_clamp (show k + 5 < 2 ^ 31 by omega), e1, e2, decide_true, Bool.true_and, Bool.and_true, if_true, Option.bind_some, z, if_false]
def lc_19 (K : Int32 → zM → Option (Int32 × zM)) (x3 : Int32) (h : zM) : Option (Int32 × zM) := (if (true && (true && (true && (ixOk (slM h) (x3 + 2) && (true && (ixOk (slM h) (x3 + 1) && true)))))) = true then ((f_X10_laws (rI h 19 0 (Int32.toNatClampNeg (x3 + 1))) (rI h 19 0 (Int32.toNatClampNeg (x3 + 2))) h).bind fun q964 => (if (true && (true && (true && (ixOk (slM q964.2) (x3 + 2) && (true && (ixOk (slM q964.2) (x3 + 1) && true)))))) = true then ((f_X11_laws (rI q964.2 19 0 (Int32.toNatClampNeg (x3 + 1))) (rI q964.2 19 0 (Int32.toNatClampNeg (x3 + 2))) q964.2).bind fun q978 => (if q964.1 = q978.1 then (f_L_law_1588 K x3 q978.2) else (some (0, q978.2)))) else none)) else none)
theorem lk_19 {h : zM} {np n L k : Nat} {K : Int32 → zM → Option (Int32 × zM)} (hI : Inv h np n) (hs : slM h = L) (hk : k + 6 ≤ L) (hL : L ≤ 3072) : Nx K k h (lc_19 K (nI k) h) := by
  obtain ⟨a, h1, h2, e1, e2, s1, s2, i, nc, ns⟩ := op_laws hI (rI h 19 0 (k + 1)) (rI h 19 0 (k + 2))
  refine ⟨h2, ?_, i, s2, nc, ns⟩
  unfold lc_19 f_L_law_1588
  simp -implicitDefEqProofs only [nI_1, p2, p3, p4, p5, p6, hs, s1.1, s1.2, ixOk_nI (show k + 1 < L by omega) (by omega), nI_clamp (show k + 1 < 2 ^ 31 by omega), ixOk_nI (show k + 2 < L by omega) (by omega), nI_clamp (show k + 2 < 2 ^ 31 by omega), ixOk_nI (show k + 3 < L by omega) (by omega), nI_clamp (show k + 3 < 2 ^ 31 by omega), ixOk_nI (show k + 4 < L by omega) (by omega), nI_clamp (show k + 4 < 2 ^ 31 by omega), ixOk_nI (show k + 5 < L by omega) (by omega), nI_clamp (show k + 5 < 2 ^ 31 by omega), e1, e2, decide_true, Bool.true_and, Bool.and_true, if_true, Option.bind_some]
def lc_20 (K : Int32 → zM → Option (Int32 × zM)) (x3 : Int32) (h : zM) : Option (Int32 × zM) := (if (true && (true && (true && (ixOk (slM h) (x3 + 2) && (true && (ixOk (slM h) (x3 + 1) && true)))))) = true then ((f_X10_number (rI h 19 0 (Int32.toNatClampNeg (x3 + 1))) (rI h 19 0 (Int32.toNatClampNeg (x3 + 2))) h).bind fun q997 => (if (true && (true && (true && (ixOk (slM q997.2) (x3 + 2) && (true && (ixOk (slM q997.2) (x3 + 1) && true)))))) = true then ((f_X11_number (rI q997.2 19 0 (Int32.toNatClampNeg (x3 + 1))) (rI q997.2 19 0 (Int32.toNatClampNeg (x3 + 2))) q997.2).bind fun q1011 => (if q997.1 = q1011.1 then (f_L_law_1588 K x3 q1011.2) else (some (0, q1011.2)))) else none)) else none)
theorem lk_20 {h : zM} {np n L k : Nat} {K : Int32 → zM → Option (Int32 × zM)} (hI : Inv h np n) (hs : slM h = L) (hk : k + 6 ≤ L) (hL : L ≤ 3072) : Nx K k h (lc_20 K (nI k) h) := by
  obtain ⟨a, h1, h2, e1, e2, s1, s2, i, nc, ns⟩ := op_number hI (rI h 19 0 (k + 1)) (rI h 19 0 (k + 2))
  refine ⟨h2, ?_, i, s2, nc, ns⟩
  unfold lc_20 f_L_law_1588
  simp -implicitDefEqProofs only [nI_1, p2, p3, p4, p5, p6, hs, s1.1, s1.2, ixOk_nI (show k + 1 < L by omega) (by omega), nI_clamp (show k + 1 < 2 ^ 31 by omega), ixOk_nI (show k + 2 < L by omega) (by omega), nI_clamp (show k + 2 < 2 ^ 31 by omega), ixOk_nI (show k + 3 < L by omega) (by omega), nI_clamp (show k + 3 < 2 ^ 31 by omega), ixOk_nI (show k + 4 < L by omega) (by omega), nI_clamp (show k + 4 < 2 ^ 31 by omega), ixOk_nI (show k + 5 < L by omega) (by omega), nI_clamp (show k + 5 < 2 ^ 31 by omega), e1, e2, decide_true, Bool.true_and, Bool.and_true, if_true, Option.bind_some]
def lc_21 (K : Int32 → zM → Option (Int32 × zM)) (x3 : Int32) (h : zM) : Option (Int32 × zM) := (if (true && (true && (true && (ixOk (slM h) (x3 + 2) && (true && (ixOk (slM h) (x3 + 1) && true)))))) = true then ((f_X10_gives (rI h 19 0 (Int32.toNatClampNeg (x3 + 1))) (rI h 19 0 (Int32.toNatClampNeg (x3 + 2))) h).bind fun q1030 => (if (true && (true && (true && (ixOk (slM q1030.2) (x3 + 2) && (true && (ixOk (slM q1030.2) (x3 + 1) && true)))))) = true then ((f_X11_gives (rI q1030.2 19 0 (Int32.toNatClampNeg (x3 + 1))) (rI q1030.2 19 0 (Int32.toNatClampNeg (x3 + 2))) q1030.2).bind fun q1044 => (if q1030.1 = q1044.1 then (f_L_law_1588 K x3 q1044.2) else (some (0, q1044.2)))) else none)) else none)
theorem lk_21 {h : zM} {np n L k : Nat} {K : Int32 → zM → Option (Int32 × zM)} (hI : Inv h np n) (hs : slM h = L) (hk : k + 6 ≤ L) (hL : L ≤ 3072) : Nx K k h (lc_21 K (nI k) h) := by
  obtain ⟨a, h1, h2, e1, e2, s1, s2, i, nc, ns⟩ := op_gives hI (rI h 19 0 (k + 1)) (rI h 19 0 (k + 2))
  refine ⟨h2, ?_, i, s2, nc, ns⟩
  unfold lc_21 f_L_law_1588
  simp -implicitDefEqProofs only [nI_1, p2, p3, p4, p5, p6, hs, s1.1, s1.2, ixOk_nI (show k + 1 < L by omega) (by omega), nI_clamp (show k + 1 < 2 ^ 31 by omega), ixOk_nI (show k + 2 < L by omega) (by omega), nI_clamp (show k + 2 < 2 ^ 31 by omega), ixOk_nI (show k + 3 < L by omega) (by omega), nI_clamp (show k + 3 < 2 ^ 31 by omega), ixOk_nI (show k + 4 < L by omega) (by omega), nI_clamp (show k + 4 < 2 ^ 31 by omega), ixOk_nI (show k + 5 < L by omega) (by omega), nI_clamp (show k + 5 < 2 ^ 31 by omega), e1, e2, decide_true, Bool.true_and, Bool.and_true, if_true, Option.bind_some]
def lc_22 (K : Int32 → zM → Option (Int32 × zM)) (x3 : Int32) (h : zM) : Option (Int32 × zM) := (if (true && (true && (true && (ixOk (slM h) (x3 + 2) && (true && (ixOk (slM h) (x3 + 1) && true)))))) = true then ((f_X10_home (rI h 19 0 (Int32.toNatClampNeg (x3 + 1))) (rI h 19 0 (Int32.toNatClampNeg (x3 + 2))) h).bind fun q1063 => (if (true && (true && (true && (ixOk (slM q1063.2) (x3 + 2) && (true && (ixOk (slM q1063.2) (x3 + 1) && true)))))) = true then ((f_X11_home (rI q1063.2 19 0 (Int32.toNatClampNeg (x3 + 1))) (rI q1063.2 19 0 (Int32.toNatClampNeg (x3 + 2))) q1063.2).bind fun q1077 => (if q1063.1 = q1077.1 then (f_L_law_1588 K x3 q1077.2) else (some (0, q1077.2)))) else none)) else none)
theorem lk_22 {h : zM} {np n L k : Nat} {K : Int32 → zM → Option (Int32 × zM)} (hI : Inv h np n) (hs : slM h = L) (hk : k + 6 ≤ L) (hL : L ≤ 3072) : Nx K k h (lc_22 K (nI k) h) := by
  obtain ⟨a, h1, h2, e1, e2, s1, s2, i, nc, ns⟩ := op_home hI (rI h 19 0 (k + 1)) (rI h 19 0 (k + 2))
  refine ⟨h2, ?_, i, s2, nc, ns⟩
  unfold lc_22 f_L_law_1588
  simp -implicitDefEqProofs only [nI_1, p2, p3, p4, p5, p6, hs, s1.1, s1.2, ixOk_nI (show k + 1 < L by omega) (by omega), nI_clamp (show k + 1 < 2 ^ 31 by omega), ixOk_nI (show k + 2 < L by omega) (by omega), nI_clamp (show k + 2 < 2 ^ 31 by omega), ixOk_nI (show k + 3 < L by omega) (by omega), nI_clamp (show k + 3 < 2 ^ 31 by omega), ixOk_nI (show k + 4 < L by omega) (by omega), nI_clamp (show k + 4 < 2 ^ 31 by omega), ixOk_nI (show k + 5 < L by omega) (by omega), nI_clamp (show k + 5 < 2 ^ 31 by omega), e1, e2, decide_true, Bool.true_and, Bool.and_true, if_true, Option.bind_some]
def lc_23 (K : Int32 → zM → Option (Int32 × zM)) (x3 : Int32) (h : zM) : Option (Int32 × zM) := (if (true && (true && (true && (ixOk (slM h) (x3 + 2) && (true && (ixOk (slM h) (x3 + 1) && true)))))) = true then ((f_X10_span (rI h 19 0 (Int32.toNatClampNeg (x3 + 1))) (rI h 19 0 (Int32.toNatClampNeg (x3 + 2))) h).bind fun q1096 => (if (true && (true && (true && (ixOk (slM q1096.2) (x3 + 2) && (true && (ixOk (slM q1096.2) (x3 + 1) && true)))))) = true then ((f_X11_span (rI q1096.2 19 0 (Int32.toNatClampNeg (x3 + 1))) (rI q1096.2 19 0 (Int32.toNatClampNeg (x3 + 2))) q1096.2).bind fun q1110 => (if q1096.1 = q1110.1 then (f_L_law_1588 K x3 q1110.2) else (some (0, q1110.2)))) else none)) else none)
theorem lk_23 {h : zM} {np n L k : Nat} {K : Int32 → zM → Option (Int32 × zM)} (hI : Inv h np n) (hs : slM h = L) (hk : k + 6 ≤ L) (hL : L ≤ 3072) : Nx K k h (lc_23 K (nI k) h) := by
  obtain ⟨a, h1, h2, e1, e2, s1, s2, i, nc, ns⟩ := op_span hI (rI h 19 0 (k + 1)) (rI h 19 0 (k + 2))
  refine ⟨h2, ?_, i, s2, nc, ns⟩
  unfold lc_23 f_L_law_1588
  simp -implicitDefEqProofs only [nI_1, p2, p3, p4, p5, p6, hs, s1.1, s1.2, ixOk_nI (show k + 1 < L by omega) (by omega), nI_clamp (show k + 1 < 2 ^ 31 by omega), ixOk_nI (show k + 2 < L by omega) (by omega), nI_clamp (show k + 2 < 2 ^ 31 by omega), ixOk_nI (show k + 3 < L by omega) (by omega), nI_clamp (show k + 3 < 2 ^ 31 by omega), ixOk_nI (show k + 4 < L by omega) (by omega), nI_clamp (show k + 4 < 2 ^ 31 by omega), ixOk_nI (show k + 5 < L by omega) (by omega), nI_clamp (show k + 5 < 2 ^ 31 by omega), e1, e2, decide_true, Bool.true_and, Bool.and_true, if_true, Option.bind_some]
def lc_24 (K : Int32 → zM → Option (Int32 × zM)) (x3 : Int32) (h : zM) : Option (Int32 × zM) := (if (true && (true && (true && (ixOk (slM h) (x3 + 3) && (true && (ixOk (slM h) (x3 + 2) && (true && (ixOk (slM h) (x3 + 1) && true)))))))) = true then ((f_X10_sure (rI h 19 0 (Int32.toNatClampNeg (x3 + 1))) (rI h 19 0 (Int32.toNatClampNeg (x3 + 2))) (rI h 19 0 (Int32.toNatClampNeg (x3 + 3))) h).bind fun q1134 => (if (true && (true && (true && (ixOk (slM q1134.2) (x3 + 3) && (true && (ixOk (slM q1134.2) (x3 + 2) && (true && (ixOk (slM q1134.2) (x3 + 1) && true)))))))) = true then ((f_X11_sure (rI q1134.2 19 0 (Int32.toNatClampNeg (x3 + 1))) (rI q1134.2 19 0 (Int32.toNatClampNeg (x3 + 2))) (rI q1134.2 19 0 (Int32.toNatClampNeg (x3 + 3))) q1134.2).bind fun q1153 => (if q1134.1 = q1153.1 then (f_L_law_1588 K x3 q1153.2) else (some (0, q1153.2)))) else none)) else none)
theorem lk_24 {h : zM} {np n L k : Nat} {K : Int32 → zM → Option (Int32 × zM)} (hI : Inv h np n) (hs : slM h = L) (hk : k + 6 ≤ L) (hL : L ≤ 3072) : Nx K k h (lc_24 K (nI k) h) := by
  obtain ⟨a, h1, h2, e1, e2, s1, s2, i, nc, ns⟩ := op_sure hI (rI h 19 0 (k + 1)) (rI h 19 0 (k + 2)) (rI h 19 0 (k + 3))
  refine ⟨h2, ?_, i, s2, nc, ns⟩
  unfold lc_24 f_L_law_1588
  simp -implicitDefEqProofs only [nI_1, p2, p3, p4, p5, p6, hs, s1.1, s1.2, ixOk_nI (show k + 1 < L by omega) (by omega), nI_clamp (show k + 1 < 2 ^ 31 by omega), ixOk_nI (show k + 2 < L by omega) (by omega), nI_clamp (show k + 2 < 2 ^ 31 by omega), ixOk_nI (show k + 3 < L by omega) (by omega), nI_clamp (show k + 3 < 2 ^ 31 by omega), ixOk_nI (show k + 4 < L by omega) (by omega), nI_clamp (show k + 4 < 2 ^ 31 by omega), ixOk_nI (show k + 5 < L by omega) (by omega), nI_clamp (show k + 5 < 2 ^ 31 by omega), e1, e2, decide_true, Bool.true_and, Bool.and_true, if_true, Option.bind_some]
def lc_25 (K : Int32 → zM → Option (Int32 × zM)) (x3 : Int32) (h : zM) : Option (Int32 × zM) := (if (true && (true && (true && (ixOk (slM h) (x3 + 2) && (true && (ixOk (slM h) (x3 + 1) && true)))))) = true then ((f_X10_turns (rI h 19 0 (Int32.toNatClampNeg (x3 + 1))) (rI h 19 0 (Int32.toNatClampNeg (x3 + 2))) h).bind fun q1172 => (if (true && (true && (true && (ixOk (slM q1172.2) (x3 + 2) && (true && (ixOk (slM q1172.2) (x3 + 1) && true)))))) = true then ((f_X11_turns (rI q1172.2 19 0 (Int32.toNatClampNeg (x3 + 1))) (rI q1172.2 19 0 (Int32.toNatClampNeg (x3 + 2))) q1172.2).bind fun q1186 => (if q1172.1 = q1186.1 then (f_L_law_1588 K x3 q1186.2) else (some (0, q1186.2)))) else none)) else none)
theorem lk_25 {h : zM} {np n L k : Nat} {K : Int32 → zM → Option (Int32 × zM)} (hI : Inv h np n) (hs : slM h = L) (hk : k + 6 ≤ L) (hL : L ≤ 3072) : Nx K k h (lc_25 K (nI k) h) := by
  obtain ⟨a, h1, h2, e1, e2, s1, s2, i, nc, ns⟩ := op_turns hI (rI h 19 0 (k + 1)) (rI h 19 0 (k + 2))
  refine ⟨h2, ?_, i, s2, nc, ns⟩
  unfold lc_25 f_L_law_1588
  simp -implicitDefEqProofs only [nI_1, p2, p3, p4, p5, p6, hs, s1.1, s1.2, ixOk_nI (show k + 1 < L by omega) (by omega), nI_clamp (show k + 1 < 2 ^ 31 by omega), ixOk_nI (show k + 2 < L by omega) (by omega), nI_clamp (show k + 2 < 2 ^ 31 by omega), ixOk_nI (show k + 3 < L by omega) (by omega), nI_clamp (show k + 3 < 2 ^ 31 by omega), ixOk_nI (show k + 4 < L by omega) (by omega), nI_clamp (show k + 4 < 2 ^ 31 by omega), ixOk_nI (show k + 5 < L by omega) (by omega), nI_clamp (show k + 5 < 2 ^ 31 by omega), e1, e2, decide_true, Bool.true_and, Bool.and_true, if_true, Option.bind_some]
def lc_26 (K : Int32 → zM → Option (Int32 × zM)) (x3 : Int32) (h : zM) : Option (Int32 × zM) := (if (true && (true && (true && (ixOk (slM h) (x3 + 1) && true)))) = true then ((f_X10_pairs (rI h 19 0 (Int32.toNatClampNeg (x3 + 1))) h).bind fun q1200 => (if (true && (true && (true && (ixOk (slM q1200.2) (x3 + 1) && true)))) = true then ((f_X11_pairs (rI q1200.2 19 0 (Int32.toNatClampNeg (x3 + 1))) q1200.2).bind fun q1209 => (if q1200.1 = q1209.1 then (f_L_law_1588 K x3 q1209.2) else (some (0, q1209.2)))) else none)) else none)
theorem lk_26 {h : zM} {np n L k : Nat} {K : Int32 → zM → Option (Int32 × zM)} (hI : Inv h np n) (hs : slM h = L) (hk : k + 6 ≤ L) (hL : L ≤ 3072) : Nx K k h (lc_26 K (nI k) h) := by
  obtain ⟨a, h1, h2, e1, e2, s1, s2, i, nc, ns⟩ := op_pairs hI (rI h 19 0 (k + 1))
  refine ⟨h2, ?_, i, s2, nc, ns⟩
  unfold lc_26 f_L_law_1588
  simp -implicitDefEqProofs only [nI_1, p2, p3, p4, p5, p6, hs, s1.1, s1.2, ixOk_nI (show k + 1 < L by omega) (by omega), nI_clamp (show k + 1 < 2 ^ 31 by omega), ixOk_nI (show k + 2 < L by omega) (by omega), nI_clamp (show k + 2 < 2 ^ 31 by omega), ixOk_nI (show k + 3 < L by omega) (by omega), nI_clamp (show k + 3 < 2 ^ 31 by omega), ixOk_nI (show k + 4 < L by omega) (by omega), nI_clamp (show k + 4 < 2 ^ 31 by omega), ixOk_nI (show k + 5 < L by omega) (by omega), nI_clamp (show k + 5 < 2 ^ 31 by omega), e1, e2, decide_true, Bool.true_and, Bool.and_true, if_true, Option.bind_some]
def lc_27 (K : Int32 → zM → Option (Int32 × zM)) (x3 : Int32) (h : zM) : Option (Int32 × zM) := (if (true && (true && (true && (ixOk (slM h) (x3 + 1) && true)))) = true then ((f_X10_learn (rI h 19 0 (Int32.toNatClampNeg (x3 + 1))) h).bind fun q1223 => (if (true && (true && (true && (ixOk (slM q1223.2) (x3 + 1) && true)))) = true then ((f_X11_learn (rI q1223.2 19 0 (Int32.toNatClampNeg (x3 + 1))) q1223.2).bind fun q1232 => (if q1223.1 = q1232.1 then (f_L_law_1588 K x3 q1232.2) else (some (0, q1232.2)))) else none)) else none)
theorem lk_27 {h : zM} {np n L k : Nat} {K : Int32 → zM → Option (Int32 × zM)} (hI : Inv h np n) (hs : slM h = L) (hk : k + 6 ≤ L) (hL : L ≤ 3072) : Nx K k h (lc_27 K (nI k) h) := by
  obtain ⟨a, h1, h2, e1, e2, s1, s2, i, nc, ns⟩ := op_learn hI (rI h 19 0 (k + 1))
  refine ⟨h2, ?_, i, s2, nc, ns⟩
  unfold lc_27 f_L_law_1588
  simp -implicitDefEqProofs only [nI_1, p2, p3, p4, p5, p6, hs, s1.1, s1.2, ixOk_nI (show k + 1 < L by omega) (by omega), nI_clamp (show k + 1 < 2 ^ 31 by omega), ixOk_nI (show k + 2 < L by omega) (by omega), nI_clamp (show k + 2 < 2 ^ 31 by omega), ixOk_nI (show k + 3 < L by omega) (by omega), nI_clamp (show k + 3 < 2 ^ 31 by omega), ixOk_nI (show k + 4 < L by omega) (by omega), nI_clamp (show k + 4 < 2 ^ 31 by omega), ixOk_nI (show k + 5 < L by omega) (by omega), nI_clamp (show k + 5 < 2 ^ 31 by omega), e1, e2, decide_true, Bool.true_and, Bool.and_true, if_true, Option.bind_some]
def lc_28 (K : Int32 → zM → Option (Int32 × zM)) (x3 : Int32) (h : zM) : Option (Int32 × zM) := (if (true && (true && (true && (ixOk (slM h) (x3 + 1) && true)))) = true then ((f_X10_just (rI h 19 0 (Int32.toNatClampNeg (x3 + 1))) h).bind fun q1246 => (if (true && (true && (true && (ixOk (slM q1246.2) (x3 + 1) && true)))) = true then ((f_X11_just (rI q1246.2 19 0 (Int32.toNatClampNeg (x3 + 1))) q1246.2).bind fun q1255 => (if q1246.1 = q1255.1 then (f_L_law_1588 K x3 q1255.2) else (some (0, q1255.2)))) else none)) else none)
theorem lk_28 {h : zM} {np n L k : Nat} {K : Int32 → zM → Option (Int32 × zM)} (hI : Inv h np n) (hs : slM h = L) (hk : k + 6 ≤ L) (hL : L ≤ 3072) : Nx K k h (lc_28 K (nI k) h) := by
  obtain ⟨a, h1, h2, e1, e2, s1, s2, i, nc, ns⟩ := op_just hI (rI h 19 0 (k + 1))
  refine ⟨h2, ?_, i, s2, nc, ns⟩
  unfold lc_28 f_L_law_1588
  simp -implicitDefEqProofs only [nI_1, p2, p3, p4, p5, p6, hs, s1.1, s1.2, ixOk_nI (show k + 1 < L by omega) (by omega), nI_clamp (show k + 1 < 2 ^ 31 by omega), ixOk_nI (show k + 2 < L by omega) (by omega), nI_clamp (show k + 2 < 2 ^ 31 by omega), ixOk_nI (show k + 3 < L by omega) (by omega), nI_clamp (show k + 3 < 2 ^ 31 by omega), ixOk_nI (show k + 4 < L by omega) (by omega), nI_clamp (show k + 4 < 2 ^ 31 by omega), ixOk_nI (show k + 5 < L by omega) (by omega), nI_clamp (show k + 5 < 2 ^ 31 by omega), e1, e2, decide_true, Bool.true_and, Bool.and_true, if_true, Option.bind_some]
def lc_29 (K : Int32 → zM → Option (Int32 × zM)) (x3 : Int32) (h : zM) : Option (Int32 × zM) := (if (true && (true && (true && (ixOk (slM h) (x3 + 1) && true)))) = true then ((f_X10_list (rI h 19 0 (Int32.toNatClampNeg (x3 + 1))) h).bind fun q1269 => (if (true && (true && (true && (ixOk (slM q1269.2) (x3 + 1) && true)))) = true then ((f_X11_list (rI q1269.2 19 0 (Int32.toNatClampNeg (x3 + 1))) q1269.2).bind fun q1278 => (if q1269.1 = q1278.1 then (f_L_law_1588 K x3 q1278.2) else (some (0, q1278.2)))) else none)) else none)
theorem lk_29 {h : zM} {np n L k : Nat} {K : Int32 → zM → Option (Int32 × zM)} (hI : Inv h np n) (hs : slM h = L) (hk : k + 6 ≤ L) (hL : L ≤ 3072) : Nx K k h (lc_29 K (nI k) h) := by
  obtain ⟨a, h1, h2, e1, e2, s1, s2, i, nc, ns⟩ := op_list hI (rI h 19 0 (k + 1))
  refine ⟨h2, ?_, i, s2, nc, ns⟩
  unfold lc_29 f_L_law_1588
  simp -implicitDefEqProofs only [nI_1, p2, p3, p4, p5, p6, hs, s1.1, s1.2, ixOk_nI (show k + 1 < L by omega) (by omega), nI_clamp (show k + 1 < 2 ^ 31 by omega), ixOk_nI (show k + 2 < L by omega) (by omega), nI_clamp (show k + 2 < 2 ^ 31 by omega), ixOk_nI (show k + 3 < L by omega) (by omega), nI_clamp (show k + 3 < 2 ^ 31 by omega), ixOk_nI (show k + 4 < L by omega) (by omega), nI_clamp (show k + 4 < 2 ^ 31 by omega), ixOk_nI (show k + 5 < L by omega) (by omega), nI_clamp (show k + 5 < 2 ^ 31 by omega), e1, e2, decide_true, Bool.true_and, Bool.and_true, if_true, Option.bind_some]
def lc_30 (K : Int32 → zM → Option (Int32 × zM)) (x3 : Int32) (h : zM) : Option (Int32 × zM) := (if (true && (true && (true && (ixOk (slM h) (x3 + 2) && (true && (ixOk (slM h) (x3 + 1) && true)))))) = true then ((f_X10_listed (rI h 19 0 (Int32.toNatClampNeg (x3 + 1))) (rI h 19 0 (Int32.toNatClampNeg (x3 + 2))) h).bind fun q1297 => (if (true && (true && (true && (ixOk (slM q1297.2) (x3 + 2) && (true && (ixOk (slM q1297.2) (x3 + 1) && true)))))) = true then ((f_X11_listed (rI q1297.2 19 0 (Int32.toNatClampNeg (x3 + 1))) (rI q1297.2 19 0 (Int32.toNatClampNeg (x3 + 2))) q1297.2).bind fun q1311 => (if q1297.1 = q1311.1 then (f_L_law_1588 K x3 q1311.2) else (some (0, q1311.2)))) else none)) else none)
theorem lk_30 {h : zM} {np n L k : Nat} {K : Int32 → zM → Option (Int32 × zM)} (hI : Inv h np n) (hs : slM h = L) (hk : k + 6 ≤ L) (hL : L ≤ 3072) : Nx K k h (lc_30 K (nI k) h) := by
  obtain ⟨a, h1, h2, e1, e2, s1, s2, i, nc, ns⟩ := op_listed hI (rI h 19 0 (k + 1)) (rI h 19 0 (k + 2))
  refine ⟨h2, ?_, i, s2, nc, ns⟩
  unfold lc_30 f_L_law_1588
  simp -implicitDefEqProofs only [nI_1, p2, p3, p4, p5, p6, hs, s1.1, s1.2, ixOk_nI (show k + 1 < L by omega) (by omega), nI_clamp (show k + 1 < 2 ^ 31 by omega), ixOk_nI (show k + 2 < L by omega) (by omega), nI_clamp (show k + 2 < 2 ^ 31 by omega), ixOk_nI (show k + 3 < L by omega) (by omega), nI_clamp (show k + 3 < 2 ^ 31 by omega), ixOk_nI (show k + 4 < L by omega) (by omega), nI_clamp (show k + 4 < 2 ^ 31 by omega), ixOk_nI (show k + 5 < L by omega) (by omega), nI_clamp (show k + 5 < 2 ^ 31 by omega), e1, e2, decide_true, Bool.true_and, Bool.and_true, if_true, Option.bind_some]
def lc_31 (K : Int32 → zM → Option (Int32 × zM)) (x3 : Int32) (h : zM) : Option (Int32 × zM) := (if (true && (true && (true && (ixOk (slM h) (x3 + 2) && (true && (ixOk (slM h) (x3 + 1) && true)))))) = true then ((f_X10_gains (rI h 19 0 (Int32.toNatClampNeg (x3 + 1))) (rI h 19 0 (Int32.toNatClampNeg (x3 + 2))) h).bind fun q1330 => (if (true && (true && (true && (ixOk (slM q1330.2) (x3 + 2) && (true && (ixOk (slM q1330.2) (x3 + 1) && true)))))) = true then ((f_X11_gains (rI q1330.2 19 0 (Int32.toNatClampNeg (x3 + 1))) (rI q1330.2 19 0 (Int32.toNatClampNeg (x3 + 2))) q1330.2).bind fun q1344 => (if q1330.1 = q1344.1 then (f_L_law_1588 K x3 q1344.2) else (some (0, q1344.2)))) else none)) else none)
theorem lk_31 {h : zM} {np n L k : Nat} {K : Int32 → zM → Option (Int32 × zM)} (hI : Inv h np n) (hs : slM h = L) (hk : k + 6 ≤ L) (hL : L ≤ 3072) : Nx K k h (lc_31 K (nI k) h) := by
  obtain ⟨a, h1, h2, e1, e2, s1, s2, i, nc, ns⟩ := op_gains hI (rI h 19 0 (k + 1)) (rI h 19 0 (k + 2))
  refine ⟨h2, ?_, i, s2, nc, ns⟩
  unfold lc_31 f_L_law_1588
  simp -implicitDefEqProofs only [nI_1, p2, p3, p4, p5, p6, hs, s1.1, s1.2, ixOk_nI (show k + 1 < L by omega) (by omega), nI_clamp (show k + 1 < 2 ^ 31 by omega), ixOk_nI (show k + 2 < L by omega) (by omega), nI_clamp (show k + 2 < 2 ^ 31 by omega), ixOk_nI (show k + 3 < L by omega) (by omega), nI_clamp (show k + 3 < 2 ^ 31 by omega), ixOk_nI (show k + 4 < L by omega) (by omega), nI_clamp (show k + 4 < 2 ^ 31 by omega), ixOk_nI (show k + 5 < L by omega) (by omega), nI_clamp (show k + 5 < 2 ^ 31 by omega), e1, e2, decide_true, Bool.true_and, Bool.and_true, if_true, Option.bind_some]
def lc_32 (K : Int32 → zM → Option (Int32 × zM)) (x3 : Int32) (h : zM) : Option (Int32 × zM) := (if (true && (true && (true && (ixOk (slM h) (x3 + 1) && true)))) = true then ((f_X10_far (rI h 19 0 (Int32.toNatClampNeg (x3 + 1))) h).bind fun q1358 => (if (true && (true && (true && (ixOk (slM q1358.2) (x3 + 1) && true)))) = true then ((f_X11_far (rI q1358.2 19 0 (Int32.toNatClampNeg (x3 + 1))) q1358.2).bind fun q1367 => (if q1358.1 = q1367.1 then (f_L_law_1588 K x3 q1367.2) else (some (0, q1367.2)))) else none)) else none)
theorem lk_32 {h : zM} {np n L k : Nat} {K : Int32 → zM → Option (Int32 × zM)} (hI : Inv h np n) (hs : slM h = L) (hk : k + 6 ≤ L) (hL : L ≤ 3072) : Nx K k h (lc_32 K (nI k) h) := by
  obtain ⟨a, h1, h2, e1, e2, s1, s2, i, nc, ns⟩ := op_far hI (rI h 19 0 (k + 1))
  refine ⟨h2, ?_, i, s2, nc, ns⟩
  unfold lc_32 f_L_law_1588
  simp -implicitDefEqProofs only [nI_1, p2, p3, p4, p5, p6, hs, s1.1, s1.2, ixOk_nI (show k + 1 < L by omega) (by omega), nI_clamp (show k + 1 < 2 ^ 31 by omega), ixOk_nI (show k + 2 < L by omega) (by omega), nI_clamp (show k + 2 < 2 ^ 31 by omega), ixOk_nI (show k + 3 < L by omega) (by omega), nI_clamp (show k + 3 < 2 ^ 31 by omega), ixOk_nI (show k + 4 < L by omega) (by omega), nI_clamp (show k + 4 < 2 ^ 31 by omega), ixOk_nI (show k + 5 < L by omega) (by omega), nI_clamp (show k + 5 < 2 ^ 31 by omega), e1, e2, decide_true, Bool.true_and, Bool.and_true, if_true, Option.bind_some]
def lc_33 (K : Int32 → zM → Option (Int32 × zM)) (x3 : Int32) (h : zM) : Option (Int32 × zM) := (if (true && (true && (true && (ixOk (slM h) (x3 + 2) && (true && (ixOk (slM h) (x3 + 1) && true)))))) = true then ((f_X10_fall (rI h 19 0 (Int32.toNatClampNeg (x3 + 1))) (rI h 19 0 (Int32.toNatClampNeg (x3 + 2))) h).bind fun q1386 => (if (true && (true && (true && (ixOk (slM q1386.2) (x3 + 2) && (true && (ixOk (slM q1386.2) (x3 + 1) && true)))))) = true then ((f_X11_fall (rI q1386.2 19 0 (Int32.toNatClampNeg (x3 + 1))) (rI q1386.2 19 0 (Int32.toNatClampNeg (x3 + 2))) q1386.2).bind fun q1400 => (if q1386.1 = q1400.1 then (f_L_law_1588 K x3 q1400.2) else (some (0, q1400.2)))) else none)) else none)
theorem lk_33 {h : zM} {np n L k : Nat} {K : Int32 → zM → Option (Int32 × zM)} (hI : Inv h np n) (hs : slM h = L) (hk : k + 6 ≤ L) (hL : L ≤ 3072) : Nx K k h (lc_33 K (nI k) h) := by
  obtain ⟨a, h1, h2, e1, e2, s1, s2, i, nc, ns⟩ := op_fall hI (rI h 19 0 (k + 1)) (rI h 19 0 (k + 2))
  refine ⟨h2, ?_, i, s2, nc, ns⟩
  unfold lc_33 f_L_law_1588
  simp -implicitDefEqProofs only [nI_1, p2, p3, p4, p5, p6, hs, s1.1, s1.2, ixOk_nI (show k + 1 < L by omega) (by omega), nI_clamp (show k + 1 < 2 ^ 31 by omega), ixOk_nI (show k + 2 < L by omega) (by omega), nI_clamp (show k + 2 < 2 ^ 31 by omega), ixOk_nI (show k + 3 < L by omega) (by omega), nI_clamp (show k + 3 < 2 ^ 31 by omega), ixOk_nI (show k + 4 < L by omega) (by omega), nI_clamp (show k + 4 < 2 ^ 31 by omega), ixOk_nI (show k + 5 < L by omega) (by omega), nI_clamp (show k + 5 < 2 ^ 31 by omega), e1, e2, decide_true, Bool.true_and, Bool.and_true, if_true, Option.bind_some]
def lc_34 (K : Int32 → zM → Option (Int32 × zM)) (x3 : Int32) (h : zM) : Option (Int32 × zM) := (if (true && (true && (true && (ixOk (slM h) (x3 + 4) && (true && (ixOk (slM h) (x3 + 3) && (true && (ixOk (slM h) (x3 + 2) && (true && (ixOk (slM h) (x3 + 1) && true)))))))))) = true then ((f_X10_crowd (rI h 19 0 (Int32.toNatClampNeg (x3 + 1))) (rI h 19 0 (Int32.toNatClampNeg (x3 + 2))) (rI h 19 0 (Int32.toNatClampNeg (x3 + 3))) (rI h 19 0 (Int32.toNatClampNeg (x3 + 4))) h).bind fun q1429 => (if (true && (true && (true && (ixOk (slM q1429.2) (x3 + 4) && (true && (ixOk (slM q1429.2) (x3 + 3) && (true && (ixOk (slM q1429.2) (x3 + 2) && (true && (ixOk (slM q1429.2) (x3 + 1) && true)))))))))) = true then ((f_X11_crowd (rI q1429.2 19 0 (Int32.toNatClampNeg (x3 + 1))) (rI q1429.2 19 0 (Int32.toNatClampNeg (x3 + 2))) (rI q1429.2 19 0 (Int32.toNatClampNeg (x3 + 3))) (rI q1429.2 19 0 (Int32.toNatClampNeg (x3 + 4))) q1429.2).bind fun q1453 => (if q1429.1 = q1453.1 then (f_L_law_1588 K x3 q1453.2) else (some (0, q1453.2)))) else none)) else none)
theorem lk_34 {h : zM} {np n L k : Nat} {K : Int32 → zM → Option (Int32 × zM)} (hI : Inv h np n) (hs : slM h = L) (hk : k + 6 ≤ L) (hL : L ≤ 3072) : Nx K k h (lc_34 K (nI k) h) := by
  obtain ⟨a, h1, h2, e1, e2, s1, s2, i, nc, ns⟩ := op_crowd hI (rI h 19 0 (k + 1)) (rI h 19 0 (k + 2)) (rI h 19 0 (k + 3)) (rI h 19 0 (k + 4))
  refine ⟨h2, ?_, i, s2, nc, ns⟩
  unfold lc_34 f_L_law_1588
  simp -implicitDefEqProofs only [nI_1, p2, p3, p4, p5, p6, hs, s1.1, s1.2, ixOk_nI (show k + 1 < L by omega) (by omega), nI_clamp (show k + 1 < 2 ^ 31 by omega), ixOk_nI (show k + 2 < L by omega) (by omega), nI_clamp (show k + 2 < 2 ^ 31 by omega), ixOk_nI (show k + 3 < L by omega) (by omega), nI_clamp (show k + 3 < 2 ^ 31 by omega), ixOk_nI (show k + 4 < L by omega) (by omega), nI_clamp (show k + 4 < 2 ^ 31 by omega), ixOk_nI (show k + 5 < L by omega) (by omega), nI_clamp (show k + 5 < 2 ^ 31 by omega), e1, e2, decide_true, Bool.true_and, Bool.and_true, if_true, Option.bind_some]
def lc_35 (K : Int32 → zM → Option (Int32 × zM)) (x3 : Int32) (h : zM) : Option (Int32 × zM) := ((f_X10_next  h).bind fun q1462 => ((f_X11_next  q1462.2).bind fun q1466 => (if q1462.1 = q1466.1 then (f_L_law_1588 K x3 q1466.2) else (some (0, q1466.2)))))
theorem lk_35 {h : zM} {np n L k : Nat} {K : Int32 → zM → Option (Int32 × zM)} (hI : Inv h np n) (hs : slM h = L) (hk : k + 6 ≤ L) (hL : L ≤ 3072) : Nx K k h (lc_35 K (nI k) h) := by
  obtain ⟨a, h1, h2, e1, e2, s1, s2, i, nc, ns⟩ := op_next hI 
  refine ⟨h2, ?_, i, s2, nc, ns⟩
  unfold lc_35 f_L_law_1588
  simp -implicitDefEqProofs only [nI_1, p2, p3, p4, p5, p6, hs, s1.1, s1.2, ixOk_nI (show k + 1 < L by omega) (by omega), nI_clamp (show k + 1 < 2 ^ 31 by omega), ixOk_nI (show k + 2 < L by omega) (by omega), nI_clamp (show k + 2 < 2 ^ 31 by omega), ixOk_nI (show k + 3 < L by omega) (by omega), nI_clamp (show k + 3 < 2 ^ 31 by omega), ixOk_nI (show k + 4 < L by omega) (by omega), nI_clamp (show k + 4 < 2 ^ 31 by omega), ixOk_nI (show k + 5 < L by omega) (by omega), nI_clamp (show k + 5 < 2 ^ 31 by omega), e1, e2, decide_true, Bool.true_and, Bool.and_true, if_true, Option.bind_some]
def lc_36 (K : Int32 → zM → Option (Int32 × zM)) (x3 : Int32) (h : zM) : Option (Int32 × zM) := ((f_X10_asked  h).bind fun q1475 => ((f_X11_asked  q1475.2).bind fun q1479 => (if q1475.1 = q1479.1 then (f_L_law_1588 K x3 q1479.2) else (some (0, q1479.2)))))
theorem lk_36 {h : zM} {np n L k : Nat} {K : Int32 → zM → Option (Int32 × zM)} (hI : Inv h np n) (hs : slM h = L) (hk : k + 6 ≤ L) (hL : L ≤ 3072) : Nx K k h (lc_36 K (nI k) h) := by
  obtain ⟨a, h1, h2, e1, e2, s1, s2, i, nc, ns⟩ := op_asked hI 
  refine ⟨h2, ?_, i, s2, nc, ns⟩
  unfold lc_36 f_L_law_1588
  simp -implicitDefEqProofs only [nI_1, p2, p3, p4, p5, p6, hs, s1.1, s1.2, ixOk_nI (show k + 1 < L by omega) (by omega), nI_clamp (show k + 1 < 2 ^ 31 by omega), ixOk_nI (show k + 2 < L by omega) (by omega), nI_clamp (show k + 2 < 2 ^ 31 by omega), ixOk_nI (show k + 3 < L by omega) (by omega), nI_clamp (show k + 3 < 2 ^ 31 by omega), ixOk_nI (show k + 4 < L by omega) (by omega), nI_clamp (show k + 4 < 2 ^ 31 by omega), ixOk_nI (show k + 5 < L by omega) (by omega), nI_clamp (show k + 5 < 2 ^ 31 by omega), e1, e2, decide_true, Bool.true_and, Bool.and_true, if_true, Option.bind_some]
def lc_37 (K : Int32 → zM → Option (Int32 × zM)) (x3 : Int32) (h : zM) : Option (Int32 × zM) := ((f_X10_upper  h).bind fun q1488 => ((f_X11_upper  q1488.2).bind fun q1492 => (if (lg_cmp q1488.1 q1492.1) = 0 then (f_L_law_1588 K x3 q1492.2) else (some (0, q1492.2)))))
theorem lk_37 {h : zM} {np n L k : Nat} {K : Int32 → zM → Option (Int32 × zM)} (hI : Inv h np n) (hs : slM h = L) (hk : k + 6 ≤ L) (hL : L ≤ 3072) : Nx K k h (lc_37 K (nI k) h) := by
  obtain ⟨a, h1, h2, e1, e2, s1, s2, i, nc, ns⟩ := op_upper hI 
  refine ⟨h2, ?_, i, s2, nc, ns⟩
  unfold lc_37 f_L_law_1588
  simp -implicitDefEqProofs only [nI_1, p2, p3, p4, p5, p6, hs, s1.1, s1.2, ixOk_nI (show k + 1 < L by omega) (by omega), nI_clamp (show k + 1 < 2 ^ 31 by omega), ixOk_nI (show k + 2 < L by omega) (by omega), nI_clamp (show k + 2 < 2 ^ 31 by omega), ixOk_nI (show k + 3 < L by omega) (by omega), nI_clamp (show k + 3 < 2 ^ 31 by omega), ixOk_nI (show k + 4 < L by omega) (by omega), nI_clamp (show k + 4 < 2 ^ 31 by omega), ixOk_nI (show k + 5 < L by omega) (by omega), nI_clamp (show k + 5 < 2 ^ 31 by omega), e1, e2, decide_true, Bool.true_and, Bool.and_true, if_true, Option.bind_some, lg_cmp_eq]
def lc_38 (K : Int32 → zM → Option (Int32 × zM)) (x3 : Int32) (h : zM) : Option (Int32 × zM) := ((f_X10_lower  h).bind fun q1502 => ((f_X11_lower  q1502.2).bind fun q1506 => (if (lg_cmp q1502.1 q1506.1) = 0 then (f_L_law_1588 K x3 q1506.2) else (some (0, q1506.2)))))
theorem lk_38 {h : zM} {np n L k : Nat} {K : Int32 → zM → Option (Int32 × zM)} (hI : Inv h np n) (hs : slM h = L) (hk : k + 6 ≤ L) (hL : L ≤ 3072) : Nx K k h (lc_38 K (nI k) h) := by
  obtain ⟨a, h1, h2, e1, e2, s1, s2, i, nc, ns⟩ := op_lower hI 
  refine ⟨h2, ?_, i, s2, nc, ns⟩
  unfold lc_38 f_L_law_1588
  simp -implicitDefEqProofs only [nI_1, p2, p3, p4, p5, p6, hs, s1.1, s1.2, ixOk_nI (show k + 1 < L by omega) (by omega), nI_clamp (show k + 1 < 2 ^ 31 by omega), ixOk_nI (show k + 2 < L by omega) (by omega), nI_clamp (show k + 2 < 2 ^ 31 by omega), ixOk_nI (show k + 3 < L by omega) (by omega), nI_clamp (show k + 3 < 2 ^ 31 by omega), ixOk_nI (show k + 4 < L by omega) (by omega), nI_clamp (show k + 4 < 2 ^ 31 by omega), ixOk_nI (show k + 5 < L by omega) (by omega), nI_clamp (show k + 5 < 2 ^ 31 by omega), e1, e2, decide_true, Bool.true_and, Bool.and_true, if_true, Option.bind_some, lg_cmp_eq]
def lc_39 (K : Int32 → zM → Option (Int32 × zM)) (x3 : Int32) (h : zM) : Option (Int32 × zM) := (if (true && (true && (true && (ixOk (slM h) (x3 + 1) && true)))) = true then ((f_X10_count (rI h 19 0 (Int32.toNatClampNeg (x3 + 1))) h).bind fun q1521 => (if (true && (true && (true && (ixOk (slM q1521.2) (x3 + 1) && true)))) = true then ((f_X11_count (rI q1521.2 19 0 (Int32.toNatClampNeg (x3 + 1))) q1521.2).bind fun q1530 => (if q1521.1 = q1530.1 then (f_L_law_1588 K x3 q1530.2) else (some (0, q1530.2)))) else none)) else none)
theorem lk_39 {h : zM} {np n L k : Nat} {K : Int32 → zM → Option (Int32 × zM)} (hI : Inv h np n) (hs : slM h = L) (hk : k + 6 ≤ L) (hL : L ≤ 3072) : Nx K k h (lc_39 K (nI k) h) := by
  obtain ⟨a, h1, h2, e1, e2, s1, s2, i, nc, ns⟩ := op_count hI (rI h 19 0 (k + 1))
  refine ⟨h2, ?_, i, s2, nc, ns⟩
  unfold lc_39 f_L_law_1588
  simp -implicitDefEqProofs only [nI_1, p2, p3, p4, p5, p6, hs, s1.1, s1.2, ixOk_nI (show k + 1 < L by omega) (by omega), nI_clamp (show k + 1 < 2 ^ 31 by omega), ixOk_nI (show k + 2 < L by omega) (by omega), nI_clamp (show k + 2 < 2 ^ 31 by omega), ixOk_nI (show k + 3 < L by omega) (by omega), nI_clamp (show k + 3 < 2 ^ 31 by omega), ixOk_nI (show k + 4 < L by omega) (by omega), nI_clamp (show k + 4 < 2 ^ 31 by omega), ixOk_nI (show k + 5 < L by omega) (by omega), nI_clamp (show k + 5 < 2 ^ 31 by omega), e1, e2, decide_true, Bool.true_and, Bool.and_true, if_true, Option.bind_some]
def lc_40 (K : Int32 → zM → Option (Int32 × zM)) (x3 : Int32) (h : zM) : Option (Int32 × zM) := ((f_X10_finding  h).bind fun q1539 => ((f_X11_finding  q1539.2).bind fun q1543 => (if q1539.1 = q1543.1 then (f_L_law_1588 K x3 q1543.2) else (some (0, q1543.2)))))
theorem lk_40 {h : zM} {np n L k : Nat} {K : Int32 → zM → Option (Int32 × zM)} (hI : Inv h np n) (hs : slM h = L) (hk : k + 6 ≤ L) (hL : L ≤ 3072) : Nx K k h (lc_40 K (nI k) h) := by
  obtain ⟨a, h1, h2, e1, e2, s1, s2, i, nc, ns⟩ := op_finding hI 
  refine ⟨h2, ?_, i, s2, nc, ns⟩
  unfold lc_40 f_L_law_1588
  simp -implicitDefEqProofs only [nI_1, p2, p3, p4, p5, p6, hs, s1.1, s1.2, ixOk_nI (show k + 1 < L by omega) (by omega), nI_clamp (show k + 1 < 2 ^ 31 by omega), ixOk_nI (show k + 2 < L by omega) (by omega), nI_clamp (show k + 2 < 2 ^ 31 by omega), ixOk_nI (show k + 3 < L by omega) (by omega), nI_clamp (show k + 3 < 2 ^ 31 by omega), ixOk_nI (show k + 4 < L by omega) (by omega), nI_clamp (show k + 4 < 2 ^ 31 by omega), ixOk_nI (show k + 5 < L by omega) (by omega), nI_clamp (show k + 5 < 2 ^ 31 by omega), e1, e2, decide_true, Bool.true_and, Bool.and_true, if_true, Option.bind_some]
def lc_41 (K : Int32 → zM → Option (Int32 × zM)) (x3 : Int32) (h : zM) : Option (Int32 × zM) := (if (true && (true && (true && (ixOk (slM h) (x3 + 1) && true)))) = true then ((f_X10_findings (rI h 19 0 (Int32.toNatClampNeg (x3 + 1))) h).bind fun q1557 => (if (true && (true && (true && (ixOk (slM q1557.2) (x3 + 1) && true)))) = true then ((f_X11_findings (rI q1557.2 19 0 (Int32.toNatClampNeg (x3 + 1))) q1557.2).bind fun q1566 => (if q1557.1 = q1566.1 then (f_L_law_1588 K x3 q1566.2) else (some (0, q1566.2)))) else none)) else none)
theorem lk_41 {h : zM} {np n L k : Nat} {K : Int32 → zM → Option (Int32 × zM)} (hI : Inv h np n) (hs : slM h = L) (hk : k + 6 ≤ L) (hL : L ≤ 3072) : Nx K k h (lc_41 K (nI k) h) := by
  obtain ⟨a, h1, h2, e1, e2, s1, s2, i, nc, ns⟩ := op_findings hI (rI h 19 0 (k + 1))
  refine ⟨h2, ?_, i, s2, nc, ns⟩
  unfold lc_41 f_L_law_1588
  simp -implicitDefEqProofs only [nI_1, p2, p3, p4, p5, p6, hs, s1.1, s1.2, ixOk_nI (show k + 1 < L by omega) (by omega), nI_clamp (show k + 1 < 2 ^ 31 by omega), ixOk_nI (show k + 2 < L by omega) (by omega), nI_clamp (show k + 2 < 2 ^ 31 by omega), ixOk_nI (show k + 3 < L by omega) (by omega), nI_clamp (show k + 3 < 2 ^ 31 by omega), ixOk_nI (show k + 4 < L by omega) (by omega), nI_clamp (show k + 4 < 2 ^ 31 by omega), ixOk_nI (show k + 5 < L by omega) (by omega), nI_clamp (show k + 5 < 2 ^ 31 by omega), e1, e2, decide_true, Bool.true_and, Bool.and_true, if_true, Option.bind_some]
def lc_42 (K : Int32 → zM → Option (Int32 × zM)) (x3 : Int32) (h : zM) : Option (Int32 × zM) := ((f_X10_digest  h).bind fun q1575 => ((f_X11_digest  q1575.2).bind fun q1579 => (if (lg_cmp q1575.1 q1579.1) = 0 then (f_L_law_1588 K x3 q1579.2) else (some (0, q1579.2)))))
theorem lk_42 {h : zM} {np n L k : Nat} {K : Int32 → zM → Option (Int32 × zM)} (hI : Inv h np n) (hs : slM h = L) (hk : k + 6 ≤ L) (hL : L ≤ 3072) : Nx K k h (lc_42 K (nI k) h) := by
  obtain ⟨a, h1, h2, e1, e2, s1, s2, i, nc, ns⟩ := op_digest hI 
  refine ⟨h2, ?_, i, s2, nc, ns⟩
  unfold lc_42 f_L_law_1588
  simp -implicitDefEqProofs only [nI_1, p2, p3, p4, p5, p6, hs, s1.1, s1.2, ixOk_nI (show k + 1 < L by omega) (by omega), nI_clamp (show k + 1 < 2 ^ 31 by omega), ixOk_nI (show k + 2 < L by omega) (by omega), nI_clamp (show k + 2 < 2 ^ 31 by omega), ixOk_nI (show k + 3 < L by omega) (by omega), nI_clamp (show k + 3 < 2 ^ 31 by omega), ixOk_nI (show k + 4 < L by omega) (by omega), nI_clamp (show k + 4 < 2 ^ 31 by omega), ixOk_nI (show k + 5 < L by omega) (by omega), nI_clamp (show k + 5 < 2 ^ 31 by omega), e1, e2, decide_true, Bool.true_and, Bool.and_true, if_true, Option.bind_some, lg_cmp_eq]
def lcs (K : Int32 → zM → Option (Int32 × zM)) (x3 : Int32) (h : zM) : Option (Int32 × zM) := (if ((rI h 19 0 (Int32.toNatClampNeg x3)) &&& 63) = 0 then lc_0 K x3 h else (if ((rI h 19 0 (Int32.toNatClampNeg x3)) &&& 63) = 1 then lc_1 K x3 h else (if ((rI h 19 0 (Int32.toNatClampNeg x3)) &&& 63) = 2 then lc_2 K x3 h else (if ((rI h 19 0 (Int32.toNatClampNeg x3)) &&& 63) = 3 then lc_3 K x3 h else (if ((rI h 19 0 (Int32.toNatClampNeg x3)) &&& 63) = 4 then lc_4 K x3 h else (if ((rI h 19 0 (Int32.toNatClampNeg x3)) &&& 63) = 5 then lc_5 K x3 h else (if ((rI h 19 0 (Int32.toNatClampNeg x3)) &&& 63) = 6 then lc_6 K x3 h else (if ((rI h 19 0 (Int32.toNatClampNeg x3)) &&& 63) = 7 then lc_7 K x3 h else (if ((rI h 19 0 (Int32.toNatClampNeg x3)) &&& 63) = 8 then lc_8 K x3 h else (if ((rI h 19 0 (Int32.toNatClampNeg x3)) &&& 63) = 9 then lc_9 K x3 h else (if ((rI h 19 0 (Int32.toNatClampNeg x3)) &&& 63) = 10 then lc_10 K x3 h else (if ((rI h 19 0 (Int32.toNatClampNeg x3)) &&& 63) = 11 then lc_11 K x3 h else (if ((rI h 19 0 (Int32.toNatClampNeg x3)) &&& 63) = 12 then lc_12 K x3 h else (if ((rI h 19 0 (Int32.toNatClampNeg x3)) &&& 63) = 13 then lc_13 K x3 h else (if ((rI h 19 0 (Int32.toNatClampNeg x3)) &&& 63) = 14 then lc_14 K x3 h else (if ((rI h 19 0 (Int32.toNatClampNeg x3)) &&& 63) = 15 then lc_15 K x3 h else (if ((rI h 19 0 (Int32.toNatClampNeg x3)) &&& 63) = 16 then lc_16 K x3 h else (if ((rI h 19 0 (Int32.toNatClampNeg x3)) &&& 63) = 17 then lc_17 K x3 h else (if ((rI h 19 0 (Int32.toNatClampNeg x3)) &&& 63) = 18 then lc_18 K x3 h else (if ((rI h 19 0 (Int32.toNatClampNeg x3)) &&& 63) = 19 then lc_19 K x3 h else (if ((rI h 19 0 (Int32.toNatClampNeg x3)) &&& 63) = 20 then lc_20 K x3 h else (if ((rI h 19 0 (Int32.toNatClampNeg x3)) &&& 63) = 21 then lc_21 K x3 h else (if ((rI h 19 0 (Int32.toNatClampNeg x3)) &&& 63) = 22 then lc_22 K x3 h else (if ((rI h 19 0 (Int32.toNatClampNeg x3)) &&& 63) = 23 then lc_23 K x3 h else (if ((rI h 19 0 (Int32.toNatClampNeg x3)) &&& 63) = 24 then lc_24 K x3 h else (if ((rI h 19 0 (Int32.toNatClampNeg x3)) &&& 63) = 25 then lc_25 K x3 h else (if ((rI h 19 0 (Int32.toNatClampNeg x3)) &&& 63) = 26 then lc_26 K x3 h else (if ((rI h 19 0 (Int32.toNatClampNeg x3)) &&& 63) = 27 then lc_27 K x3 h else (if ((rI h 19 0 (Int32.toNatClampNeg x3)) &&& 63) = 28 then lc_28 K x3 h else (if ((rI h 19 0 (Int32.toNatClampNeg x3)) &&& 63) = 29 then lc_29 K x3 h else (if ((rI h 19 0 (Int32.toNatClampNeg x3)) &&& 63) = 30 then lc_30 K x3 h else (if ((rI h 19 0 (Int32.toNatClampNeg x3)) &&& 63) = 31 then lc_31 K x3 h else (if ((rI h 19 0 (Int32.toNatClampNeg x3)) &&& 63) = 32 then lc_32 K x3 h else (if ((rI h 19 0 (Int32.toNatClampNeg x3)) &&& 63) = 33 then lc_33 K x3 h else (if ((rI h 19 0 (Int32.toNatClampNeg x3)) &&& 63) = 34 then lc_34 K x3 h else (if ((rI h 19 0 (Int32.toNatClampNeg x3)) &&& 63) = 35 then lc_35 K x3 h else (if ((rI h 19 0 (Int32.toNatClampNeg x3)) &&& 63) = 36 then lc_36 K x3 h else (if ((rI h 19 0 (Int32.toNatClampNeg x3)) &&& 63) = 37 then lc_37 K x3 h else (if ((rI h 19 0 (Int32.toNatClampNeg x3)) &&& 63) = 38 then lc_38 K x3 h else (if ((rI h 19 0 (Int32.toNatClampNeg x3)) &&& 63) = 39 then lc_39 K x3 h else (if ((rI h 19 0 (Int32.toNatClampNeg x3)) &&& 63) = 40 then lc_40 K x3 h else (if ((rI h 19 0 (Int32.toNatClampNeg x3)) &&& 63) = 41 then lc_41 K x3 h else (if ((rI h 19 0 (Int32.toNatClampNeg x3)) &&& 63) = 42 then lc_42 K x3 h else (K (x3 + 6) h))))))))))))))))))))))))))))))))))))))))))))
theorem lcs_eq (f : Nat) (x3 : Int32) (h : zM) : f_L_law_18 (f + 1) x3 h = (if ((Int32.ofNat (slM h)) - 6) < x3 then (some (1, h)) else (if (true && (ixOk (slM h) x3 && true)) = true then lcs (f_L_law_18 f) x3 h else none)) := rfl
theorem lcs_ok {h : zM} {np n L k : Nat} {K : Int32 → zM → Option (Int32 × zM)} (hI : Inv h np n) (hs : slM h = L) (hk : k + 6 ≤ L) (hL : L ≤ 3072) : Nx K k h (lcs K (nI k) h) := by
  unfold lcs
  generalize ((rI h 19 0 (Int32.toNatClampNeg (nI k))) &&& 63) = v
  by_cases c0 : v = 0
  · rw [if_pos c0]
    exact lk_0 hI hs hk hL
  rw [if_neg c0]
  by_cases c1 : v = 1
  · rw [if_pos c1]
    exact lk_1 hI hs hk hL
  rw [if_neg c1]
  by_cases c2 : v = 2
  · rw [if_pos c2]
    exact lk_2 hI hs hk hL
  rw [if_neg c2]
  by_cases c3 : v = 3
  · rw [if_pos c3]
    exact lk_3 hI hs hk hL
  rw [if_neg c3]
  by_cases c4 : v = 4
  · rw [if_pos c4]
    exact lk_4 hI hs hk hL
  rw [if_neg c4]
  by_cases c5 : v = 5
  · rw [if_pos c5]
    exact lk_5 hI hs hk hL
  rw [if_neg c5]
  by_cases c6 : v = 6
  · rw [if_pos c6]
    exact lk_6 hI hs hk hL
  rw [if_neg c6]
  by_cases c7 : v = 7
  · rw [if_pos c7]
    exact lk_7 hI hs hk hL
  rw [if_neg c7]
  by_cases c8 : v = 8
  · rw [if_pos c8]
    exact lk_8 hI hs hk hL
  rw [if_neg c8]
  by_cases c9 : v = 9
  · rw [if_pos c9]
    exact lk_9 hI hs hk hL
  rw [if_neg c9]
  by_cases c10 : v = 10
  · rw [if_pos c10]
    exact lk_10 hI hs hk hL
  rw [if_neg c10]
  by_cases c11 : v = 11
  · rw [if_pos c11]
    exact lk_11 hI hs hk hL
  rw [if_neg c11]
  by_cases c12 : v = 12
  · rw [if_pos c12]
    exact lk_12 hI hs hk hL
  rw [if_neg c12]
  by_cases c13 : v = 13
  · rw [if_pos c13]
    exact lk_13 hI hs hk hL
  rw [if_neg c13]
  by_cases c14 : v = 14
  · rw [if_pos c14]
    exact lk_14 hI hs hk hL
  rw [if_neg c14]
  by_cases c15 : v = 15
  · rw [if_pos c15]
    exact lk_15 hI hs hk hL
  rw [if_neg c15]
  by_cases c16 : v = 16
  · rw [if_pos c16]
    exact lk_16 hI hs hk hL
  rw [if_neg c16]
  by_cases c17 : v = 17
  · rw [if_pos c17]
    exact lk_17 hI hs hk hL
  rw [if_neg c17]
  by_cases c18 : v = 18
  · rw [if_pos c18]
    exact lk_18 hI hs hk hL
  rw [if_neg c18]
  by_cases c19 : v = 19
  · rw [if_pos c19]
    exact lk_19 hI hs hk hL
  rw [if_neg c19]
  by_cases c20 : v = 20
  · rw [if_pos c20]
    exact lk_20 hI hs hk hL
  rw [if_neg c20]
  by_cases c21 : v = 21
  · rw [if_pos c21]
    exact lk_21 hI hs hk hL
  rw [if_neg c21]
  by_cases c22 : v = 22
  · rw [if_pos c22]
    exact lk_22 hI hs hk hL
  rw [if_neg c22]
  by_cases c23 : v = 23
  · rw [if_pos c23]
    exact lk_23 hI hs hk hL
  rw [if_neg c23]
  by_cases c24 : v = 24
  · rw [if_pos c24]
    exact lk_24 hI hs hk hL
  rw [if_neg c24]
  by_cases c25 : v = 25
  · rw [if_pos c25]
    exact lk_25 hI hs hk hL
  rw [if_neg c25]
  by_cases c26 : v = 26
  · rw [if_pos c26]
    exact lk_26 hI hs hk hL
  rw [if_neg c26]
  by_cases c27 : v = 27
  · rw [if_pos c27]
    exact lk_27 hI hs hk hL
  rw [if_neg c27]
  by_cases c28 : v = 28
  · rw [if_pos c28]
    exact lk_28 hI hs hk hL
  rw [if_neg c28]
  by_cases c29 : v = 29
  · rw [if_pos c29]
    exact lk_29 hI hs hk hL
  rw [if_neg c29]
  by_cases c30 : v = 30
  · rw [if_pos c30]
    exact lk_30 hI hs hk hL
  rw [if_neg c30]
  by_cases c31 : v = 31
  · rw [if_pos c31]
    exact lk_31 hI hs hk hL
  rw [if_neg c31]
  by_cases c32 : v = 32
  · rw [if_pos c32]
    exact lk_32 hI hs hk hL
  rw [if_neg c32]
  by_cases c33 : v = 33
  · rw [if_pos c33]
    exact lk_33 hI hs hk hL
  rw [if_neg c33]
  by_cases c34 : v = 34
  · rw [if_pos c34]
    exact lk_34 hI hs hk hL
  rw [if_neg c34]
  by_cases c35 : v = 35
  · rw [if_pos c35]
    exact lk_35 hI hs hk hL
  rw [if_neg c35]
  by_cases c36 : v = 36
  · rw [if_pos c36]
    exact lk_36 hI hs hk hL
  rw [if_neg c36]
  by_cases c37 : v = 37
  · rw [if_pos c37]
    exact lk_37 hI hs hk hL
  rw [if_neg c37]
  by_cases c38 : v = 38
  · rw [if_pos c38]
    exact lk_38 hI hs hk hL
  rw [if_neg c38]
  by_cases c39 : v = 39
  · rw [if_pos c39]
    exact lk_39 hI hs hk hL
  rw [if_neg c39]
  by_cases c40 : v = 40
  · rw [if_pos c40]
    exact lk_40 hI hs hk hL
  rw [if_neg c40]
  by_cases c41 : v = 41
  · rw [if_pos c41]
    exact lk_41 hI hs hk hL
  rw [if_neg c41]
  by_cases c42 : v = 42
  · rw [if_pos c42]
    exact lk_42 hI hs hk hL
  rw [if_neg c42]
  exact ⟨h, by rw [p6], ⟨np, n, hI⟩, Scr.refl h, by omega, by omega⟩
theorem stop_iff {L k : Nat} (hL : L ≤ 3072) (hk : k ≤ 10000) : (Int32.ofNat L - 6 < nI k) ↔ L < k + 6 := by
  show (nI L - 6 < nI k) ↔ _
  have e6 : (6 : Int32).toInt = 6 := by decide
  rw [Int32.lt_iff_toInt_lt, Int32.toInt_sub, nI_toInt (by omega), nI_toInt (by omega), e6, Int.bmod_eq_of_le (by omega) (by omega)]
  omega
theorem law_loop {L : Nat} (hL : L ≤ 3072) : ∀ (r fuel k : Nat) (h : zM), L < k + 6 * r + 6 → r < fuel → k + 6 * r ≤ 4000 → (∃ np n, Inv h np n) → slM h = L → ∃ hF, f_L_law_18 fuel (nI k) h = some (1, hF) ∧ ncM hF ≤ ncM h + 20 * r ∧ nsM hF ≤ nsM h + 200 * r
  | 0, fuel + 1, k, h, h1, h2, h3, hI, hs => by
    refine ⟨h, ?_, by omega, by omega⟩
    rw [lcs_eq, hs, if_pos ((stop_iff hL (by omega)).mpr (by omega))]
  | r + 1, fuel + 1, k, h, h1, h2, h3, hI, hs => by
    by_cases c : L < k + 6
    · refine ⟨h, ?_, by omega, by omega⟩
      rw [lcs_eq, hs, if_pos ((stop_iff hL (by omega)).mpr c)]
    · obtain ⟨np, n, I⟩ := hI
      obtain ⟨g, e1, e2, e3, e4, e5⟩ := lcs_ok (K := f_L_law_18 fuel) I hs (show k + 6 ≤ L by omega) hL
      obtain ⟨hF, d1, d2, d3⟩ := law_loop hL r fuel (k + 6) g (by omega) (by omega) (by omega) e2 (e3.1.trans hs)
      refine ⟨hF, ?_, by omega, by omega⟩
      rw [lcs_eq, hs, if_neg (fun z => c ((stop_iff hL (by omega)).mp z)), if_pos (by rw [ixOk_nI (show k < L by omega) (by omega)]; rfl), e1]
      exact d1
theorem law_ok (xs : Nat → Int32) {L : Nat} (hL : L ≤ 3072) : ∃ hF, f_L_law (hm0 xs L) = some (1, hF) ∧ ncM hF ≤ 605475 ∧ nsM hF ≤ 7285822 := by
  obtain ⟨q, e1, e2, e3, e4, e5⟩ := ini_ok xs L
  have sl : slM q = L := e3.1
  obtain ⟨hF, d1, d2, d3⟩ := law_loop hL 512 1000 0 q (by omega) (by decide) (by decide) ⟨0, 0, e2⟩ sl
  rw [nI_0] at d1
  exact ⟨hF, e1.trans d1, by omega, by omega⟩
