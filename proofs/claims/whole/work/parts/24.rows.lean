theorem inlt {k : Nat} (hk : k ≤ 1000) (i : Int32) : ((0 : Int32) ≤ i ∧ i ≤ nI k - 1) ↔ ((0 : Int32) ≤ i ∧ i < nI k) := by
  cases k with
  | zero =>
    constructor
    · rintro ⟨a, b⟩
      exact absurd b (by
        rw [show nI 0 - 1 = -1 by decide, Int32.le_iff_toInt_le]
        rw [Int32.le_iff_toInt_le] at a
        have e0 : (0 : Int32).toInt = 0 := by decide
        have e1 : (-1 : Int32).toInt = -1 := by decide
        omega)
    · rintro ⟨a, b⟩
      exact absurd b (Int32.not_lt.mpr a)
  | succ k =>
    rw [nI_pred]
    constructor
    · rintro ⟨a, b⟩
      refine ⟨a, ?_⟩
      rw [Int32.lt_iff_toInt_lt, nI_toInt (by omega)]
      rw [Int32.le_iff_toInt_le, nI_toInt (by omega)] at b
      omega
    · rintro ⟨a, b⟩
      refine ⟨a, ?_⟩
      rw [Int32.le_iff_toInt_le, nI_toInt (by omega)]
      rw [Int32.lt_iff_toInt_lt, nI_toInt (by omega)] at b
      omega
theorem nI_ge0 {k : Nat} (h : k < 2 ^ 31) : (0 : Int32) ≤ nI k := nI_pos' h
theorem m9 : ¬ ((0 : Int32) ≤ -9999) := by decide
theorem m1n : ¬ ((0 : Int32) ≤ -1) := by decide
theorem in_T {v a b : Int32} {h : zM} (q : a ≤ v ∧ v ≤ b) : f_X11_in v a b h = some (1, h) := by rw [in_eq, if_pos q]
theorem in_F {v a b : Int32} {h : zM} (q : ¬ (a ≤ v ∧ v ≤ b)) : f_X11_in v a b h = some (0, h) := by rw [in_eq, if_neg q]
theorem wi_T {v a b : Int32} {h : zM} (q : a ≤ v ∧ v ≤ b) : f_X10_within v a b h = some (1, h) := by rw [within_eq, if_pos q]
theorem wi_F {v a b : Int32} {h : zM} (q : ¬ (a ≤ v ∧ v ≤ b)) : f_X10_within v a b h = some (0, h) := by rw [within_eq, if_neg q]
theorem found_1 {h : zM} (hX : XS h) : f_X10_found 1 h = some (-3, fndX h 1) := found_eq hX (by decide)
theorem found_2 {h : zM} (hX : XS h) : f_X10_found 2 h = some (-3, fndX h 2) := found_eq hX (by decide)
theorem found_3 {h : zM} (hX : XS h) : f_X10_found 3 h = some (-3, fndX h 3) := found_eq hX (by decide)
theorem found_4 {h : zM} (hX : XS h) : f_X10_found 4 h = some (-3, fndX h 4) := found_eq hX (by decide)
theorem found_5 {h : zM} (hX : XS h) : f_X10_found 5 h = some (-3, fndX h 5) := found_eq hX (by decide)
theorem meets_1 {h : zM} (hM : MS h) : f_X11_meets 1 h = some (-3, fndM h 1) := meets_eq hM (by decide)
theorem meets_2 {h : zM} (hM : MS h) : f_X11_meets 2 h = some (-3, fndM h 2) := meets_eq hM (by decide)
theorem meets_3 {h : zM} (hM : MS h) : f_X11_meets 3 h = some (-3, fndM h 3) := meets_eq hM (by decide)
theorem meets_4 {h : zM} (hM : MS h) : f_X11_meets 4 h = some (-3, fndM h 4) := meets_eq hM (by decide)
theorem meets_5 {h : zM} (hM : MS h) : f_X11_meets 5 h = some (-3, fndM h 5) := meets_eq hM (by decide)
theorem miss_T {h : zM} {c j : Nat} (hc : c = 6 ∨ c = 9) (hs : rI h c j 0 = -1) : f_X8_isMissing (some (c, j)) h = some (1, h) := by
  unfold f_X8_isMissing
  rcases hc with rfl | rfl <;> simp [clR_s, ixR_s, memT2a, memT2b, hs, m1n]
theorem miss_F {h : zM} {c j k : Nat} (hc : c = 6 ∨ c = 9) (hk : k ≤ 40) (hs : rI h c j 0 = nI k) : f_X8_isMissing (some (c, j)) h = some (0, h) := by
  have g0 : (0 : Int32) ≤ nI k := nI_pos' (by omega)
  unfold f_X8_isMissing
  rcases hc with rfl | rfl <;> simp [clR_s, ixR_s, memT2a, memT2b, hs, g0]
theorem askR_F {h : zM} (hM : MS h) {j : Nat} (hj : j ≤ 5) (hs : rI h 33 0 j = -9999) : f_X11_askedRow (nI j) h = some (-3, fndM h 1) := by
  have m2 := hM.2.1
  unfold f_X11_askedRow
  simp [isRow_in hj, m2, ixOk_nI (show j < 6 by omega) (by decide), nI_clamp (show j < 2 ^ 31 by omega), hs, m9, meets_1 hM]
theorem askR_T {h : zM} (hM : MS h) {j k : Nat} (hj : j ≤ 5) (hk : k ≤ 40) (hs : rI h 33 0 j = nI k) : f_X11_askedRow (nI j) h = some (0, h) := by
  have m2 := hM.2.1
  have g0 : (0 : Int32) ≤ nI k := nI_pos' (by omega)
  unfold f_X11_askedRow
  simp [isRow_in hj, m2, ixOk_nI (show j < 6 by omega) (by decide), nI_clamp (show j < 2 ^ 31 by omega), hs, g0]
theorem askedRow_out {h : zM} {x : Int32} (hx : x < 0 ∨ nI 5 < x) : f_X11_askedRow x h = some (-1, h) := by
  unfold f_X11_askedRow
  simp [isRow_out hx]
theorem has_T {h : zM} {c j k : Nat} (hc : c = 6 ∨ c = 9) (hs : rI h c j 0 = nI k) {i : Int32} (q : 0 ≤ i ∧ i < nI k) : f_X8_has (some (c, j)) i h = some (1, h) := by
  unfold f_X8_has f_X8_has_16
  have h0 : ¬ i < 0 := Int32.not_lt.mpr q.1
  have h1 : ¬ nI k ≤ i := Int32.not_le.mpr q.2
  rcases hc with rfl | rfl <;> simp [h0, clR_s, ixR_s, memT2a, memT2b, hs, h1]
theorem has_F {h : zM} {c j k : Nat} (hc : c = 6 ∨ c = 9) (hs : rI h c j 0 = nI k) {i : Int32} (q : ¬ (0 ≤ i ∧ i < nI k)) : f_X8_has (some (c, j)) i h = some (0, h) := by
  unfold f_X8_has f_X8_has_16
  by_cases h0 : i < 0
  · simp [h0]
  · have h1 : nI k ≤ i := Int32.not_lt.mp (fun z => q ⟨Int32.not_lt.mp h0, z⟩)
    rcases hc with rfl | rfl <;> simp [h0, clR_s, ixR_s, memT2a, memT2b, hs, h1]
theorem op_lay {h : zM} {np n : Nat} (hI : Inv h np n) (r i v : Int32) : Okk h (f_X10_lay r i v) (f_X11_lay r i v) := by
  have hX := hI.1
  have hM := hI.2.1
  have hR := hI.2.2.1
  rcases rng r 5 (by decide) with ⟨j, hj, rfl⟩ | hr
  · obtain ⟨hs, hc⟩ := hR j (by omega)
    have x9 := hX.2.2.2.2.2.2.2.2.2.1 j (by omega)
    have m2 := hM.2.1
    have m3 := hM.2.2.1
    rcases hs with ⟨s1, s2⟩ | ⟨k, hk, s1, s2⟩
    · refine Okk.fnd (f := 1) hI ?_ ?_
      · unfold f_X10_lay
        simp [rowAt_in hX hj, clR_s, memT1, miss_T (Or.inl rfl) s2, found_1 hX]
      · unfold f_X11_lay
        have s1' : rI (fndX h 1) 33 0 j = -9999 := s1
        simp [askR_F hM.fndX hj s1', show ¬ ((0 : Int32) ≤ -3) by decide]
    · have g0 := nI_ge0 (k := k) (by omega)
      by_cases hin : 0 ≤ i ∧ i < nI k
      · obtain ⟨q, hq, rfl⟩ : ∃ q, q < k ∧ i = nI q := by
          rcases pk_ix i (n := k) (by omega) with h | h | h
          · exact absurd hin.1 (Int32.not_le.mpr h)
          · exact absurd hin.2 (Int32.not_lt.mpr h)
          · exact h
        have e1 : (40 : Int32) * nI j + nI q = nI (40 * j + q) := by rw [lit 40, pk_mul, nI_add]
        refine ⟨1, wI (wI h 24 j q v) 10 0 11 (rI h 24 j q), wI (wI (wI (wI h 24 j q v) 10 0 11 (rI h 24 j q)) 11 0 2 (rI h 34 0 (40 * j + q))) 34 0 (40 * j + q) v, ?_, ?_, ⟨rfl, fun _ => rfl⟩, ⟨rfl, fun _ => rfl⟩, ⟨np, n, ?_⟩, by show ncM h ≤ _; omega, by show nsM h ≤ _; omega⟩
        · unfold f_X10_lay f_X10_tell
          simp [rowAt_in hX hj, clR_s, ixR_s, memT1, miss_F (Or.inl rfl) hk s2, has_T (Or.inl rfl) s2 hin, x9, ixOk_nI (show q < 40 by omega) (by decide), nI_clamp (show q < 2 ^ 31 by omega)]
        · have s1' : rI (wI (wI h 24 j q v) 10 0 11 (rI h 24 j q)) 33 0 j = nI k := s1
          have m2' : rR (wI (wI h 24 j q v) 10 0 11 (rI h 24 j q)) 11 0 6 = some (33, 0) := m2
          have m3' : rR (wI (wI h 24 j q v) 10 0 11 (rI h 24 j q)) 11 0 7 = some (34, 0) := m3
          have hM' : MS (wI (wI h 24 j q v) 10 0 11 (rI h 24 j q)) := hM
          have hin' := (inlt (show k ≤ 1000 by omega) (nI q)).mpr hin
          have rr : rI (wI (wI h 24 j q v) 10 0 11 (rI h 24 j q)) 34 0 (40 * j + q) = rI h 34 0 (40 * j + q) := rfl
          unfold f_X11_lay f_X11_rowAt
          simp [askR_T hM' hj hk s1', s1', m2', m3', ixOk_nI (show j < 6 by omega) (by decide), nI_clamp (show j < 2 ^ 31 by omega), in_T hin', e1, ixOk_nI (show 40 * j + q < 240 by omega) (by decide), nI_clamp (show 40 * j + q < 2 ^ 31 by omega), rr]
        · obtain ⟨-, -, -, hT, hD, hA, hF, hF2, hP, hK, hL⟩ := hI
          refine ⟨hX, hM, fun r hr => ?_, hT.of (fun _ => rfl) (fun _ => rfl) (fun _ _ => rfl) (fun _ => rfl), hD.of rfl rfl, ?_, hF.of rfl rfl rfl rfl, hF2.of rfl rfl (fun _ => rfl) (fun _ => rfl), hP.of rfl rfl rfl (fun _ => rfl) (fun _ _ _ => rfl) (fun _ => rfl), hK.of rfl rfl rfl (fun _ => rfl) (fun _ _ _ => rfl) (fun _ _ => rfl) (fun _ => rfl) (fun _ => rfl) (fun _ => rfl), hL.of hL.1 (Nat.le_refl _) (fun _ => rfl) (fun _ _ => rfl) (fun _ _ _ => rfl) (fun _ => rfl) (fun _ => rfl)⟩
          · refine ⟨(hR r hr).1.of rfl rfl, fun i hi => ?_⟩
            simp only [rI_wI]
            by_cases e : r = j ∧ i = q
            · obtain ⟨rfl, rfl⟩ := e
              simp
            · have e2 : ¬ 40 * r + i = 40 * j + q := by omega
              have e3 : ¬ (r = j ∧ i = q) := e
              simp [e2, e3]
              exact (hR r hr).2 i hi
          · show rI h 24 j q = rI h 34 0 (40 * j + q)
            exact hc q (by omega)
      · refine Okk.fnd (f := 2) hI ?_ ?_
        · unfold f_X10_lay
          simp [rowAt_in hX hj, clR_s, memT1, miss_F (Or.inl rfl) hk s2, has_F (Or.inl rfl) s2 hin, found_2 hX]
        · have s1' : rI (fndX h 2) 33 0 j = nI k := s1
          have m2' : rR (fndX h 2) 11 0 6 = some (33, 0) := m2
          have hin' : ¬ ((0 : Int32) ≤ i ∧ i ≤ nI k - 1) := fun q => hin ((inlt (show k ≤ 1000 by omega) i).mp q)
          unfold f_X11_lay
          simp [askR_T hM.fndX hj hk s1', s1', m2', ixOk_nI (show j < 6 by omega) (by decide), nI_clamp (show j < 2 ^ 31 by omega), in_F hin', meets_2 hM.fndX]
  · refine Okk.same hI (a := -1) ?_ ?_
    · unfold f_X10_lay
      simp [rowAt_out hr]
    · unfold f_X11_lay
      simp [askedRow_out hr, m1n]
theorem op_tear {h : zM} {np n : Nat} (hI : Inv h np n) (r : Int32) : Okk h (f_X10_tear r) (f_X11_tear r) := by
  have hX := hI.1
  have hM := hI.2.1
  have hR := hI.2.2.1
  rcases rng r 5 (by decide) with ⟨j, hj, rfl⟩ | hr
  · obtain ⟨hs, hc⟩ := hR j (by omega)
    have m2 := hM.2.1
    rcases hs with ⟨s1, s2⟩ | ⟨k, hk, s1, s2⟩
    · refine Okk.fnd (f := 1) hI ?_ ?_
      · unfold f_X10_tear
        simp [rowAt_in hX hj, clR_s, memT1, miss_T (Or.inl rfl) s2, found_1 hX]
      · unfold f_X11_tear
        have s1' : rI (fndX h 1) 33 0 j = -9999 := s1
        simp [askR_F hM.fndX hj s1', show ¬ ((0 : Int32) ≤ -3) by decide]
    · have g0 := nI_ge0 (k := k) (by omega)
      refine ⟨1, wI h 6 j 0 (-1), wI (wI h 6 j 0 (-1)) 33 0 j (-9999), ?_, ?_, ⟨rfl, fun _ => rfl⟩, ⟨rfl, fun _ => rfl⟩, ⟨np, n, ?_⟩, by show ncM h ≤ _; omega, by show nsM h ≤ _; omega⟩
      · unfold f_X10_tear
        simp [rowAt_in hX hj, clR_s, ixR_s, memT1, miss_F (Or.inl rfl) hk s2]
      · have s1' : rI (wI h 6 j 0 (-1)) 33 0 j = nI k := s1
        have m2' : rR (wI h 6 j 0 (-1)) 11 0 6 = some (33, 0) := m2
        have hM' : MS (wI h 6 j 0 (-1)) := hM
        unfold f_X11_tear
        simp [askR_T hM' hj hk s1', m2', ixOk_nI (show j < 6 by omega) (by decide), nI_clamp (show j < 2 ^ 31 by omega)]
      · obtain ⟨-, -, -, hT, hD, hA, hF, hF2, hP, hK, hL⟩ := hI
        refine ⟨hX, hM, fun r hr => ?_, hT.of (fun _ => rfl) (fun _ => rfl) (fun _ _ => rfl) (fun _ => rfl), hD.of rfl rfl, hA.of rfl rfl, hF.of rfl rfl rfl rfl, hF2.of rfl rfl (fun _ => rfl) (fun _ => rfl), hP.of rfl rfl rfl (fun _ => rfl) (fun _ _ _ => rfl) (fun _ => rfl), hK.of rfl rfl rfl (fun _ => rfl) (fun _ _ _ => rfl) (fun _ _ => rfl) (fun _ => rfl) (fun _ => rfl) (fun _ => rfl), hL.of hL.1 (Nat.le_refl _) (fun _ => rfl) (fun _ _ => rfl) (fun _ _ _ => rfl) (fun _ => rfl) (fun _ => rfl)⟩
        refine ⟨?_, (hR r hr).2⟩
        by_cases hrj : r = j
        · subst hrj
          refine Or.inl ⟨?_, ?_⟩ <;> simp [rI_wI]
        · refine (hR r hr).1.of ?_ ?_ <;> simp [rI_wI, hrj]
  · refine Okk.same hI (a := -1) ?_ ?_
    · unfold f_X10_tear
      simp [rowAt_out hr]
    · unfold f_X11_tear
      simp [askedRow_out hr, m1n]
