theorem cp_nil (h : zM) (c i s c2 i2 d : Nat) : cpM h c i s c2 i2 d 0 = h := by
  refine zM_ext (fun c' i' f' => ?_) rfl
  rw [rI_cp, if_neg]
  omega
theorem cp_step {h : zM} {c i s c2 i2 d n : Nat} (hc : c ≠ c2) : cpM (wI h c2 i2 d (rI h c i s)) c i (s + 1) c2 i2 (d + 1) n = cpM h c i s c2 i2 d (n + 1) := by
  refine zM_ext (fun c' i' f' => ?_) rfl
  rw [rI_cp, rI_cp, rI_wI, rI_wI]
  by_cases h1 : c' = c2 ∧ i' = i2
  · by_cases h2 : f' = d
    · subst h2
      simp [h1]
      intro z
      omega
    · have e : (d + 1 ≤ f' ∧ f' < d + 1 + n) ↔ (d ≤ f' ∧ f' < d + (n + 1)) := by omega
      simp only [h1, h2, e, true_and, and_false, if_false, hc, false_and]
      by_cases h3 : d ≤ f' ∧ f' < d + (n + 1)
      · rw [if_pos h3, if_pos h3, show s + 1 + (f' - (d + 1)) = s + (f' - d) by omega]
      · rw [if_neg h3, if_neg h3]
  · have e1 : ¬ (c' = c2 ∧ i' = i2 ∧ d + 1 ≤ f' ∧ f' < d + 1 + n) := fun q => h1 ⟨q.1, q.2.1⟩
    have e2 : ¬ (c' = c2 ∧ i' = i2 ∧ d ≤ f' ∧ f' < d + (n + 1)) := fun q => h1 ⟨q.1, q.2.1⟩
    have e3 : ¬ (c' = c2 ∧ i' = i2 ∧ f' = d) := fun q => h1 ⟨q.1, q.2.1⟩
    rw [if_neg e1, if_neg e2, if_neg e3]
theorem lc_gt (x c : Int32) {k : Nat} (hk : k < 2 ^ 31) : (0 < lg_cmp (x.toInt64 + c.toInt64) (nI k).toInt64) ↔ (k : Int) < x.toInt + c.toInt := by
  rw [lg_cmp_gt, Int64.lt_iff_toInt_lt, lg_i2l_add, Int32.toInt_toInt64, nI_toInt hk]
theorem lc_le (x c : Int32) {k : Nat} (hk : k < 2 ^ 31) : (lg_cmp (x.toInt64 + c.toInt64) (nI k).toInt64 ≤ 0) ↔ x.toInt + c.toInt ≤ (k : Int) := by
  rw [lg_cmp_le, Int64.le_iff_toInt_le, lg_i2l_add, Int32.toInt_toInt64, nI_toInt hk]
theorem i32_ge0 (c : Int32) : 0 ≤ c ↔ 0 ≤ c.toInt := by
  rw [Int32.le_iff_toInt_le]
  exact Iff.rfl
theorem i32_up (c : Int32) : c.toInt < 2 ^ 31 := Int32.toInt_lt c
theorem i32_lo (c : Int32) : -2 ^ 31 ≤ c.toInt := Int32.le_toInt c
theorem run_lt {x c : Int32} {k : Nat} (hk : k ≤ 1000) (hc : 0 ≤ c) : (nI k - c < x) ↔ (k : Int) < x.toInt + c.toInt := by
  rw [i32_ge0] at hc
  have h2 := i32_up c
  rw [Int32.lt_iff_toInt_lt, Int32.toInt_sub, nI_toInt (by omega), Int.bmod_eq_of_le (by omega) (by omega)]
  omega
theorem run_T {h : zM} {j k c : Nat} (hc : c = 6 ∨ c = 9) (hk : k ≤ 40) (hs : rI h c j 0 = nI k) {x m : Int32} (hm : 0 ≤ m) (q : 0 ≤ x ∧ x.toInt + m.toInt ≤ (k : Int)) : f_X8_hasRun (some (c, j)) x m h = some (1, h) := by
  have h0 : ¬ x < 0 := Int32.not_lt.mpr q.1
  have h1 : ¬ m < 0 := Int32.not_lt.mpr hm
  have h2 : ¬ nI k - m < x := by
    rw [run_lt (by omega) hm]
    omega
  unfold f_X8_hasRun
  rcases hc with rfl | rfl <;> simp [h0, h1, clR_s, ixR_s, memT2a, memT2b, hs, h2]
theorem run_F {h : zM} {j k c : Nat} (hc : c = 6 ∨ c = 9) (hk : k ≤ 40) (hs : rI h c j 0 = nI k) {x m : Int32} (hm : 0 ≤ m) (q : ¬ (0 ≤ x ∧ x.toInt + m.toInt ≤ (k : Int))) : f_X8_hasRun (some (c, j)) x m h = some (0, h) := by
  unfold f_X8_hasRun f_X8_hasRun_22
  have h1 : ¬ m < 0 := Int32.not_lt.mpr hm
  by_cases h0 : x < 0
  · simp [h0]
  · have h2 : nI k - m < x := by
      rw [run_lt (by omega) hm]
      have := Int32.not_lt.mp h0
      have q2 : ¬ (x.toInt + m.toInt ≤ (k : Int)) := fun z => q ⟨this, z⟩
      omega
    rcases hc with rfl | rfl <;> simp [h0, h1, clR_s, ixR_s, memT2a, memT2b, hs, h2]
theorem copyB_loop {j3 q3 m : Nat} (hj : j3 ≤ 5) (hq : q3 + m ≤ 40) : ∀ (r fuel k : Nat) (h : zM), MS h → r = m - k → k ≤ m → r < fuel → f_X11_copy_136 fuel (nI j3) (nI q3) (nI m) (nI k) h = some (1, cpM h 35 0 k 34 0 (40 * j3 + q3 + k) (m - k))
  | 0, fuel + 1, k, h, hM, e, hk1, hf => by
    have e : k = m := by omega
    subst e
    unfold f_X11_copy_136
    rw [if_pos (nI_le (Nat.le_refl _) (by omega)), Nat.sub_self, cp_nil]
  | r + 1, fuel + 1, k, h, hM, e, hk1, hf => by
    have hlt : k < m := by omega
    unfold f_X11_copy_136
    have m3 := hM.2.2.1
    have m4 := hM.2.2.2.1
    have e1 : (40 : Int32) * nI j3 + nI q3 + nI k = nI (40 * j3 + q3 + k) := by rw [lit 40, pk_mul, nI_add, nI_add]
    rw [if_neg (nI_ge hlt (by omega)), e1]
    simp only [ixOk_nI (show 40 * j3 + q3 + k < 240 by omega) (by decide), ixOk_nI (show k < 40 by omega) (by decide), nI_clamp (show 40 * j3 + q3 + k < 2 ^ 31 by omega), nI_clamp (show k < 2 ^ 31 by omega), m3, m4, decide_true, Bool.and_true, if_true, nI_1]
    rw [copyB_loop hj hq r fuel (k + 1) (wI h 34 0 (40 * j3 + q3 + k) (rI h 35 0 k)) hM (by omega) (by omega) (by omega), show 40 * j3 + q3 + (k + 1) = 40 * j3 + q3 + k + 1 by omega, cp_step (by decide), show m - (k + 1) + 1 = m - k by omega]
theorem copyA_loop {j1 q1 m : Nat} (hj : j1 ≤ 5) (hq : q1 + m ≤ 40) {x3 x4 : Int32} : ∀ (r fuel k : Nat) (h : zM), MS h → r = m - k → k ≤ m → r < fuel → f_X11_copy_104 fuel (nI j1) (nI q1) x3 x4 (nI m) (nI k) h = f_X11_copy_136 1000 x3 x4 (nI m) 0 (cpM h 34 0 (40 * j1 + q1 + k) 35 0 k (m - k))
  | 0, fuel + 1, k, h, hM, e, hk1, hf => by
    have e : k = m := by omega
    subst e
    unfold f_X11_copy_104
    rw [if_pos (nI_le (Nat.le_refl _) (by omega)), Nat.sub_self, cp_nil]
  | r + 1, fuel + 1, k, h, hM, e, hk1, hf => by
    have hlt : k < m := by omega
    unfold f_X11_copy_104 f_X11_rowAt
    have m3 := hM.2.2.1
    have m4 := hM.2.2.2.1
    have e1 : (40 : Int32) * nI j1 + (nI q1 + nI k) = nI (40 * j1 + q1 + k) := by rw [lit 40, pk_mul, nI_add, nI_add, show 40 * j1 + (q1 + k) = 40 * j1 + q1 + k by omega]
    rw [if_neg (nI_ge hlt (by omega)), e1]
    simp only [ixOk_nI (show 40 * j1 + q1 + k < 240 by omega) (by decide), ixOk_nI (show k < 40 by omega) (by decide), nI_clamp (show 40 * j1 + q1 + k < 2 ^ 31 by omega), nI_clamp (show k < 2 ^ 31 by omega), m3, m4, decide_true, Bool.and_true, if_true, nI_1, Option.bind_some]
    rw [copyA_loop hj hq r fuel (k + 1) (wI h 35 0 k (rI h 34 0 (40 * j1 + q1 + k))) hM (by omega) (by omega) (by omega), show 40 * j1 + q1 + (k + 1) = 40 * j1 + q1 + k + 1 by omega, cp_step (by decide), show m - (k + 1) + 1 = m - k by omega]
theorem copyAB {j1 q1 j3 q3 m : Nat} (hj1 : j1 ≤ 5) (hq1 : q1 + m ≤ 40) (hj3 : j3 ≤ 5) (hq3 : q3 + m ≤ 40) {h : zM} (hM : MS h) : f_X11_copy_104 1000 (nI j1) (nI q1) (nI j3) (nI q3) (nI m) 0 h = some (1, cpM (cpM h 34 0 (40 * j1 + q1) 35 0 0 m) 35 0 0 34 0 (40 * j3 + q3) m) := by
  have a := copyA_loop hj1 hq1 (x3 := nI j3) (x4 := nI q3) m 1000 0 h hM (by omega) (by omega) (by omega)
  rw [nI_0] at a
  rw [a]
  have b := copyB_loop hj3 hq3 m 1000 0 (cpM h 34 0 (40 * j1 + q1 + 0) 35 0 0 (m - 0)) hM (by omega) (by omega) (by omega)
  rw [nI_0] at b
  rw [b]
  rfl
theorem op_copy {h : zM} {np n : Nat} (hI : Inv h np n) (x1 x2 x3 x4 x5 : Int32) : Okk h (f_X10_copy x1 x2 x3 x4 x5) (f_X11_copy x1 x2 x3 x4 x5) := by
  have hX := hI.1
  have hM := hI.2.1
  have hR := hI.2.2.1
  rcases rng x1 5 (by decide) with ⟨j1, hj1, rfl⟩ | hr1
  · rcases rng x3 5 (by decide) with ⟨j3, hj3, rfl⟩ | hr3
    · have m2 := hM.2.1
      have i1 := ixOk_nI (show j1 < 6 by omega) (by decide)
      have i3 := ixOk_nI (show j3 < 6 by omega) (by decide)
      have c1 := nI_clamp (show j1 < 2 ^ 31 by omega)
      have c3 := nI_clamp (show j3 < 2 ^ 31 by omega)
      by_cases h5 : 0 ≤ x5
      · rcases (hR j1 (by omega)).1 with ⟨s1, s2⟩ | ⟨k1, hk1, s1, s2⟩
        · refine Okk.fnd (f := 1) hI ?_ ?_
          · unfold f_X10_copy f_X10_copy_53
            simp [rowAt_in hX hj1, rowAt_in hX hj3, h5, clR_s, memT1, miss_T (Or.inl rfl) s2, found_1 hX]
          · have s1' : rI (fndX h 1) 33 0 j1 = -9999 := s1
            have m2' : rR (fndX h 1) 11 0 6 = some (33, 0) := m2
            unfold f_X11_copy f_X11_copy_45
            simp [isRow_in hj1, isRow_in hj3, h5, m2', i1, c1, s1', meets_1 hM.fndX]
        · have g1 : ¬ nI k1 < 0 := nI_pos (by omega)
          rcases (hR j3 (by omega)).1 with ⟨t1, t2⟩ | ⟨k3, hk3, t1, t2⟩
          · refine Okk.fnd (f := 1) hI ?_ ?_
            · unfold f_X10_copy f_X10_copy_53
              simp [rowAt_in hX hj1, rowAt_in hX hj3, h5, clR_s, memT1, miss_F (Or.inl rfl) hk1 s2, miss_T (Or.inl rfl) t2, found_1 hX]
            · have s1' : rI (fndX h 1) 33 0 j1 = nI k1 := s1
              have t1' : rI (fndX h 1) 33 0 j3 = -9999 := t1
              have m2' : rR (fndX h 1) 11 0 6 = some (33, 0) := m2
              unfold f_X11_copy f_X11_copy_45
              simp [isRow_in hj1, isRow_in hj3, h5, m2', i1, c1, i3, c3, s1', t1', g1, m9, meets_1 hM.fndX]
          · have g3 : 0 ≤ nI k3 := nI_pos' (by omega)
            by_cases P1 : 0 ≤ x2 ∧ x2.toInt + x5.toInt ≤ (k1 : Int)
            · by_cases P3 : 0 ≤ x4 ∧ x4.toInt + x5.toInt ≤ (k3 : Int)
              · obtain ⟨m, rfl, hm⟩ : ∃ m : Nat, x5 = nI m ∧ m ≤ 40 := by
                  rcases rng x5 40 (by decide) with ⟨m, a, b⟩ | a | a
                  · exact ⟨m, b, a⟩
                  · exact absurd h5 (Int32.not_le.mpr a)
                  · rw [Int32.lt_iff_toInt_lt, nI_toInt (by omega)] at a
                    have := (i32_ge0 x2).mp P1.1
                    omega
                obtain ⟨q1, rfl, hq1⟩ : ∃ q : Nat, x2 = nI q ∧ q + m ≤ k1 := by
                  rw [nI_toInt (show m < 2 ^ 31 by omega)] at P1
                  rcases rng x2 40 (by decide) with ⟨q, a, b⟩ | a | a
                  · rw [b, nI_toInt (by omega)] at P1
                    exact ⟨q, b, by omega⟩
                  · exact absurd P1.1 (Int32.not_le.mpr a)
                  · rw [Int32.lt_iff_toInt_lt, nI_toInt (by omega)] at a
                    omega
                obtain ⟨q3, rfl, hq3⟩ : ∃ q : Nat, x4 = nI q ∧ q + m ≤ k3 := by
                  rw [nI_toInt (show m < 2 ^ 31 by omega)] at P3
                  rcases rng x4 40 (by decide) with ⟨q, a, b⟩ | a | a
                  · rw [b, nI_toInt (by omega)] at P3
                    exact ⟨q, b, by omega⟩
                  · exact absurd P3.1 (Int32.not_le.mpr a)
                  · rw [Int32.lt_iff_toInt_lt, nI_toInt (by omega)] at a
                    omega
                have x9 := hX.2.2.2.2.2.2.2.2.2.1
                refine ⟨1, cpM h 24 j1 q1 24 j3 q3 m, cpM (cpM (cpM h 24 j1 q1 24 j3 q3 m) 34 0 (40 * j1 + q1) 35 0 0 m) 35 0 0 34 0 (40 * j3 + q3) m, ?_, ?_, ⟨rfl, fun _ => rfl⟩, ⟨rfl, fun _ => rfl⟩, ⟨np, n, ?_⟩, by show ncM h ≤ _; omega, by show nsM h ≤ _; omega⟩
                · have z1 : ¬ nI m < 0 := nI_pos (by omega)
                  have z2 : ¬ nI q1 < 0 := nI_pos (by omega)
                  have z3 : ¬ nI q3 < 0 := nI_pos (by omega)
                  have d1 := nI_clamp (show m < 2 ^ 31 by omega)
                  have d2 := nI_clamp (show q1 < 2 ^ 31 by omega)
                  have d3 := nI_clamp (show q3 < 2 ^ 31 by omega)
                  have e1 : q1 + m ≤ aln 24 := by show q1 + m ≤ 40; omega
                  have e2 : q3 + m ≤ aln 24 := by show q3 + m ≤ 40; omega
                  unfold f_X10_copy
                  simp [rowAt_in hX hj1, rowAt_in hX hj3, h5, clR_s, ixR_s, memT1, miss_F (Or.inl rfl) hk1 s2, miss_F (Or.inl rfl) hk3 t2, run_T (Or.inl rfl) hk1 s2 h5 P1, run_T (Or.inl rfl) hk3 t2 h5 P3, z1, z2, z3, d1, d2, d3, e1, e2, x9 j1 (by omega), x9 j3 (by omega)]
                · have s1' : rI (cpM h 24 j1 q1 24 j3 q3 m) 33 0 j1 = nI k1 := by rw [← s1]; rfl
                  have t1' : rI (cpM h 24 j1 q1 24 j3 q3 m) 33 0 j3 = nI k3 := by rw [← t1]; rfl
                  have m2' : rR (cpM h 24 j1 q1 24 j3 q3 m) 11 0 6 = some (33, 0) := m2
                  have hM' : MS (cpM h 24 j1 q1 24 j3 q3 m) := hM
                  have z2 : ¬ nI q1 < 0 := nI_pos (by omega)
                  have z3 : ¬ nI q3 < 0 := nI_pos (by omega)
                  have l1 : ¬ (0 < lg_cmp ((nI q1).toInt64 + (nI m).toInt64) (nI k1).toInt64) := by
                    rw [lc_gt _ _ (by omega)]
                    omega
                  have l3 : lg_cmp ((nI q3).toInt64 + (nI m).toInt64) (nI k3).toInt64 ≤ 0 := by
                    rw [lc_le _ _ (by omega)]
                    exact P3.2
                  unfold f_X11_copy
                  simp [isRow_in hj1, isRow_in hj3, h5, m2', i1, c1, i3, c3, s1', t1', g1, g3, z2, z3, l1, l3]
                  exact copyAB hj1 (by omega) hj3 (by omega) hM'
                · obtain ⟨-, -, -, hT, hD, hA, hF, hF2, hP, hK, hL⟩ := hI
                  refine ⟨hX, hM, fun r hr => ?_, hT.of (fun _ => rfl) (fun _ => rfl) (fun _ _ => rfl) (fun _ => rfl), hD.of rfl rfl, hA.of rfl rfl, hF.of rfl rfl rfl rfl, hF2.of rfl rfl (fun _ => rfl) (fun _ => rfl), hP.of rfl rfl rfl (fun _ => rfl) (fun _ _ _ => rfl) (fun _ => rfl), hK.of rfl rfl rfl (fun _ => rfl) (fun _ _ _ => rfl) (fun _ _ => rfl) (fun _ => rfl) (fun _ => rfl) (fun _ => rfl), hL.of hL.1 (Nat.le_refl _) (fun _ => rfl) (fun _ _ => rfl) (fun _ _ _ => rfl) (fun _ => rfl) (fun _ => rfl)⟩
                  refine ⟨(hR r hr).1.of rfl rfl, fun i hi => ?_⟩
                  have L : rI (cpM (cpM (cpM h 24 j1 q1 24 j3 q3 m) 34 0 (40 * j1 + q1) 35 0 0 m) 35 0 0 34 0 (40 * j3 + q3) m) 24 r i = if r = j3 ∧ q3 ≤ i ∧ i < q3 + m then rI h 24 j1 (q1 + (i - q3)) else rI h 24 r i := by
                    simp only [rI_cp]
                    simp
                  have R : rI (cpM (cpM (cpM h 24 j1 q1 24 j3 q3 m) 34 0 (40 * j1 + q1) 35 0 0 m) 35 0 0 34 0 (40 * j3 + q3) m) 34 0 (40 * r + i) = if 40 * j3 + q3 ≤ 40 * r + i ∧ 40 * r + i < 40 * j3 + q3 + m then rI h 34 0 (40 * j1 + q1 + (40 * r + i - (40 * j3 + q3))) else rI h 34 0 (40 * r + i) := by
                    simp only [rI_cp]
                    by_cases z : 40 * j3 + q3 ≤ 40 * r + i ∧ 40 * r + i < 40 * j3 + q3 + m
                    · have z2 : 40 * r + i - (40 * j3 + q3) < m := by omega
                      simp [z, z2]
                    · simp [z]
                  rw [L, R]
                  by_cases z : r = j3 ∧ q3 ≤ i ∧ i < q3 + m
                  · rw [if_pos z, if_pos (by omega), (hR j1 (by omega)).2 (q1 + (i - q3)) (by omega)]
                    congr 1
                    omega
                  · rw [if_neg z, if_neg (by omega)]
                    exact (hR r hr).2 i hi
              · refine Okk.fnd (f := 2) hI ?_ ?_
                · unfold f_X10_copy f_X10_copy_82
                  simp [rowAt_in hX hj1, rowAt_in hX hj3, h5, clR_s, memT1, miss_F (Or.inl rfl) hk1 s2, miss_F (Or.inl rfl) hk3 t2, run_T (Or.inl rfl) hk1 s2 h5 P1, run_F (Or.inl rfl) hk3 t2 h5 P3, found_2 hX]
                · have s1' : rI (fndX h 2) 33 0 j1 = nI k1 := s1
                  have t1' : rI (fndX h 2) 33 0 j3 = nI k3 := t1
                  have m2' : rR (fndX h 2) 11 0 6 = some (33, 0) := m2
                  have z2 : ¬ x2 < 0 := Int32.not_lt.mpr P1.1
                  have l1 : ¬ (0 < lg_cmp (x2.toInt64 + x5.toInt64) (nI k1).toInt64) := by
                    rw [lc_gt _ _ (by omega)]
                    omega
                  unfold f_X11_copy f_X11_copy_95
                  by_cases z3 : x4 < 0
                  · simp [isRow_in hj1, isRow_in hj3, h5, m2', i1, c1, i3, c3, s1', t1', g1, g3, z2, z3, meets_2 hM.fndX]
                  · have l3 : ¬ lg_cmp (x4.toInt64 + x5.toInt64) (nI k3).toInt64 ≤ 0 := by
                      rw [lc_le _ _ (by omega)]
                      exact fun z => P3 ⟨Int32.not_lt.mp z3, z⟩
                    simp [isRow_in hj1, isRow_in hj3, h5, m2', i1, c1, i3, c3, s1', t1', g1, g3, z2, z3, l1, l3, meets_2 hM.fndX]
            · refine Okk.fnd (f := 2) hI ?_ ?_
              · unfold f_X10_copy f_X10_copy_82
                simp [rowAt_in hX hj1, rowAt_in hX hj3, h5, clR_s, memT1, miss_F (Or.inl rfl) hk1 s2, miss_F (Or.inl rfl) hk3 t2, run_F (Or.inl rfl) hk1 s2 h5 P1, found_2 hX]
              · have s1' : rI (fndX h 2) 33 0 j1 = nI k1 := s1
                have t1' : rI (fndX h 2) 33 0 j3 = nI k3 := t1
                have m2' : rR (fndX h 2) 11 0 6 = some (33, 0) := m2
                unfold f_X11_copy f_X11_copy_95
                by_cases z2 : x2 < 0
                · simp [isRow_in hj1, isRow_in hj3, h5, m2', i1, c1, i3, c3, s1', t1', g1, g3, z2, meets_2 hM.fndX]
                · have l1 : 0 < lg_cmp (x2.toInt64 + x5.toInt64) (nI k1).toInt64 := by
                    rw [lc_gt _ _ (by omega)]
                    have : ¬ (x2.toInt + x5.toInt ≤ (k1 : Int)) := fun z => P1 ⟨Int32.not_lt.mp z2, z⟩
                    omega
                  by_cases z3 : x4 < 0
                  · simp [isRow_in hj1, isRow_in hj3, h5, m2', i1, c1, i3, c3, s1', t1', g1, g3, z2, z3, meets_2 hM.fndX]
                  · simp [isRow_in hj1, isRow_in hj3, h5, m2', i1, c1, i3, c3, s1', t1', g1, g3, z2, z3, l1, meets_2 hM.fndX]
      · refine Okk.fnd (f := 5) hI ?_ ?_
        · unfold f_X10_copy
          simp [rowAt_in hX hj1, rowAt_in hX hj3, h5, found_5 hX]
        · unfold f_X11_copy
          simp [isRow_in hj1, isRow_in hj3, h5, meets_5 hM.fndX]
    · refine Okk.same hI (a := -1) ?_ ?_
      · unfold f_X10_copy
        simp [rowAt_in hX hj1, rowAt_out hr3]
      · unfold f_X11_copy
        simp [isRow_in hj1, isRow_out hr3]
  · refine Okk.same hI (a := -1) ?_ ?_
    · unfold f_X10_copy
      rcases rng x3 5 (by decide) with ⟨j3, hj3, rfl⟩ | hr3
      · simp [rowAt_out hr1, rowAt_in hX hj3]
      · simp [rowAt_out hr1, rowAt_out hr3]
    · unfold f_X11_copy
      simp [isRow_out hr1]
