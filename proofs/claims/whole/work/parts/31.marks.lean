theorem div3 : ∀ k, k < 41 → nI k / 3 = nI (k / 3) := by decide
theorem mod3 : ∀ k, k < 41 → (nI k - nI k / 3 * 3 = 0 ↔ k % 3 = 0) := by decide
theorem mx85_T {h : zM} (hX : XS h) {j q : Nat} (hj : j ≤ 5) (hq : 3 * q ≤ 40) (hs : rI h 6 j 0 = nI (3 * q)) {x1 x2 : Int32} : ∀ (r fuel i : Nat), r = q - i → i ≤ q → r < fuel → (∀ k, i ≤ k → k < q → Vok (rI h 24 j (3 * k)) (rI h 24 j (3 * k + 1)) (rI h 24 j (3 * k + 2))) → f_X10_marks_85 fuel x1 x2 (some (6, j)) (nI (3 * i)) h = f_X10_marks_146 1000 x1 x2 (some (6, j)) 0 h
  | 0, fuel + 1, i, e, hi, hf, _ => by
    have e : i = q := by omega
    subst e
    have e2 : nI (3 * i) + 2 = nI (3 * i + 2) := by rw [lit 2, nI_add]
    unfold f_X10_marks_85
    simp [clR_s, ixR_s, memT1, hs, e2, nI_le (show 3 * i ≤ 3 * i + 2 by omega) (by omega)]
  | r + 1, fuel + 1, i, e, hi, hf, hv => by
    have hlt : i < q := by omega
    have x9 := hX.2.2.2.2.2.2.2.2.2.1 j (by omega)
    have e1 : nI (3 * i) + 1 = nI (3 * i + 1) := by rw [nI_1]
    have e2 : nI (3 * i) + 2 = nI (3 * i + 2) := by rw [lit 2, nI_add]
    have e3 : nI (3 * i) + 3 = nI (3 * (i + 1)) := by rw [lit 3, nI_add, Nat.mul_add]
    unfold f_X10_marks_85
    simp only [clR_s, ixR_s, memT1, hs, e1, e2, Bool.and_true, if_true, if_neg (nI_ge (show 3 * i + 2 < 3 * q by omega) (by omega)), ixOk_nI (show 3 * i < 40 by omega) (by decide), ixOk_nI (show 3 * i + 1 < 40 by omega) (by decide), ixOk_nI (show 3 * i + 2 < 40 by omega) (by decide), nI_clamp (show 3 * i < 2 ^ 31 by omega), nI_clamp (show 3 * i + 1 < 2 ^ 31 by omega), nI_clamp (show 3 * i + 2 < 2 ^ 31 by omega), x9, decide_true, cbm_T (hv i (by omega) (by omega)), Option.bind_some, e3]
    rw [if_pos (by decide)]
    exact mx85_T hX hj hq hs r fuel (i + 1) (by omega) (by omega) (by omega) (fun k h1 h2 => hv k (by omega) h2)
theorem mx85_F {h : zM} (hX : XS h) {j q : Nat} (hj : j ≤ 5) (hq : 3 * q ≤ 40) (hs : rI h 6 j 0 = nI (3 * q)) {x1 x2 : Int32} : ∀ (r fuel i : Nat), r = q - i → i ≤ q → r < fuel → (∃ k, i ≤ k ∧ k < q ∧ ¬ Vok (rI h 24 j (3 * k)) (rI h 24 j (3 * k + 1)) (rI h 24 j (3 * k + 2))) → f_X10_marks_85 fuel x1 x2 (some (6, j)) (nI (3 * i)) h = some (-3, fndX h 3)
  | 0, fuel + 1, i, e, hi, hf, hv => by
    obtain ⟨k, h1, h2, -⟩ := hv
    omega
  | r + 1, fuel + 1, i, e, hi, hf, hv => by
    have hlt : i < q := by omega
    have x9 := hX.2.2.2.2.2.2.2.2.2.1 j (by omega)
    have e1 : nI (3 * i) + 1 = nI (3 * i + 1) := by rw [nI_1]
    have e2 : nI (3 * i) + 2 = nI (3 * i + 2) := by rw [lit 2, nI_add]
    have e3 : nI (3 * i) + 3 = nI (3 * (i + 1)) := by rw [lit 3, nI_add, Nat.mul_add]
    unfold f_X10_marks_85
    simp only [clR_s, ixR_s, memT1, hs, e1, e2, Bool.and_true, if_true, if_neg (nI_ge (show 3 * i + 2 < 3 * q by omega) (by omega)), ixOk_nI (show 3 * i < 40 by omega) (by decide), ixOk_nI (show 3 * i + 1 < 40 by omega) (by decide), ixOk_nI (show 3 * i + 2 < 40 by omega) (by decide), nI_clamp (show 3 * i < 2 ^ 31 by omega), nI_clamp (show 3 * i + 1 < 2 ^ 31 by omega), nI_clamp (show 3 * i + 2 < 2 ^ 31 by omega), x9, decide_true, e3]
    by_cases c : Vok (rI h 24 j (3 * i)) (rI h 24 j (3 * i + 1)) (rI h 24 j (3 * i + 2))
    · rw [cbm_T c, Option.bind_some, if_pos (show ¬ (1 : Int32) = 0 by decide)]
      refine mx85_F hX hj hq hs r fuel (i + 1) (by omega) (by omega) (by omega) ?_
      obtain ⟨k, h1, h2, h3⟩ := hv
      refine ⟨k, ?_, h2, h3⟩
      by_cases e : k = i
      · subst e
        exact absurd c h3
      · omega
    · rw [cbm_F c, Option.bind_some, if_neg (by simp), found_3 hX]
      rfl
theorem mx146 {h : zM} {np n : Nat} (hI : Inv h np n) {j q p : Nat} (hj : j ≤ 5) (hq : 3 * q ≤ 40) (hn : n + q ≤ 40) (hp : p < np) (hs : rI h 6 j 0 = nI (3 * q)) {x1 : Int32} : ∀ (r fuel i : Nat) (h1 : zM), r = q - i → i ≤ q → r < fuel → HX h h1 n i p x1 (rI h 10 0 8) (rI h 24 j) → ∃ h2, f_X10_marks_146 fuel x1 (nI p) (some (6, j)) (nI (3 * i)) h1 = some (nI q, h2) ∧ HX h h2 n q p x1 (rI h 10 0 8) (rI h 24 j)
  | 0, fuel + 1, i, h1, e, hi, hf, A => by
    have e : i = q := by omega
    subst e
    have e2 : nI (3 * i) + 2 = nI (3 * i + 2) := by rw [lit 2, nI_add]
    have s1 : rI h1 6 j 0 = nI (3 * i) := by rw [A.1 _ _ _ (by decide) (by simp)]; exact hs
    refine ⟨h1, ?_, A⟩
    unfold f_X10_marks_146
    simp [clR_s, ixR_s, memT1, s1, e2, nI_le (show 3 * i ≤ 3 * i + 2 by omega) (by omega), div3 (3 * i) (by omega)]
  | r + 1, fuel + 1, i, h1, e, hi, hf, A => by
    have hlt : i < q := by omega
    have X1 := A.XS hI.1
    have P1 := A.PL hI.2.2.2.2.2.2.2.2.1
    have x9 := X1.2.2.2.2.2.2.2.2.2.1 j (by omega)
    have s1 : rI h1 6 j 0 = nI (3 * q) := by rw [A.1 _ _ _ (by decide) (by simp)]; exact hs
    have t1 : rI h1 10 0 8 = rI h 10 0 8 := A.1 _ _ _ (by decide) (by simp)
    have v1 : ∀ k, rI h1 24 j k = rI h 24 j k := fun k => A.1 _ _ _ (by decide) (by simp)
    have c1 : cnM h1 2 = n + i := by rw [A.2.2.2.2.2.2.2.2.1]; simp
    have e1 : nI (3 * i) + 1 = nI (3 * i + 1) := by rw [nI_1]
    have e2 : nI (3 * i) + 2 = nI (3 * i + 2) := by rw [lit 2, nI_add]
    have e3 : nI (3 * i) + 3 = nI (3 * (i + 1)) := by rw [lit 3, nI_add, Nat.mul_add]
    obtain ⟨h2, E, A2⟩ := mx146 hI hj hq hn hp hs r fuel (i + 1) _ (by omega) (by omega) (by omega) A.step
    refine ⟨h2, ?_, A2⟩
    unfold f_X10_marks_146
    simp only [clR_s, ixR_s, memT1, s1, e1, e2, Bool.and_true, if_true, if_neg (nI_ge (show 3 * i + 2 < 3 * q by omega) (by omega)), ixOk_nI (show 3 * i < 40 by omega) (by decide), ixOk_nI (show 3 * i + 1 < 40 by omega) (by decide), ixOk_nI (show 3 * i + 2 < 40 by omega) (by decide), nI_clamp (show 3 * i < 2 ^ 31 by omega), nI_clamp (show 3 * i + 1 < 2 ^ 31 by omega), nI_clamp (show 3 * i + 2 < 2 ^ 31 by omega), x9, decide_true, addMark_eq X1 P1 hp A.2.2.1 (show n + i < 40 by omega) c1, Option.bind_some, e3, v1, t1]
    exact E
theorem rowAt_M {h : zM} (hM : MS h) {j k : Nat} (hj : j ≤ 5) (hk : k < 40) : f_X11_rowAt (nI j) (nI k) h = some (rI h 34 0 (40 * j + k), h) := by
  have m3 := hM.2.2.1
  have e1 : (40 : Int32) * nI j + nI k = nI (40 * j + k) := by rw [lit 40, pk_mul, nI_add]
  unfold f_X11_rowAt
  simp [e1, ixOk_nI (show 40 * j + k < 240 by omega) (by decide), nI_clamp (show 40 * j + k < 2 ^ 31 by omega), m3]
theorem mm80_0 {h : zM} (hM : MS h) {q : Nat} (hq : q ≤ 40) {x1 x2 x3 : Int32} : ∀ (r fuel i : Nat), r = q - i → i ≤ q → r < fuel → f_X11_marks_80 fuel x1 x2 x3 (nI q) 0 (nI i) h = some (-3, fndM h 3)
  | 0, fuel + 1, i, e, hi, hf => by
    have e : i = q := by omega
    subst e
    unfold f_X11_marks_80
    simp [nI_le (Nat.le_refl i) (show i < 2 ^ 31 by omega), meets_3 hM]
  | r + 1, fuel + 1, i, e, hi, hf => by
    have hlt : i < q := by omega
    unfold f_X11_marks_80 f_X11_marks_133 f_X11_marks_134
    simp only [if_neg (nI_ge hlt (show q < 2 ^ 31 by omega)), nI_1, if_true]
    exact mm80_0 hM hq r fuel (i + 1) (by omega) (by omega) (by omega)
theorem mm80_T {h : zM} (hM : MS h) {j q : Nat} (hj : j ≤ 5) (hq : 3 * q ≤ 40) {x1 x2 : Int32} : ∀ (r fuel i : Nat), r = q - i → i ≤ q → r < fuel → (∀ k, i ≤ k → k < q → Vok (rI h 34 0 (40 * j + 3 * k)) (rI h 34 0 (40 * j + (3 * k + 1))) (rI h 34 0 (40 * j + (3 * k + 2)))) → f_X11_marks_80 fuel x1 x2 (nI j) (nI q) 1 (nI i) h = f_X11_marks_156 1000 x1 x2 (nI j) (nI q) 0 h
  | 0, fuel + 1, i, e, hi, hf, _ => by
    have e : i = q := by omega
    subst e
    unfold f_X11_marks_80
    simp [nI_le (Nat.le_refl i) (show i < 2 ^ 31 by omega)]
  | r + 1, fuel + 1, i, e, hi, hf, hv => by
    have hlt : i < q := by omega
    have e0 : (3 : Int32) * nI i = nI (3 * i) := by rw [lit 3, pk_mul]
    have e1 : nI (3 * i) + 1 = nI (3 * i + 1) := by rw [nI_1]
    have e2 : nI (3 * i) + 2 = nI (3 * i + 2) := by rw [lit 2, nI_add]
    unfold f_X11_marks_80 f_X11_marks_133 f_X11_marks_134
    simp only [if_neg (nI_ge hlt (show q < 2 ^ 31 by omega)), nI_1, e0, e1, e2, rowAt_M hM hj (show 3 * i < 40 by omega), rowAt_M hM hj (show 3 * i + 1 < 40 by omega), rowAt_M hM hj (show 3 * i + 2 < 40 by omega), Option.bind_some, isv_T (hv i (by omega) (by omega))]
    rw [if_neg (by decide), if_neg (by decide)]
    exact mm80_T hM hj hq r fuel (i + 1) (by omega) (by omega) (by omega) (fun k h1 h2 => hv k (by omega) h2)
theorem mm80_F {h : zM} (hM : MS h) {j q : Nat} (hj : j ≤ 5) (hq : 3 * q ≤ 40) {x1 x2 : Int32} : ∀ (r fuel i : Nat), r = q - i → i ≤ q → r < fuel → (∃ k, i ≤ k ∧ k < q ∧ ¬ Vok (rI h 34 0 (40 * j + 3 * k)) (rI h 34 0 (40 * j + (3 * k + 1))) (rI h 34 0 (40 * j + (3 * k + 2)))) → f_X11_marks_80 fuel x1 x2 (nI j) (nI q) 1 (nI i) h = some (-3, fndM h 3)
  | 0, fuel + 1, i, e, hi, hf, hv => by
    obtain ⟨k, h1, h2, -⟩ := hv
    omega
  | r + 1, fuel + 1, i, e, hi, hf, hv => by
    have hlt : i < q := by omega
    have e0 : (3 : Int32) * nI i = nI (3 * i) := by rw [lit 3, pk_mul]
    have e1 : nI (3 * i) + 1 = nI (3 * i + 1) := by rw [nI_1]
    have e2 : nI (3 * i) + 2 = nI (3 * i + 2) := by rw [lit 2, nI_add]
    unfold f_X11_marks_80 f_X11_marks_133 f_X11_marks_134
    simp only [if_neg (nI_ge hlt (show q < 2 ^ 31 by omega)), nI_1, e0, e1, e2, rowAt_M hM hj (show 3 * i < 40 by omega), rowAt_M hM hj (show 3 * i + 1 < 40 by omega), rowAt_M hM hj (show 3 * i + 2 < 40 by omega), Option.bind_some]
    by_cases c : Vok (rI h 34 0 (40 * j + 3 * i)) (rI h 34 0 (40 * j + (3 * i + 1))) (rI h 34 0 (40 * j + (3 * i + 2)))
    · rw [isv_T c, Option.bind_some, if_neg (by decide), if_neg (show ¬ (1 : Int32) = 0 by decide)]
      refine mm80_F hM hj hq r fuel (i + 1) (by omega) (by omega) (by omega) ?_
      obtain ⟨k, h1, h2, h3⟩ := hv
      refine ⟨k, ?_, h2, h3⟩
      by_cases e : k = i
      · subst e
        exact absurd c h3
      · omega
    · rw [isv_F c, Option.bind_some, if_neg (by decide), if_pos rfl]
      exact mm80_0 hM (by omega) r fuel (i + 1) (by omega) (by omega) (by omega)
theorem mm156 {h : zM} (hM : MS h) {n j q p : Nat} (hj : j ≤ 5) (hq : 3 * q ≤ 40) (hn : n + q ≤ 40) {x1 d : Int32} (hd : rI h 11 0 5 = d) {v : Nat → Int32} (hv : ∀ k, k < 40 → rI h 34 0 (40 * j + k) = v k) : ∀ (r fuel i : Nat) (h1 : zM), r = q - i → i ≤ q → r < fuel → HM h h1 n i p x1 d v → ∃ h2, f_X11_marks_156 fuel x1 (nI p) (nI j) (nI q) (nI i) h1 = some (nI q, h2) ∧ HM h h2 n q p x1 d v
  | 0, fuel + 1, i, h1, e, hi, hf, A => by
    have e : i = q := by omega
    subst e
    refine ⟨h1, ?_, A⟩
    unfold f_X11_marks_156
    simp [nI_le (Nat.le_refl i) (show i < 2 ^ 31 by omega)]
  | r + 1, fuel + 1, i, h1, e, hi, hf, A => by
    have hlt : i < q := by omega
    have M1 := A.MS hM
    have t1 : rI h1 11 0 5 = d := by rw [A.2.1 _ _ _ (by decide) (by simp)]; exact hd
    have v1 : ∀ k, k < 40 → rI h1 34 0 (40 * j + k) = v k := fun k hk => by rw [A.2.1 _ _ _ (by decide) (by simp)]; exact hv k hk
    have e0 : (3 : Int32) * nI i = nI (3 * i) := by rw [lit 3, pk_mul]
    have e1 : nI (3 * i) + 1 = nI (3 * i + 1) := by rw [nI_1]
    have e2 : nI (3 * i) + 2 = nI (3 * i + 2) := by rw [lit 2, nI_add]
    obtain ⟨h2, E, A2⟩ := mm156 hM hj hq hn hd hv r fuel (i + 1) _ (by omega) (by omega) (by omega) A.step
    refine ⟨h2, ?_, A2⟩
    unfold f_X11_marks_156
    simp only [if_neg (nI_ge hlt (show q < 2 ^ 31 by omega)), nI_1, e0, e1, e2, rowAt_M M1 hj (show 3 * i < 40 by omega), rowAt_M M1 hj (show 3 * i + 1 < 40 by omega), rowAt_M M1 hj (show 3 * i + 2 < 40 by omega), Option.bind_some, v1 _ (show 3 * i < 40 by omega), v1 _ (show 3 * i + 1 < 40 by omega), v1 _ (show 3 * i + 2 < 40 by omega), newMark_eq M1 A.2.2.1 (show n + i < 40 by omega), t1]
    exact E
theorem op_marks {h : zM} {np n : Nat} (hI : Inv h np n) (x1 x2 x3 : Int32) : Okk h (f_X10_marks x1 x2 x3) (f_X11_marks x1 x2 x3) := by
  have hX := hI.1
  have hM := hI.2.1
  have hR := hI.2.2.1
  have hP := hI.2.2.2.2.2.2.2.2.1
  have hK := hI.2.2.2.2.2.2.2.2.2.1
  obtain ⟨d, hd, d1, d2⟩ := hI.2.2.2.2.1
  have RA : ∃ y, f_X10_rowAt x3 h = some (y, h) := by
    rcases rng x3 5 (by decide) with ⟨j, hj, rfl⟩ | hr
    · exact ⟨_, rowAt_in hX hj⟩
    · exact ⟨_, rowAt_out hr⟩
  by_cases c1 : (0 : Int32) ≤ x1 ∧ x1 ≤ 11
  · have hP8 := hP.1
    rcases rngL x2 (k := np) (by omega) with ⟨p, hp, rfl⟩ | hx2
    · rcases rng x3 5 (by decide) with ⟨j, hj, rfl⟩ | hr
      · obtain ⟨hs, hc⟩ := hR j (by omega)
        have i1 := ixOk_nI (show j < 6 by omega) (by decide)
        have cl := nI_clamp (show j < 2 ^ 31 by omega)
        have hn40 := hK.1
        rcases hs with ⟨s1, s2⟩ | ⟨k, hk, s1, s2⟩
        · refine Okk.fnd (f := 1) hI ?_ ?_
          · unfold f_X10_marks
            simp [rowAt_in hX hj, wi_T c1, placeAt_in hX hP hp, clR_s, memT1, miss_T (Or.inl rfl) s2, found_1 hX]
          · have s1' : rI (fndX h 1) 33 0 j = -9999 := s1
            have pl1 : rI (fndX h 1) 11 0 11 = nI np := hP.2.2.1
            unfold f_X11_marks
            simp [isPerson_T c1, isPlace_in pl1 hP.1 hp, askR_F hM.fndX hj s1', show ¬ ((0 : Int32) ≤ -3) by decide]
        · have m2 := hM.2.1
          by_cases h3 : k % 3 = 0
          · obtain ⟨q, rfl⟩ : ∃ q, k = 3 * q := ⟨k / 3, by omega⟩
            have dv : nI (3 * q) / 3 = nI q := by rw [div3 _ (by omega), Nat.mul_div_cancel_left q (by decide)]
            have md := (mod3 (3 * q) (by omega)).mpr h3
            rw [dv] at md
            by_cases h40 : n + q ≤ 40
            · have z1 : nI q ≤ 40 - nI n := by
                rw [lit 40, nI_sub hn40]
                exact nI_le (by omega) (by omega)
              have z2 : nI n + nI q ≤ 40 := by
                rw [lit 40, nI_add]
                exact nI_le (by omega) (by omega)
              by_cases V : ∀ k, k < q → Vok (rI h 24 j (3 * k)) (rI h 24 j (3 * k + 1)) (rI h 24 j (3 * k + 2))
              · obtain ⟨h1, E1, A⟩ := mx146 hI hj hk h40 hp s2 q 1000 0 h (x1 := x1) (by omega) (by omega) (by omega) (HX.refl hK)
                have L1 := mx85_T hX hj hk s2 (x1 := x1) (x2 := nI p) q 1000 0 (by omega) (by omega) (by omega) (fun k _ h2 => V k h2)
                rw [Nat.mul_zero, nI_0] at E1 L1
                have M1 := A.MS hM
                have k1 : rI h1 11 0 13 = nI n := by rw [A.1 _ _ _ (by decide) (by decide)]; exact hK.2.2.1
                have t1 : rI h1 11 0 5 = rI h 10 0 8 := by rw [A.1 _ _ _ (by decide) (by decide), d1]; exact d2
                have pl1 : rI h1 11 0 11 = nI np := by rw [A.1 _ _ _ (by decide) (by decide)]; exact hP.2.2.1
                have s1' : rI h1 33 0 j = nI (3 * q) := by rw [A.1 _ _ _ (by decide) (by simp)]; exact s1
                have v1 : ∀ k, k < 40 → rI h1 34 0 (40 * j + k) = rI h 24 j k := fun k hk => by rw [A.1 _ _ _ (by decide) (by simp)]; exact (hc k hk).symm
                obtain ⟨h2, E2, B⟩ := mm156 M1 (p := p) (x1 := x1) hj hk h40 t1 v1 q 1000 0 h1 (by omega) (by omega) (by omega) (HM.refl k1)
                have L2 := mm80_T M1 hj hk (x1 := x1) (x2 := nI p) q 1000 0 (by omega) (by omega) (by omega) (fun k _ h2 => by rw [v1 _ (by omega), v1 _ (by omega), v1 _ (by omega)]; exact V k h2)
                rw [nI_0] at E2 L2
                have S := mk_scr A B
                have m2' := M1.2.1
                refine ⟨nI q, h1, h2, ?_, ?_, S.1, S.2.1, ⟨np, n + q, mk_inv hI A B h40 hp c1 ⟨d, hd, d1⟩ V⟩, by omega, by omega⟩
                · unfold f_X10_marks
                  simp [rowAt_in hX hj, wi_T c1, placeAt_in hX hP hp, clR_s, ixR_s, memT1, miss_F (Or.inl rfl) hk s2, s2, md, dv, hK.2.1, z1]
                  rw [L1, E1]
                · unfold f_X11_marks
                  simp [isPerson_T c1, isPlace_in pl1 hP.1 hp, askR_T M1 hj hk s1', i1, cl, m2', s1', md, dv, k1, z2]
                  rw [L2, E2]
              · have V' : ∃ k, 0 ≤ k ∧ k < q ∧ ¬ Vok (rI h 24 j (3 * k)) (rI h 24 j (3 * k + 1)) (rI h 24 j (3 * k + 2)) := by
                  refine Classical.byContradiction fun z => V fun k hk => ?_
                  exact Classical.byContradiction fun y => z ⟨k, by omega, hk, y⟩
                have L1 := mx85_F hX hj hk s2 (x1 := x1) (x2 := nI p) q 1000 0 (by omega) (by omega) (by omega) V'
                rw [Nat.mul_zero, nI_0] at L1
                refine Okk.fnd (f := 3) hI ?_ ?_
                · unfold f_X10_marks
                  simp [rowAt_in hX hj, wi_T c1, placeAt_in hX hP hp, clR_s, ixR_s, memT1, miss_F (Or.inl rfl) hk s2, s2, md, dv, hK.2.1, z1]
                  exact L1
                · have M1 := hM.fndX (f := 3)
                  have s1' : rI (fndX h 3) 33 0 j = nI (3 * q) := s1
                  have pl1 : rI (fndX h 3) 11 0 11 = nI np := hP.2.2.1
                  have k1 : rI (fndX h 3) 11 0 13 = nI n := hK.2.2.1
                  have v1 : ∀ k, k < 40 → rI (fndX h 3) 34 0 (40 * j + k) = rI h 24 j k := fun k hk => (hc k hk).symm
                  have m2' := M1.2.1
                  have L2 := mm80_F M1 hj hk (x1 := x1) (x2 := nI p) q 1000 0 (by omega) (by omega) (by omega) (by
                    obtain ⟨k, a, b, c⟩ := V'
                    refine ⟨k, a, b, ?_⟩
                    rw [v1 _ (by omega), v1 _ (by omega), v1 _ (by omega)]
                    exact c)
                  rw [nI_0] at L2
                  unfold f_X11_marks
                  simp [isPerson_T c1, isPlace_in pl1 hP.1 hp, askR_T M1 hj hk s1', i1, cl, m2', s1', md, dv, k1, z2]
                  exact L2
            · have z1 : ¬ nI q ≤ 40 - nI n := by
                rw [lit 40, nI_sub hn40]
                exact nI_ge (by omega) (by omega)
              have z2 : ¬ nI n + nI q ≤ 40 := by
                rw [lit 40, nI_add]
                exact nI_ge (by omega) (by omega)
              refine Okk.same hI (a := -2) ?_ ?_
              · unfold f_X10_marks
                simp [rowAt_in hX hj, wi_T c1, placeAt_in hX hP hp, clR_s, ixR_s, memT1, miss_F (Or.inl rfl) hk s2, s2, md, dv, hK.2.1, z1]
              · unfold f_X11_marks
                simp [isPerson_T c1, isPlace_in hP.2.2.1 hP.1 hp, askR_T hM hj hk s1, i1, cl, m2, s1, md, dv, hK.2.2.1, z2]
          · have md : ¬ (nI k - nI k / 3 * 3 = 0) := fun z => h3 ((mod3 k (by omega)).mp z)
            refine Okk.fnd (f := 5) hI ?_ ?_
            · unfold f_X10_marks
              simp [rowAt_in hX hj, wi_T c1, placeAt_in hX hP hp, clR_s, ixR_s, memT1, miss_F (Or.inl rfl) hk s2, s2, md, found_5 hX]
            · have s1' : rI (fndX h 5) 33 0 j = nI k := s1
              have pl1 : rI (fndX h 5) 11 0 11 = nI np := hP.2.2.1
              have m2' : rR (fndX h 5) 11 0 6 = some (33, 0) := m2
              unfold f_X11_marks
              simp [isPerson_T c1, isPlace_in pl1 hP.1 hp, askR_T hM.fndX hj hk s1', i1, cl, m2', s1', md, meets_5 hM.fndX]
      · refine Okk.same hI (a := -1) ?_ ?_
        · unfold f_X10_marks
          simp [rowAt_out hr, wi_T c1, placeAt_in hX hP hp]
        · unfold f_X11_marks
          simp [isPerson_T c1, isPlace_in hP.2.2.1 hP.1 hp, askedRow_out hr, m1n]
    · refine Okk.same hI (a := -1) ?_ ?_
      · obtain ⟨y, hy⟩ := RA
        unfold f_X10_marks
        simp [hy, wi_T c1, placeAt_out hP hx2]
      · unfold f_X11_marks
        simp [isPerson_T c1, isPlace_out hP.2.2.1 hx2]
  · refine Okk.same hI (a := -1) ?_ ?_
    · obtain ⟨y, hy⟩ := RA
      unfold f_X10_marks
      simp [hy, wi_F c1]
    · unfold f_X11_marks
      simp [isPerson_F c1]
