theorem rI_wL (h : zM) (c i f : Nat) (v : Int64) (c' i' f' : Nat) : rI (wL h c i f v) c' i' f' = rI h c' i' f' := rfl
theorem rI_wR (h : zM) (c i f : Nat) (v : zR) (c' i' f' : Nat) : rI (wR h c i f v) c' i' f' = rI h c' i' f' := rfl
theorem rL_wI (h : zM) (c i f : Nat) (v : Int32) (c' i' f' : Nat) : rL (wI h c i f v) c' i' f' = rL h c' i' f' := rfl
theorem rL_wR (h : zM) (c i f : Nat) (v : zR) (c' i' f' : Nat) : rL (wR h c i f v) c' i' f' = rL h c' i' f' := rfl
theorem rR_wI (h : zM) (c i f : Nat) (v : Int32) (c' i' f' : Nat) : rR (wI h c i f v) c' i' f' = rR h c' i' f' := rfl
theorem rR_wL (h : zM) (c i f : Nat) (v : Int64) (c' i' f' : Nat) : rR (wL h c i f v) c' i' f' = rR h c' i' f' := rfl
theorem cn_wI (h : zM) (c i f : Nat) (v : Int32) : cnM (wI h c i f v) = cnM h := rfl
theorem cn_wL (h : zM) (c i f : Nat) (v : Int64) : cnM (wL h c i f v) = cnM h := rfl
theorem cn_wR (h : zM) (c i f : Nat) (v : zR) : cnM (wR h c i f v) = cnM h := rfl
theorem nc_wI (h : zM) (c i f : Nat) (v : Int32) : ncM (wI h c i f v) = ncM h := rfl
theorem nc_wL (h : zM) (c i f : Nat) (v : Int64) : ncM (wL h c i f v) = ncM h := rfl
theorem nc_wR (h : zM) (c i f : Nat) (v : zR) : ncM (wR h c i f v) = ncM h := rfl
theorem ns_wI (h : zM) (c i f : Nat) (v : Int32) : nsM (wI h c i f v) = nsM h := rfl
theorem ns_wL (h : zM) (c i f : Nat) (v : Int64) : nsM (wL h c i f v) = nsM h := rfl
theorem ns_wR (h : zM) (c i f : Nat) (v : zR) : nsM (wR h c i f v) = nsM h := rfl
theorem sl_wI (h : zM) (c i f : Nat) (v : Int32) : slM (wI h c i f v) = slM h := rfl
theorem sl_wL (h : zM) (c i f : Nat) (v : Int64) : slM (wL h c i f v) = slM h := rfl
theorem sl_wR (h : zM) (c i f : Nat) (v : zR) : slM (wR h c i f v) = slM h := rfl
theorem clR_s (c i : Nat) : clR (some (c, i)) = c := rfl
theorem ixR_s (c i : Nat) : ixR (some (c, i)) = i := rfl
theorem memT1 (a : Nat) : memN [a] a = true := by simp [memN]
theorem memT2a (a b : Nat) : memN [a, b] a = true := by simp [memN]
theorem memT2b (a b : Nat) : memN [a, b] b = true := by simp [memN]
theorem isB_0 : isB 0 = true := rfl
theorem isB_1 : isB 1 = true := rfl
theorem ixOk_nI {n j : Nat} (h : j < n) (hn : n < 2 ^ 31) : ixOk n (nI j) = true := by
  unfold ixOk
  rw [nI_clamp (by omega)]
  have h1 : ¬ nI j < 0 := nI_pos (by omega)
  simp [h1, h]
theorem lit (n : Nat) : (OfNat.ofNat n : Int32) = nI n := rfl
/-- a number within, as a place; or not -/
theorem rng (x : Int32) (a : Nat) (ha : a < 100000) : (∃ j : Nat, j ≤ a ∧ x = nI j) ∨ x < 0 ∨ nI a < x := by
  rcases pk_ix x (n := a + 1) (by omega) with h | h | ⟨j, hj, e⟩
  · exact Or.inr (Or.inl h)
  · refine Or.inr (Or.inr ?_)
    rw [Int32.lt_iff_toInt_lt, nI_toInt (by omega)]
    rw [Int32.le_iff_toInt_le, nI_toInt (by omega)] at h
    omega
  · exact Or.inl ⟨j, by omega, e⟩
theorem in_eq (v a b : Int32) (h : zM) : f_X11_in v a b h = some (if a ≤ v ∧ v ≤ b then 1 else 0, h) := by
  unfold f_X11_in f_X11_in_14
  by_cases h1 : v < a
  · have : ¬ a ≤ v := Int32.not_le.mpr h1
    simp [h1, this]
  · have h1' : a ≤ v := Int32.not_lt.mp h1
    by_cases h2 : b < v
    · have : ¬ v ≤ b := Int32.not_le.mpr h2
      simp [h1, h2, this]
    · have : v ≤ b := Int32.not_lt.mp h2
      simp [h1, h2, this, h1']
theorem within_eq (v a b : Int32) (h : zM) : f_X10_within v a b h = some (if a ≤ v ∧ v ≤ b then 1 else 0, h) := by
  unfold f_X10_within f_X10_within_14
  by_cases h1 : v < a
  · have : ¬ a ≤ v := Int32.not_le.mpr h1
    simp [h1, this]
  · have h1' : a ≤ v := Int32.not_lt.mp h1
    by_cases h2 : b < v
    · have : ¬ v ≤ b := Int32.not_le.mpr h2
      simp [h1, h2, this]
    · have : v ≤ b := Int32.not_lt.mp h2
      simp [h1, h2, this, h1']
/-- within 0 .. n, by places -/
theorem win {n j : Nat} (h : j ≤ n) (hn : n < 2 ^ 31) : ((0 : Int32) ≤ nI j ∧ nI j ≤ nI n) := ⟨nI_pos' (by omega), nI_le h hn⟩
theorem wout {n : Nat} {x : Int32} (h : x < 0 ∨ nI n < x) : ¬ ((0 : Int32) ≤ x ∧ x ≤ nI n) := by
  rintro ⟨a, b⟩
  rcases h with h | h
  · exact absurd a (Int32.not_le.mpr h)
  · exact absurd b (Int32.not_le.mpr h)
/-- ThinAir's own references -/
def XS (h : zM) : Prop := rR h 10 0 0 = some (26, 0) ∧ rR h 10 0 1 = some (27, 0) ∧ rR h 10 0 2 = some (28, 0) ∧ rR h 10 0 3 = some (29, 0) ∧ rR h 10 0 4 = some (30, 0) ∧ rR h 10 0 5 = some (4, 0) ∧ rR h 10 0 6 = some (4, 1) ∧ rR h 10 0 7 = some (31, 0)
  ∧ (∀ i, i < 6 → rR h 26 0 i = some (6, i)) ∧ (∀ i, i < 6 → rR h 6 i 1 = some (24, i)) ∧ (∀ i, i < 4 → rR h 27 0 i = some (9, i)) ∧ (∀ i, i < 4 → rR h 9 i 1 = some (25, i)) ∧ (∀ i, i < 2 → rR h 4 i 0 = some (21, i)) ∧ (∀ i, i < 2 → rR h 4 i 1 = some (22, i)) ∧ (∀ i, i < 2 → rR h 4 i 2 = some (23, i))
/-- the model's own references -/
def MS (h : zM) : Prop := rR h 11 0 1 = some (32, 0) ∧ rR h 11 0 6 = some (33, 0) ∧ rR h 11 0 7 = some (34, 0) ∧ rR h 11 0 8 = some (35, 0) ∧ rR h 11 0 9 = some (36, 0) ∧ rR h 11 0 10 = some (37, 0) ∧ rR h 11 0 12 = some (38, 0) ∧ rR h 11 0 14 = some (39, 0) ∧ rR h 11 0 15 = some (40, 0) ∧ rR h 11 0 16 = some (41, 0) ∧ rR h 11 0 20 = some (42, 0) ∧ rR h 11 0 26 = some (43, 0) ∧ rR h 11 0 27 = some (44, 0) ∧ rR h 11 0 29 = some (45, 0) ∧ rR h 11 0 30 = some (46, 0)
theorem rowAt_in {h : zM} (hX : XS h) {j : Nat} (hj : j ≤ 5) : f_X10_rowAt (nI j) h = some (some (6, j), h) := by
  obtain ⟨x0, -, -, -, -, -, -, -, x8, -⟩ := hX
  unfold f_X10_rowAt
  have hw := win hj (by omega)
  rw [← lit 5] at hw
  simp [within_eq, hw, x0, nI_clamp (show j < 2 ^ 31 by omega), x8 j (by omega), ixOk_nI (show j < 6 by omega) (by decide)]
theorem rowAt_out {h : zM} {x : Int32} (hx : x < 0 ∨ nI 5 < x) : f_X10_rowAt x h = some (none, h) := by
  unfold f_X10_rowAt
  have hw := wout hx
  rw [← lit 5] at hw
  simp [within_eq, hw]
