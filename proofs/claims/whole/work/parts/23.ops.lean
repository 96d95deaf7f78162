def Scr (h h' : zM) : Prop := slM h' = slM h ∧ ∀ j, rI h' 19 0 j = rI h 19 0 j
/-- the class's call and the reference's call answer alike, and the invariant stands behind them -/
def Okk (h : zM) (fx fm : zM → Option (Int32 × zM)) : Prop := ∃ a h1 h2, fx h = some (a, h1) ∧ fm h1 = some (a, h2) ∧ Scr h h1 ∧ Scr h h2 ∧ (∃ np n, Inv h2 np n) ∧ ncM h2 ≤ ncM h + 20 ∧ nsM h2 ≤ nsM h + 200
theorem Okk.same {h : zM} {fx fm : zM → Option (Int32 × zM)} {a : Int32} {np n : Nat} (hI : Inv h np n) (h1 : fx h = some (a, h)) (h2 : fm h = some (a, h)) : Okk h fx fm := ⟨a, h, h, h1, h2, ⟨rfl, fun _ => rfl⟩, ⟨rfl, fun _ => rfl⟩, ⟨np, n, hI⟩, by omega, by omega⟩
def fndX (h : zM) (f : Nat) : zM := wI (wI h 10 0 12 (nI f)) 31 0 f (rI h 31 0 f + 1)
def fndM (h : zM) (f : Nat) : zM := wI (wI h 11 0 0 (nI f)) 32 0 f (rI h 32 0 f + 1)
theorem found_eq {h : zM} (hX : XS h) {f : Nat} (hf : f < 6) : f_X10_found (nI f) h = some (-3, fndX h f) := by
  obtain ⟨-, -, -, -, -, -, -, x7, -⟩ := hX
  unfold f_X10_found fndX
  simp [x7, ixOk_nI hf (by decide), nI_clamp (show f < 2 ^ 31 by omega), rI_wI]
theorem meets_eq {h : zM} (hM : MS h) {f : Nat} (hf : f < 6) : f_X11_meets (nI f) h = some (-3, fndM h f) := by
  obtain ⟨m1, -⟩ := hM
  unfold f_X11_meets fndM
  simp [m1, ixOk_nI hf (by decide), nI_clamp (show f < 2 ^ 31 by omega), rI_wI]
theorem MS.fndX {h : zM} {f : Nat} (hM : MS h) : MS (fndX h f) := hM
theorem Inv.fnd {h : zM} {np n f : Nat} (hI : Inv h np n) : Inv (fndM (fndX h f) f) np n := by
  obtain ⟨hX, hM, hR, hT, hD, hA, hF, hF2, hP, hK, hL⟩ := hI
  refine ⟨hX, hM, hR.of (fun _ => rfl) (fun _ => rfl) (fun _ _ => rfl) (fun _ => rfl), hT.of (fun _ => rfl) (fun _ => rfl) (fun _ _ => rfl) (fun _ => rfl), hD.of rfl rfl, hA.of rfl rfl, hF.of rfl rfl rfl rfl, ⟨rfl, fun k hk => ?_⟩, hP.of rfl rfl rfl (fun _ => rfl) (fun _ _ _ => rfl) (fun _ => rfl), hK.of rfl rfl rfl (fun _ => rfl) (fun _ _ _ => rfl) (fun _ _ => rfl) (fun _ => rfl) (fun _ => rfl) (fun _ => rfl), hL.of hL.1 (Nat.le_refl _) (fun _ => rfl) (fun _ _ => rfl) (fun _ _ _ => rfl) (fun _ => rfl) (fun _ => rfl)⟩
  have := hF2.2 k hk
  unfold fndM fndX
  simp only [rI_wI]
  by_cases hkf : k = f
  · subst hkf
    simp [this]
  · simp [hkf, this]
theorem Okk.fnd {h : zM} {fx fm : zM → Option (Int32 × zM)} {np n f : Nat} (hI : Inv h np n) (h1 : fx h = some (-3, fndX h f)) (h2 : fm (fndX h f) = some (-3, fndM (fndX h f) f)) : Okk h fx fm := ⟨-3, _, _, h1, h2, ⟨rfl, fun _ => rfl⟩, ⟨rfl, fun _ => rfl⟩, ⟨np, n, hI.fnd⟩, by show ncM h ≤ _; omega, by show nsM h ≤ _; omega⟩
/-- a stretch of an array of ints, filled -/
def fil (h : zM) (c i a b : Nat) (v : Int32) : zM := (fun c' i' f' => if c' = c ∧ i' = i ∧ a ≤ f' ∧ f' < b then v else rI h c' i' f', h.2)
theorem rI_fil (h : zM) (c i a b : Nat) (v : Int32) (c' i' f' : Nat) : rI (fil h c i a b v) c' i' f' = if c' = c ∧ i' = i ∧ a ≤ f' ∧ f' < b then v else rI h c' i' f' := rfl
theorem zM_ext {h h' : zM} (a : ∀ c i f, rI h c i f = rI h' c i f) (b : h.2 = h'.2) : h = h' := by
  obtain ⟨x, y⟩ := h
  obtain ⟨x', y'⟩ := h'
  have hb : y = y' := b
  subst hb
  congr 1
  funext c i f
  exact a c i f
theorem fil_nil (h : zM) (c i a : Nat) (v : Int32) : fil h c i a a v = h := by
  refine zM_ext (fun c' i' f' => ?_) rfl
  rw [rI_fil, if_neg]
  omega
theorem fil_step {h : zM} {c i a b : Nat} {v : Int32} (hab : a < b) : fil (wI h c i a v) c i (a + 1) b v = fil h c i a b v := by
  refine zM_ext (fun c' i' f' => ?_) rfl
  rw [rI_fil, rI_fil, rI_wI]
  by_cases h1 : c' = c ∧ i' = i
  · by_cases h2 : f' = a
    · subst h2
      simp [h1, hab]
    · have e : (a + 1 ≤ f' ∧ f' < b) ↔ (a ≤ f' ∧ f' < b) := by omega
      simp [h1, h2, e]
  · have e1 : ¬ (c' = c ∧ i' = i ∧ a + 1 ≤ f' ∧ f' < b) := fun q => h1 ⟨q.1, q.2.1⟩
    have e2 : ¬ (c' = c ∧ i' = i ∧ a ≤ f' ∧ f' < b) := fun q => h1 ⟨q.1, q.2.1⟩
    have e3 : ¬ (c' = c ∧ i' = i ∧ f' = a) := fun q => h1 ⟨q.1, q.2.1⟩
    rw [if_neg e1, if_neg e2, if_neg e3]
theorem fillI_loop {c i : Nat} (hk : akd c = 1) (hn : aln c < 1000) {v : Int32} : ∀ (m fuel k : Nat) (h : zM), m = aln c - k → k ≤ aln c → m < fuel → f_J7_fill_53178_5 fuel (some (c, i)) v (nI k) (nI (aln c)) h = some (fil h c i k (aln c) v)
  | 0, fuel + 1, k, h, e, hk1, hf => by
    have e : k = aln c := by omega
    unfold f_J7_fill_53178_5
    rw [if_pos (by rw [e]; exact nI_le (Nat.le_refl _) (by omega)), e, fil_nil]
  | m + 1, fuel + 1, k, h, e, hk1, hf => by
    have hlt : k < aln c := by omega
    unfold f_J7_fill_53178_5
    rw [if_neg (nI_ge hlt (by omega))]
    simp only [clR_s, ixR_s, hk, ixOk_nI hlt (show aln c < 2 ^ 31 by omega), nI_clamp (show k < 2 ^ 31 by omega), Bool.and_true, Nat.beq_refl, if_true, nI_1]
    rw [fillI_loop hk hn m fuel (k + 1) _ (by omega) (by omega) (by omega), fil_step hlt]
theorem fillI_eq {c i : Nat} (hk : akd c = 1) (hn : aln c < 1000) {v : Int32} (h : zM) : f_J7_fill_53178 (some (c, i)) v h = some (fil h c i 0 (aln c) v) := by
  unfold f_J7_fill_53178
  rw [if_pos (by simp [clR_s, hk, memN])]
  exact fillI_loop hk hn (aln c) 1000 0 h (by omega) (by omega) (by omega)
theorem rowM_loop {r : Nat} (hr : r < 6) {x2 : Int32} : ∀ (m fuel k : Nat) (h : zM), MS h → m = 40 - k → k ≤ 40 → m < fuel → f_X11_row_34 fuel (nI r) x2 (nI k) h = some (x2, fil h 34 0 (40 * r + k) (40 * r + 40) 0)
  | 0, fuel + 1, k, h, hM, e, hk1, hf => by
    have e : k = 40 := by omega
    subst e
    unfold f_X11_row_34
    rw [if_pos (by decide), fil_nil]
  | m + 1, fuel + 1, k, h, hM, e, hk1, hf => by
    have hlt : k < 40 := by omega
    unfold f_X11_row_34
    have m3 := hM.2.2.1
    have e1 : (40 : Int32) * nI r + nI k = nI (40 * r + k) := by rw [lit 40, pk_mul, nI_add]
    rw [if_neg (by rw [lit 40]; exact nI_ge hlt (by decide)), e1]
    simp only [ixOk_nI (show 40 * r + k < 240 by omega) (by decide), nI_clamp (show 40 * r + k < 2 ^ 31 by omega), m3, decide_true, Bool.and_true, if_true, nI_1]
    rw [rowM_loop hr m fuel (k + 1) (wI h 34 0 (40 * r + k) 0) hM (by omega) (by omega) (by omega), show 40 * r + (k + 1) = 40 * r + k + 1 by omega, fil_step (by omega)]
theorem isRow_in {j : Nat} (hj : j ≤ 5) (h : zM) : f_X11_isRow (nI j) h = some (1, h) := by
  have hw := win hj (by omega)
  rw [← lit 5] at hw
  unfold f_X11_isRow
  simp [in_eq, hw, isB_1]
theorem isRow_out {x : Int32} (hx : x < 0 ∨ nI 5 < x) (h : zM) : f_X11_isRow x h = some (0, h) := by
  have hw := wout hx
  rw [← lit 5] at hw
  unfold f_X11_isRow
  simp [in_eq, hw, isB_0]
theorem op_row {h : zM} {np n : Nat} (hI : Inv h np n) (r x : Int32) : Okk h (f_X10_row r x) (f_X11_row r x) := by
  have hX := hI.1
  have hM := hI.2.1
  rcases rng r 5 (by decide) with ⟨j, hj, rfl⟩ | hr
  · by_cases h40 : x ≤ 40
    · by_cases h0 : 0 ≤ x
      · obtain ⟨k, hk, rfl⟩ : ∃ k, k ≤ 40 ∧ x = nI k := by
          rcases rng x 40 (by decide) with h | h | h
          · exact h
          · exact absurd h0 (Int32.not_le.mpr h)
          · exact absurd h40 (Int32.not_le.mpr h)
        refine ⟨nI k, fil (wI h 6 j 0 (nI k)) 24 j 0 40 0, fil (wI (fil (wI h 6 j 0 (nI k)) 24 j 0 40 0) 33 0 j (nI k)) 34 0 (40 * j + 0) (40 * j + 40) 0, ?_, ?_, ⟨rfl, fun _ => rfl⟩, ⟨rfl, fun _ => rfl⟩, ⟨np, n, ?_⟩, by show ncM h ≤ _; omega, by show nsM h ≤ _; omega⟩
        · have x9 := hX.2.2.2.2.2.2.2.2.2.1 j (by omega)
          have hf := fillI_eq (c := 24) (i := j) (v := 0) rfl (by decide) (wI h 6 j 0 (nI k))
          rw [show aln 24 = 40 from rfl] at hf
          unfold f_X10_row f_X6_begin
          simp [rowAt_in hX hj, h40, h0, clR_s, ixR_s, memT1, x9, hf]
        · unfold f_X11_row
          have m2 := hM.2.1
          have hl := rowM_loop (r := j) (by omega) (x2 := nI k) 40 1000 0 (wI (fil (wI h 6 j 0 (nI k)) 24 j 0 40 0) 33 0 j (nI k)) hM (by omega) (by omega) (by omega)
          rw [nI_0] at hl
          have m2' : rR (fil (wI h 6 j 0 (nI k)) 24 j 0 40 0) 11 0 6 = some (33, 0) := m2
          simp [isRow_in hj, h40, h0, m2', ixOk_nI (show j < 6 by omega) (by decide), nI_clamp (show j < 2 ^ 31 by omega)]
          exact hl
        · obtain ⟨-, -, hR, hT, hD, hA, hF, hF2, hP, hK, hL⟩ := hI
          refine ⟨hX, hM, fun r hr => ?_, hT.of (fun _ => rfl) (fun _ => rfl) (fun _ _ => rfl) (fun _ => rfl), hD.of rfl rfl, hA.of rfl rfl, hF.of rfl rfl rfl rfl, hF2.of rfl rfl (fun _ => rfl) (fun _ => rfl), hP.of rfl rfl rfl (fun _ => rfl) (fun _ _ _ => rfl) (fun _ => rfl), hK.of rfl rfl rfl (fun _ => rfl) (fun _ _ _ => rfl) (fun _ _ => rfl) (fun _ => rfl) (fun _ => rfl) (fun _ => rfl), hL.of hL.1 (Nat.le_refl _) (fun _ => rfl) (fun _ _ => rfl) (fun _ _ _ => rfl) (fun _ => rfl) (fun _ => rfl)⟩
          by_cases hrj : r = j
          · subst hrj
            refine ⟨Or.inr ⟨k, hk, ?_, ?_⟩, fun i hi => ?_⟩
            · simp [rI_fil, rI_wI]
            · simp [rI_fil, rI_wI]
            · simp only [rI_fil, rI_wI]
              simp [hi]
          · refine ⟨(hR r hr).1.of ?_ ?_, fun i hi => ?_⟩
            · simp [rI_fil, rI_wI, hrj]
            · simp [rI_fil, rI_wI, hrj]
            · have e1 : ¬ (40 * j + 0 ≤ 40 * r + i ∧ 40 * r + i < 40 * j + 40) := by omega
              simp only [rI_fil, rI_wI]
              simp [hrj, e1]
              rw [if_neg (by omega)]
              exact (hR r hr).2 i hi
      · refine Okk.fnd (f := 5) hI ?_ ?_
        · unfold f_X10_row
          simp [rowAt_in hX hj, h40, h0, show (5 : Int32) = nI 5 from rfl, found_eq hX (show 5 < 6 by decide)]
        · unfold f_X11_row
          simp [isRow_in hj, h40, h0, show (5 : Int32) = nI 5 from rfl, meets_eq hM.fndX (show 5 < 6 by decide)]
    · refine Okk.same hI (a := -1) ?_ ?_
      · unfold f_X10_row
        simp [rowAt_in hX hj, h40]
      · unfold f_X11_row
        simp [isRow_in hj, h40]
  · refine Okk.same hI (a := -1) ?_ ?_
    · unfold f_X10_row
      simp [rowAt_out hr]
    · unfold f_X11_row
      simp [isRow_out hr]
