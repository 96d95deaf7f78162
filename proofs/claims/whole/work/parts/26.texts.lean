theorem nI_sub {a b : Nat} (h : a ≤ b) : nI b - nI a = nI (b - a) := by
  have e : b = (b - a) + a := by omega
  have : nI b = nI (b - a) + nI a := by rw [nI_add, ← e]
  rw [this, Int32.add_sub_cancel]
theorem Inv.tell {h : zM} {np n : Nat} {v : Int32} (hI : Inv h np n) : Inv (wI (wI h 10 0 11 v) 11 0 2 v) np n := by
  obtain ⟨hX, hM, hR, hT, hD, hA, hF, hF2, hP, hK, hL⟩ := hI
  exact ⟨hX, hM, hR.of (fun _ => rfl) (fun _ => rfl) (fun _ _ => rfl) (fun _ => rfl), hT.of (fun _ => rfl) (fun _ => rfl) (fun _ _ => rfl) (fun _ => rfl), hD.of rfl rfl, rfl, hF.of rfl rfl rfl rfl, hF2.of rfl rfl (fun _ => rfl) (fun _ => rfl), hP.of rfl rfl rfl (fun _ => rfl) (fun _ _ _ => rfl) (fun _ => rfl), hK.of rfl rfl rfl (fun _ => rfl) (fun _ _ _ => rfl) (fun _ _ => rfl) (fun _ => rfl) (fun _ => rfl) (fun _ => rfl), hL.of hL.1 (Nat.le_refl _) (fun _ => rfl) (fun _ _ => rfl) (fun _ _ _ => rfl) (fun _ => rfl) (fun _ => rfl)⟩
theorem Okk.tell {h : zM} {fx fm : zM → Option (Int32 × zM)} {np n : Nat} {a v : Int32} (hI : Inv h np n) (h1 : fx h = some (a, wI h 10 0 11 v)) (h2 : fm (wI h 10 0 11 v) = some (a, wI (wI h 10 0 11 v) 11 0 2 v)) : Okk h fx fm := ⟨a, _, _, h1, h2, ⟨rfl, fun _ => rfl⟩, ⟨rfl, fun _ => rfl⟩, ⟨np, n, hI.tell⟩, by show ncM h ≤ _; omega, by show nsM h ≤ _; omega⟩
def Okl (h : zM) (fx fm : zM → Option (Int64 × zM)) : Prop := ∃ a h1 h2, fx h = some (a, h1) ∧ fm h1 = some (a, h2) ∧ Scr h h1 ∧ Scr h h2 ∧ (∃ np n, Inv h2 np n) ∧ ncM h2 ≤ ncM h + 20 ∧ nsM h2 ≤ nsM h + 200
theorem Okl.same {h : zM} {fx fm : zM → Option (Int64 × zM)} {a : Int64} {np n : Nat} (hI : Inv h np n) (h1 : fx h = some (a, h)) (h2 : fm h = some (a, h)) : Okl h fx fm := ⟨a, h, h, h1, h2, ⟨rfl, fun _ => rfl⟩, ⟨rfl, fun _ => rfl⟩, ⟨np, n, hI⟩, by omega, by omega⟩
theorem op_asked {h : zM} {np n : Nat} (hI : Inv h np n) : Okk h f_X10_asked f_X11_asked := by
  refine Okk.same hI (a := rI h 10 0 11) rfl ?_
  unfold f_X11_asked
  rw [hI.2.2.2.2.2.1]
theorem op_upper {h : zM} {np n : Nat} (hI : Inv h np n) : Okl h f_X10_upper f_X11_upper := by
  refine Okl.same hI (a := rL h 10 0 13) rfl ?_
  unfold f_X11_upper
  rw [hI.2.2.2.2.2.2.1.1]
theorem op_lower {h : zM} {np n : Nat} (hI : Inv h np n) : Okl h f_X10_lower f_X11_lower := by
  refine Okl.same hI (a := rL h 10 0 14) rfl ?_
  unfold f_X11_lower
  rw [hI.2.2.2.2.2.2.1.2]
theorem op_finding {h : zM} {np n : Nat} (hI : Inv h np n) : Okk h f_X10_finding f_X11_finding := by
  refine Okk.same hI (a := rI h 10 0 12) rfl ?_
  unfold f_X11_finding
  rw [hI.2.2.2.2.2.2.2.1.1]
theorem rng1 (x : Int32) (a : Nat) (ha : a < 100000) : (∃ j : Nat, 1 ≤ j ∧ j ≤ a ∧ x = nI j) ∨ ¬ ((1 : Int32) ≤ x ∧ x ≤ nI a) := by
  rcases rng x a ha with ⟨j, hj, e⟩ | h | h
  · cases j with
    | zero =>
      right
      rw [e]
      rintro ⟨q, -⟩
      exact absurd q (by decide)
    | succ j => exact Or.inl ⟨j + 1, by omega, hj, e⟩
  · right
    rintro ⟨q, -⟩
    rw [Int32.le_iff_toInt_le] at q
    rw [Int32.lt_iff_toInt_lt] at h
    have e0 : (0 : Int32).toInt = 0 := by decide
    have e1 : (1 : Int32).toInt = 1 := by decide
    omega
  · right
    rintro ⟨-, q⟩
    exact absurd q (Int32.not_le.mpr h)
theorem w1n {n j : Nat} (h1 : 1 ≤ j) (h : j ≤ n) (hn : n < 2 ^ 31) : ((1 : Int32) ≤ nI j ∧ nI j ≤ nI n) := by
  refine ⟨?_, nI_le h hn⟩
  have := nI_le h1 (show j < 2 ^ 31 by omega)
  exact this
theorem op_findings {h : zM} {np n : Nat} (hI : Inv h np n) (x : Int32) : Okk h (f_X10_findings x) (f_X11_findings x) := by
  rcases rng1 x 5 (by decide) with ⟨j, hj1, hj, rfl⟩ | hr
  · have hw := w1n hj1 hj (by omega)
    rw [← lit 5] at hw
    have x7 := hI.1.2.2.2.2.2.2.2.1
    have m1 := hI.2.1.1
    refine Okk.same hI (a := rI h 31 0 j) ?_ ?_
    · unfold f_X10_findings
      simp [wi_T hw, ixOk_nI (show j < 6 by omega) (by decide), nI_clamp (show j < 2 ^ 31 by omega), x7]
    · unfold f_X11_findings
      rw [hI.2.2.2.2.2.2.2.1.2 j (by omega)]
      simp [in_T hw, ixOk_nI (show j < 6 by omega) (by decide), nI_clamp (show j < 2 ^ 31 by omega), m1]
  · rw [← lit 5] at hr
    refine Okk.same hI (a := -1) ?_ ?_
    · unfold f_X10_findings
      simp [wi_F hr]
    · unfold f_X11_findings
      simp [in_F hr]
def sm (g : Nat → Int32) : Nat → Nat → Int64 → Int64
  | 0, _, a => a
  | r + 1, k, a => sm g r (k + 1) (a + (g k).toInt64)
theorem sm_congr {g g' : Nat → Int32} : ∀ (r k : Nat) (a : Int64), (∀ i, k ≤ i → i < k + r → g i = g' i) → sm g r k a = sm g' r k a
  | 0, _, _, _ => rfl
  | r + 1, k, a, hg => by
    unfold sm
    rw [hg k (by omega) (by omega)]
    exact sm_congr r (k + 1) _ (fun i h1 h2 => hg i (by omega) (by omega))
theorem cell_in {h : zM} (hX : XS h) {j k q : Nat} (hj : j ≤ 5) (hk : k ≤ 40) (hs : rI h 6 j 0 = nI k) (hq : q < k) : f_X6_cell (some (6, j)) (nI q) h = some (rI h 24 j q, h) := by
  have x9 := hX.2.2.2.2.2.2.2.2.2.1 j (by omega)
  have hin : (0 : Int32) ≤ nI q ∧ nI q < nI k := ⟨nI_pos' (by omega), nI_lt hq (by omega)⟩
  unfold f_X6_cell
  simp [clR_s, ixR_s, memT1, has_T (Or.inl rfl) hs hin, x9, ixOk_nI (show q < 40 by omega) (by decide), nI_clamp (show q < 2 ^ 31 by omega)]
theorem sum_loop {h : zM} (hX : XS h) {j n : Nat} (hj : j ≤ 5) (hn : n ≤ 40) (hs : rI h 6 j 0 = nI n) : ∀ (r fuel k : Nat) (a : Int64), r = n - k → k ≤ n → r < fuel → f_X6_sum_4 fuel (some (6, j)) a (nI k) h = some (sm (fun i => rI h 24 j i) r k a, h)
  | 0, fuel + 1, k, a, e, hk1, hf => by
    have e : k = n := by omega
    subst e
    unfold f_X6_sum_4
    simp [clR_s, ixR_s, memT1, hs, nI_le (Nat.le_refl k) (by omega), sm]
  | r + 1, fuel + 1, k, a, e, hk1, hf => by
    have hlt : k < n := by omega
    unfold f_X6_sum_4
    simp only [clR_s, ixR_s, memT1, hs, Bool.and_true, if_true, if_neg (nI_ge hlt (by omega)), cell_in hX hj hn hs hlt, Option.bind_some, nI_1]
    rw [sum_loop hX hj hn hs r fuel (k + 1) _ (by omega) (by omega) (by omega)]
    rfl
theorem meanM_loop {h : zM} (hM : MS h) {j n : Nat} (hj : j ≤ 5) (hn : n ≤ 40) (hs : rI h 33 0 j = nI n) : ∀ (r fuel k : Nat) (a : Int64), r = n - k → k ≤ n → r < fuel → f_X11_mean_17 fuel (nI j) a (nI k) h = if n = 0 then some (-3, fndM h 4) else some (1, wI h 11 0 2 (Int64.toInt32 (sm (fun i => rI h 34 0 (40 * j + i)) r k a / (nI n).toInt64)))
  | 0, fuel + 1, k, a, e, hk1, hf => by
    have e : k = n := by omega
    subst e
    have m2 := hM.2.1
    unfold f_X11_mean_17 f_X11_ask
    by_cases h0 : k = 0
    · subst h0
      simp [m2, ixOk_nI (show j < 6 by omega) (by decide), nI_clamp (show j < 2 ^ 31 by omega), hs, nI_0, meets_4 hM]
    · have z1 : ¬ nI k = 0 := nI_ne0 (by omega) (by omega)
      have z2 : ¬ (nI k).toInt64 = 0 := by
        intro z
        have := congrArg Int64.toInt z
        rw [Int32.toInt_toInt64, nI_toInt (by omega)] at this
        have e0 : (0 : Int64).toInt = 0 := by decide
        omega
      simp [m2, ixOk_nI (show j < 6 by omega) (by decide), nI_clamp (show j < 2 ^ 31 by omega), hs, nI_le (Nat.le_refl k) (show k < 2 ^ 31 by omega), h0, z1, z2, sm]
  | r + 1, fuel + 1, k, a, e, hk1, hf => by
    have hlt : k < n := by omega
    have m2 := hM.2.1
    have m3 := hM.2.2.1
    have e1 : (40 : Int32) * nI j + nI k = nI (40 * j + k) := by rw [lit 40, pk_mul, nI_add]
    unfold f_X11_mean_17 f_X11_rowAt
    simp only [m2, m3, ixOk_nI (show j < 6 by omega) (by decide), nI_clamp (show j < 2 ^ 31 by omega), hs, decide_true, Bool.and_true, if_true, if_neg (nI_ge hlt (show n < 2 ^ 31 by omega)), e1, ixOk_nI (show 40 * j + k < 240 by omega) (by decide), nI_clamp (show 40 * j + k < 2 ^ 31 by omega), Option.bind_some, nI_1]
    rw [meanM_loop hM hj hn hs r fuel (k + 1) _ (by omega) (by omega) (by omega)]
    rfl
theorem op_mean {h : zM} {np n : Nat} (hI : Inv h np n) (x : Int32) : Okk h (f_X10_mean x) (f_X11_mean x) := by
  have hX := hI.1
  have hM := hI.2.1
  have hR := hI.2.2.1
  rcases rng x 5 (by decide) with ⟨j, hj, rfl⟩ | hr
  · obtain ⟨hs, hc⟩ := hR j (by omega)
    rcases hs with ⟨s1, s2⟩ | ⟨k, hk, s1, s2⟩
    · refine Okk.fnd (f := 1) hI ?_ ?_
      · unfold f_X10_mean
        simp [rowAt_in hX hj, clR_s, memT1, miss_T (Or.inl rfl) s2, found_1 hX]
      · unfold f_X11_mean
        have s1' : rI (fndX h 1) 33 0 j = -9999 := s1
        simp [askR_F hM.fndX hj s1', show ¬ ((0 : Int32) ≤ -3) by decide]
    · by_cases h0 : k = 0
      · subst h0
        refine Okk.fnd (f := 4) hI ?_ ?_
        · unfold f_X10_mean
          simp [rowAt_in hX hj, clR_s, ixR_s, memT1, miss_F (Or.inl rfl) hk s2, s2, nI_0, found_4 hX]
        · have s1' : rI (fndX h 4) 33 0 j = nI 0 := s1
          have L := meanM_loop hM.fndX hj (by omega) s1' 0 1000 0 0 (by omega) (by omega) (by omega)
          rw [nI_0] at L
          unfold f_X11_mean
          simp [askR_T hM.fndX hj hk s1', L]
      · have z1 : ¬ nI k = 0 := nI_ne0 (by omega) (by omega)
        have z2 : ¬ (nI k).toInt64 = 0 := by
          intro z
          have := congrArg Int64.toInt z
          rw [Int32.toInt_toInt64, nI_toInt (by omega)] at this
          have e0 : (0 : Int64).toInt = 0 := by decide
          omega
        refine Okk.tell (a := 1) (v := Int64.toInt32 (sm (fun i => rI h 24 j i) k 0 0 / (nI k).toInt64)) hI ?_ ?_
        · have S := sum_loop hX hj hk s2 k 1000 0 0 (by omega) (by omega) (by omega)
          rw [nI_0] at S
          unfold f_X10_mean f_X6_sum f_X10_tell
          simp [rowAt_in hX hj, clR_s, ixR_s, memT1, miss_F (Or.inl rfl) hk s2, s2, z1, z2, S]
        · rw [sm_congr (g' := fun i => rI h 34 0 (40 * j + i)) k 0 0 (fun i _ hi => hc i (by omega))]
          generalize hv : Int64.toInt32 (sm (fun i => rI h 34 0 (40 * j + i)) k 0 0 / (nI k).toInt64) = v
          have hM' : MS (wI h 10 0 11 v) := hM
          have s1' : rI (wI h 10 0 11 v) 33 0 j = nI k := s1
          have L := meanM_loop hM' hj hk s1' k 1000 0 0 (by omega) (by omega) (by omega)
          rw [nI_0, if_neg h0] at L
          have e : Int64.toInt32 (sm (fun i => rI (wI h 10 0 11 v) 34 0 (40 * j + i)) k 0 0 / (nI k).toInt64) = v := hv
          rw [e] at L
          unfold f_X11_mean
          simp [askR_T hM' hj hk s1', L]
  · refine Okk.same hI (a := -1) ?_ ?_
    · unfold f_X10_mean
      simp [rowAt_out hr]
    · unfold f_X11_mean
      simp [askedRow_out hr, m1n]
theorem textAt_in {h : zM} (hX : XS h) {j : Nat} (hj : j ≤ 3) : f_X10_textAt (nI j) h = some (some (9, j), h) := by
  have x1 := hX.2.1
  have x10 := hX.2.2.2.2.2.2.2.2.2.2.1 j (by omega)
  unfold f_X10_textAt
  have hw := win hj (by omega)
  rw [← lit 3] at hw
  simp [wi_T hw, x1, nI_clamp (show j < 2 ^ 31 by omega), x10, ixOk_nI (show j < 4 by omega) (by decide)]
theorem textAt_out {h : zM} {x : Int32} (hx : x < 0 ∨ nI 3 < x) : f_X10_textAt x h = some (none, h) := by
  unfold f_X10_textAt
  have hw := wout hx
  rw [← lit 3] at hw
  simp [wi_F hw]
theorem isText_in {j : Nat} (hj : j ≤ 3) (h : zM) : f_X11_isText (nI j) h = some (1, h) := by
  have hw := win hj (by omega)
  rw [← lit 3] at hw
  unfold f_X11_isText
  simp [in_T hw, isB_1]
theorem isText_out {x : Int32} (hx : x < 0 ∨ nI 3 < x) (h : zM) : f_X11_isText x h = some (0, h) := by
  have hw := wout hx
  rw [← lit 3] at hw
  unfold f_X11_isText
  simp [in_F hw, isB_0]
theorem fillB_loop {c i : Nat} (hk : akd c = 2) (hn : aln c < 1000) {v : Int32} : ∀ (m fuel k : Nat) (h : zM), m = aln c - k → k ≤ aln c → m < fuel → f_J7_fill_031fb_5 fuel (some (c, i)) v (nI k) (nI (aln c)) h = some (fil h c i k (aln c) (Int8.toInt32 (Int32.toInt8 v)))
  | 0, fuel + 1, k, h, e, hk1, hf => by
    have e : k = aln c := by omega
    unfold f_J7_fill_031fb_5
    rw [if_pos (by rw [e]; exact nI_le (Nat.le_refl _) (by omega)), e, fil_nil]
  | m + 1, fuel + 1, k, h, e, hk1, hf => by
    have hlt : k < aln c := by omega
    unfold f_J7_fill_031fb_5
    rw [if_neg (nI_ge hlt (by omega))]
    simp only [clR_s, ixR_s, hk, ixOk_nI hlt (show aln c < 2 ^ 31 by omega), nI_clamp (show k < 2 ^ 31 by omega), Bool.and_true, Nat.beq_refl, if_true, nI_1]
    rw [fillB_loop hk hn m fuel (k + 1) _ (by omega) (by omega) (by omega), fil_step hlt]
theorem fillB_eq {c i : Nat} (hk : akd c = 2) (hn : aln c < 1000) {v : Int32} (h : zM) : f_J7_fill_031fb (some (c, i)) v h = some (fil h c i 0 (aln c) (Int8.toInt32 (Int32.toInt8 v))) := by
  unfold f_J7_fill_031fb
  rw [if_pos (by simp [clR_s, hk, memN])]
  exact fillB_loop hk hn (aln c) 1000 0 h (by omega) (by omega) (by omega)
theorem textM_loop {r : Nat} (hr : r < 4) {x2 : Int32} : ∀ (m fuel k : Nat) (h : zM), MS h → m = 40 - k → k ≤ 40 → m < fuel → f_X11_text_34 fuel (nI r) x2 (nI k) h = some (x2, fil h 37 0 (40 * r + k) (40 * r + 40) 32)
  | 0, fuel + 1, k, h, hM, e, hk1, hf => by
    have e : k = 40 := by omega
    subst e
    unfold f_X11_text_34
    rw [if_pos (by decide), fil_nil]
  | m + 1, fuel + 1, k, h, hM, e, hk1, hf => by
    have hlt : k < 40 := by omega
    unfold f_X11_text_34
    have m3 := hM.2.2.2.2.2.1
    have e1 : (40 : Int32) * nI r + nI k = nI (40 * r + k) := by rw [lit 40, pk_mul, nI_add]
    rw [if_neg (by rw [lit 40]; exact nI_ge hlt (by decide)), e1]
    simp only [ixOk_nI (show 40 * r + k < 160 by omega) (by decide), nI_clamp (show 40 * r + k < 2 ^ 31 by omega), m3, decide_true, Bool.and_true, if_true, nI_1]
    rw [textM_loop hr m fuel (k + 1) (wI h 37 0 (40 * r + k) 32) hM (by omega) (by omega) (by omega), show 40 * r + (k + 1) = 40 * r + k + 1 by omega, fil_step (by omega)]
theorem op_text {h : zM} {np n : Nat} (hI : Inv h np n) (r x : Int32) : Okk h (f_X10_text r x) (f_X11_text r x) := by
  have hX := hI.1
  have hM := hI.2.1
  rcases rng r 3 (by decide) with ⟨j, hj, rfl⟩ | hr
  · by_cases h40 : x ≤ 40
    · by_cases h0 : 0 ≤ x
      · obtain ⟨k, hk, rfl⟩ : ∃ k, k ≤ 40 ∧ x = nI k := by
          rcases rng x 40 (by decide) with h | h | h
          · exact h
          · exact absurd h0 (Int32.not_le.mpr h)
          · exact absurd h40 (Int32.not_le.mpr h)
        refine ⟨nI k, fil (wI h 9 j 0 (nI k)) 25 j 0 40 32, fil (wI (fil (wI h 9 j 0 (nI k)) 25 j 0 40 32) 36 0 j (nI k)) 37 0 (40 * j + 0) (40 * j + 40) 32, ?_, ?_, ⟨rfl, fun _ => rfl⟩, ⟨rfl, fun _ => rfl⟩, ⟨np, n, ?_⟩, by show ncM h ≤ _; omega, by show nsM h ≤ _; omega⟩
        · have x9 := hX.2.2.2.2.2.2.2.2.2.2.2.1 j (by omega)
          have hf := fillB_eq (c := 25) (i := j) (v := 32) rfl (by decide) (wI h 9 j 0 (nI k))
          rw [show aln 25 = 40 from rfl, show Int8.toInt32 (Int32.toInt8 32) = 32 by decide] at hf
          unfold f_X10_text f_X9_begin
          simp [textAt_in hX hj, h40, h0, clR_s, ixR_s, memT1, x9, hf]
        · unfold f_X11_text
          have m2 := hM.2.2.2.2.1
          have hl := textM_loop (r := j) (by omega) (x2 := nI k) 40 1000 0 (wI (fil (wI h 9 j 0 (nI k)) 25 j 0 40 32) 36 0 j (nI k)) hM (by omega) (by omega) (by omega)
          rw [nI_0] at hl
          have m2' : rR (fil (wI h 9 j 0 (nI k)) 25 j 0 40 32) 11 0 9 = some (36, 0) := m2
          simp [isText_in hj, h40, h0, m2', ixOk_nI (show j < 4 by omega) (by decide), nI_clamp (show j < 2 ^ 31 by omega)]
          exact hl
        · obtain ⟨-, -, hR, hT, hD, hA, hF, hF2, hP, hK, hL⟩ := hI
          refine ⟨hX, hM, hR.of (fun _ => rfl) (fun _ => rfl) (fun _ _ => rfl) (fun _ => rfl), fun r hr => ?_, hD.of rfl rfl, hA.of rfl rfl, hF.of rfl rfl rfl rfl, hF2.of rfl rfl (fun _ => rfl) (fun _ => rfl), hP.of rfl rfl rfl (fun _ => rfl) (fun _ _ _ => rfl) (fun _ => rfl), hK.of rfl rfl rfl (fun _ => rfl) (fun _ _ _ => rfl) (fun _ _ => rfl) (fun _ => rfl) (fun _ => rfl) (fun _ => rfl), hL.of hL.1 (Nat.le_refl _) (fun _ => rfl) (fun _ _ => rfl) (fun _ _ _ => rfl) (fun _ => rfl) (fun _ => rfl)⟩
          by_cases hrj : r = j
          · subst hrj
            refine ⟨Or.inr ⟨k, hk, ?_, ?_⟩, fun i hi => ?_⟩
            · simp [rI_fil, rI_wI]
            · simp [rI_fil, rI_wI]
            · simp only [rI_fil, rI_wI]
              simp [hi]
          · refine ⟨(hT r hr).1.of ?_ ?_, fun i hi => ?_⟩
            · simp [rI_fil, rI_wI, hrj]
            · simp [rI_fil, rI_wI, hrj]
            · have e1 : ¬ (40 * j + 0 ≤ 40 * r + i ∧ 40 * r + i < 40 * j + 40) := by omega
              simp only [rI_fil, rI_wI]
              simp [hrj, e1]
              rw [if_neg (by omega)]
              exact (hT r hr).2 i hi
      · refine Okk.fnd (f := 5) hI ?_ ?_
        · unfold f_X10_text
          simp [textAt_in hX hj, h40, h0, found_5 hX]
        · unfold f_X11_text
          simp [isText_in hj, h40, h0, meets_5 hM.fndX]
    · refine Okk.same hI (a := -1) ?_ ?_
      · unfold f_X10_text
        simp [textAt_in hX hj, h40]
      · unfold f_X11_text
        simp [isText_in hj, h40]
  · refine Okk.same hI (a := -1) ?_ ?_
    · unfold f_X10_text
      simp [textAt_out hr]
    · unfold f_X11_text
      simp [isText_out hr]
theorem askT_F {h : zM} (hM : MS h) {j : Nat} (hj : j ≤ 3) (hs : rI h 36 0 j = -9999) : f_X11_askedText (nI j) h = some (-3, fndM h 1) := by
  have m2 := hM.2.2.2.2.1
  unfold f_X11_askedText
  simp [isText_in hj, m2, ixOk_nI (show j < 4 by omega) (by decide), nI_clamp (show j < 2 ^ 31 by omega), hs, m9, meets_1 hM]
theorem askT_T {h : zM} (hM : MS h) {j k : Nat} (hj : j ≤ 3) (hk : k ≤ 40) (hs : rI h 36 0 j = nI k) : f_X11_askedText (nI j) h = some (0, h) := by
  have m2 := hM.2.2.2.2.1
  have g0 : (0 : Int32) ≤ nI k := nI_pos' (by omega)
  unfold f_X11_askedText
  simp [isText_in hj, m2, ixOk_nI (show j < 4 by omega) (by decide), nI_clamp (show j < 2 ^ 31 by omega), hs, g0]
theorem askT_out {h : zM} {x : Int32} (hx : x < 0 ∨ nI 3 < x) : f_X11_askedText x h = some (-1, h) := by
  unfold f_X11_askedText
  simp [isText_out hx]
theorem op_put {h : zM} {np n : Nat} (hI : Inv h np n) (r i v : Int32) : Okk h (f_X10_put r i v) (f_X11_put r i v) := by
  have hX := hI.1
  have hM := hI.2.1
  have hT := hI.2.2.2.1
  rcases rng r 3 (by decide) with ⟨j, hj, rfl⟩ | hr
  · obtain ⟨hs, hc⟩ := hT j (by omega)
    have x9 := hX.2.2.2.2.2.2.2.2.2.2.2.1 j (by omega)
    have m2 := hM.2.2.2.2.1
    have m3 := hM.2.2.2.2.2.1
    rcases hs with ⟨s1, s2⟩ | ⟨k, hk, s1, s2⟩
    · refine Okk.fnd (f := 1) hI ?_ ?_
      · unfold f_X10_put
        simp [textAt_in hX hj, clR_s, memT1, miss_T (Or.inr rfl) s2, found_1 hX]
      · unfold f_X11_put
        have s1' : rI (fndX h 1) 36 0 j = -9999 := s1
        simp [askT_F hM.fndX hj s1', show ¬ ((0 : Int32) ≤ -3) by decide]
    · have g0 := nI_ge0 (k := k) (by omega)
      by_cases hin : 0 ≤ i ∧ i < nI k
      · obtain ⟨q, hq, rfl⟩ : ∃ q, q < k ∧ i = nI q := by
          rcases pk_ix i (n := k) (by omega) with h | h | h
          · exact absurd hin.1 (Int32.not_le.mpr h)
          · exact absurd hin.2 (Int32.not_lt.mpr h)
          · exact h
        have e1 : (40 : Int32) * nI j + nI q = nI (40 * j + q) := by rw [lit 40, pk_mul, nI_add]
        have w : Int8.toInt32 (Int32.toInt8 (Int8.toInt32 (Int32.toInt8 v))) = Int8.toInt32 (Int32.toInt8 v) := by simp
        generalize hw : Int8.toInt32 (Int32.toInt8 v) = u at w
        refine ⟨rI h 25 j q + 1000, wI h 25 j q u, wI (wI h 25 j q u) 37 0 (40 * j + q) u, ?_, ?_, ⟨rfl, fun _ => rfl⟩, ⟨rfl, fun _ => rfl⟩, ⟨np, n, ?_⟩, by show ncM h ≤ _; omega, by show nsM h ≤ _; omega⟩
        · unfold f_X10_put
          simp only [textAt_in hX hj, clR_s, ixR_s, memT1, miss_F (Or.inr rfl) hk s2, has_T (Or.inr rfl) s2 hin, x9, ixOk_nI (show q < 40 by omega) (by decide), nI_clamp (show q < 2 ^ 31 by omega), hw, w, Option.bind_some]
          simp
        · have s1' : rI (wI h 25 j q u) 36 0 j = nI k := s1
          have m2' : rR (wI h 25 j q u) 11 0 9 = some (36, 0) := m2
          have m3' : rR (wI h 25 j q u) 11 0 10 = some (37, 0) := m3
          have hM' : MS (wI h 25 j q u) := hM
          have hin' := (inlt (show k ≤ 1000 by omega) (nI q)).mpr hin
          have rr : rI (wI h 25 j q u) 37 0 (40 * j + q) = rI h 25 j q := (hc q (by omega)).symm
          unfold f_X11_put
          simp [askT_T hM' hj hk s1', s1', m2', m3', ixOk_nI (show j < 4 by omega) (by decide), nI_clamp (show j < 2 ^ 31 by omega), in_T hin', e1, ixOk_nI (show 40 * j + q < 160 by omega) (by decide), nI_clamp (show 40 * j + q < 2 ^ 31 by omega), rr, hw]
        · obtain ⟨-, -, hR, -, hD, hA, hF, hF2, hP, hK, hL⟩ := hI
          refine ⟨hX, hM, hR.of (fun _ => rfl) (fun _ => rfl) (fun _ _ => rfl) (fun _ => rfl), fun r hr => ?_, hD.of rfl rfl, hA.of rfl rfl, hF.of rfl rfl rfl rfl, hF2.of rfl rfl (fun _ => rfl) (fun _ => rfl), hP.of rfl rfl rfl (fun _ => rfl) (fun _ _ _ => rfl) (fun _ => rfl), hK.of rfl rfl rfl (fun _ => rfl) (fun _ _ _ => rfl) (fun _ _ => rfl) (fun _ => rfl) (fun _ => rfl) (fun _ => rfl), hL.of hL.1 (Nat.le_refl _) (fun _ => rfl) (fun _ _ => rfl) (fun _ _ _ => rfl) (fun _ => rfl) (fun _ => rfl)⟩
          refine ⟨(hT r hr).1.of rfl rfl, fun i hi => ?_⟩
          simp only [rI_wI]
          by_cases e : r = j ∧ i = q
          · obtain ⟨rfl, rfl⟩ := e
            simp
          · have e2 : ¬ 40 * r + i = 40 * j + q := by omega
            have e3 : ¬ (r = j ∧ i = q) := e
            simp [e2, e3]
            exact (hT r hr).2 i hi
      · refine Okk.fnd (f := 2) hI ?_ ?_
        · unfold f_X10_put
          simp [textAt_in hX hj, clR_s, memT1, miss_F (Or.inr rfl) hk s2, has_F (Or.inr rfl) s2 hin, found_2 hX]
        · have s1' : rI (fndX h 2) 36 0 j = nI k := s1
          have m2' : rR (fndX h 2) 11 0 9 = some (36, 0) := m2
          have hin' : ¬ ((0 : Int32) ≤ i ∧ i ≤ nI k - 1) := fun q => hin ((inlt (show k ≤ 1000 by omega) i).mp q)
          unfold f_X11_put
          simp [askT_T hM.fndX hj hk s1', s1', m2', ixOk_nI (show j < 4 by omega) (by decide), nI_clamp (show j < 2 ^ 31 by omega), in_F hin', meets_2 hM.fndX]
  · refine Okk.same hI (a := -1) ?_ ?_
    · unfold f_X10_put
      simp [textAt_out hr]
    · unfold f_X11_put
      simp [askT_out hr, m1n]
theorem op_later {h : zM} {np n : Nat} (hI : Inv h np n) (x : Int32) : Okk h (f_X10_later x) (f_X11_later x) := by
  obtain ⟨d, hd, d1, d2⟩ := hI.2.2.2.2.1
  have e1 : (9999 : Int32) - nI d = nI (9999 - d) := by rw [lit 9999, nI_sub hd]
  by_cases h0 : x < 0
  · refine Okk.same hI (a := -1) ?_ ?_
    · unfold f_X10_later
      simp [h0]
    · unfold f_X11_later
      simp [h0]
  · by_cases h1 : x ≤ nI (9999 - d)
    · obtain ⟨k, hk, rfl⟩ : ∃ k, k ≤ 9999 - d ∧ x = nI k := by
        rcases rng x (9999 - d) (by omega) with h | h | h
        · exact h
        · exact absurd h h0
        · exact absurd h1 (Int32.not_le.mpr h)
      have d2' : rI (wI h 10 0 8 (nI (d + k))) 11 0 5 = nI d := d2
      refine ⟨nI (d + k), wI h 10 0 8 (nI (d + k)), wI (wI h 10 0 8 (nI (d + k))) 11 0 5 (nI (d + k)), ?_, ?_, ⟨rfl, fun _ => rfl⟩, ⟨rfl, fun _ => rfl⟩, ⟨np, n, ?_⟩, by show ncM h ≤ _; omega, by show nsM h ≤ _; omega⟩
      · unfold f_X10_later
        simp only [if_neg h0, d1, e1, if_pos h1, nI_add]
        simp [rI_wI]
      · unfold f_X11_later
        simp only [if_neg h0, d2', e1, if_pos h1, nI_add]
        simp [rI_wI]
      · obtain ⟨hX, hM, hR, hT, hD, hA, hF, hF2, hP, hK, hL⟩ := hI
        exact ⟨hX, hM, hR.of (fun _ => rfl) (fun _ => rfl) (fun _ _ => rfl) (fun _ => rfl), hT.of (fun _ => rfl) (fun _ => rfl) (fun _ _ => rfl) (fun _ => rfl), ⟨d + k, by omega, rfl, rfl⟩, hA.of rfl rfl, hF.of rfl rfl rfl rfl, hF2.of rfl rfl (fun _ => rfl) (fun _ => rfl), hP.of rfl rfl rfl (fun _ => rfl) (fun _ _ _ => rfl) (fun _ => rfl), hK.of rfl rfl rfl (fun _ => rfl) (fun _ _ _ => rfl) (fun _ _ => rfl) (fun _ => rfl) (fun _ => rfl) (fun _ => rfl), hL.of hL.1 (Nat.le_refl _) (fun _ => rfl) (fun _ _ => rfl) (fun _ _ _ => rfl) (fun _ => rfl) (fun _ => rfl)⟩
    · refine Okk.same hI (a := -1) ?_ ?_
      · unfold f_X10_later
        simp [h0, d1, e1, h1]
      · unfold f_X11_later
        simp [h0, d2, e1, h1]
