theorem markAt_in {h : zM} {np n : Nat} (hX : XS h) (hK : MK h np n) {k : Nat} (hk : k < n) : f_X10_markAt (nI k) h = some (some (2, k), h) := by
  obtain ⟨p1, p2, -, -, p5, -⟩ := hK
  have x3 := hX.2.2.2.1
  unfold f_X10_markAt
  rw [p2]
  simp [wi_T (inL (show n ≤ 1000 by omega) hk), ixOk_nI (show k < 40 by omega) (by decide), nI_clamp (show k < 2 ^ 31 by omega), x3, (p5 k hk).1]
theorem markAt_out {h : zM} {np n : Nat} (hK : MK h np n) {x : Int32} (hx : ¬ ((0 : Int32) ≤ x ∧ x ≤ nI n - 1)) : f_X10_markAt x h = some (none, h) := by
  unfold f_X10_markAt
  rw [hK.2.1]
  simp [wi_F hx]
theorem isMark_in {h : zM} {n : Nat} (hP : rI h 11 0 13 = nI n) (h8 : n ≤ 40) {k : Nat} (hk : k < n) : f_X11_isMark (nI k) h = some (1, h) := by
  unfold f_X11_isMark
  rw [hP]
  simp [in_T (inL (show n ≤ 1000 by omega) hk), isB_1]
theorem isMark_out {h : zM} {n : Nat} (hP : rI h 11 0 13 = nI n) {x : Int32} (hx : ¬ ((0 : Int32) ≤ x ∧ x ≤ nI n - 1)) : f_X11_isMark x h = some (0, h) := by
  unfold f_X11_isMark
  rw [hP]
  simp [in_F hx, isB_0]
theorem part_nI {h : zM} (hM : MS h) {k f : Nat} (hk : k < 40) (hf : f < 7) : f_X11_part (nI k) (nI f) h = some (rI h 39 0 (7 * k + f), h) := by
  have m8 := hM.2.2.2.2.2.2.2.1
  have e1 : (7 : Int32) * nI k + nI f = nI (7 * k + f) := by rw [lit 7, pk_mul, nI_add]
  unfold f_X11_part
  simp [e1, ixOk_nI (show 7 * k + f < 280 by omega) (by decide), nI_clamp (show 7 * k + f < 2 ^ 31 by omega), m8]
theorem part_0 {h : zM} (hM : MS h) {k : Nat} (hk : k < 40) : f_X11_part (nI k) 0 h = some (rI h 39 0 (7 * k), h) := part_nI hM hk (f := 0) (by decide)
theorem part_1 {h : zM} (hM : MS h) {k : Nat} (hk : k < 40) : f_X11_part (nI k) 1 h = some (rI h 39 0 (7 * k + 1), h) := part_nI hM hk (f := 1) (by decide)
theorem part_2 {h : zM} (hM : MS h) {k : Nat} (hk : k < 40) : f_X11_part (nI k) 2 h = some (rI h 39 0 (7 * k + 2), h) := part_nI hM hk (f := 2) (by decide)
theorem part_3 {h : zM} (hM : MS h) {k : Nat} (hk : k < 40) : f_X11_part (nI k) 3 h = some (rI h 39 0 (7 * k + 3), h) := part_nI hM hk (f := 3) (by decide)
theorem part_4 {h : zM} (hM : MS h) {k : Nat} (hk : k < 40) : f_X11_part (nI k) 4 h = some (rI h 39 0 (7 * k + 4), h) := part_nI hM hk (f := 4) (by decide)
theorem part_5 {h : zM} (hM : MS h) {k : Nat} (hk : k < 40) : f_X11_part (nI k) 5 h = some (rI h 39 0 (7 * k + 5), h) := part_nI hM hk (f := 5) (by decide)
theorem part_6 {h : zM} (hM : MS h) {k : Nat} (hk : k < 40) : f_X11_part (nI k) 6 h = some (rI h 39 0 (7 * k + 6), h) := part_nI hM hk (f := 6) (by decide)
theorem part_X {h : zM} {k f : Nat} (hE : MKe h k) (hf : f < 7) : f_X2_part (some (2, k)) (nI f) h = some (rI h 39 0 (7 * k + f), h) := by
  obtain ⟨e0, e1, e2, e3, e4, e5, e6⟩ := hE
  unfold f_X2_part
  obtain rfl | rfl | rfl | rfl | rfl | rfl | rfl : f = 0 ∨ f = 1 ∨ f = 2 ∨ f = 3 ∨ f = 4 ∨ f = 5 ∨ f = 6 := by omega
  · simp [nI_0, clR_s, ixR_s, memT1, e0]
  · simp [show nI 1 = 1 by decide, clR_s, ixR_s, memT1, e1]
  · simp [show nI 2 = 2 by decide, clR_s, ixR_s, memT1, e2]
  · simp [show nI 3 = 3 by decide, clR_s, ixR_s, memT1, e3]
  · simp [show nI 4 = 4 by decide, clR_s, ixR_s, memT1, e4]
  · simp [show nI 5 = 5 by decide, clR_s, ixR_s, memT1, e5]
  · simp [show nI 6 = 6 by decide, clR_s, ixR_s, memT1, e6]
theorem op_told {h : zM} {np n : Nat} (hI : Inv h np n) (x y : Int32) : Okk h (f_X10_told x y) (f_X11_told x y) := by
  have hX := hI.1
  have hM := hI.2.1
  have hK := hI.2.2.2.2.2.2.2.2.2.1
  have hK' := hK
  obtain ⟨p1, p2, p3, -, p5, -⟩ := hK'
  rcases rngL x (k := n) (by omega) with ⟨k, hk, rfl⟩ | hx
  · rcases rng y 6 (by decide) with ⟨f, hf, rfl⟩ | hy
    · have hw := win hf (by omega)
      rw [← lit 6] at hw
      refine Okk.tell (a := 1) (v := rI h 39 0 (7 * k + f)) hI ?_ ?_
      · unfold f_X10_told f_X10_tell
        simp [markAt_in hX hK hk, wi_T hw, clR_s, memT1, part_X (p5 k hk).2.2.2 (show f < 7 by omega)]
      · generalize hv : rI h 39 0 (7 * k + f) = v
        have hv' : rI (wI h 10 0 11 v) 39 0 (7 * k + f) = v := hv
        have p3' : rI (wI h 10 0 11 v) 11 0 13 = nI n := p3
        have hM' : MS (wI h 10 0 11 v) := hM
        unfold f_X11_told f_X11_ask
        simp [isMark_in p3' p1 hk, in_T hw, part_nI hM' (show k < 40 by omega) (show f < 7 by omega), hv']
    · have hw := wout hy
      rw [← lit 6] at hw
      refine Okk.same hI (a := -1) ?_ ?_
      · unfold f_X10_told
        simp [markAt_in hX hK hk, wi_F hw]
      · unfold f_X11_told f_X11_told_32
        simp [isMark_in p3 p1 hk, in_F hw]
  · refine Okk.same hI (a := -1) ?_ ?_
    · unfold f_X10_told
      simp [markAt_out hK hx]
    · unfold f_X11_told f_X11_told_32
      simp [isMark_out p3 hx]
theorem knd_vals {h : zM} {k : Nat} (H : KND h k) : rI h 2 k 7 = 0 ∨ rI h 2 k 7 = 1 ∨ rI h 2 k 7 = 2 ∨ rI h 2 k 7 = 3 ∨ rI h 2 k 7 = 4 ∨ rI h 2 k 7 = 5 := by
  rcases H with ⟨a, -⟩ | ⟨a | a, -⟩ | ⟨a | a, -⟩ | ⟨a, -⟩ <;> simp [a]
theorem tells_out {h : zM} (hM : MS h) {k : Nat} (hk : k < 40) : f_X11_tellsOf_10 (nI k) h = some (rI h 40 0 k, h) := by
  have m9 := hM.2.2.2.2.2.2.2.2.1
  unfold f_X11_tellsOf_10
  simp [ixOk_nI hk (by decide), nI_clamp (show k < 2 ^ 31 by omega), m9]
theorem tellsOf_1 {h : zM} (hM : MS h) {k : Nat} (hk : k < 40) : f_X11_tellsOf (nI k) 1 h = some (rI h 40 0 k, h) := by
  unfold f_X11_tellsOf
  simp [tells_out hM hk]
theorem tellsOf_4 {h : zM} (hM : MS h) {k : Nat} (hk : k < 40) : f_X11_tellsOf (nI k) 4 h = some (rI h 40 0 k, h) := by
  unfold f_X11_tellsOf
  simp [tells_out hM hk]
theorem tellsOf_0 {h : zM} {k : Nat} : f_X11_tellsOf (nI k) 0 h = some (0, h) := by
  unfold f_X11_tellsOf
  simp
theorem tellsOf_m {h : zM} (hM : MS h) {k : Nat} (hk : k < 40) {x : Int32} (hx : x = 2 ∨ x = 3 ∨ x = 5) : f_X11_tellsOf (nI k) x h = some (rI h 41 0 k, h) := by
  have m10 := hM.2.2.2.2.2.2.2.2.2.1
  unfold f_X11_tellsOf
  rcases hx with rfl | rfl | rfl <;> simp [ixOk_nI hk (by decide), nI_clamp (show k < 2 ^ 31 by omega), m10]
theorem knd_9 {h : zM} (hM : MS h) {k : Nat} (hk : k < 40) (H : KND h k) : f_X11_tellsOf (nI k) (rI h 2 k 7) h = some (rI h 2 k 9, h) := by
  rcases H with ⟨a, -, b⟩ | ⟨a | a, -, b⟩ | ⟨a | a, -, b⟩ | ⟨a, -, b⟩
  · rw [a, b]; exact tellsOf_0
  · rw [a, b]; exact tellsOf_1 hM hk
  · rw [a, b]; exact tellsOf_4 hM hk
  · rw [a, b]; exact tellsOf_m hM hk (by simp)
  · rw [a, b]; exact tellsOf_m hM hk (by simp)
  · rw [a, b]; exact tellsOf_m hM hk (by simp)
theorem op_tells {h : zM} {np n : Nat} (hI : Inv h np n) (x y : Int32) : Okk h (f_X10_tells x y) (f_X11_tells x y) := by
  have hX := hI.1
  have hM := hI.2.1
  have hK := hI.2.2.2.2.2.2.2.2.2.1
  have hK' := hK
  obtain ⟨p1, p2, p3, -, p5, -⟩ := hK'
  rcases rngL x (k := n) (by omega) with ⟨k, hk, rfl⟩ | hx
  · obtain ⟨q1, q2, q3, q4⟩ := p5 k hk
    have e0 : rI h 39 0 (7 * k) = rI h 2 k 7 := q4.1
    by_cases hw : (1 : Int32) ≤ y ∧ y ≤ 5
    · by_cases hy : y = rI h 2 k 7
      · refine Okk.same hI (a := rI h 2 k 9) ?_ ?_
        · unfold f_X10_tells
          have hw' := hw
          rw [hy] at hw'
          simp [markAt_in hX hK hk, wi_T hw', clR_s, ixR_s, memT1, hy]
        · have T := knd_9 hM (show k < 40 by omega) q2
          unfold f_X11_tells f_X11_tells_45
          simp [isMark_in p3 p1 hk, in_T hw, part_0 hM (show k < 40 by omega), e0]
          simp [hy, T]
      · have hy' : ¬ rI h 2 k 7 = y := fun z => hy z.symm
        by_cases h1 : y = 1
        · subst h1
          have v := knd_vals q2
          by_cases hh : rI h 2 k 7 = 2 ∨ rI h 2 k 7 = 3
          · have r8 : rI h 2 k 8 = rI h 40 0 k := by
              rcases q2 with ⟨a, -⟩ | ⟨a | a, -⟩ | ⟨a, b, -⟩ | ⟨a, -⟩
              · rw [a] at hh; exact absurd hh (by decide)
              · rw [a] at hh; exact absurd hh (by decide)
              · rw [a] at hh; exact absurd hh (by decide)
              · exact b
              · rw [a] at hh; exact absurd hh (by decide)
            have w23 : (2 : Int32) ≤ rI h 2 k 7 ∧ rI h 2 k 7 ≤ 3 := by rcases hh with a | a <;> rw [a] <;> decide
            have H : f_X2_isHelped (some (2, k)) h = some (1, h) := by
              unfold f_X2_isHelped f_X2_isHelped_24
              rcases hh with a | a <;> simp [clR_s, ixR_s, memT1, a]
            refine Okk.same hI (a := rI h 40 0 k) ?_ ?_
            · unfold f_X10_tells
              simp [markAt_in hX hK hk, wi_T hw, clR_s, ixR_s, memT1, hy, H, r8]
            · unfold f_X11_tells f_X11_tells_45
              simp [isMark_in p3 p1 hk, in_T hw, part_0 hM (show k < 40 by omega), e0, hy', in_T w23, tellsOf_1 hM (show k < 40 by omega)]
          · have w23 : ¬ ((2 : Int32) ≤ rI h 2 k 7 ∧ rI h 2 k 7 ≤ 3) := by
              rcases v with a | a | a | a | a | a
              · rw [a]; decide
              · exact absurd a hy'
              · exact absurd (Or.inl a) hh
              · exact absurd (Or.inr a) hh
              · rw [a]; decide
              · rw [a]; decide
            have n2 : ¬ rI h 2 k 7 = 2 := fun z => hh (Or.inl z)
            have n3 : ¬ rI h 2 k 7 = 3 := fun z => hh (Or.inr z)
            have H : f_X2_isHelped (some (2, k)) h = some (0, h) := by
              unfold f_X2_isHelped f_X2_isHelped_24
              simp [clR_s, ixR_s, memT1, hy', n2, n3]
            refine Okk.fnd (f := 3) hI ?_ ?_
            · unfold f_X10_tells f_X10_tells_53
              simp [markAt_in hX hK hk, wi_T hw, clR_s, ixR_s, memT1, hy, H, found_3 hX]
            · have e0' : rI (fndX h 3) 39 0 (7 * k) = rI h 2 k 7 := e0
              have p3' : rI (fndX h 3) 11 0 13 = nI n := p3
              unfold f_X11_tells f_X11_tells_54
              simp [isMark_in p3' p1 hk, in_T hw, part_0 hM.fndX (show k < 40 by omega), e0', hy', in_F w23, meets_3 hM.fndX]
        · refine Okk.fnd (f := 3) hI ?_ ?_
          · unfold f_X10_tells f_X10_tells_53
            simp [markAt_in hX hK hk, wi_T hw, clR_s, ixR_s, memT1, hy, h1, found_3 hX]
          · have e0' : rI (fndX h 3) 39 0 (7 * k) = rI h 2 k 7 := e0
            have p3' : rI (fndX h 3) 11 0 13 = nI n := p3
            unfold f_X11_tells f_X11_tells_54
            simp [isMark_in p3' p1 hk, in_T hw, part_0 hM.fndX (show k < 40 by omega), e0', hy', h1, meets_3 hM.fndX]
    · refine Okk.same hI (a := -1) ?_ ?_
      · unfold f_X10_tells
        simp [markAt_in hX hK hk, wi_F hw]
      · unfold f_X11_tells
        simp [isMark_in p3 p1 hk, in_F hw]
  · refine Okk.same hI (a := -1) ?_ ?_
    · unfold f_X10_tells
      simp [markAt_out hK hx]
    · unfold f_X11_tells
      simp [isMark_out p3 hx]
