theorem law_low (xs : Nat → Int32) {L : Nat} (hL : L ≤ 3072) : ∃ hF, f_L_law (hm0 xs L) = some (1, hF) ∧ ncM hF ≤ 10300 ∧ nsM hF ≤ 105400 := by
  obtain ⟨q, e1, e2, e3, e4, e5⟩ := ini_ok xs L
  have sl : slM q = L := e3.1
  obtain ⟨hF, d1, d2, d3⟩ := law_loop hL 512 1000 0 q (by omega) (by decide) (by decide) ⟨0, 0, e2⟩ sl
  rw [nI_0] at d1
  exact ⟨hF, e1.trans d1, by omega, by omega⟩
