theorem rngL (x : Int32) {k : Nat} (hk : k ≤ 1000) : (∃ q, q < k ∧ x = nI q) ∨ ¬ ((0 : Int32) ≤ x ∧ x ≤ nI k - 1) := by
  rcases pk_ix x (n := k) (by omega) with h | h | h
  · exact Or.inr (fun q => absurd q.1 (Int32.not_le.mpr h))
  · exact Or.inr (fun q => absurd ((inlt hk x).mp q).2 (Int32.not_lt.mpr h))
  · exact Or.inl h
theorem inL {k q : Nat} (hk : k ≤ 1000) (hq : q < k) : (0 : Int32) ≤ nI q ∧ nI q ≤ nI k - 1 := (inlt hk _).mpr ⟨nI_pos' (by omega), nI_lt hq (by omega)⟩
theorem placeAt_in {h : zM} {np : Nat} (hX : XS h) (hP : PL h np) {p : Nat} (hp : p < np) : f_X10_placeAt (nI p) h = some (some (3, p), h) := by
  obtain ⟨p1, p2, -, -, p5, -⟩ := hP
  have x2 := hX.2.2.1
  unfold f_X10_placeAt
  rw [p2]
  simp [wi_T (inL (show np ≤ 1000 by omega) hp), ixOk_nI (show p < 8 by omega) (by decide), nI_clamp (show p < 2 ^ 31 by omega), x2, (p5 p hp).1]
theorem placeAt_out {h : zM} {np : Nat} (hP : PL h np) {x : Int32} (hx : ¬ ((0 : Int32) ≤ x ∧ x ≤ nI np - 1)) : f_X10_placeAt x h = some (none, h) := by
  unfold f_X10_placeAt
  rw [hP.2.1]
  simp [wi_F hx]
theorem isPlace_in {h : zM} {np : Nat} (hP : rI h 11 0 11 = nI np) (h8 : np ≤ 8) {p : Nat} (hp : p < np) : f_X11_isPlace (nI p) h = some (1, h) := by
  unfold f_X11_isPlace
  rw [hP]
  simp [in_T (inL (show np ≤ 1000 by omega) hp), isB_1]
theorem isPlace_out {h : zM} {np : Nat} (hP : rI h 11 0 11 = nI np) {x : Int32} (hx : ¬ ((0 : Int32) ≤ x ∧ x ≤ nI np - 1)) : f_X11_isPlace x h = some (0, h) := by
  unfold f_X11_isPlace
  rw [hP]
  simp [in_F hx, isB_0]
theorem op_about {h : zM} {np n : Nat} (hI : Inv h np n) (x y : Int32) : Okk h (f_X10_about x y) (f_X11_about x y) := by
  have hX := hI.1
  have hM := hI.2.1
  have hP := hI.2.2.2.2.2.2.2.2.1
  have hP' := hP
  obtain ⟨p1, p2, p3, -, p5, -⟩ := hP'
  rcases rngL x (k := np) (by omega) with ⟨p, hp, rfl⟩ | hx
  · rcases rng y 3 (by decide) with ⟨f, hf, rfl⟩ | hy
    · have hw := win hf (by omega)
      rw [← lit 3] at hw
      have pk := (p5 p hp).2.1
      refine Okk.tell (a := 1) (v := rI h 38 0 (4 * p + f)) hI ?_ ?_
      · have P : f_X3_part (some (3, p)) (nI f) h = some (rI h 38 0 (4 * p + f), h) := by
          rw [← pk f (by omega)]
          unfold f_X3_part
          obtain rfl | rfl | rfl | rfl : f = 0 ∨ f = 1 ∨ f = 2 ∨ f = 3 := by omega
          · simp [nI_0, clR_s, ixR_s, memT1]
          · simp [show nI 1 = 1 by decide, clR_s, ixR_s, memT1]
          · simp [show nI 2 = 2 by decide, clR_s, ixR_s, memT1]
          · simp [show nI 3 = 3 by decide, clR_s, ixR_s, memT1]
        unfold f_X10_about f_X10_tell
        simp [placeAt_in hX hP hp, wi_T hw, clR_s, memT1, P]
      · generalize hv : rI h 38 0 (4 * p + f) = v
        have hv' : rI (wI h 10 0 11 v) 38 0 (4 * p + f) = v := hv
        have p3' : rI (wI h 10 0 11 v) 11 0 11 = nI np := p3
        have m7 : rR (wI h 10 0 11 v) 11 0 12 = some (38, 0) := hM.2.2.2.2.2.2.1
        have e1 : (4 : Int32) * nI p + nI f = nI (4 * p + f) := by rw [lit 4, pk_mul, nI_add]
        unfold f_X11_about f_X11_ask
        simp [isPlace_in p3' p1 hp, in_T hw, e1, ixOk_nI (show 4 * p + f < 32 by omega) (by decide), nI_clamp (show 4 * p + f < 2 ^ 31 by omega), hv', m7]
    · have hw := wout hy
      rw [← lit 3] at hw
      refine Okk.same hI (a := -1) ?_ ?_
      · unfold f_X10_about
        simp [placeAt_in hX hP hp, wi_F hw]
      · unfold f_X11_about f_X11_about_35
        simp [isPlace_in p3 p1 hp, in_F hw]
  · refine Okk.same hI (a := -1) ?_ ?_
    · unfold f_X10_about
      simp [placeAt_out hP hx]
    · unfold f_X11_about f_X11_about_35
      simp [isPlace_out p3 hx]
theorem MK.mono {h : zM} {np np' n : Nat} (H : MK h np n) (hn : np ≤ np') : MK h np' n := by
  obtain ⟨h1, h2, h3, h4, h5, h6⟩ := H
  refine ⟨h1, h2, h3, h4, fun k hk => ?_, h6⟩
  obtain ⟨a, b, ⟨c1, ⟨p, hp, c2⟩, c3⟩, d⟩ := h5 k hk
  exact ⟨a, b, ⟨c1, ⟨p, by omega, c2⟩, c3⟩, d⟩
def plX (h : zM) (np : Nat) (x1 x2 x3 x4 : Int32) : zM := wI (wR (wI (wI (wI (wI (nwM h 3 4) 3 np 0 x1) 3 np 1 x2) 3 np 2 x3) 3 np 3 x4) 28 0 np (some (3, np))) 10 0 9 (nI (np + 1))
def plM (h : zM) (np : Nat) (x1 x2 x3 x4 : Int32) : zM := wI (wI (wI (wI (wI h 38 0 (4 * np) x1) 38 0 (4 * np + 1) x2) 38 0 (4 * np + 2) x3) 38 0 (4 * np + 3) x4) 11 0 11 (nI (np + 1))
theorem pl_x {h : zM} {np n : Nat} (hI : Inv h np n) (h8 : ¬ np = 8) {x1 x2 x3 x4 : Int32} (a1 : (0 : Int32) ≤ x1 ∧ x1 ≤ 40) (a2 : (-20 : Int32) ≤ x2 ∧ x2 ≤ 50) (a3 : (0 : Int32) ≤ x3 ∧ x3 ≤ 1) (a4 : (0 : Int32) ≤ x4 ∧ x4 ≤ 3) : f_X10_place x1 x2 x3 x4 h = some (nI np, plX h np x1 x2 x3 x4) := by
  have hX := hI.1
  have hM := hI.2.1
  obtain ⟨p1, p2, p3, p4, p5, p6⟩ := hI.2.2.2.2.2.2.2.2.1
  have z : nI np < 8 := nI_lt (a := np) (b := 8) (by omega) (by decide)
  have z' : ¬ nI np = 8 := by
    intro e
    rw [e] at z
    exact absurd z (by decide)
  have xr := hX.2.2.1
  unfold f_X10_place f_X3_init
  simp only [wi_T a1, wi_T a2, wi_T a3, wi_T a4, p2, p4, z, Option.bind_some, xr, decide_true, Bool.and_true, if_true, clR_s, ixR_s, memT1, ixOk_nI (show np < 8 by omega) (by decide), nI_clamp (show np < 2 ^ 31 by omega)]
  have q : rI (wI (wI (wI (wI (nwM h 3 4) 3 np 0 x1) 3 np 1 x2) 3 np 2 x3) 3 np 3 x4) 10 0 9 = nI np := p2
  simp [q, nI_1, plX, rI_wI, nI_pred]
theorem pl_m {g : zM} {np : Nat} (h8 : np < 8) (p3' : rI g 11 0 11 = nI np) (m7 : rR g 11 0 12 = some (38, 0)) {x1 x2 x3 x4 : Int32} (a1 : (0 : Int32) ≤ x1 ∧ x1 ≤ 40) (a2 : (-20 : Int32) ≤ x2 ∧ x2 ≤ 50) (a3 : (0 : Int32) ≤ x3 ∧ x3 ≤ 1) (a4 : (0 : Int32) ≤ x4 ∧ x4 ≤ 3) : f_X11_place x1 x2 x3 x4 g = some (nI np, plM g np x1 x2 x3 x4) := by
  have z : nI np < 8 := nI_lt (a := np) (b := 8) (by omega) (by decide)
  have z' : ¬ nI np = 8 := by
    intro e
    rw [e] at z
    exact absurd z (by decide)
  have e0 : (4 : Int32) * nI np = nI (4 * np) := by rw [lit 4, pk_mul]
  have e1 : nI (4 * np) + 1 = nI (4 * np + 1) := by rw [nI_1]
  have e2 : nI (4 * np) + 2 = nI (4 * np + 2) := by rw [lit 2, nI_add]
  have e3 : nI (4 * np) + 3 = nI (4 * np + 3) := by rw [lit 3, nI_add]
  have k1 : ∀ k v, rI (wI g 38 0 k v) 11 0 11 = nI np := fun k v => by rw [rI_wI_ne (by decide)]; exact p3'
  have k2 : ∀ k v k' v', rI (wI (wI g 38 0 k v) 38 0 k' v') 11 0 11 = nI np := fun k v k' v' => by rw [rI_wI_ne (by decide)]; exact k1 k v
  have k3 : ∀ k v k' v' l w, rI (wI (wI (wI g 38 0 k v) 38 0 k' v') 38 0 l w) 11 0 11 = nI np := fun k v k' v' l w => by rw [rI_wI_ne (by decide)]; exact k2 k v k' v'
  have k4 : ∀ k v k' v' l w l' w', rI (wI (wI (wI (wI g 38 0 k v) 38 0 k' v') 38 0 l w) 38 0 l' w') 11 0 11 = nI np := fun k v k' v' l w l' w' => by rw [rI_wI_ne (by decide)]; exact k3 k v k' v' l w
  unfold f_X11_place
  simp only [in_T a1, in_T a2, in_T a3, in_T a4, Option.bind_some]
  rw [if_neg (by decide), if_neg (by decide), if_neg (by decide), if_pos (by decide), p3', if_pos z']
  simp only [k1, k2, k3, k4, e0, e1, e2, e3, nI_clamp (show 4 * np < 2 ^ 31 by omega), nI_clamp (show 4 * np + 1 < 2 ^ 31 by omega), nI_clamp (show 4 * np + 2 < 2 ^ 31 by omega), nI_clamp (show 4 * np + 3 < 2 ^ 31 by omega), ixOk_nI (show 4 * np < 32 by omega) (by decide), ixOk_nI (show 4 * np + 1 < 32 by omega) (by decide), ixOk_nI (show 4 * np + 2 < 32 by omega) (by decide), ixOk_nI (show 4 * np + 3 < 32 by omega) (by decide), m7, nI_1, decide_true, Bool.and_true, if_true]
  rw [rI_wI, if_pos ⟨rfl, rfl, rfl⟩, nI_pred]
  rfl
theorem pl_XS {h : zM} {np : Nat} {x1 x2 x3 x4 : Int32} (hX : XS h) : XS (plM (plX h np x1 x2 x3 x4) np x1 x2 x3 x4) := by
  unfold plM plX
  (repeat' first | with_reducible exact hX | with_reducible refine XS.wI ?_ | with_reducible refine XS.wL ?_ | with_reducible refine XS.wR ?_ ?_ | with_reducible refine XS.nw ?_ ?_ | decide | (simp; done))
theorem pl_MS {h : zM} {np : Nat} {x1 x2 x3 x4 : Int32} (hM : MS h) : MS (plM (plX h np x1 x2 x3 x4) np x1 x2 x3 x4) := by
  unfold plM plX
  (repeat' first | with_reducible exact hM | with_reducible refine MS.wI ?_ | with_reducible refine MS.wL ?_ | with_reducible refine MS.wR ?_ ?_ | with_reducible refine MS.nw ?_ ?_ | decide | (simp; done))
theorem pl_RW {h : zM} {np : Nat} {x1 x2 x3 x4 : Int32} (hR : RW h) : RW (plM (plX h np x1 x2 x3 x4) np x1 x2 x3 x4) := by
  unfold plM plX
  (repeat' first | with_reducible exact hR | with_reducible refine RW.wI ?_ ?_ | with_reducible refine RW.wR ?_ | with_reducible refine RW.wL ?_ | with_reducible refine RW.nw ?_ ?_ | decide | (simp; done))
theorem pl_TW {h : zM} {np : Nat} {x1 x2 x3 x4 : Int32} (hT : TW h) : TW (plM (plX h np x1 x2 x3 x4) np x1 x2 x3 x4) := by
  unfold plM plX
  (repeat' first | with_reducible exact hT | with_reducible refine TW.wI ?_ ?_ | with_reducible refine TW.wR ?_ | with_reducible refine TW.wL ?_ | with_reducible refine TW.nw ?_ ?_ | decide | (simp; done))
theorem pl_TD {h : zM} {np : Nat} {x1 x2 x3 x4 : Int32} (hD : TD h) : TD (plM (plX h np x1 x2 x3 x4) np x1 x2 x3 x4) := by
  unfold plM plX
  (repeat' first | with_reducible exact hD | with_reducible refine TD.wI ?_ ?_ | with_reducible refine TD.wR ?_ | with_reducible refine TD.wL ?_ | with_reducible refine TD.nw ?_ ?_ | decide | (simp; done))
theorem pl_AS {h : zM} {np : Nat} {x1 x2 x3 x4 : Int32} (hA : AS h) : AS (plM (plX h np x1 x2 x3 x4) np x1 x2 x3 x4) := by
  unfold plM plX
  (repeat' first | with_reducible exact hA | with_reducible refine AS.wI ?_ ?_ | with_reducible refine AS.wR ?_ | with_reducible refine AS.wL ?_ | with_reducible refine AS.nw ?_ ?_ | decide | (simp; done))
theorem pl_FR {h : zM} {np : Nat} {x1 x2 x3 x4 : Int32} (hF : FR h) : FR (plM (plX h np x1 x2 x3 x4) np x1 x2 x3 x4) := by
  unfold plM plX
  (repeat' first | with_reducible exact hF | with_reducible refine FR.wI ?_ | with_reducible refine FR.wR ?_ | with_reducible refine FR.nw ?_ ?_ | decide | (simp; done))
theorem pl_FD {h : zM} {np : Nat} {x1 x2 x3 x4 : Int32} (hF2 : FD h) : FD (plM (plX h np x1 x2 x3 x4) np x1 x2 x3 x4) := by
  unfold plM plX
  (repeat' first | with_reducible exact hF2 | with_reducible refine FD.wI ?_ ?_ | with_reducible refine FD.wR ?_ | with_reducible refine FD.wL ?_ | with_reducible refine FD.nw ?_ ?_ | decide | (simp; done))
theorem pl_LW {h : zM} {np : Nat} {x1 x2 x3 x4 : Int32} (hL : LW h) : LW (plM (plX h np x1 x2 x3 x4) np x1 x2 x3 x4) := by
  unfold plM plX
  (repeat' first | with_reducible exact hL | with_reducible refine LW.wI ?_ ?_ | with_reducible refine LW.wR ?_ ?_ | with_reducible refine LW.wL ?_ | with_reducible refine LW.nw ?_ ?_ | decide | (simp; done))
theorem pl_MK {h : zM} {np n : Nat} {x1 x2 x3 x4 : Int32} (hK : MK h np n) : MK (plM (plX h np x1 x2 x3 x4) np x1 x2 x3 x4) np n := by
  unfold plM plX
  (repeat' first | with_reducible exact hK | with_reducible refine MK.wI ?_ ?_ | with_reducible refine MK.wR ?_ ?_ | with_reducible refine MK.wL ?_ | with_reducible refine MK.nw ?_ ?_ | decide | (simp; done))
theorem pl_PL {h : zM} {np n : Nat} (hI : Inv h np n) (h8 : ¬ np = 8) {x1 x2 x3 x4 : Int32} (a1 : (0 : Int32) ≤ x1 ∧ x1 ≤ 40) (a2 : (-20 : Int32) ≤ x2 ∧ x2 ≤ 50) (a3 : (0 : Int32) ≤ x3 ∧ x3 ≤ 1) (a4 : (0 : Int32) ≤ x4 ∧ x4 ≤ 3) : PL (plM (plX h np x1 x2 x3 x4) np x1 x2 x3 x4) (np + 1) := by
  have hX := hI.1
  have hM := hI.2.1
  obtain ⟨p1, p2, p3, p4, p5, p6⟩ := hI.2.2.2.2.2.2.2.2.1
  obtain ⟨-, -, hR, hT, hD, hA, hF, hF2, hP, hK, hL⟩ := hI
  refine ⟨by omega, by simp -implicitDefEqProofs [plM, plX, rI_wI], by simp -implicitDefEqProofs [plM, rI_wI], ?_, fun p hp => ?_, fun p hp => ?_⟩
  · unfold plM plX
    simp -implicitDefEqProofs [cn_wI, cn_wR, cn_nw, p4]
  · by_cases e : p = np
    · subst e
      have R : ∀ f, rI (plM (plX h p x1 x2 x3 x4) p x1 x2 x3 x4) 3 p f = if f = 3 then x4 else if f = 2 then x3 else if f = 1 then x2 else if f = 0 then x1 else 0 := by
        intro f
        unfold plM plX
        simp -implicitDefEqProofs [rI_wI, rI_wR, rI_nw, p4]
      refine ⟨?_, ?_, ?_, ?_, ?_, ?_⟩
      · unfold plM plX
        simp -implicitDefEqProofs [rR_wI, rR_wR]
      · intro f hf
        rw [R]
        obtain rfl | rfl | rfl | rfl : f = 0 ∨ f = 1 ∨ f = 2 ∨ f = 3 := by omega
        · unfold plM
          simp -implicitDefEqProofs [rI_wI]
        · unfold plM
          simp -implicitDefEqProofs [rI_wI]
        · unfold plM
          simp -implicitDefEqProofs [rI_wI]
        · unfold plM
          simp -implicitDefEqProofs [rI_wI]
      · rw [R]
        rcases rng x1 40 (by decide) with ⟨q, b, c⟩ | b | b
        · exact ⟨q, b, by simp -implicitDefEqProofs [c]⟩
        · exact absurd a1.1 (Int32.not_le.mpr b)
        · exact absurd a1.2 (Int32.not_le.mpr b)
      · rw [R]
        rw [Int32.le_iff_toInt_le, Int32.le_iff_toInt_le] at a2
        have e1 : (-20 : Int32).toInt = -20 := by decide
        have e2 : (50 : Int32).toInt = 50 := by decide
        rw [e1, e2] at a2
        simp
        exact a2
      · rw [R]
        rcases rng x3 1 (by decide) with ⟨q, b, c⟩ | b | b
        · obtain rfl | rfl : q = 0 ∨ q = 1 := by omega
          · left
            simp -implicitDefEqProofs [c, nI_0]
          · right
            simp -implicitDefEqProofs [c]
            rfl
        · exact absurd a3.1 (Int32.not_le.mpr b)
        · exact absurd a3.2 (Int32.not_le.mpr b)
      · rw [R]
        rcases rng x4 3 (by decide) with ⟨q, b, c⟩ | b | b
        · exact ⟨q, b, by simp -implicitDefEqProofs [c]⟩
        · exact absurd a4.1 (Int32.not_le.mpr b)
        · exact absurd a4.2 (Int32.not_le.mpr b)
    · refine ⟨?_, (p5 p (by omega)).2.of (fun f => ?_) (fun f hf => ?_)⟩
      · unfold plM plX
        simp -implicitDefEqProofs [rR_wI, rR_wR, rR_nw, e, (p5 p (by omega)).1]
      · unfold plM plX
        simp -implicitDefEqProofs [rI_wI, rI_wR, rI_nw, e, p4]
      · have a0 : ¬ 4 * p + f = 4 * np := by omega
        have a1 : ¬ 4 * p + f = 4 * np + 1 := by omega
        have a2 : ¬ 4 * p + f = 4 * np + 2 := by omega
        have a3 : ¬ 4 * p + f = 4 * np + 3 := by omega
        have L : rI (plX h np x1 x2 x3 x4) 38 0 (4 * p + f) = rI h 38 0 (4 * p + f) := by simp -implicitDefEqProofs [plX, rI_wI, rI_wR, rI_nw]
        rw [← L]
        unfold plM
        simp -implicitDefEqProofs only [rI_wI, a0, a1, a2, a3, and_false, if_false]
        simp
  · unfold plM plX
    have e : ¬ p = np := by omega
    simp -implicitDefEqProofs [rR_wI, rR_wR, rR_nw, e, p6 p (by omega)]
theorem pl_i {h : zM} {np n : Nat} (hI : Inv h np n) (h8 : ¬ np = 8) {x1 x2 x3 x4 : Int32} (a1 : (0 : Int32) ≤ x1 ∧ x1 ≤ 40) (a2 : (-20 : Int32) ≤ x2 ∧ x2 ≤ 50) (a3 : (0 : Int32) ≤ x3 ∧ x3 ≤ 1) (a4 : (0 : Int32) ≤ x4 ∧ x4 ≤ 3) : Inv (plM (plX h np x1 x2 x3 x4) np x1 x2 x3 x4) (np + 1) n := by
  have P := pl_PL hI h8 a1 a2 a3 a4
  obtain ⟨hX, hM, hR, hT, hD, hA, hF, hF2, hP, hK, hL⟩ := hI
  exact ⟨pl_XS hX, pl_MS hM, pl_RW hR, pl_TW hT, pl_TD hD, pl_AS hA, pl_FR hF, pl_FD hF2, P, (pl_MK hK).mono (by omega), pl_LW hL⟩
theorem op_place {h : zM} {np n : Nat} (hI : Inv h np n) (x1 x2 x3 x4 : Int32) : Okk h (f_X10_place x1 x2 x3 x4) (f_X11_place x1 x2 x3 x4) := by
  have hX := hI.1
  have hM := hI.2.1
  obtain ⟨p1, p2, p3, p4, p5, p6⟩ := hI.2.2.2.2.2.2.2.2.1
  by_cases a1 : (0 : Int32) ≤ x1 ∧ x1 ≤ 40
  · by_cases a2 : (-20 : Int32) ≤ x2 ∧ x2 ≤ 50
    · by_cases a3 : (0 : Int32) ≤ x3 ∧ x3 ≤ 1
      · by_cases a4 : (0 : Int32) ≤ x4 ∧ x4 ≤ 3
        · by_cases h8 : np = 8
          · subst h8
            have z : ¬ (nI 8 < 8) := by decide
            have z' : nI 8 = 8 := by decide
            refine Okk.same hI (a := -2) ?_ ?_
            · unfold f_X10_place
              simp [wi_T a1, wi_T a2, wi_T a3, wi_T a4, p2, z]
            · unfold f_X11_place
              simp [in_T a1, in_T a2, in_T a3, in_T a4, p3, z']
          · exact ⟨nI np, plX h np x1 x2 x3 x4, plM (plX h np x1 x2 x3 x4) np x1 x2 x3 x4, pl_x hI h8 a1 a2 a3 a4, pl_m (by omega) (by simp [plX, rI_wI, rI_wR, rI_nw, p3]) (by simp [plX, rR_wI, rR_wR, rR_nw, hM.2.2.2.2.2.2.1]) a1 a2 a3 a4, by have q := Scr.refl h; unfold plX; (repeat' first | with_reducible exact q | with_reducible refine Scr.wI ?_ ?_ | with_reducible refine Scr.wL ?_ | with_reducible refine Scr.wR ?_ | with_reducible refine Scr.nw ?_ ?_ | decide | (simp; done)), by have q := Scr.refl h; unfold plM plX; (repeat' first | with_reducible exact q | with_reducible refine Scr.wI ?_ ?_ | with_reducible refine Scr.wL ?_ | with_reducible refine Scr.wR ?_ | with_reducible refine Scr.nw ?_ ?_ | decide | (simp; done)), ⟨np + 1, n, pl_i hI h8 a1 a2 a3 a4⟩, by show ncM h + 1 ≤ _; omega, by show nsM h + 4 ≤ _; omega⟩
        · refine Okk.same hI (a := -1) ?_ ?_
          · unfold f_X10_place
            simp [wi_T a1, wi_T a2, wi_T a3, wi_F a4]
          · unfold f_X11_place
            simp [in_T a1, in_T a2, in_T a3, in_F a4]
      · refine Okk.same hI (a := -1) ?_ ?_
        · unfold f_X10_place
          simp [wi_T a1, wi_T a2, wi_F a3]
        · unfold f_X11_place
          simp [in_T a1, in_T a2, in_F a3]
    · refine Okk.same hI (a := -1) ?_ ?_
      · unfold f_X10_place
        simp [wi_T a1, wi_F a2]
      · unfold f_X11_place
        simp [in_T a1, in_F a2]
  · refine Okk.same hI (a := -1) ?_ ?_
    · unfold f_X10_place
      simp [wi_F a1]
    · unfold f_X11_place
      simp [in_F a1]
