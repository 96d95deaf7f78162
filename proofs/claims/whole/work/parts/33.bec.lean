def bX (h : zM) (k : Nat) (a b c : Int32) : zM := wI (wI (wI h 2 k 7 a) 2 k 8 b) 2 k 9 c
def bM (h : zM) (k : Nat) (a b c : Int32) : zM := wI (wI (wI h 39 0 (7 * k) a) 40 0 k b) 41 0 k c
theorem bec_I {h : zM} {k : Nat} {a b c b' c' : Int32} (C i f : Nat) (q1 : ¬ (C = 2 ∧ i = k ∧ 7 ≤ f)) (q2 : ¬ (C = 39 ∧ f = 7 * k)) (q3 : ¬ (C = 40 ∧ f = k)) (q4 : ¬ (C = 41 ∧ f = k)) : rI (bM (bX h k a b c) k a b' c') C i f = rI h C i f := by
  unfold bM bX
  rw [rI_wI, if_neg (fun z => q4 ⟨z.1, z.2.2⟩), rI_wI, if_neg (fun z => q3 ⟨z.1, z.2.2⟩), rI_wI, if_neg (fun z => q2 ⟨z.1, z.2.2⟩), rI_wI, if_neg (fun z => q1 ⟨z.1, z.2.1, by omega⟩), rI_wI, if_neg (fun z => q1 ⟨z.1, z.2.1, by omega⟩), rI_wI, if_neg (fun z => q1 ⟨z.1, z.2.1, by omega⟩)]
theorem bec_inv {h : zM} {np n k : Nat} {a b c b' c' : Int32} (hI : Inv h np n) (hk : k < n) (hK : ((a = 1 ∨ a = 4) ∧ b = b' ∧ c = b') ∨ ((a = 2 ∨ a = 3) ∧ b = b' ∧ c = c') ∨ (a = 5 ∧ b = 0 ∧ c = c')) (hb : ∃ v, v ≤ 999 ∧ b = nI v) : Inv (bM (bX h k a b c) k a b' c') np n := by
  have I := bec_I (h := h) (k := k) (a := a) (b := b) (c := c) (b' := b') (c' := c')
  have r7 : rI (bM (bX h k a b c) k a b' c') 2 k 7 = a := by unfold bM bX; simp -implicitDefEqProofs [rI_wI]
  have r8 : rI (bM (bX h k a b c) k a b' c') 2 k 8 = b := by unfold bM bX; simp -implicitDefEqProofs [rI_wI]
  have r9 : rI (bM (bX h k a b c) k a b' c') 2 k 9 = c := by unfold bM bX; simp -implicitDefEqProofs [rI_wI]
  have s1 : rI (bM (bX h k a b c) k a b' c') 39 0 (7 * k) = a := by unfold bM bX; simp -implicitDefEqProofs [rI_wI]
  have s2 : rI (bM (bX h k a b c) k a b' c') 40 0 k = b' := by unfold bM bX; simp -implicitDefEqProofs [rI_wI]
  have s3 : rI (bM (bX h k a b c) k a b' c') 41 0 k = c' := by unfold bM bX; simp -implicitDefEqProofs [rI_wI]
  have e2 : ∀ C i f, rR (bM (bX h k a b c) k a b' c') C i f = rR h C i f := fun _ _ _ => rfl
  have e3 : ∀ C i f, rL (bM (bX h k a b c) k a b' c') C i f = rL h C i f := fun _ _ _ => rfl
  have e4 : ∀ C, cnM (bM (bX h k a b c) k a b' c') C = cnM h C := fun _ => rfl
  generalize bM (bX h k a b c) k a b' c' = g at I r7 r8 r9 s1 s2 s3 e2 e3 e4
  have J : ∀ C i f, C ≠ 2 → C ≠ 39 → C ≠ 40 → C ≠ 41 → rI g C i f = rI h C i f := fun C i f x1 x2 x3 x4 => I C i f (fun z => x1 z.1) (fun z => x2 z.1) (fun z => x3 z.1) (fun z => x4 z.1)
  obtain ⟨hX, hM, hR, hT, hD, hA, hF, hF2, hP, hK0, hL⟩ := hI
  have d : (2 : Nat) ≠ 39 ∧ (2 : Nat) ≠ 40 ∧ (2 : Nat) ≠ 41 := by decide
  refine ⟨?_, ?_, hR.of (fun _ => J _ _ _ (by decide) (by decide) (by decide) (by decide)) (fun _ => J _ _ _ (by decide) (by decide) (by decide) (by decide)) (fun _ _ => J _ _ _ (by decide) (by decide) (by decide) (by decide)) (fun _ => J _ _ _ (by decide) (by decide) (by decide) (by decide)), hT.of (fun _ => J _ _ _ (by decide) (by decide) (by decide) (by decide)) (fun _ => J _ _ _ (by decide) (by decide) (by decide) (by decide)) (fun _ _ => J _ _ _ (by decide) (by decide) (by decide) (by decide)) (fun _ => J _ _ _ (by decide) (by decide) (by decide) (by decide)), hD.of (J _ _ _ (by decide) (by decide) (by decide) (by decide)) (J _ _ _ (by decide) (by decide) (by decide) (by decide)), hA.of (J _ _ _ (by decide) (by decide) (by decide) (by decide)) (J _ _ _ (by decide) (by decide) (by decide) (by decide)), hF.of (e3 _ _ _) (e3 _ _ _) (e3 _ _ _) (e3 _ _ _), hF2.of (J _ _ _ (by decide) (by decide) (by decide) (by decide)) (J _ _ _ (by decide) (by decide) (by decide) (by decide)) (fun _ => J _ _ _ (by decide) (by decide) (by decide) (by decide)) (fun _ => J _ _ _ (by decide) (by decide) (by decide) (by decide)), hP.of (J _ _ _ (by decide) (by decide) (by decide) (by decide)) (J _ _ _ (by decide) (by decide) (by decide) (by decide)) (e4 _) (fun _ => e2 _ _ _) (fun _ _ _ => J _ _ _ (by decide) (by decide) (by decide) (by decide)) (fun _ => J _ _ _ (by decide) (by decide) (by decide) (by decide)), ?_, hL.of (by rw [e4, e4]; exact hL.1) (by rw [e4]; exact Nat.le_refl _) (fun _ => e2 _ _ _) (fun _ _ => e2 _ _ _) (fun _ _ _ => J _ _ _ (by decide) (by decide) (by decide) (by decide)) (fun _ => J _ _ _ (by decide) (by decide) (by decide) (by decide)) (fun _ => J _ _ _ (by decide) (by decide) (by decide) (by decide))⟩
  · unfold XS
    simp only [e2]
    exact hX
  · unfold MS
    simp only [e2]
    exact hM
  · obtain ⟨k1, k2, k3, k4, k5, k6⟩ := hK0
    refine ⟨k1, by rw [J _ _ _ (by decide) (by decide) (by decide) (by decide)]; exact k2, by rw [J _ _ _ (by decide) (by decide) (by decide) (by decide)]; exact k3, by rw [e4]; exact k4, fun m hm => ⟨by rw [e2]; exact (k5 m hm).1, ?_⟩, fun m hm => by rw [e2]; exact k6 m hm⟩
    by_cases em : m = k
    · subst em
      obtain ⟨-, -, ⟨b0, b1, b3, b4, b5, b6, -⟩, ⟨c0, c1, c2, c3, c4, c5, c6⟩⟩ := k5 m hm
      have F : ∀ f, f < 7 → rI g 2 m f = rI h 2 m f := fun f hf => I _ _ _ (by omega) (by omega) (by omega) (by omega)
      have P : ∀ f, 1 ≤ f → f < 7 → rI g 39 0 (7 * m + f) = rI h 39 0 (7 * m + f) := fun f h1 hf => I _ _ _ (by omega) (by omega) (by omega) (by omega)
      refine ⟨?_, ?_, ?_⟩
      · right
        unfold KND at *
        rw [r7, r8, r9, s2, s3]
        exact hK
      · unfold MKb
        rw [F 0 (by decide), F 1 (by decide), F 3 (by decide), F 4 (by decide), F 5 (by decide), F 6 (by decide), r8, e2]
        exact ⟨b0, b1, b3, b4, b5, b6, hb⟩
      · unfold MKe
        rw [s1, r7, P 1 (by decide) (by decide), P 2 (by decide) (by decide), P 3 (by decide) (by decide), P 4 (by decide) (by decide), P 5 (by decide) (by decide), P 6 (by decide) (by decide), F 0 (by decide), F 1 (by decide), F 3 (by decide), F 4 (by decide), F 5 (by decide), F 6 (by decide)]
        exact ⟨rfl, c1, c2, c3, c4, c5, c6⟩
    · exact MK1.of (k5 m hm).2 (fun f => I _ _ _ (by omega) (by omega) (by omega) (by omega)) (e2 _ _ _) (I _ _ _ (by omega) (by omega) (by omega) (by omega)) (I _ _ _ (by omega) (by omega) (by omega) (by omega)) (fun f hf => I _ _ _ (by omega) (by omega) (by omega) (by omega))
theorem isMuch_T {x : Int32} (q : (1 : Int32) ≤ x ∧ x ≤ 999) (h : zM) : f_X11_isMuch x h = some (1, h) := by
  unfold f_X11_isMuch
  simp [in_T q, isB_1]
theorem isMuch_F {x : Int32} (q : ¬ ((1 : Int32) ≤ x ∧ x ≤ 999)) (h : zM) : f_X11_isMuch x h = some (0, h) := by
  unfold f_X11_isMuch
  simp [in_F q, isB_0]
/-- ThinAir's becomes -/
theorem becX_out {h : zM} {np n : Nat} (hX : XS h) (hK : MK h np n) {x y : Int32} (a t : Int32) (q : ¬ ((0 : Int32) ≤ x ∧ x ≤ nI n - 1) ∨ ¬ ((1 : Int32) ≤ y ∧ y ≤ 999)) : f_X10_becomes x a y t h = some (-1, h) := by
  unfold f_X10_becomes
  rcases rngL x (k := n) (by have := hK.1; omega) with ⟨k, hk, rfl⟩ | hx
  · rcases q with q | q
    · exact absurd (inL (show n ≤ 1000 by have := hK.1; omega) hk) q
    · simp [markAt_in hX hK hk, wi_F q]
  · simp [markAt_out hK hx]
theorem becX_F {h : zM} {np n k : Nat} (hX : XS h) (hK : MK h np n) (hk : k < n) {y : Int32} (a t : Int32) (q : (1 : Int32) ≤ y ∧ y ≤ 999) (e : ¬ rI h 2 k 7 = 0) : f_X10_becomes (nI k) a y t h = some (-3, fndX h 3) := by
  unfold f_X10_becomes
  simp [markAt_in hX hK hk, wi_T q, clR_s, ixR_s, memT1, e, found_3 hX]
theorem becX_T {h : zM} {np n k : Nat} (hX : XS h) (hK : MK h np n) (hk : k < n) {y : Int32} (a t : Int32) (q : (1 : Int32) ≤ y ∧ y ≤ 999) (e : rI h 2 k 7 = 0) : f_X10_becomes (nI k) a y t h = some (1, bX h k a y t) := by
  unfold f_X10_becomes f_X2_turnInto bX
  simp [markAt_in hX hK hk, wi_T q, clR_s, ixR_s, memT1, e]
theorem becM_F {h : zM} {k : Nat} (hM : MS h) (hk : k < 40) (a b c : Int32) (e : ¬ rI h 39 0 (7 * k) = 0) : f_X11_becomes (nI k) a b c h = some (-3, fndM h 3) := by
  unfold f_X11_becomes
  simp [part_0 hM hk, e, meets_3 hM]
theorem becM_T {h : zM} {k : Nat} (hM : MS h) (hk : k < 40) (a b c : Int32) (e : rI h 39 0 (7 * k) = 0) : f_X11_becomes (nI k) a b c h = some (1, bM h k a b c) := by
  have m8 := hM.2.2.2.2.2.2.2.1
  have m9 := hM.2.2.2.2.2.2.2.2.1
  have m10 := hM.2.2.2.2.2.2.2.2.2.1
  have e0 : (7 : Int32) * nI k = nI (7 * k) := by rw [lit 7, pk_mul]
  unfold f_X11_becomes bM
  simp [part_0 hM hk, e, e0, m8, m9, m10, ixOk_nI hk (by decide), ixOk_nI (show 7 * k < 280 by omega) (by decide), nI_clamp (show 7 * k < 2 ^ 31 by omega), nI_clamp (show k < 2 ^ 31 by omega)]
/-- help, paper, cut together -/
theorem bec_ok {h : zM} {np n : Nat} (hI : Inv h np n) (fx fm : zM → Option (Int32 × zM)) (x y a t b' c' : Int32)
    (e1 : fx h = f_X10_becomes x a y t h)
    (e2 : ∀ g, Fr h g → ((0 : Int32) ≤ x ∧ x ≤ nI n - 1) ∧ ((1 : Int32) ≤ y ∧ y ≤ 999) → rI g 11 0 13 = nI n → fm g = f_X11_becomes x a b' c' g)
    (e2b : ∀ k, x = nI k → k < n → (1 : Int32) ≤ y ∧ y ≤ 999 → fm (bX h k a y t) = f_X11_becomes x a b' c' (bX h k a y t))
    (e3 : ¬ ((0 : Int32) ≤ x ∧ x ≤ nI n - 1) ∨ ¬ ((1 : Int32) ≤ y ∧ y ≤ 999) → fm h = some (-1, h))
    (hK : ((a = 1 ∨ a = 4) ∧ y = b' ∧ t = b') ∨ ((a = 2 ∨ a = 3) ∧ y = b' ∧ t = c')) : Okk h fx fm := by
  have hX := hI.1
  have hM := hI.2.1
  have hK0 := hI.2.2.2.2.2.2.2.2.2.1
  have h40 := hK0.1
  rcases rngL x (k := n) (by omega) with ⟨k, hk, rfl⟩ | hx
  · have hin := inL (show n ≤ 1000 by omega) hk
    rcases rng1 y 999 (by decide) with ⟨v, hv1, hv2, rfl⟩ | hy
    · have hw := w1n hv1 hv2 (by decide)
      rw [← lit 999] at hw
      have m7 := (hK0.2.2.2.2.1 k hk).2.2.2.1
      by_cases e : rI h 2 k 7 = 0
      · refine ⟨1, _, _, e1.trans (becX_T hX hK0 hk a t hw e), (e2b k rfl hk hw).trans (becM_T (h := bX h k a (nI v) t) hM (by omega) a b' c' ?_), ?_, ?_, ⟨np, n, bec_inv hI hk ?_ ⟨v, hv2, rfl⟩⟩, ?_, ?_⟩
        · unfold bX
          rw [rI_wI_ne (by decide), rI_wI_ne (by decide), rI_wI_ne (by decide), m7]
          exact e
        · unfold bX
          exact Scr.wI (Scr.wI (Scr.wI (Scr.refl h) (by decide)) (by decide)) (by decide)
        · unfold bM bX
          exact Scr.wI (Scr.wI (Scr.wI (Scr.wI (Scr.wI (Scr.wI (Scr.refl h) (by decide)) (by decide)) (by decide)) (by decide)) (by decide)) (by decide)
        · rcases hK with q | q
          · exact Or.inl q
          · exact Or.inr (Or.inl q)
        · show ncM h ≤ _
          omega
        · show nsM h ≤ _
          omega
      · refine Okk.fnd (f := 3) hI (e1.trans (becX_F hX hK0 hk a t hw e)) ((e2 _ Fr.rf.fndX ⟨hin, hw⟩ hK0.2.2.1).trans (becM_F hM.fndX (by omega) a b' c' ?_))
        have m7' : rI (fndX h 3) 39 0 (7 * k) = rI h 2 k 7 := m7
        rw [m7']
        exact e
    · rw [← lit 999] at hy
      exact Okk.same hI (e1.trans (becX_out hX hK0 a t (Or.inr hy))) (e3 (Or.inr hy))
  · exact Okk.same hI (e1.trans (becX_out hX hK0 a t (Or.inl hx))) (e3 (Or.inl hx))
theorem isMark_any {h : zM} {n : Nat} (hP : rI h 11 0 13 = nI n) (x : Int32) : f_X11_isMark x h = some (if (0 : Int32) ≤ x ∧ x ≤ nI n - 1 then 1 else 0, h) := by
  by_cases q : (0 : Int32) ≤ x ∧ x ≤ nI n - 1
  · unfold f_X11_isMark
    rw [hP, if_pos q]
    simp [in_T q, isB_1]
  · rw [isMark_out hP q, if_neg q]
theorem isMuch_any (x : Int32) (h : zM) : f_X11_isMuch x h = some (if (1 : Int32) ≤ x ∧ x ≤ 999 then 1 else 0, h) := by
  by_cases q : (1 : Int32) ≤ x ∧ x ≤ 999
  · rw [isMuch_T q, if_pos q]
  · rw [isMuch_F q, if_neg q]
theorem ob {x : Option (Int32 × zM)} : (x.bind fun q => some (q.1, q.2)) = x := by
  cases x <;> rfl
theorem op_paper {h : zM} {np n : Nat} (hI : Inv h np n) (x y : Int32) : Okk h (f_X10_paper x y) (f_X11_paper x y) := by
  obtain ⟨d, hd, d1, d2⟩ := hI.2.2.2.2.1
  have p3 := hI.2.2.2.2.2.2.2.2.2.1.2.2.1
  have main : ∀ g, rI g 11 0 5 = nI d → ((0 : Int32) ≤ x ∧ x ≤ nI n - 1) ∧ ((1 : Int32) ≤ y ∧ y ≤ 999) → rI g 11 0 13 = nI n → f_X11_paper x y g = f_X11_becomes x 3 y (nI d) g := by
    intro g q1 q2 q3
    unfold f_X11_paper
    simp [isMark_any q3, isMuch_any, q2.1, q2.2, q1, ob]
  refine bec_ok hI _ _ x y 3 (nI d) y (nI d) ?_ (fun g hg q1 q2 => main g ?_ q1 q2) (fun k e hk hy => main _ ?_ ?_ ?_) (fun q => ?_) (Or.inr ⟨Or.inr rfl, rfl, rfl⟩)
  · unfold f_X10_paper
    rw [d1, ob]
  · rw [hg.I rfl (by decide), d2]
  · unfold bX
    rw [rI_wI_ne (by decide), rI_wI_ne (by decide), rI_wI_ne (by decide), d2]
  · subst e
    exact ⟨inL (show n ≤ 1000 by have := hI.2.2.2.2.2.2.2.2.2.1.1; omega) hk, hy⟩
  · unfold bX
    rw [rI_wI_ne (by decide), rI_wI_ne (by decide), rI_wI_ne (by decide), p3]
  · unfold f_X11_paper f_X11_paper_29
    by_cases a1 : (0 : Int32) ≤ x ∧ x ≤ nI n - 1
    · by_cases a2 : (1 : Int32) ≤ y ∧ y ≤ 999
      · exact absurd q (by simp [a1, a2])
      · simp [isMark_any p3, isMuch_any, a1, a2]
    · simp [isMark_any p3, isMuch_any, a1]
theorem op_cut {h : zM} {np n : Nat} (hI : Inv h np n) (x y : Int32) : Okk h (f_X10_cut x y) (f_X11_cut x y) := by
  have p3 := hI.2.2.2.2.2.2.2.2.2.1.2.2.1
  have main : ∀ g, ((0 : Int32) ≤ x ∧ x ≤ nI n - 1) ∧ ((1 : Int32) ≤ y ∧ y ≤ 999) → rI g 11 0 13 = nI n → f_X11_cut x y g = f_X11_becomes x 4 y 0 g := by
    intro g q2 q3
    unfold f_X11_cut
    simp [isMark_any q3, isMuch_any, q2.1, q2.2, ob]
  refine bec_ok hI _ _ x y 4 y y 0 ?_ (fun g hg q1 q2 => main g q1 q2) (fun k e hk hy => main _ ?_ ?_) (fun q => ?_) (Or.inl ⟨Or.inr rfl, rfl, rfl⟩)
  · unfold f_X10_cut
    rw [ob]
  · subst e
    exact ⟨inL (show n ≤ 1000 by have := hI.2.2.2.2.2.2.2.2.2.1.1; omega) hk, hy⟩
  · unfold bX
    rw [rI_wI_ne (by decide), rI_wI_ne (by decide), rI_wI_ne (by decide), p3]
  · unfold f_X11_cut f_X11_cut_26
    by_cases a1 : (0 : Int32) ≤ x ∧ x ≤ nI n - 1
    · by_cases a2 : (1 : Int32) ≤ y ∧ y ≤ 999
      · exact absurd q (by simp [a1, a2])
      · simp [isMark_any p3, isMuch_any, a1, a2]
    · simp [isMark_any p3, isMuch_any, a1]
theorem op_help {h : zM} {np n : Nat} (hI : Inv h np n) (x y z : Int32) : Okk h (f_X10_help x y z) (f_X11_help x y z) := by
  have p3 := hI.2.2.2.2.2.2.2.2.2.1.2.2.1
  have n40 := hI.2.2.2.2.2.2.2.2.2.1.1
  have out : ¬ ((0 : Int32) ≤ x ∧ x ≤ nI n - 1) ∨ ¬ ((1 : Int32) ≤ y ∧ y ≤ 999) → f_X11_help x y z h = some (-1, h) := by
    intro q
    unfold f_X11_help
    by_cases a1 : (0 : Int32) ≤ x ∧ x ≤ nI n - 1
    · by_cases a2 : (1 : Int32) ≤ y ∧ y ≤ 999
      · exact absurd q (by simp [a1, a2])
      · simp [isMark_any p3, isMuch_any, a1, a2]
    · simp [isMark_any p3, isMuch_any, a1]
  have bx : ∀ k a t, rI (bX h k a y t) 11 0 13 = nI n := by
    intro k a t
    unfold bX
    rw [rI_wI_ne (by decide), rI_wI_ne (by decide), rI_wI_ne (by decide), p3]
  by_cases hz : z = -9999
  · subst hz
    have main : ∀ g, ((0 : Int32) ≤ x ∧ x ≤ nI n - 1) ∧ ((1 : Int32) ≤ y ∧ y ≤ 999) → rI g 11 0 13 = nI n → f_X11_help x y (-9999) g = f_X11_becomes x 1 y (-9999) g := by
      intro g q2 q3
      unfold f_X11_help f_X11_help_33 f_X11_help_47
      simp [isMark_any q3, isMuch_any, q2.1, q2.2, ob]
    refine bec_ok hI _ _ x y 1 y y (-9999) ?_ (fun g hg q1 q2 => main g q1 q2) (fun k e hk hy => main _ ?_ (bx _ _ _)) out (Or.inl ⟨Or.inl rfl, rfl, rfl⟩)
    · unfold f_X10_help
      simp [ob]
    · subst e
      exact ⟨inL (show n ≤ 1000 by omega) hk, hy⟩
  · by_cases hz2 : (0 : Int32) ≤ z ∧ z ≤ 5
    · have main : ∀ g, ((0 : Int32) ≤ x ∧ x ≤ nI n - 1) ∧ ((1 : Int32) ≤ y ∧ y ≤ 999) → rI g 11 0 13 = nI n → f_X11_help x y z g = f_X11_becomes x 2 y z g := by
        intro g q2 q3
        unfold f_X11_help f_X11_help_33 f_X11_help_47
        simp [isMark_any q3, isMuch_any, q2.1, q2.2, ob, hz, in_T hz2]
      refine bec_ok hI _ _ x y 2 z y z ?_ (fun g hg q1 q2 => main g q1 q2) (fun k e hk hy => main _ ?_ (bx _ _ _)) out (Or.inr ⟨Or.inl rfl, rfl, rfl⟩)
      · unfold f_X10_help
        simp [ob, hz, wi_T hz2]
      · subst e
        exact ⟨inL (show n ≤ 1000 by omega) hk, hy⟩
    · refine Okk.same hI (a := -1) ?_ ?_
      · unfold f_X10_help
        simp [hz, wi_F hz2]
      · by_cases a1 : (0 : Int32) ≤ x ∧ x ≤ nI n - 1
        · by_cases a2 : (1 : Int32) ≤ y ∧ y ≤ 999
          · unfold f_X11_help
            simp [isMark_any p3, isMuch_any, a1, a2, hz, in_F hz2]
          · exact out (Or.inr a2)
        · exact out (Or.inl a1)
theorem op_strike {h : zM} {np n : Nat} (hI : Inv h np n) (x y : Int32) : Okk h (f_X10_strike x y) (f_X11_strike x y) := by
  have hX := hI.1
  have hM := hI.2.1
  have hK := hI.2.2.2.2.2.2.2.2.2.1
  obtain ⟨d, hd, d1, d2⟩ := hI.2.2.2.2.1
  have p1 := hK.1
  have p3 := hK.2.2.1
  rcases rngL x (k := n) (by omega) with ⟨k, hk, rfl⟩ | hx
  · have m7 := (hK.2.2.2.2.1 k hk).2.2.2.1
    by_cases hw : (0 : Int32) ≤ y ∧ y ≤ 9
    · by_cases e : rI h 2 k 7 = 5
      · refine Okk.fnd (f := 3) hI ?_ ?_
        · unfold f_X10_strike
          simp [markAt_in hX hK hk, wi_T hw, clR_s, ixR_s, memT1, e, found_3 hX]
        · have m7' : rI (fndX h 3) 39 0 (7 * k) = rI h 2 k 7 := m7
          have p3' : rI (fndX h 3) 11 0 13 = nI n := p3
          unfold f_X11_strike
          simp [isMark_in p3' p1 hk, in_T hw, part_0 hM.fndX (show k < 40 by omega), m7', e, meets_3 hM.fndX]
      · refine ⟨rI h 2 k 7, bX h k 5 0 (10000 * y + nI d), bM (bX h k 5 0 (10000 * y + nI d)) k 5 0 (10000 * y + nI d), ?_, ?_, ?_, ?_, ⟨np, n, bec_inv hI hk (Or.inr (Or.inr ⟨rfl, rfl, rfl⟩)) ⟨0, by decide, rfl⟩⟩, by show ncM h ≤ _; omega, by show nsM h ≤ _; omega⟩
        · unfold f_X10_strike f_X2_turnInto bX
          simp [markAt_in hX hK hk, wi_T hw, clR_s, ixR_s, memT1, e, d1]
        · have hM' : MS (bX h k 5 0 (10000 * y + nI d)) := hM
          have g : ∀ C i f, C ≠ 2 → rI (bX h k 5 0 (10000 * y + nI d)) C i f = rI h C i f := by
            intro C i f hC
            unfold bX
            rw [rI_wI_ne hC.symm, rI_wI_ne hC.symm, rI_wI_ne hC.symm]
          generalize bX h k 5 0 (10000 * y + nI d) = w at hM' g
          have m7' : rI w 39 0 (7 * k) = rI h 2 k 7 := (g _ _ _ (by decide)).trans m7
          have p3' : rI w 11 0 13 = nI n := (g _ _ _ (by decide)).trans p3
          have d2' : rI w 11 0 5 = nI d := (g _ _ _ (by decide)).trans d2
          have m8 := hM'.2.2.2.2.2.2.2.1
          have m9 := hM'.2.2.2.2.2.2.2.2.1
          have m10 := hM'.2.2.2.2.2.2.2.2.2.1
          have e0 : (7 : Int32) * nI k = nI (7 * k) := by rw [lit 7, pk_mul]
          have z : ∀ a b, rI (wI (wI w 39 0 a 5) 40 0 b 0) 11 0 5 = nI d := fun a b => by
            rw [rI_wI_ne (by decide), rI_wI_ne (by decide), d2']
          unfold f_X11_strike bM
          simp [isMark_in p3' p1 hk, in_T hw, part_0 hM' (show k < 40 by omega), m7', e, e0, m8, m9, m10, z, ixOk_nI (show k < 40 by omega) (by decide), ixOk_nI (show 7 * k < 280 by omega) (by decide), nI_clamp (show 7 * k < 2 ^ 31 by omega), nI_clamp (show k < 2 ^ 31 by omega)]
        · unfold bX
          exact Scr.wI (Scr.wI (Scr.wI (Scr.refl h) (by decide)) (by decide)) (by decide)
        · unfold bM bX
          exact Scr.wI (Scr.wI (Scr.wI (Scr.wI (Scr.wI (Scr.wI (Scr.refl h) (by decide)) (by decide)) (by decide)) (by decide)) (by decide)) (by decide)
    · refine Okk.same hI (a := -1) ?_ ?_
      · unfold f_X10_strike
        simp [markAt_in hX hK hk, wi_F hw]
      · unfold f_X11_strike
        simp [isMark_in p3 p1 hk, in_F hw]
  · refine Okk.same hI (a := -1) ?_ ?_
    · unfold f_X10_strike
      simp [markAt_out hK hx]
    · unfold f_X11_strike
      simp [isMark_out p3 hx]
