def rlN (h : zM) : zM := wI (wI (nwM h 7 9) 7 (cnM h 7) 1 60) 7 (cnM h 7) 2 40
theorem rlN_eq (h : zM) : f_X7_init (some (7, cnM h 7)) (nwM h 7 9) = some (rlN h) := by
  unfold f_X7_init f_X0_init rlN
  simp -implicitDefEqProofs only [clR_s, ixR_s, memT1, Bool.true_and, Bool.and_true, if_true, show Nat.blt 7 99 = true from rfl, Option.bind_some]
theorem rlN_fr {h : zM} : Fr h (rlN h) := ((Fr.rf.nw (Or.inr rfl)).wI rfl).wI rfl
theorem rlN_kp {h : zM} : Kp h (rlN h) := ((Kp.rf.nw (by decide)).wI (by decide)).wI (by decide)
theorem rlN_r7 {h : zM} : R7 (rlN h) (cnM h 7) s0 := by
  have z : ∀ f, ¬ f = 1 → ¬ f = 2 → rI (rlN h) 7 (cnM h 7) f = 0 := fun f h1 h2 => by
    unfold rlN
    rw [rI_wI_nf (fun y => h2 y.2.symm), rI_wI_nf (fun y => h1 y.2.symm), rI_nw, if_pos ⟨rfl, rfl⟩]
  refine ⟨z 0 (by decide) (by decide), ?_, ?_, z 3 (by decide) (by decide), z 4 (by decide) (by decide), z 5 (by decide) (by decide), z 6 (by decide) (by decide), z 7 (by decide) (by decide), z 8 (by decide) (by decide), fun _ y => (nomatch y), fun _ y => (nomatch y), fun _ y => (nomatch y)⟩
  · unfold rlN
    rw [rI_wI_nf (by decide), rI_wI, if_pos ⟨rfl, rfl, rfl⟩]
    rfl
  · unfold rlN
    rw [rI_wI, if_pos ⟨rfl, rfl, rfl⟩]
    rfl
theorem RDR.lwN {h : zM} {c j n q : Nat} {sg : Nat → Int32} (H : RDR h c j n sg q) : RDR (lwN h) c j n sg q := by
  obtain ⟨a, b, d, e, f, g⟩ := H
  have I : ∀ C i k, C ≠ 1 → C ≠ 20 → rI (_root_.Jvm.Pilot.CThinAirLaw_law_r6155_d9ef75.lwN h) C i k = rI h C i k := fun C i k h1 h2 => by
    unfold _root_.Jvm.Pilot.CThinAirLaw_law_r6155_d9ef75.lwN
    rw [rI_wR, rI_nw_ne h2.symm, rI_nw_ne h1.symm]
  refine ⟨?_, by rw [I _ _ _ (by decide) (by decide)]; exact b, by rw [I _ _ _ (by decide) (by decide)]; exact d, fun i hi => by rw [I _ _ _ (by decide) (by decide)]; exact e i hi, f, g⟩
  unfold _root_.Jvm.Pilot.CThinAirLaw_law_r6155_d9ef75.lwN
  rw [rR_wR_ne (by decide), rR_nw_ne (by decide), rR_nw_ne (by decide)]
  exact a
theorem RDR.rlN {h : zM} {c j n q : Nat} {sg : Nat → Int32} (H : RDR h c j n sg q) : RDR (rlN h) c j n sg q := by
  obtain ⟨a, b, d, e, f, g⟩ := H
  have I : ∀ C i k, C ≠ 7 → rI (_root_.Jvm.Pilot.CThinAirLaw_law_r6155_d9ef75.rlN h) C i k = rI h C i k := fun C i k h1 => by
    unfold _root_.Jvm.Pilot.CThinAirLaw_law_r6155_d9ef75.rlN
    rw [rI_wI_ne h1.symm, rI_wI_ne h1.symm, rI_nw_ne h1.symm]
  refine ⟨?_, by rw [I _ _ _ (by decide)]; exact b, by rw [I _ _ _ (by decide)]; exact d, fun i hi => by rw [I _ _ _ (by decide)]; exact e i hi, f, g⟩
  unfold _root_.Jvm.Pilot.CThinAirLaw_law_r6155_d9ef75.rlN
  rw [rR_wI, rR_wI, rR_nw_ne (by decide)]
  exact a
theorem Fr.on7 {a h h' : zM} {c i : Nat} (F : Fr a h) (o : On (W7 c i) h h') : Fr a h' := F.on o (fun C I f e g => by
  unfold W7
  rw [W5_rl c C I f e]
  by_cases c7 : C = 7
  · subst c7
    cases e
  · rw [beqF c7]
    rfl)
theorem Kp.on7 {a h h' : zM} {c i : Nat} (F : Kp a h) (o : On (W7 c i) h h') : Kp a h' := F.on o rfl rfl rfl rfl (fun _ => rfl) (fun _ => rfl)
theorem op_fault {h : zM} {np n : Nat} (hI : Inv h np n) (y x2 : Int32) (hx2 : x2 = 0 ∨ x2 = 1) : Okk h (f_X10_fault y x2) (f_X11_fault y x2) := by
  have H := hI.N
  have hX := H.X
  have hM := H.M
  rcases rng3 y with ⟨j, hj, rfl⟩ | hy
  · rcases H.T.tt hj with ⟨t1, t2⟩ | ⟨k, T⟩
    · refine Okk.fnd (f := 1) hI ?_ ?_
      · unfold f_X10_fault
        simp -implicitDefEqProofs [textAt_in hX hj, clR_s, memT1, miss_T (Or.inr rfl) t2, found_1 hX]
      · have t1' : rI (fndX h 1) 36 0 j = -9999 := t1
        unfold f_X11_fault
        simp -implicitDefEqProofs [askT_F hM.fndX hj t1', n3]
    · generalize (fun i => rI h 25 j i) = sg at T
      obtain ⟨-, k40, s9, s36, s25, s37⟩ := id T
      have cn := H.L.1
      have i1 := rdN_eq hX hj s9
      have R0 := rdN_rd (h := h) (j := j) (k := k) (sg := sg) k40 s25
      have F0 : Fr h (rdN h j k) := rdN_fr
      have K0 : Kp h (rdN h j k) := rdN_kp
      rcases hx2 with rfl | rfl
      · have cn' : cnM (rdN h j k) 1 = cnM (rdN h j k) 20 := cn
        have i2 := lwN_eq (rdN h j k)
        obtain ⟨g, a1, a2, a3, a4⟩ := readL R0.lwN (lwN_nb cn')
        have Fg : Fr h g := (F0.tr lwN_fr).on20 a2 (show cnM h 20 ≤ cnM h 1 by omega)
        have Kg : Kp h g := (K0.tr lwN_kp).on20 a2
        have nc : ncM g = ncM h + 3 := a2.nc
        have ns : nsM g = nsM h + 14 := a2.ns
        obtain ⟨g2, b1, b2, b3, b4⟩ := readLM (Fg.MS hM) (T.fr Fg)
        have c41 : (rL0 sg k).2.1 ≤ 0 + 41 := pall_cnt 41 0 0 (fun _ => 0)
        refine Okk.qt (a := if (rL0 sg k).1 = true then -9999 else nI (rL0 sg k).2.2.1) (h1 := g) (h2 := g2) hI ?_ ?_ Fg Kg b2.frM b2.kpM (by have := b2.nc; omega) (by have := b2.ns; omega)
        · have d := a3.2.2.1
          unfold f_X10_fault f_X10_fault_66
          by_cases ok : (rL0 sg k).1 = true
          · rw [if_pos ok] at a1 ⊢
            have q9 : ¬ nI (rL0 sg k).2.1 = -9999 := nI_n9 (by omega)
            simp -implicitDefEqProofs [textAt_in hX hj, clR_s, memT1, miss_F (Or.inr rfl) k40 s9, i1, i2, a1, q9]
          · rw [if_neg ok] at a1 ⊢
            simp -implicitDefEqProofs [textAt_in hX hj, clR_s, ixR_s, memT1, miss_F (Or.inr rfl) k40 s9, i1, i2, a1, d]
        · unfold f_X11_fault
          simp -implicitDefEqProofs [askT_T (Fg.MS hM) hj k40 (T.fr Fg).2.2.2.1, b1]
      · have i2 := rlN_eq (rdN h j k)
        obtain ⟨g, a1, a2, a3, a4⟩ := readR R0.rlN rlN_r7
        have Fg : Fr h g := (F0.tr rlN_fr).on7 a2
        have Kg : Kp h g := (K0.tr rlN_kp).on7 a2
        have nc : ncM g = ncM h + 2 := a2.nc
        have ns : nsM g = nsM h + 12 := a2.ns
        obtain ⟨g2, b1, b2, b3, b4⟩ := readRM (Fg.MS hM) (T.fr Fg)
        have c41 : (rR0 sg k).2.1 ≤ 0 + 41 := pall_cnt 41 0 0 s0
        refine Okk.qt (a := if (rR0 sg k).1 = true then -9999 else nI (rR0 sg k).2.2.1) (h1 := g) (h2 := g2) hI ?_ ?_ Fg Kg b2.frM b2.kpM (by have := b2.nc; omega) (by have := b2.ns; omega)
        · have d := a3.2.2.1
          unfold f_X10_fault f_X10_fault_66
          by_cases ok : (rR0 sg k).1 = true
          · rw [if_pos ok] at a1 ⊢
            have q9 : ¬ nI (rR0 sg k).2.1 = -9999 := nI_n9 (by omega)
            simp -implicitDefEqProofs [textAt_in hX hj, clR_s, memT1, miss_F (Or.inr rfl) k40 s9, i1, i2, a1, q9]
          · rw [if_neg ok] at a1 ⊢
            simp -implicitDefEqProofs [textAt_in hX hj, clR_s, ixR_s, memT1, miss_F (Or.inr rfl) k40 s9, i1, i2, a1, d]
        · unfold f_X11_fault
          simp -implicitDefEqProofs [askT_T (Fg.MS hM) hj k40 (T.fr Fg).2.2.2.1, b1]
  · refine Okk.same hI (a := -1) ?_ ?_
    · unfold f_X10_fault
      simp -implicitDefEqProofs [textAt_out hy]
    · unfold f_X11_fault
      simp -implicitDefEqProofs [askT_out hy, m1n]
