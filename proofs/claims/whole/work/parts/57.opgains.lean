theorem R7.rlN {h : zM} {i : Nat} {s : RS} (H : R7 h i s) (hi : i < cnM h 7) : R7 (rlN h) i s := by
  have I : ∀ f, rI (_root_.Jvm.Pilot.CThinAirLaw_law_r6155_d9ef75.rlN h) 7 i f = rI h 7 i f := fun f => by
    have ne : ¬ (7 = 7 ∧ i = cnM h 7 ∧ f = 2) := by omega
    have ne1 : ¬ (7 = 7 ∧ i = cnM h 7 ∧ f = 1) := by omega
    unfold _root_.Jvm.Pilot.CThinAirLaw_law_r6155_d9ef75.rlN
    rw [rI_wI, if_neg ne, rI_wI, if_neg ne1, rI_nw_lt hi]
  unfold R7
  rw [I, I, I, I, I, I, I, I, I]
  exact H
theorem R7.on7 {h h' : zM} {c i k : Nat} {s : RS} (H : R7 h i s) (o : On (W7 c k) h h') (hk : ¬ i = k) : R7 h' i s := by
  have I : ∀ f, rI h' 7 i f = rI h 7 i f := fun f => by
    apply o.2
    unfold W7
    rw [beqF hk]
    simp
    rfl
  unfold R7
  rw [I, I, I, I, I, I, I, I, I]
  exact H
theorem sts12_lt {h : zM} {s : RS} {N : Nat → Int32} {n : Nat} (n40 : n ≤ 40) (p k : Nat) (e : sts12 h s N n p = some k) : k < 40 := by
  have a := st_lt _ e
  have b := bst_len (p := pe h) (LL h s N n)
  have c := (LL_inv (h := h) (s := s) (N := N) (n := n)).1
  omega
def GN (h : zM) (s1 s2 : RS) (N : Nat → Int32) (n : Nat) : Nat := gnl (gnP (sts12 h s1 N n) (sts12 h s2 N n)) 12 0 0
/-- the reference, as far as both texts can be read -/
theorem mG_pre {h g : zM} {np n j1 j2 k1 k2 : Nat} {sg1 sg2 : Nat → Int32} (H : InvN h np n) (F : Fr h g) (T1 : TT h j1 k1 sg1) (T2 : TT h j2 k2 sg2) (ok1 : (rR0 sg1 k1).1 = true) (ok2 : (rR0 sg2 k2).1 = true) : ∃ m, On WX g m ∧ f_X11_gains (nI j1) (nI j2) g = (f_X11_askedRules (nI j1) m).bind fun q69 => (if 0 ≤ q69.1 then ((f_X11_askedRules (nI j2) q69.2).bind fun q83 => (f_X11_gains_86 (nI j1) q83.1 q83.2)) else (f_X11_gains_86 (nI j1) q69.1 q69.2)) := by
  have M := F.MS H.M
  have t1 := T1.fr F
  have t2 := T2.fr F
  have m5 := M.2.2.2.2.1
  obtain ⟨j13, k140, -, e36a, -, -⟩ := id t1
  obtain ⟨j23, k240, -, e36b, -, -⟩ := id t2
  obtain ⟨m1, a1, a2, -, -⟩ := readRM M t1
  rw [if_pos ok1] at a1
  obtain ⟨m2, b1, b2, -, -⟩ := readRM (a2.MS M) (t2.fr a2.frM)
  rw [if_pos ok2] at b1
  refine ⟨m2, a2.tr b2, ?_⟩
  have p1 : ¬ nI k1 < 0 := nI_pos (by omega)
  have p2 : (0 : Int32) ≤ nI k2 := nI_ge0 (by omega)
  unfold f_X11_gains
  simp -implicitDefEqProofs only [isText_in j13, isText_in j23, Option.bind_some, show ¬ (1 : Int32) = 0 by decide, if_false, not_false_eq_true, if_true, m5, ixOk_nI (show j1 < 4 by omega) (by decide), ixOk_nI (show j2 < 4 by omega) (by decide), nI_clamp (show j1 < 2 ^ 31 by omega), nI_clamp (show j2 < 2 ^ 31 by omega), decide_true, Bool.true_and, Bool.and_true, e36a, e36b, p1, p2, a1, b1, not_true_eq_false]
theorem mG_lack {h g : zM} {np n j1 j2 k1 k2 : Nat} {sg1 sg2 : Nat → Int32} (H : InvN h np n) (F : Fr h g) (T1 : TT h j1 k1 sg1) (T2 : TT h j2 k2 sg2) (ok1 : (rR0 sg1 k1).1 = true) (ok2 : (rR0 sg2 k2).1 = true) (lk : ((rR0 sg1 k1).2.2.2.2.2.2.2.2.2.2 = true ∨ (rR0 sg2 k2).2.2.2.2.2.2.2.2.2.2 = true) ∧ rI h 43 0 0 = 0) : ∃ m, On WX g m ∧ f_X11_gains (nI j1) (nI j2) g = some (-3, fndM m 1) := by
  obtain ⟨m, o, e⟩ := mG_pre H F T1 T2 ok1 ok2
  have Fm := F.tr o.frM
  have z43 : ∀ g, Fr h g → rI g 43 0 0 = 0 := fun g Fg => by
    rw [Fg.I rfl (by decide)]
    exact lk.2
  obtain ⟨m3, a1, a2, a3⟩ := askRu (Fm.MS H.M) (T1.fr Fm) ok1
  by_cases v1 : (rR0 sg1 k1).2.2.2.2.2.2.2.2.2.2 = true
  · rw [if_pos ⟨v1, z43 _ Fm⟩] at a3
    refine ⟨m3, o.tr a1, ?_⟩
    rw [e, a3, Option.bind_some, if_neg n3]
    unfold f_X11_gains_86
    rw [if_neg n3]
  · rw [if_neg (fun z => v1 z.1)] at a3
    have F3 := Fm.tr a1.frM
    obtain ⟨m4, b1, b2, b3⟩ := askRu (F3.MS H.M) (T2.fr F3) ok2
    have v2 : (rR0 sg2 k2).2.2.2.2.2.2.2.2.2.2 = true := by
      rcases lk.1 with z | z
      · exact absurd z v1
      · exact z
    rw [if_pos ⟨v2, z43 _ F3⟩] at b3
    refine ⟨m4, (o.tr a1).tr b1, ?_⟩
    rw [e, a3, Option.bind_some, if_pos (show (0 : Int32) ≤ 0 by decide), b3, Option.bind_some]
    unfold f_X11_gains_86
    rw [if_neg n3]
theorem mG_ok {h g : zM} {np n j1 j2 k1 k2 il : Nat} {sg1 sg2 : Nat → Int32} {N : Nat → Int32} (H : InvN h np n) (F : Fr h g) (T1 : TT h j1 k1 sg1) (T2 : TT h j2 k2 sg2) (ok1 : (rR0 sg1 k1).1 = true) (ok2 : (rR0 sg2 k2).1 = true) (lk : ¬ (((rR0 sg1 k1).2.2.2.2.2.2.2.2.2.2 = true ∨ (rR0 sg2 k2).2.2.2.2.2.2.2.2.2.2 = true) ∧ rI h 43 0 0 = 0)) (V1 : (rR0 sg1 k1).2.2.2.2.2.2.2.2.2.2 = true → LV h 0 il N) (V2 : (rR0 sg2 k2).2.2.2.2.2.2.2.2.2.2 = true → LV h 0 il N) : ∃ m, Fr g m ∧ Kp g m ∧ ncM m = ncM g ∧ nsM m = nsM g ∧ f_X11_gains (nI j1) (nI j2) g = some (nI (pc 12 (GN h (rR0 sg1 k1).2.2.2 (rR0 sg2 k2).2.2.2 N n)), wI m 11 0 2 (nI (GN h (rR0 sg1 k1).2.2.2 (rR0 sg2 k2).2.2.2 N n))) := by
  have n40 := H.n40
  obtain ⟨m, o, e⟩ := mG_pre H F T1 T2 ok1 ok2
  have Fm := F.tr o.frM
  have no1 : ∀ g, Fr h g → ¬ ((rR0 sg1 k1).2.2.2.2.2.2.2.2.2.2 = true ∧ rI g 43 0 0 = 0) := fun g Fg z => by
    rw [Fg.I rfl (by decide)] at z
    exact lk ⟨Or.inl z.1, z.2⟩
  have no2 : ∀ g, Fr h g → ¬ ((rR0 sg2 k2).2.2.2.2.2.2.2.2.2.2 = true ∧ rI g 43 0 0 = 0) := fun g Fg z => by
    rw [Fg.I rfl (by decide)] at z
    exact lk ⟨Or.inr z.1, z.2⟩
  obtain ⟨m3, a1, a2, a3⟩ := askRu (Fm.MS H.M) (T1.fr Fm) ok1
  rw [if_neg (no1 _ Fm)] at a3
  have F3 := Fm.tr a1.frM
  obtain ⟨m4, b1, b2, b3⟩ := askRu (F3.MS H.M) (T2.fr F3) ok2
  rw [if_neg (no2 _ F3)] at b3
  have F4 := F3.tr b1.frM
  obtain ⟨m5, c1, c2, c3, c4⟩ := ranks_eq (N := N) (il := il) (F4.N H) b2 (fun v => (V2 v).fr F4)
  rw [sts12_fr F4] at c3
  have F5 := F4.tr c2.frH
  obtain ⟨m6, d1, d2, d3, d4⟩ := g100_loop (x := nI j1) 12 1000 0 m5 (F5.MS H.M) (by decide) (by decide)
  rw [nI_0] at d1
  have F6 := F5.tr d2.frH
  obtain ⟨m7, f1, f2, f3⟩ := askRu (F6.MS H.M) (T1.fr F6) ok1
  rw [if_neg (no1 _ F6)] at f3
  have F7 := F6.tr f1.frM
  obtain ⟨m8, g1, g2, g3, g4⟩ := ranks_eq (N := N) (il := il) (F7.N H) f2 (fun v => (V1 v).fr F7)
  rw [sts12_fr F7] at g3
  have F8 := F7.tr g2.frH
  have G := mGn (g := m8) (a := sts12 h (rR0 sg1 k1).2.2.2 N n) (b := sts12 h (rR0 sg2 k2).2.2.2 N n) (F8.MS H.M) (fun p k q => sts12_lt n40 p k q) (fun p k q => sts12_lt n40 p k q) g3 (fun p hp => by rw [g4, f1.2 _ _ _ rfl, d3 p hp (Nat.zero_le _)]; exact c3 p hp) 12 1000 0 0 (by decide) (by decide) (by decide)
  refine ⟨m8, ((((((o.frM.tr a1.frM).tr b1.frM).tr c2.frH).tr d2.frH).tr f1.frM).tr g2.frH), ((((((o.kpM.tr a1.kpM).tr b1.kpM).tr c2.kpH).tr d2.kpH).tr f1.kpM).tr g2.kpH), ?_, ?_, ?_⟩
  · rw [g2.nc, f1.nc, d2.nc, c2.nc, b1.nc, a1.nc, o.nc]
  · rw [g2.ns, f1.ns, d2.ns, c2.ns, b1.ns, a1.ns, o.ns]
  · rw [e, a3, Option.bind_some, if_pos (show (0 : Int32) ≤ 0 by decide), b3, Option.bind_some]
    unfold f_X11_gains_86
    rw [if_pos (show (0 : Int32) ≤ 0 by decide), c1, Option.bind_some, d1]
    unfold f_X11_gains_100
    rw [if_pos (show (12 : Int32) ≤ 12 by decide), f3, Option.bind_some]
    dsimp only
    rw [g1, Option.bind_some]
    exact G
theorem op_gains {h : zM} {np n : Nat} (hI : Inv h np n) (x y : Int32) : Okk h (f_X10_gains x y) (f_X11_gains x y) := by
  have H := hI.N
  have hX := H.X
  have hM := H.M
  have n40 := H.n40
  have m5 := hM.2.2.2.2.1
  rcases rng3 x with ⟨j1, hj1, rfl⟩ | hx
  · rcases rng3 y with ⟨j2, hj2, rfl⟩ | hy
    · have mfnd : ∀ g, Fr h g → (rI g 36 0 j1 < 0 ∨ (¬ rI g 36 0 j1 < 0 ∧ ¬ 0 ≤ rI g 36 0 j2)) → f_X11_gains (nI j1) (nI j2) g = some (-3, fndM g 1) := fun g Fg q => by
        have M := Fg.MS hM
        have m5 := M.2.2.2.2.1
        unfold f_X11_gains f_X11_gains_34
        rcases q with q | ⟨q1, q2⟩
        · simp -implicitDefEqProofs only [isText_in hj1, isText_in hj2, Option.bind_some, show ¬ (1 : Int32) = 0 by decide, if_false, not_false_eq_true, if_true, m5, ixOk_nI (show j1 < 4 by omega) (by decide), nI_clamp (show j1 < 2 ^ 31 by omega), decide_true, Bool.true_and, Bool.and_true, q, meets_1 M]
        · simp -implicitDefEqProofs only [isText_in hj1, isText_in hj2, Option.bind_some, show ¬ (1 : Int32) = 0 by decide, if_false, not_false_eq_true, if_true, m5, ixOk_nI (show j1 < 4 by omega) (by decide), ixOk_nI (show j2 < 4 by omega) (by decide), nI_clamp (show j1 < 2 ^ 31 by omega), nI_clamp (show j2 < 2 ^ 31 by omega), decide_true, Bool.true_and, Bool.and_true, q1, q2, meets_1 M]
      rcases H.T.tt hj1 with ⟨t1, t2⟩ | ⟨k1, T1⟩
      · refine Okk.fnd (f := 1) hI ?_ (mfnd _ Fr.rf.fndX (Or.inl ?_))
        · unfold f_X10_gains f_X10_rankBoth f_X10_rankBoth_39
          simp -implicitDefEqProofs [textAt_in hX hj1, textAt_in hX hj2, clR_s, memT1, miss_T (Or.inr rfl) t2, found_1 hX]
        · have t1' : rI (fndX h 1) 36 0 j1 = -9999 := t1
          rw [t1']
          decide
      · have hc1 := T1.2.2.1
        have hk1 := T1.2.1
        rcases H.T.tt hj2 with ⟨t1, t2⟩ | ⟨k2, T2⟩
        · refine Okk.fnd (f := 1) hI ?_ (mfnd _ Fr.rf.fndX (Or.inr ⟨?_, ?_⟩))
          · unfold f_X10_gains f_X10_rankBoth f_X10_rankBoth_39
            simp -implicitDefEqProofs [textAt_in hX hj1, textAt_in hX hj2, clR_s, memT1, miss_F (Or.inr rfl) hk1 hc1, miss_T (Or.inr rfl) t2, found_1 hX]
          · have e : rI (fndX h 1) 36 0 j1 = nI k1 := T1.2.2.2.1
            rw [e]
            exact nI_pos (by omega)
          · have t1' : rI (fndX h 1) 36 0 j2 = -9999 := t1
            rw [t1']
            decide
        · have hc2 := T2.2.2.1
          have hk2 := T2.2.1
          generalize (fun i => rI h 25 j1 i) = sg1 at T1
          generalize (fun i => rI h 25 j2 i) = sg2 at T2
          have Fa : Fr h (rlN h) := rlN_fr
          have Fb : Fr h (rlN (rlN h)) := Fa.tr rlN_fr
          have Kb : Kp h (rlN (rlN h)) := rlN_kp.tr rlN_kp
          have c7 : cnM (rlN h) 7 = cnM h 7 + 1 := rfl
          have ne12 : ¬ cnM h 7 = cnM (rlN h) 7 := by omega
          have Tb1 := T1.fr Fb
          have i1 := rlN_eq h
          have i2 := rlN_eq (rlN h)
          have i3 := rdN_eq (Fb.XS hX) hj1 Tb1.2.2.1
          have Ra : R7 (rlN (rlN h)) (cnM h 7) s0 := R7.rlN rlN_r7 (by omega)
          have Rb : R7 (rlN (rlN h)) (cnM (rlN h) 7) s0 := rlN_r7
          obtain ⟨g1, a1, a2, a3, a4⟩ := readR (rdN_rd (h := rlN (rlN h)) (j := j1) (k := k1) (sg := sg1) hk1 Tb1.2.2.2.2.1) (R7.rdN Ra)
          have F1 : Fr h g1 := (Fb.tr rdN_fr).on7 a2
          have K1 : Kp h g1 := (Kb.tr rdN_kp).on7 a2
          have nc1 : ncM g1 = ncM h + 3 := a2.nc
          have ns1 : nsM g1 = nsM h + 21 := a2.ns
          have c41 : (rR0 sg1 k1).2.1 ≤ 0 + 41 := pall_cnt 41 0 0 s0
          have c42 : (rR0 sg2 k2).2.1 ≤ 0 + 41 := pall_cnt 41 0 0 s0
          by_cases ok1 : (rR0 sg1 k1).1 = true
          · rw [if_pos ok1] at a1
            have q1 : ¬ nI (rR0 sg1 k1).2.1 = -9999 := nI_n9 (by omega)
            have T21 := T2.fr F1
            have i4 := rdN_eq (F1.XS hX) hj2 T21.2.2.1
            have Rb1 : R7 g1 (cnM (rlN h) 7) s0 := (R7.rdN Rb).on7 a2 (fun z => ne12 z.symm)
            obtain ⟨g2, b1, b2, b3, b4⟩ := readR (rdN_rd (h := g1) (j := j2) (k := k2) (sg := sg2) hk2 T21.2.2.2.2.1) (R7.rdN Rb1)
            have F2 : Fr h g2 := (F1.tr rdN_fr).on7 b2
            have K2 : Kp h g2 := (K1.tr rdN_kp).on7 b2
            have nc2 : ncM g2 = ncM g1 + 1 := b2.nc
            have ns2 : nsM g2 = nsM g1 + 3 := b2.ns
            by_cases ok2 : (rR0 sg2 k2).1 = true
            · rw [if_pos ok2] at b1
              have q2 : ¬ nI (rR0 sg2 k2).2.1 = -9999 := nI_n9 (by omega)
              have Ra2 : R7 g2 (cnM h 7) (rR0 sg1 k1).2.2.2 := (R7.rdN (a4 ok1)).on7 b2 ne12
              have Rb2 := b4 ok2
              have LKa := lacks_eq (F2.XS hX) Ra2
              have LKb := lacks_eq (F2.XS hX) Rb2
              have nn := H.L.nn (show 0 < 2 by decide)
              have r30 : rR g2 30 0 0 = rR h 30 0 0 := F2.R rfl (by decide)
              rw [r30] at LKa LKb
              by_cases lk : ((rR0 sg1 k1).2.2.2.2.2.2.2.2.2.2 = true ∨ (rR0 sg2 k2).2.2.2.2.2.2.2.2.2.2 = true) ∧ rI h 43 0 0 = 0
              · have n30 := nn.mpr lk.2
                have A : f_X10_gains (nI j1) (nI j2) h = some (-3, fndX g2 1) := by
                  unfold f_X10_gains f_X10_rankBoth f_X10_rankBoth_123
                  by_cases v1 : (rR0 sg1 k1).2.2.2.2.2.2.2.2.2.2 = true
                  · rw [if_pos ⟨v1, n30⟩] at LKa
                    simp -implicitDefEqProofs [textAt_in hX hj1, textAt_in hX hj2, clR_s, memT1, miss_F (Or.inr rfl) hk1 hc1, miss_F (Or.inr rfl) hk2 hc2, i1, i2, i3, a1, q1, i4, b1, q2, LKa, found_1 (F2.XS hX)]
                  · rw [if_neg (fun z => v1 z.1)] at LKa
                    have v2 : (rR0 sg2 k2).2.2.2.2.2.2.2.2.2.2 = true := by
                      rcases lk.1 with z | z
                      · exact absurd z v1
                      · exact z
                    rw [if_pos ⟨v2, n30⟩] at LKb
                    simp -implicitDefEqProofs [textAt_in hX hj1, textAt_in hX hj2, clR_s, memT1, miss_F (Or.inr rfl) hk1 hc1, miss_F (Or.inr rfl) hk2 hc2, i1, i2, i3, a1, q1, i4, b1, q2, LKa, LKb, found_1 (F2.XS hX)]
                obtain ⟨m, o, e⟩ := mG_lack H (F2.fndX (f := 1)) T1 T2 ok1 ok2 lk
                have e1 : ncM m = ncM g2 := o.nc
                have e2 : nsM m = nsM g2 := o.ns
                exact Okk.fd (f := 1) (h1 := g2) (h2 := m) hI A e F2 K2 o.frM o.kpM (by omega) (by omega)
              · obtain ⟨il, N, V⟩ : ∃ il N, ((rR0 sg1 k1).2.2.2.2.2.2.2.2.2.2 = true ∨ (rR0 sg2 k2).2.2.2.2.2.2.2.2.2.2 = true) → LV h 0 il N := by
                  rcases H.L.lv (show 0 < 2 by decide) with ⟨a, b⟩ | ⟨i, N, V⟩
                  · exact ⟨0, fun _ => 0, fun z => absurd ⟨z, b⟩ lk⟩
                  · exact ⟨i, N, fun _ => V⟩
                have lka : ¬ ((rR0 sg1 k1).2.2.2.2.2.2.2.2.2.2 = true ∧ rR h 30 0 0 = none) := fun z => lk ⟨Or.inl z.1, nn.mp z.2⟩
                have lkb : ¬ ((rR0 sg2 k2).2.2.2.2.2.2.2.2.2.2 = true ∧ rR h 30 0 0 = none) := fun z => lk ⟨Or.inr z.1, nn.mp z.2⟩
                rw [if_neg lka] at LKa
                rw [if_neg lkb] at LKb
                have G2 := F2.N H
                have x5a := G2.X.2.2.2.2.2.1
                obtain ⟨g3, d1, d2, d3⟩ := fill_eq (r := 0) (N := N) (il := il) G2 (by decide) Ra2 (fun v => (V (Or.inl v)).fr F2)
                have F3 := F2.tr d2.frR
                have G3 := F3.N H
                have x5b := G3.X.2.2.2.2.2.1
                obtain ⟨la1, la2, -⟩ := LL_inv (h := g2) (s := (rR0 sg1 k1).2.2.2) (N := N) (n := n)
                obtain ⟨g4, e1, e2, -, e4⟩ := keep_eq G3 (show 0 < 2 by decide) la2 (by omega) d3
                have F4 := F3.tr e2.frR
                have G4 := F4.N H
                have x6a := G4.X.2.2.2.2.2.2.1
                obtain ⟨g5, f1, f2, f3⟩ := fill_eq (r := 1) (N := N) (il := il) G4 (by decide) ((Rb2.onR d2).onR e2) (fun v => (V (Or.inr v)).fr F4)
                have F5 := F4.tr f2.frR
                have G5 := F5.N H
                have x6b := G5.X.2.2.2.2.2.2.1
                obtain ⟨lb1, lb2, -⟩ := LL_inv (h := g4) (s := (rR0 sg2 k2).2.2.2) (N := N) (n := n)
                obtain ⟨g6, p1, p2, -, p4⟩ := keep_eq G5 (show 1 < 2 by decide) lb2 (by omega) f3
                have F6 := F5.tr p2.frR
                have A0 : ∀ p, p < 12 → rI g6 23 0 p = sv 99 (sts12 h (rR0 sg1 k1).2.2.2 N n p) := fun p hp => by
                  rw [p2.2 _ _ _ rfl, f2.2 _ _ _ rfl, e4 p hp, pe_fr F3, LL_fr F2]
                  rfl
                have B0 : ∀ p, p < 12 → rI g6 23 1 p = sv 99 (sts12 h (rR0 sg2 k2).2.2.2 N n p) := fun p hp => by
                  rw [p4 p hp, pe_fr F5, LL_fr F4]
                  rfl
                have C := cGn (F6.XS hX) A0 B0 12 1000 0 0 (by decide) (by decide) (by decide)
                rw [nI_0] at C
                have RB : f_X10_rankBoth (nI j1) (nI j2) h = some (0, g6) := by
                  unfold f_X10_rankBoth
                  simp -implicitDefEqProofs [textAt_in hX hj1, textAt_in hX hj2, clR_s, memT1, miss_F (Or.inr rfl) hk1 hc1, miss_F (Or.inr rfl) hk2 hc2, i1, i2, i3, a1, q1, i4, b1, q2, LKa, LKb, x5a, d1, x5b, G3.x3, e1, x6a, f1, x6b, G5.x3, p1]
                have A : f_X10_gains (nI j1) (nI j2) h = some (nI (pc 12 (GN h (rR0 sg1 k1).2.2.2 (rR0 sg2 k2).2.2.2 N n)), wI g6 10 0 11 (nI (GN h (rR0 sg1 k1).2.2.2 (rR0 sg2 k2).2.2.2 N n))) := by
                  unfold f_X10_gains
                  rw [RB, Option.bind_some, if_pos rfl]
                  exact C
                have F6t : Fr h (wI g6 10 0 11 (nI (GN h (rR0 sg1 k1).2.2.2 (rR0 sg2 k2).2.2.2 N n))) := F6.tellX
                obtain ⟨m, u1, u2, u3, u4, u5⟩ := mG_ok (N := N) (il := il) H F6t T1 T2 ok1 ok2 lk (fun v => V (Or.inl v)) (fun v => V (Or.inr v))
                have v1 : ncM m = ncM g6 := u3
                have v2 : nsM m = nsM g6 := u4
                have w1 : ncM g6 = ncM g2 := by rw [p2.nc, f2.nc, e2.nc, d2.nc]
                have w2 : nsM g6 = nsM g2 := by rw [p2.ns, f2.ns, e2.ns, d2.ns]
                exact Okk.tl (h1 := g6) (h2 := m) hI A u5 F6 ((((K2.tr d2.kpR).tr e2.kpR).tr f2.kpR).tr p2.kpR) u1 u2 (by omega) (by omega)
            · rw [if_neg ok2] at b1
              have A : f_X10_gains (nI j1) (nI j2) h = some (-4, g2) := by
                unfold f_X10_gains f_X10_rankBoth
                simp -implicitDefEqProofs [textAt_in hX hj1, textAt_in hX hj2, clR_s, memT1, miss_F (Or.inr rfl) hk1 hc1, miss_F (Or.inr rfl) hk2 hc2, i1, i2, i3, a1, q1, i4, b1]
              have M2 := F2.MS hM
              have T12 := T1.fr F2
              have T22 := T2.fr F2
              have m5 := M2.2.2.2.2.1
              obtain ⟨m1, r1, r2, -, -⟩ := readRM M2 T12
              rw [if_pos ok1] at r1
              obtain ⟨m2, t1, t2, -, -⟩ := readRM (r2.MS M2) (T22.fr r2.frM)
              rw [if_neg ok2] at t1
              have q9 : ¬ nI (rR0 sg2 k2).2.2.1 = -9999 := nI_n9 (by have := b3.2.2.2.2; omega)
              have e36a := T12.2.2.2.1
              have e36b := T22.2.2.2.1
              have pp1 : ¬ nI k1 < 0 := nI_pos (by omega)
              have pp2 : (0 : Int32) ≤ nI k2 := nI_ge0 (by omega)
              have B : f_X11_gains (nI j1) (nI j2) g2 = some (-4, m2) := by
                unfold f_X11_gains
                simp -implicitDefEqProofs only [isText_in hj1, isText_in hj2, Option.bind_some, show ¬ (1 : Int32) = 0 by decide, if_false, not_false_eq_true, if_true, m5, ixOk_nI (show j1 < 4 by omega) (by decide), ixOk_nI (show j2 < 4 by omega) (by decide), nI_clamp (show j1 < 2 ^ 31 by omega), nI_clamp (show j2 < 2 ^ 31 by omega), decide_true, Bool.true_and, Bool.and_true, e36a, e36b, pp1, pp2, r1, t1, not_true_eq_false, q9]
              have o := r2.tr t2
              have e1 : ncM m2 = ncM g2 := o.nc
              have e2 : nsM m2 = nsM g2 := o.ns
              exact Okk.qt hI A B F2 K2 o.frM o.kpM (by omega) (by omega)
          · rw [if_neg ok1] at a1
            have A : f_X10_gains (nI j1) (nI j2) h = some (-4, g1) := by
              unfold f_X10_gains f_X10_rankBoth
              simp -implicitDefEqProofs [textAt_in hX hj1, textAt_in hX hj2, clR_s, memT1, miss_F (Or.inr rfl) hk1 hc1, miss_F (Or.inr rfl) hk2 hc2, i1, i2, i3, a1]
            have M2 := F1.MS hM
            have T12 := T1.fr F1
            have T22 := T2.fr F1
            have m5 := M2.2.2.2.2.1
            obtain ⟨m1, r1, r2, -, -⟩ := readRM M2 T12
            rw [if_neg ok1] at r1
            have q9 : ¬ nI (rR0 sg1 k1).2.2.1 = -9999 := nI_n9 (by have := a3.2.2.2.2; omega)
            have e36a := T12.2.2.2.1
            have e36b := T22.2.2.2.1
            have pp1 : ¬ nI k1 < 0 := nI_pos (by omega)
            have pp2 : (0 : Int32) ≤ nI k2 := nI_ge0 (by omega)
            have B : f_X11_gains (nI j1) (nI j2) g1 = some (-4, m1) := by
              unfold f_X11_gains
              simp -implicitDefEqProofs only [isText_in hj1, isText_in hj2, Option.bind_some, show ¬ (1 : Int32) = 0 by decide, if_false, not_false_eq_true, if_true, m5, ixOk_nI (show j1 < 4 by omega) (by decide), ixOk_nI (show j2 < 4 by omega) (by decide), nI_clamp (show j1 < 2 ^ 31 by omega), nI_clamp (show j2 < 2 ^ 31 by omega), decide_true, Bool.true_and, Bool.and_true, e36a, e36b, pp1, pp2, r1, q9]
            have e1 : ncM m1 = ncM g1 := r2.nc
            have e2 : nsM m1 = nsM g1 := r2.ns
            exact Okk.qt hI A B F1 K1 r2.frM r2.kpM (by omega) (by omega)
    · refine Okk.same hI (a := -1) ?_ ?_
      · unfold f_X10_gains f_X10_rankBoth
        simp -implicitDefEqProofs [textAt_in hX hj1, textAt_out hy]
      · unfold f_X11_gains
        simp -implicitDefEqProofs [isText_in hj1, isText_out hy]
  · refine Okk.same hI (a := -1) ?_ ?_
    · unfold f_X10_gains f_X10_rankBoth
      rcases rng3 y with ⟨j2, hj2, rfl⟩ | hy
      · simp -implicitDefEqProofs [textAt_out hx, textAt_in hX hj2]
      · simp -implicitDefEqProofs [textAt_out hx, textAt_out hy]
    · unfold f_X11_gains
      simp -implicitDefEqProofs [isText_out hx]
