theorem R7.rdN {h : zM} {i j k : Nat} {s : RS} (H : R7 h i s) : R7 (rdN h j k) i s := by
  have I : ∀ f, rI (_root_.Jvm.Pilot.CThinAirLaw_law_r6155_d9ef75.rdN h j k) 7 i f = rI h 7 i f := fun f => by
    unfold _root_.Jvm.Pilot.CThinAirLaw_law_r6155_d9ef75.rdN
    rw [rI_wI_ne (by decide), rI_wR, rI_nw_ne (by decide)]
  unfold R7
  rw [I, I, I, I, I, I, I, I, I]
  exact H
theorem lacks_eq {h : zM} {i : Nat} {s : RS} (hX : XS h) (R : R7 h i s) : f_X10_lacksLaws (some (7, i)) h = some (if s.2.2.2.2.2.2.2 = true ∧ rR h 30 0 0 = none then 1 else 0, h) := by
  have r8 := R.2.2.2.2.2.2.2.2.1
  have x4 := hX.2.2.2.2.1
  by_cases v : s.2.2.2.2.2.2.2 = true
  · rw [v] at r8
    have r8' : rI h 7 i 8 = 1 := r8
    by_cases z : rR h 30 0 0 = none
    · rw [show (if s.2.2.2.2.2.2.2 = true ∧ rR h 30 0 0 = none then (1 : Int32) else 0) = 1 from if_pos ⟨v, z⟩]
      unfold f_X10_lacksLaws f_X10_lacksLaws_20
      simp -implicitDefEqProofs only [clR_s, ixR_s, memT1, r8', x4, show ixOk 2 0 = true from rfl, show Int32.toNatClampNeg 0 = 0 from rfl, z, decide_true, Bool.true_and, Bool.and_true, if_true, show ¬ (1 : Int32) = 0 by decide, if_false]
    · rw [show (if s.2.2.2.2.2.2.2 = true ∧ rR h 30 0 0 = none then (1 : Int32) else 0) = 0 from if_neg (fun y => z y.2)]
      unfold f_X10_lacksLaws f_X10_lacksLaws_20
      simp -implicitDefEqProofs only [clR_s, ixR_s, memT1, r8', x4, show ixOk 2 0 = true from rfl, show Int32.toNatClampNeg 0 = 0 from rfl, z, decide_true, Bool.true_and, Bool.and_true, if_true, show ¬ (1 : Int32) = 0 by decide, if_false]
  · have v' : s.2.2.2.2.2.2.2 = false := by
      cases y : s.2.2.2.2.2.2.2 with
      | false => rfl
      | true => exact absurd y v
    rw [v'] at r8
    have r8' : rI h 7 i 8 = 0 := r8
    rw [show (if s.2.2.2.2.2.2.2 = true ∧ rR h 30 0 0 = none then (1 : Int32) else 0) = 0 from if_neg (fun y => v y.1)]
    unfold f_X10_lacksLaws f_X10_lacksLaws_20
    simp -implicitDefEqProofs only [clR_s, ixR_s, memT1, r8', Bool.true_and, Bool.and_true, if_true]
/-- the reference asks for RULES that can be read -/
theorem askRu {g : zM} {j k : Nat} {sg : Nat → Int32} (M : MS g) (T : TT g j k sg) (ok : (rR0 sg k).1 = true) : ∃ g2, On WX g g2 ∧ RM g2 (rR0 sg k).2.2.2 ∧ f_X11_askedRules (nI j) g = if (rR0 sg k).2.2.2.2.2.2.2.2.2.2 = true ∧ rI g 43 0 0 = 0 then some (-3, fndM g2 1) else some (0, g2) := by
  obtain ⟨g2, b1, b2, b3, b4⟩ := readRM M T
  rw [if_pos ok] at b1
  have R := b4 ok
  have r5 := R.2.2.2.2.1
  have M2 := b2.MS M
  have m26 := M2.2.2.2.2.2.2.2.2.2.2.2.1
  have e43 : rI g2 43 0 0 = rI g 43 0 0 := b2.2 _ _ _ rfl
  refine ⟨g2, b2, R, ?_⟩
  unfold f_X11_askedRules f_X11_askedRules_54
  rw [askT_T M T.1 T.2.1 T.2.2.2.1, Option.bind_some, if_pos (show (0 : Int32) ≤ 0 by decide), b1, Option.bind_some, if_pos rfl]
  dsimp only
  rw [r5]
  by_cases v : (rR0 sg k).2.2.2.2.2.2.2.2.2.2 = true
  · have z : ¬ (msv (rR0 sg k).2.2.2.2.2.2.2.1 (rR0 sg k).2.2.2.2.2.2.2.2.1 (rR0 sg k).2.2.2.2.2.2.2.2.2.1 (rR0 sg k).2.2.2.2.2.2.2.2.2.2 &&& 8 ≤ 0) := fun y => by
      rw [ms8, v] at y
      cases y
    rw [if_neg z, if_pos (by rw [m26]; decide), show Int32.toNatClampNeg 0 = 0 from rfl, e43]
    by_cases y : rI g 43 0 0 = 0
    · rw [if_neg (fun w => w y), if_pos ⟨v, y⟩, meets_1 M2]
      rfl
    · rw [if_pos y, if_neg (fun w => y w.2)]
  · have v' : (rR0 sg k).2.2.2.2.2.2.2.2.2.2 = false := by
      cases y : (rR0 sg k).2.2.2.2.2.2.2.2.2.2 with
      | false => rfl
      | true => exact absurd y v
    rw [if_pos ((ms8 _ _ _ _).mpr v'), if_neg (fun w => v w.1)]
/-- the list that is asked for: of PERSONS, or all -/
def LO (h : zM) (s : RS) (N : Nat → Int32) (n : Nat) (one : Int32) : List Nat := if one = 0 then LL h s N n else bst (pe h) (LL h s N n)
theorem LO_inv {h : zM} {s : RS} {N : Nat → Int32} {n : Nat} {one : Int32} (n40 : n ≤ 40) : (LO h s N n one).length ≤ 40 ∧ (∀ a, a ∈ LO h s N n one → a < n) ∧ Srt (wr h s N) (LO h s N n one) := by
  obtain ⟨l1, l2, l3⟩ := LL_inv (h := h) (s := s) (N := N) (n := n)
  unfold LO
  by_cases c : one = 0
  · rw [if_pos c]
    exact ⟨by omega, l2, l3⟩
  · rw [if_neg c]
    have := bst_len (p := pe h) (LL h s N n)
    exact ⟨by omega, fun a ha => l2 a (bst_mem _ ha), bst_srt _ l3⟩
theorem set_o {g : zM} {np n il : Nat} {s : RS} {N : Nat → Int32} {one : Int32} (h1 : one = 0 ∨ one = 1) (G : InvN g np n) (R : RM g s) (V : s.2.2.2.2.2.2.2 = true → LV g 0 il N) : ∃ g3, f_X11_setList one g = some g3 ∧ On WG g g3 ∧ LM g3 (LO g s N n one) := by
  rcases h1 with rfl | rfl
  · obtain ⟨g3, a, b, c⟩ := set0 (N := N) G R V
    exact ⟨g3, a, b, by unfold LO; rw [if_pos rfl]; exact c⟩
  · obtain ⟨g3, a, b, c⟩ := set1 (N := N) G R V
    exact ⟨g3, a, b, by unfold LO; rw [if_neg (by decide)]; exact c⟩
theorem LL_fr {h g : zM} (F : Fr h g) (s : RS) (N : Nat → Int32) (n : Nat) : LL g s N n = LL h s N n := by
  unfold LL
  rw [ltB_fr F, wr_fr F]
theorem LO_fr {h g : zM} (F : Fr h g) (s : RS) (N : Nat → Int32) (n : Nat) (one : Int32) : LO g s N n one = LO h s N n one := by
  unfold LO
  rw [LL_fr F, pe_fr F]
/-- both records read RULES, fill their lists and go on -/
theorem rank_op {h : zM} {np n : Nat} (hI : Inv h np n) (x one : Int32) (h1 : one = 0 ∨ one = 1) (fx fm X M : zM → Option (Int32 × zM)) (efx : fx h = (f_X10_rank x one h).bind fun q => if q.1 = 0 then X q.2 else some (q.1, q.2)) (efm : ∀ g, Fr h g → fm g = (f_X11_askedRules x g).bind fun q => if 0 ≤ q.1 then (f_X11_setList one q.2).bind M else some (q.1, q.2))
    (hc : ∀ (s : RS) (N : Nat → Int32) (il : Nat) (g : zM), (s.2.2.2.2.2.2.2 = true → LV h 0 il N) → Fr h g → Kp h g → RK g 0 (wr h s N) (LO h s N n one) → ncM g ≤ ncM h + 2 → nsM g ≤ nsM h + 12 → (∀ g1, Fr h g1 → ∃ g3, fm g1 = M g3 ∧ Fr g1 g3 ∧ Kp g1 g3 ∧ RM g3 s ∧ LM g3 (LO h s N n one) ∧ ncM g3 = ncM g1 ∧ nsM g3 = nsM g1) → fx h = X g → Okk h fx fm) : Okk h fx fm := by
  have H := hI.N
  have hX := H.X
  have hM := H.M
  have n40 := H.n40
  rcases rng3 x with ⟨j, hj, rfl⟩ | hy
  · rcases H.T.tt hj with ⟨t1, t2⟩ | ⟨k, T⟩
    · refine Okk.fnd (f := 1) hI ?_ ?_
      · have A : f_X10_rank (nI j) one h = some (-3, fndX h 1) := by
          unfold f_X10_rank
          simp -implicitDefEqProofs [textAt_in hX hj, clR_s, memT1, miss_T (Or.inr rfl) t2, found_1 hX]
        rw [efx, A]
        rfl
      · have t1' : rI (fndX h 1) 36 0 j = -9999 := t1
        have A : f_X11_askedRules (nI j) (fndX h 1) = some (-3, fndM (fndX h 1) 1) := by
          unfold f_X11_askedRules
          simp -implicitDefEqProofs [askT_F hM.fndX hj t1', n3]
        rw [efm _ Fr.rf.fndX, A]
        rfl
    · generalize (fun i => rI h 25 j i) = sg at T
      obtain ⟨-, k40, s9, s36, s25, s37⟩ := id T
      have F0 : Fr h (rlN h) := rlN_fr
      have s9' : rI (rlN h) 9 j 0 = nI k := by
        rw [F0.I rfl (by decide)]
        exact s9
      have i1 := rlN_eq h
      have i2 := rdN_eq (F0.XS hX) hj s9'
      have R0 := rdN_rd (h := rlN h) (j := j) (k := k) (sg := sg) k40 (fun i hi => by rw [F0.I rfl (by decide)]; exact s25 i hi)
      obtain ⟨g, a1, a2, a3, a4⟩ := readR R0 (R7.rdN (rlN_r7 (h := h)))
      have Fg : Fr h g := (F0.tr rdN_fr).on7 a2
      have Kg : Kp h g := (rlN_kp.tr rdN_kp).on7 a2
      have nc : ncM g = ncM h + 2 := a2.nc
      have ns : nsM g = nsM h + 12 := a2.ns
      have c41 : (rR0 sg k).2.1 ≤ 0 + 41 := pall_cnt 41 0 0 s0
      by_cases ok : (rR0 sg k).1 = true
      · rw [if_pos ok] at a1
        have q9 : ¬ nI (rR0 sg k).2.1 = -9999 := nI_n9 (by omega)
        have R := a4 ok
        have LK := lacks_eq (Fg.XS hX) R
        have nn := H.L.nn (show 0 < 2 by decide)
        have r30 : rR g 30 0 0 = rR h 30 0 0 := Fg.R rfl (by decide)
        rw [r30] at LK
        by_cases lk : (rR0 sg k).2.2.2.2.2.2.2.2.2.2 = true ∧ rR h 30 0 0 = none
        · rw [if_pos lk] at LK
          have A : f_X10_rank (nI j) one h = some (-3, fndX g 1) := by
            unfold f_X10_rank
            simp -implicitDefEqProofs [textAt_in hX hj, clR_s, memT1, miss_F (Or.inr rfl) k40 s9, i1, i2, a1, q9, LK, found_1 (Fg.XS hX)]
          have F1 := Fg.fndX (f := 1)
          obtain ⟨g2, b1, b2, b3⟩ := askRu (F1.MS hM) (T.fr F1) ok
          have e43 : rI (fndX g 1) 43 0 0 = 0 := by
            rw [F1.I rfl (by decide)]
            exact nn.mp lk.2
          rw [if_pos ⟨lk.1, e43⟩] at b3
          refine Okk.fd (f := 1) (h1 := g) (h2 := g2) hI ?_ ?_ Fg Kg b1.frM b1.kpM ?_ ?_
          · rw [efx, A]
            rfl
          · rw [efm _ F1, b3]
            rfl
          · have e : ncM g2 = ncM g := b1.nc
            omega
          · have e : nsM g2 = nsM g := b1.ns
            omega
        · rw [if_neg lk] at LK
          obtain ⟨il, N, V⟩ : ∃ il N, (rR0 sg k).2.2.2.2.2.2.2.2.2.2 = true → LV h 0 il N := by
            by_cases v : (rR0 sg k).2.2.2.2.2.2.2.2.2.2 = true
            · rcases H.L.lv (show 0 < 2 by decide) with ⟨a, b⟩ | ⟨i, N, V⟩
              · exact absurd ⟨v, a⟩ lk
              · exact ⟨i, N, fun _ => V⟩
            · exact ⟨0, fun _ => 0, fun y => absurd y v⟩
          have no43 : ∀ g1, Fr h g1 → ¬ ((rR0 sg k).2.2.2.2.2.2.2.2.2.2 = true ∧ rI g1 43 0 0 = 0) := fun g1 F1 y => by
            rw [F1.I rfl (by decide)] at y
            exact lk ⟨y.1, nn.mpr y.2⟩
          have G := Fg.N H
          have x5 := G.X.2.2.2.2.2.1
          obtain ⟨g4, f1, f2, f3⟩ := fill_eq (r := 0) (N := N) G (by decide) R (fun v => (V v).fr Fg)
          rw [LL_fr Fg, wr_fr Fg] at f3
          obtain ⟨l1, l2, -⟩ := LL_inv (h := h) (s := (rR0 sg k).2.2.2) (N := N) (n := n)
          have G4 := f2.frR.N G
          have x54 := G4.X.2.2.2.2.2.1
          have A : ∃ g5, f_X10_rank (nI j) one h = some (0, g5) ∧ On (WR 0) g g5 ∧ RK g5 0 (wr h (rR0 sg k).2.2.2 N) (LO h (rR0 sg k).2.2.2 N n one) := by
            rcases h1 with rfl | rfl
            · refine ⟨g4, ?_, f2, by unfold LO; rw [if_pos rfl]; exact f3⟩
              unfold f_X10_rank
              simp -implicitDefEqProofs [textAt_in hX hj, clR_s, memT1, miss_F (Or.inr rfl) k40 s9, i1, i2, a1, q9, LK, x5, f1]
            · obtain ⟨g5, k1, k2, k3, -⟩ := keep_eq G4 (show 0 < 2 by decide) l2 (by omega) f3
              have pf : pe g4 = pe h := pe_fr (Fg.tr f2.frR)
              refine ⟨g5, ?_, f2.tr k2, by unfold LO; rw [if_neg (by decide), ← pf]; exact k3⟩
              unfold f_X10_rank
              simp -implicitDefEqProofs [textAt_in hX hj, clR_s, memT1, miss_F (Or.inr rfl) k40 s9, i1, i2, a1, q9, LK, x5, x54, f1, G4.x3, k1]
          obtain ⟨g5, A1, A2, A3⟩ := A
          have n5 : ncM g5 = ncM g := A2.nc
          have m5 : nsM g5 = nsM g := A2.ns
          refine hc (rR0 sg k).2.2.2 N il g5 V (Fg.tr A2.frR) (Kg.tr A2.kpR) A3 (by omega) (by omega) (fun g1 F1 => ?_) ?_
          · obtain ⟨g2, b1, b2, b3⟩ := askRu (F1.MS hM) (T.fr F1) ok
            rw [if_neg (no43 g1 F1)] at b3
            have F2 := F1.tr b1.frM
            obtain ⟨g3, d1, d2, d3⟩ := set_o (N := N) (il := il) h1 (F2.N H) b2 (fun v => (V v).fr F2)
            rw [LO_fr F2] at d3
            refine ⟨g3, ?_, b1.frM.tr d2.frG, b1.kpM.tr d2.kpG, b2.onG d2, d3, d2.nc.trans b1.nc, d2.ns.trans b1.ns⟩
            rw [efm _ F1, b3, Option.bind_some, if_pos (show (0 : Int32) ≤ 0 by decide), d1]
            rfl
          · rw [efx, A1]
            rfl
      · rw [if_neg ok] at a1
        have A : f_X10_rank (nI j) one h = some (-4, g) := by
          unfold f_X10_rank
          simp -implicitDefEqProofs [textAt_in hX hj, clR_s, memT1, miss_F (Or.inr rfl) k40 s9, i1, i2, a1]
        obtain ⟨g2, b1, b2, b3, b4⟩ := readRM (Fg.MS hM) (T.fr Fg)
        rw [if_neg ok] at b1
        have q9 : ¬ nI (rR0 sg k).2.2.1 = -9999 := nI_n9 (by have := a3.2.2.2.2; omega)
        have B : f_X11_askedRules (nI j) g = some (-4, g2) := by
          unfold f_X11_askedRules
          simp -implicitDefEqProofs [askT_T (Fg.MS hM) hj k40 (T.fr Fg).2.2.2.1, b1, q9]
        refine Okk.qt (a := -4) (h1 := g) (h2 := g2) hI ?_ ?_ Fg Kg b2.frM b2.kpM ?_ ?_
        · rw [efx, A]
          rfl
        · rw [efm _ Fg, B]
          rfl
        · have e : ncM g2 = ncM g := b2.nc
          omega
        · have e : nsM g2 = nsM g := b2.ns
          omega
  · refine Okk.same hI (a := -1) ?_ ?_
    · have A : f_X10_rank x one h = some (-1, h) := by
        unfold f_X10_rank
        simp -implicitDefEqProofs [textAt_out hy]
      rw [efx, A]
      rfl
    · have A : f_X11_askedRules x h = some (-1, h) := by
        unfold f_X11_askedRules
        simp -implicitDefEqProofs [askT_out hy, m1n]
      rw [efm _ Fr.rf, A]
      rfl
theorem c00 : Int32.toNatClampNeg 0 = 0 := rfl
theorem op_list {h : zM} {np n : Nat} (hI : Inv h np n) (x : Int32) : Okk h (f_X10_list x) (f_X11_list x) := by
  have H := hI.N
  have n40 := H.n40
  refine rank_op hI x 1 (Or.inr rfl) (f_X10_list x) (f_X11_list x) (fun q => if (true && (true && (decide (rR q 10 0 5 = (some (4, 0))) && true))) = true then (if ¬ (rI q 4 0 3) = 0 then (if (true && (true && (true && (decide (rR q 4 0 0 = (some (21, 0))) && (true && (decide (rR q 10 0 5 = (some (4, 0))) && true)))))) = true then (f_X10_list_39 (rI q 21 0 (Int32.toNatClampNeg 0)) q) else none) else (f_X10_list_39 (-9999) q)) else none) (fun q => if ¬ (rI q 11 0 28) = 0 then (if (true && (true && (true && (decide (rR q 11 0 29 = (some (45, 0))) && true)))) = true then (f_X11_list_37 (rI q 45 0 (Int32.toNatClampNeg 0)) q) else none) else (f_X11_list_37 (-9999) q)) rfl (fun g _ => rfl) (fun s N il g V Fg Kg K nc ns ask ex => ?_)
  obtain ⟨l40, ln, -⟩ := LO_inv (h := h) (s := s) (N := N) (one := 1) n40
  generalize LO h s N n 1 = L at K ask l40 ln
  have x5 := (Fg.XS hI.1).2.2.2.2.2.1
  have rf := (Fg.XS hI.1).rf (r := 0) (by decide)
  obtain ⟨v, hv⟩ : ∃ v : Int32, v = if L.length = 0 then -9999 else rI g 21 0 0 := ⟨_, rfl⟩
  have X : f_X10_list x h = some (nI L.length, wI g 10 0 11 v) := by
    rw [ex]
    have k3 : rI (wI g 10 0 11 v) 4 0 3 = nI L.length := by
      rw [rI_wI_ne (by decide)]
      exact K.1
    have x5' : rR (wI g 10 0 11 v) 10 0 5 = some (4, 0) := x5
    have T : f_X10_list_39 v g = some (nI L.length, wI g 10 0 11 v) := by
      unfold f_X10_list_39 f_X10_tell
      simp -implicitDefEqProofs only [Option.bind_some, x5', decide_true, Bool.true_and, Bool.and_true, if_true, k3]
    rw [if_pos (by rw [x5]; decide), K.1]
    by_cases z : L.length = 0
    · rw [z, if_neg (by decide)]
      rw [if_pos z] at hv
      rw [← hv, T, z]
    · rw [if_neg z] at hv
      rw [if_pos (nI_ne0 (by omega) (by omega)), if_pos (by rw [x5, rf.1]; decide), c00, ← hv, T]
  have F1 : Fr h (wI g 10 0 11 v) := Fg.tellX
  obtain ⟨g3, m1, m2, m3, m4, m5, m6, m7⟩ := ask _ F1
  have M3 := m2.MS (F1.MS hI.2.1)
  refine Okk.tl (h1 := g) (h2 := g3) (a := nI L.length) (v := v) hI X ?_ Fg Kg m2 m3 ?_ ?_
  · rw [m1]
    unfold f_X11_list_37 f_X11_ask
    rw [m5.1]
    by_cases z : L.length = 0
    · rw [if_pos z] at hv
      rw [z, if_neg (by decide), hv]
      rfl
    · have e0 : L.length - 1 - (L.length - 1) = 0 := by omega
      have a := Lf.get K.2.1 (show L.length - 1 < L.length by omega)
      have b := Lf.get m5.2 (show L.length - 1 < L.length by omega)
      rw [e0] at a b
      have ab : rI g3 45 0 0 = rI g 21 0 0 := b.trans a.symm
      rw [if_neg z] at hv
      rw [if_pos (nI_ne0 (by omega) (by omega)), if_pos (by rw [M3.m29]; decide), c00, ab, hv]
      rfl
  · have : ncM (wI g 10 0 11 v) = ncM g := rfl
    omega
  · have : nsM (wI g 10 0 11 v) = nsM g := rfl
    omega
