def xlst (x2 : Int32) (q : zM) : Option (Int32 × zM) := (if (true && (true && (decide (rR q 10 0 5 = (some (4, 0))) && true))) = true then (if x2 < (rI q 4 0 3) then (if (true && (true && (true && (ixOk 40 x2 && (true && (decide (rR q 4 0 1 = (some (22, 0))) && (true && (decide (rR q 10 0 5 = (some (4, 0))) && true)))))))) = true then ((f_X10_tell (rI q 22 0 (Int32.toNatClampNeg x2)) q).bind fun q44 => (if (true && (ixOk 40 x2 && (true && (decide (rR q44.2 4 0 0 = (some (21, 0))) && (true && (decide (rR q44.2 10 0 5 = (some (4, 0))) && (true && true))))))) = true then (some ((rI q44.2 21 0 (Int32.toNatClampNeg x2)), q44.2)) else none)) else none) else (some ((-9999), q))) else none)
def mlst (x2 : Int32) (q : zM) : Option (Int32 × zM) := (if (rI q 11 0 28) ≤ x2 then (some ((-9999), q)) else (if (true && (true && (true && (ixOk 40 x2 && (true && (decide (rR q 11 0 29 = (some (45, 0))) && true)))))) = true then ((f_X11_worth (rI q 45 0 (Int32.toNatClampNeg x2)) q).bind fun q39 => (if (true && (true && (true && (ixOk 40 x2 && (true && (decide (rR q39.2 11 0 29 = (some (45, 0))) && true)))))) = true then ((f_X11_ask q39.1 (rI q39.2 45 0 (Int32.toNatClampNeg x2)) q39.2).bind fun q48 => (some (q48.1, q48.2))) else none)) else none))
def xfar (q : zM) : Option (Int32 × zM) := (if (true && (true && (true && (decide (rR q 10 0 5 = (some (4, 0))) && true)))) = true then (if (rI q 4 0 3) < 3 then (f_X10_far_49  q) else (if (true && (ixOk 40 ((rI q 4 0 3) - 1) && (true && (decide (rR q 4 0 1 = (some (22, 0))) && (true && (decide (rR q 10 0 5 = (some (4, 0))) && (true && (true && (true && (decide (rR q 4 0 1 = (some (22, 0))) && (true && (decide (rR q 10 0 5 = (some (4, 0))) && true)))))))))))) = true then (if ¬ (rI q 22 0 (Int32.toNatClampNeg 1)) = (rI q 22 0 (Int32.toNatClampNeg ((rI q 4 0 3) - 1))) then (if (true && (true && (true && (ixOk 40 ((rI q 4 0 3) - 1) && (true && (decide (rR q 4 0 1 = (some (22, 0))) && (true && (decide (rR q 10 0 5 = (some (4, 0))) && (true && (true && (true && (decide (rR q 4 0 1 = (some (22, 0))) && (true && (decide (rR q 10 0 5 = (some (4, 0))) && (true && (true && (true && (decide (rR q 4 0 1 = (some (22, 0))) && (true && (decide (rR q 10 0 5 = (some (4, 0))) && (true && (true && (true && (decide (rR q 4 0 1 = (some (22, 0))) && (true && (decide (rR q 10 0 5 = (some (4, 0))) && true)))))))))))))))))))))))))) = true then ((f_X10_tellFraction (Int32.toInt64 ((rI q 22 0 (Int32.toNatClampNeg 0)) - (rI q 22 0 (Int32.toNatClampNeg 1)))) (Int32.toInt64 ((rI q 22 0 (Int32.toNatClampNeg 1)) - (rI q 22 0 (Int32.toNatClampNeg ((rI q 4 0 3) - 1))))) q).bind fun q98 => (some ((rI q 4 0 3), q98))) else none) else (f_X10_far_49  q)) else none)) else none)
def mfar (q : zM) : Option (Int32 × zM) := (if (rI q 11 0 28) < 3 then (f_X11_far_53  q) else (if (true && (true && (true && (true && (true && (decide (rR q 11 0 29 = (some (45, 0))) && true)))))) = true then ((f_X11_worth (rI q 45 0 (Int32.toNatClampNeg 1)) q).bind fun q32 => (if (true && (true && (true && (ixOk 40 ((rI q32.2 11 0 28) - 1) && (true && (true && (decide (rR q32.2 11 0 29 = (some (45, 0))) && true))))))) = true then ((f_X11_worth (rI q32.2 45 0 (Int32.toNatClampNeg ((rI q32.2 11 0 28) - 1))) q32.2).bind fun q47 => (if ¬ q32.1 = q47.1 then (if (true && (true && (true && (true && (true && (decide (rR q47.2 11 0 29 = (some (45, 0))) && true)))))) = true then ((f_X11_worth (rI q47.2 45 0 (Int32.toNatClampNeg 0)) q47.2).bind fun q67 => (if (true && (true && (true && (true && (true && (decide (rR q67.2 11 0 29 = (some (45, 0))) && true)))))) = true then ((f_X11_worth (rI q67.2 45 0 (Int32.toNatClampNeg 1)) q67.2).bind fun q77 => (if (true && (true && (true && (true && (true && (decide (rR q77.2 11 0 29 = (some (45, 0))) && true)))))) = true then ((f_X11_worth (rI q77.2 45 0 (Int32.toNatClampNeg 1)) q77.2).bind fun q89 => (if (true && (true && (true && (ixOk 40 ((rI q89.2 11 0 28) - 1) && (true && (true && (decide (rR q89.2 11 0 29 = (some (45, 0))) && true))))))) = true then ((f_X11_worth (rI q89.2 45 0 (Int32.toNatClampNeg ((rI q89.2 11 0 28) - 1))) q89.2).bind fun q104 => ((f_X11_tell (Int32.toInt64 (q67.1 - q77.1)) (Int32.toInt64 (q89.1 - q104.1)) (rI q104.2 11 0 28) q104.2).bind fun q113 => (some (q113.1, q113.2)))) else none)) else none)) else none)) else none) else (f_X11_far_53  q47.2))) else none)) else none))
theorem RM.wr {h g3 : zM} {np n m il : Nat} {s : RS} {N : Nat → Int32} (H : InvN h np n) (F : Fr h g3) (R : RM g3 s) (V : s.2.2.2.2.2.2.2 = true → LV h 0 il N) (hm : m < n) : f_X11_worth (nI m) g3 = some (wr h s N m, g3) := by
  have := mWr (F.N H) hm R (fun v => (V v).fr F)
  rw [wr_fr F] at this
  exact this
theorem op_listed {h : zM} {np n : Nat} (hI : Inv h np n) (x y : Int32) : Okk h (f_X10_listed x y) (f_X11_listed x y) := by
  have H := hI.N
  have n40 := H.n40
  by_cases y0 : 0 ≤ y
  · refine rank_op hI x 1 (Or.inr rfl) (f_X10_listed x y) (f_X11_listed x y) (xlst y) (mlst y) ?_ (fun g _ => ?_) (fun s N il g V Fg Kg K nc ns ask ex => ?_)
    · unfold f_X10_listed
      rw [if_pos y0]
      rfl
    · unfold f_X11_listed
      rw [if_pos y0]
      rfl
    · obtain ⟨l40, ln, -⟩ := LO_inv (h := h) (s := s) (N := N) (one := 1) n40
      generalize LO h s N n 1 = L at K ask l40 ln
      have x5 := (Fg.XS hI.1).2.2.2.2.2.1
      have rf := (Fg.XS hI.1).rf (r := 0) (by decide)
      by_cases lt : y < nI L.length
      · obtain ⟨q, hq, rfl⟩ : ∃ q, q < L.length ∧ y = nI q := by
          rcases pk_ix y (n := L.length) (by omega) with z | z | z
          · exact absurd y0 (Int32.not_le.mpr z)
          · exact absurd lt (Int32.not_lt.mpr z)
          · exact z
        have kl : L.length - 1 - q < L.length := by omega
        have e0 : L.length - 1 - (L.length - 1 - q) = q := by omega
        have a := Lf.get K.2.1 kl
        have b := Lf.get K.2.2 kl
        rw [e0] at a b
        have am := ln _ (List.getElem_mem kl)
        generalize L[L.length - 1 - q] = m at a b am
        have X : f_X10_listed x (nI q) h = some (nI m, wI g 10 0 11 (wr h s N m)) := by
          rw [ex]
          unfold xlst f_X10_tell
          have w21 : rI (wI g 10 0 11 (wr h s N m)) 21 0 q = nI m := by
            rw [rI_wI_ne (by decide)]
            exact a
          have x5' : rR (wI g 10 0 11 (wr h s N m)) 10 0 5 = some (4, 0) := x5
          have rf' : rR (wI g 10 0 11 (wr h s N m)) 4 0 0 = some (21, 0) := rf.1
          simp -implicitDefEqProofs only [x5, rf.2.1, K.1, lt, ixOk_nI (show q < 40 by omega) (by decide), nI_clamp (show q < 2 ^ 31 by omega), b, decide_true, Bool.true_and, Bool.and_true, if_true, Option.bind_some, x5', rf', w21]
        have F1 : Fr h (wI g 10 0 11 (wr h s N m)) := Fg.tellX
        obtain ⟨g3, m1, m2, m3, m4, m5, m6, m7⟩ := ask _ F1
        have M3 := m2.MS (F1.MS hI.2.1)
        have c := Lf.get m5.2 kl
        rw [e0] at c
        refine Okk.tl (h1 := g) (h2 := g3) (a := nI m) (v := wr h s N m) hI X ?_ Fg Kg m2 m3 ?_ ?_
        · rw [m1]
          have c' : rI g3 45 0 q = nI m := c.trans (by rw [← a]; exact (Lf.get K.2.1 kl).symm.trans (by rw [e0]))
          have wm := m4.wr H (F1.tr m2) V am
          unfold mlst f_X11_ask
          simp -implicitDefEqProofs only [m5.1, nI_ge hq (show L.length < 2 ^ 31 by omega), if_false, M3.m29, ixOk_nI (show q < 40 by omega) (by decide), nI_clamp (show q < 2 ^ 31 by omega), c', wm, decide_true, Bool.true_and, Bool.and_true, if_true, Option.bind_some]
        · have : ncM (wI g 10 0 11 (wr h s N m)) = ncM g := rfl
          omega
        · have : nsM (wI g 10 0 11 (wr h s N m)) = nsM g := rfl
          omega
      · have X : f_X10_listed x y h = some (-9999, g) := by
          rw [ex]
          unfold xlst
          simp -implicitDefEqProofs only [x5, K.1, lt, decide_true, Bool.true_and, Bool.and_true, if_true, if_false]
        obtain ⟨g3, m1, m2, m3, m4, m5, m6, m7⟩ := ask _ Fg
        refine Okk.qt (h1 := g) (h2 := g3) (a := -9999) hI X ?_ Fg Kg m2 m3 (by omega) (by omega)
        rw [m1]
        unfold mlst
        rw [m5.1, if_pos (Int32.not_lt.mp lt)]
  · refine Okk.same hI (a := -1) ?_ ?_
    · unfold f_X10_listed
      rw [if_neg y0]
    · unfold f_X11_listed
      rw [if_neg y0]
/-! how far out the first is -/
def B32 (x : Int32) (K : Nat) : Prop := x.toInt.natAbs ≤ K
theorem B32.mono {x : Int32} {K K' : Nat} (h : B32 x K) (hk : K ≤ K') : B32 x K' := Nat.le_trans h hk
theorem B32.add {x y : Int32} {K L : Nat} (hx : B32 x K) (hy : B32 y L) (hk : K + L ≤ 1000000000) : B32 (x + y) (K + L) := by
  unfold B32 at *
  rw [Int32.toInt_add, Int.bmod_eq_of_le (by omega) (by omega)]
  omega
theorem B32.sub {x y : Int32} {K L : Nat} (hx : B32 x K) (hy : B32 y L) (hk : K + L ≤ 1000000000) : B32 (x - y) (K + L) ∧ (x - y).toInt = x.toInt - y.toInt := by
  unfold B32 at *
  rw [Int32.toInt_sub, Int.bmod_eq_of_le (by omega) (by omega)]
  omega
theorem B32.mul {x y : Int32} {K L : Nat} (hx : B32 x K) (hy : B32 y L) (hk : K * L ≤ 1000000000) : B32 (x * y) (K * L) := by
  unfold B32 at *
  have q : (x.toInt * y.toInt).natAbs ≤ K * L := by
    rw [Int.natAbs_mul]
    exact Nat.mul_le_mul hx hy
  rw [Int32.toInt_mul, Int.bmod_eq_of_le (by omega) (by omega)]
  exact q
theorem stp_bd {a : Int32} {b k : Nat} (ha : B32 a 99) (hb : b ≤ 99) (hk : k ≤ 100) : B32 (stp a (nI b) (nI k)) 200 := by
  unfold stp
  by_cases z : nI b = 0
  · rw [if_pos z]
    unfold B32
    decide
  · rw [if_neg z]
    have b0 : 0 < b := by
      rcases Nat.eq_zero_or_pos b with e | e
      · rw [e] at z
        exact absurd rfl z
      · exact e
    rw [pk_div (by omega) b0 (by omega)]
    have q : k / b ≤ 100 := Nat.le_trans (Nat.div_le_self k b) hk
    generalize k / b = d at q
    have : B32 (nI d) 100 := by
      unfold B32
      rw [nI_toInt (by omega)]
      omega
    exact (B32.sub ha this (by omega)).1.mono (by omega)
theorem sts_bd {a : Int32} {b : Nat} (ha : B32 a 99) (hb : b ≤ 99) : ∀ (r k : Nat) (s : Int32) (K : Nat), k + r ≤ 101 → B32 s K → K + 200 * r ≤ 200000 → B32 (sts a (nI b) r k s) (K + 200 * r)
  | 0, k, s, K, h1, h2, h3 => h2
  | r + 1, k, s, K, h1, h2, h3 => by
    unfold sts
    exact (sts_bd ha hb r (k + 1) (s + stp a (nI b) (nI k)) (K + 200) (by omega) (B32.add h2 (stp_bd ha hb (by omega)) (by omega)) (by omega)).mono (by omega)
theorem wr_bd {h : zM} {np n m il : Nat} {s : RS} {N : Nat → Int32} (H : InvN h np n) (hm : m < n) (V : s.2.2.2.2.2.2.2 = true → LV h 0 il N) : B32 (wr h s N m) 50000 := by
  have va := val_bd H hm
  have v4 : B32 (rI h 2 m 4) 9999 := by
    unfold B32
    omega
  unfold wr
  by_cases v : s.2.2.2.2.2.2.2 = true
  · rw [if_pos v]
    obtain ⟨-, -, -, -, -, ⟨b1, hb1, e1⟩, ⟨b3, hb3, e3⟩, bd, -, -⟩ := V v
    have N99 : ∀ k, k < 10 → B32 (N k) 99 := fun k hk => by
      have := bd k hk
      unfold B32
      omega
    obtain ⟨p1, -, -⟩ := H.pl hm
    obtain ⟨-, ⟨a, ha, ea⟩, hh, fl, -⟩ := H.plk p1
    obtain ⟨sh, hs, es⟩ := (H.b hm).2.2.2.2.2.1
    obtain ⟨u, hu, eu⟩ := (H.b hm).2.2.2.2.2.2
    have t1 : B32 (bw (N 0) (N 1) (rI h 2 m 5)) 12200 := by
      unfold bw
      by_cases w9 : rI h 2 m 5 = -9999
      · rw [if_pos w9]
        unfold B32
        decide
      · rw [if_neg w9]
        by_cases w0 : 0 ≤ rI h 2 m 5
        · obtain ⟨k, hk, e⟩ := (H.w hm).nat w0
          rw [if_pos w0, e, e1, nI_clamp (by omega)]
          exact (sts_bd (N99 0 (by decide)) hb1 k 1 0 0 (by omega) (by unfold B32; decide) (by omega)).mono (by omega)
        · rw [if_neg w0]
          have w60 : B32 (rI h 2 m 5) 60 := by
            rcases H.w hm with z | z
            · exact absurd z w9
            · unfold B32
              omega
          exact (B32.mul w60 (N99 0 (by decide)) (by omega)).mono (by omega)
    have t2 : B32 (sts (N 2) (N 3) (rI h 3 (pl h m) 0).toNatClampNeg 1 0) 8000 := by
      rw [ea, e3, nI_clamp (by omega)]
      exact (sts_bd (N99 2 (by decide)) hb3 a 1 0 0 (by omega) (by unfold B32; decide) (by omega)).mono (by omega)
    have t3 : B32 ((rI h 3 (pl h m) 1 - 20) * N 4) 6930 := by
      have : B32 (rI h 3 (pl h m) 1) 50 := by
        unfold B32
        omega
      have t20 : B32 (20 : Int32) 20 := by
        unfold B32
        decide
      exact (B32.mul (B32.sub this t20 (by omega)).1 (N99 4 (by decide)) (by omega)).mono (by omega)
    have t4 : B32 (rI h 3 (pl h m) 2 * N 5) 99 := by
      have : B32 (rI h 3 (pl h m) 2) 1 := by
        rcases fl with e | e <;> rw [e] <;> unfold B32 <;> decide
      exact (B32.mul this (N99 5 (by decide)) (by omega)).mono (by omega)
    have t5 : B32 (N (6 + (rI h 2 m 6).toNatClampNeg)) 99 := by
      rw [es, nI_clamp (by omega)]
      exact N99 _ (by omega)
    have t6 : B32 (rI h 2 m 8) 999 := by
      rw [eu]
      unfold B32
      rw [nI_toInt (by omega)]
      omega
    have G : B32 (gv h N m (rI h 2 m 5)) (12200 + 8000 + 6930 + 99 + 99) := B32.add (B32.add (B32.add (B32.add t1 t2 (by omega)) t3 (by omega)) t4 (by omega)) t5 (by omega)
    unfold hmv
    exact (B32.sub (B32.sub v4 G (by omega)).1 t6 (by omega)).1.mono (by omega)
  · rw [if_neg v]
    exact v4.mono (by omega)
theorem c01 : Int32.toNatClampNeg 1 = 1 := rfl
theorem op_far {h : zM} {np n : Nat} (hI : Inv h np n) (x : Int32) : Okk h (f_X10_far x) (f_X11_far x) := by
  have H := hI.N
  have n40 := H.n40
  refine rank_op hI x 1 (Or.inr rfl) (f_X10_far x) (f_X11_far x) xfar mfar rfl (fun g _ => rfl) (fun s N il g V Fg Kg K nc ns ask ex => ?_)
  obtain ⟨l40, ln, sr⟩ := LO_inv (h := h) (s := s) (N := N) (one := 1) n40
  generalize LO h s N n 1 = L at K ask l40 ln sr
  have hX := Fg.XS hI.1
  have x5 := hX.2.2.2.2.2.1
  have rf := hX.rf (r := 0) (by decide)
  have fnd : f_X10_far x h = some (-3, fndX g 4) → (∀ g3, RM g3 s → LM g3 L → Fr h g3 → mfar g3 = some (-3, fndM g3 4)) → Okk h (f_X10_far x) (f_X11_far x) := fun X Y => by
    obtain ⟨g3, m1, m2, m3, m4, m5, m6, m7⟩ := ask _ Fg.fndX
    have e1 : ncM (fndX g 4) = ncM g := rfl
    have e2 : nsM (fndX g 4) = nsM g := rfl
    exact Okk.fd (f := 4) (h1 := g) (h2 := g3) hI X (by rw [m1]; exact Y g3 m4 m5 (Fg.fndX.tr m2)) Fg Kg m2 m3 (by omega) (by omega)
  by_cases l3 : L.length < 3
  · have lt : nI L.length < 3 := nI_lt (b := 3) l3 (by decide)
    refine fnd ?_ (fun g3 R3 L3 F3 => ?_)
    · rw [ex]
      unfold xfar f_X10_far_49
      simp -implicitDefEqProofs only [x5, K.1, lt, decide_true, Bool.true_and, Bool.and_true, if_true, found_4 hX, Option.bind_some]
    · unfold mfar f_X11_far_53
      rw [L3.1, if_pos lt, meets_4 (F3.MS hI.2.1)]
      rfl
  · have lt : ¬ nI L.length < 3 := nI_nlt (b := 3) (by omega) (by omega)
    have k0 : L.length - 1 < L.length := by omega
    have k1 : L.length - 2 < L.length := by omega
    have k2 : 0 < L.length := by omega
    have e0 : L.length - 1 - (L.length - 1) = 0 := by omega
    have e1 : L.length - 1 - (L.length - 2) = 1 := by omega
    have e2 : L.length - 1 - 0 = L.length - 1 := by omega
    have a0 := Lf.get K.2.2 k0
    have a1 := Lf.get K.2.2 k1
    have a2 := Lf.get K.2.2 k2
    rw [e0] at a0
    rw [e1] at a1
    rw [e2] at a2
    have b0 := ln _ (List.getElem_mem k0)
    have b1 := ln _ (List.getElem_mem k1)
    have b2 := ln _ (List.getElem_mem k2)
    have le : wr h s N (L[0]) ≤ wr h s N (L[L.length - 2]) := by
      match L, k1, k2, sr, l3 with
      | a :: t, k1, k2, sr, l3 =>
        have tl : (a :: t).length - 2 = (t.length - 2) + 1 := by
          simp only [List.length_cons] at l3 ⊢
          omega
        have q : (a :: t)[(a :: t).length - 2] ∈ t := by
          have h1 : t.length - 2 < t.length := by
            simp only [List.length_cons] at l3
            omega
          have : (a :: t)[(a :: t).length - 2] = t[t.length - 2] := by
            simp only [tl, List.getElem_cons_succ]
          rw [this]
          exact List.getElem_mem h1
        exact sr.1 _ q
    have f0 : ∀ g3, LM g3 L → rI g3 45 0 0 = nI (L[L.length - 1]) ∧ rI g3 45 0 1 = nI (L[L.length - 2]) ∧ rI g3 45 0 (L.length - 1) = nI (L[0]) := fun g3 M3 => by
      have c0 := Lf.get M3.2 k0
      have c1 := Lf.get M3.2 k1
      have c2 := Lf.get M3.2 k2
      rw [e0] at c0
      rw [e1] at c1
      rw [e2] at c2
      exact ⟨c0, c1, c2⟩
    generalize L[L.length - 1] = p0 at a0 b0 f0
    generalize L[L.length - 2] = p1 at a1 b1 f0 le
    generalize L[0] = p2 at a2 b2 f0 le
    have pr : nI L.length - 1 = nI (L.length - 1) := by
      rw [show L.length = L.length - 1 + 1 by omega, nI_pred]
      rfl
    have ix := ixOk_nI (show L.length - 1 < 40 by omega) (show 40 < 2 ^ 31 by decide)
    have cx := nI_clamp (show L.length - 1 < 2 ^ 31 by omega)
    by_cases eq : wr h s N p1 = wr h s N p2
    · refine fnd ?_ (fun g3 R3 L3 F3 => ?_)
      · rw [ex]
        unfold xfar f_X10_far_49
        simp -implicitDefEqProofs only [x5, rf.2.1, K.1, lt, pr, ix, cx, c01, a1, a2, eq, decide_true, Bool.true_and, Bool.and_true, if_true, if_false, not_true_eq_false, found_4 hX, Option.bind_some]
      · obtain ⟨q0, q1, q2⟩ := f0 g3 L3
        have M3 := F3.MS hI.2.1
        have w1 := R3.wr H F3 V b1
        have w2 := R3.wr H F3 V b2
        unfold mfar f_X11_far_53
        simp -implicitDefEqProofs only [L3.1, lt, pr, ix, cx, c01, q1, q2, w1, w2, eq, M3.m29, decide_true, Bool.true_and, Bool.and_true, if_true, if_false, not_true_eq_false, meets_4 M3, Option.bind_some]
    · have d1 := wr_bd H b1 V
      have d2 := wr_bd H b2 V
      obtain ⟨db, di⟩ := B32.sub d1 d2 (by decide)
      have ne : ¬ (wr h s N p1).toInt = (wr h s N p2).toInt := fun z => eq (Int32.toInt_inj.mp z)
      rw [Int32.le_iff_toInt_le] at le
      have un : Int32.toInt64 (wr h s N p1 - wr h s N p2) = lN (wr h s N p1 - wr h s N p2).toInt.natAbs := by
        rw [i2l_ofI, ofI_pos (by omega)]
      have ov : Int32.toInt64 (wr h s N p0 - wr h s N p1) = Int64.ofInt (wr h s N p0 - wr h s N p1).toInt := i2l_ofI _
      have o1 := i32_lo (wr h s N p0 - wr h s N p1)
      have o2 := i32_up (wr h s N p0 - wr h s N p1)
      have u1 : 0 < (wr h s N p1 - wr h s N p2).toInt.natAbs := by
        rw [di]
        omega
      have u2 : (wr h s N p1 - wr h s N p2).toInt.natAbs < 2 ^ 48 := by
        unfold B32 at db
        omega
      generalize (wr h s N p1 - wr h s N p2).toInt.natAbs = ub at un u1 u2
      generalize (wr h s N p0 - wr h s N p1).toInt = ou at ov o1 o2
      have X : f_X10_far x h = some (nI L.length, frX g ou ub) := by
        rw [ex]
        unfold xfar
        simp -implicitDefEqProofs only [x5, rf.2.1, K.1, lt, pr, ix, cx, c00, c01, a0, a1, a2, eq, decide_true, Bool.true_and, Bool.and_true, if_true, if_false, not_false_eq_true, un, ov, tellX (h := g) (U := ou) (b := ub) (by omega) (by omega) u1 u2, Option.bind_some]
      have F1 : Fr h (frX g ou ub) := Fg.wL.wL
      obtain ⟨g3, m1, m2, m3, m4, m5, m6, m7⟩ := ask _ F1
      have F3 := F1.tr m2
      have M3 := F3.MS hI.2.1
      obtain ⟨q0, q1, q2⟩ := f0 g3 m5
      have e3 : ncM (frX g ou ub) = ncM g := rfl
      have e4 : nsM (frX g ou ub) = nsM g := rfl
      refine Okk.frac (h1 := g) (h2 := g3) (a := nI L.length) (U := ou) (b := ub) hI X ?_ Fg Kg m2 m3 (by omega) (by omega)
      rw [m1]
      have w0 := m4.wr H F3 V b0
      have w1 := m4.wr H F3 V b1
      have w2 := m4.wr H F3 V b2
      unfold mfar
      simp -implicitDefEqProofs only [m5.1, lt, pr, ix, cx, c00, c01, q0, q1, q2, w0, w1, w2, eq, M3.m29, decide_true, Bool.true_and, Bool.and_true, if_true, if_false, not_false_eq_true, un, ov, tellM (h := g3) (U := ou) (b := ub) _ (show -2 ^ 62 < ou by omega) (by omega) u1 u2, Option.bind_some]
