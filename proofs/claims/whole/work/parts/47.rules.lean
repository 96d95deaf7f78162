/-! RULES: most wind, most height, first year; shoes out; struck, later, short out, home counts -/
abbrev RS : Type := Option Nat × Option Nat × Option Nat × Int32 × Bool × Bool × Bool × Bool
def mnO (o : Option Nat) (x : Nat) : Option Nat := match o with | none => some x | some m => if x < m then some x else some m
def mxO (o : Option Nat) (x : Nat) : Option Nat := match o with | none => some x | some m => if m < x then some x else some m
def oI (o : Option Nat) : Int32 := match o with | none => -9999 | some m => nI m
def mC (c : Nat) (o : Option Nat) : Nat := match o with | none => c | some m => if m < c then m else c
def y0 (o : Option Nat) : Nat := match o with | none => 0 | some m => m
def sS (o : Option Nat) : Int32 := match o with | none => 0 | some _ => 1
def o99 (o : Option Nat) : Prop := ∀ m, o = some m → m < 100
def msv (k d t v : Bool) : Int32 := nI ((if k = true then 1 else 0) + (if d = true then 2 else 0) + (if t = true then 4 else 0) + (if v = true then 8 else 0))
theorem o99.mn {o : Option Nat} {x : Nat} (h : o99 o) (hx : x < 100) : o99 (mnO o x) := by
  intro m e
  cases o with
  | none =>
    unfold mnO at e
    cases e
    exact hx
  | some a =>
    unfold mnO at e
    dsimp only at e
    split at e
    · cases e
      exact hx
    · cases e
      exact h _ rfl
theorem o99.mx {o : Option Nat} {x : Nat} (h : o99 o) (hx : x < 100) : o99 (mxO o x) := by
  intro m e
  cases o with
  | none =>
    unfold mxO at e
    cases e
    exact hx
  | some a =>
    unfold mxO at e
    dsimp only at e
    split at e
    · cases e
      exact hx
    · cases e
      exact h _ rfl
theorem nI_min {x y : Nat} (hx : x < 1000) (hy : y < 1000) : (if nI x < nI y then nI x else nI y) = nI (if x < y then x else y) := by
  by_cases z : x < y
  · rw [if_pos (nI_lt z (by omega)), if_pos z]
  · rw [if_neg (nI_nlt (by omega) (by omega)), if_neg z]
theorem mC_le {c : Nat} {o : Option Nat} : mC c o ≤ c := by
  cases o with
  | none => exact Nat.le_refl _
  | some m =>
    show (if m < c then m else c) ≤ c
    split <;> omega
theorem mC_nat {o : Option Nat} {x c : Nat} : (if x < mC c o then x else mC c o) = mC c (mnO o x) := by
  cases o with
  | none => rfl
  | some m =>
    show (if x < (if m < c then m else c) then x else (if m < c then m else c)) = mC c (if x < m then some x else some m)
    by_cases w : x < m
    · rw [if_pos w]
      show _ = if x < c then x else c
      by_cases a : m < c
      · rw [if_pos a, if_pos w, if_pos (by omega)]
      · rw [if_neg a]
    · rw [if_neg w]
      show _ = if m < c then m else c
      by_cases a : m < c
      · rw [if_pos a, if_neg w]
      · rw [if_neg a, if_neg (by omega)]
theorem mC_mn {o : Option Nat} {x c : Nat} (hc : c < 100) (hx : x < 100) (_ho : o99 o) : (if nI x < nI (mC c o) then nI x else nI (mC c o)) = nI (mC c (mnO o x)) := by
  have := mC_le (c := c) (o := o)
  rw [nI_min (by omega) (by omega), mC_nat]
theorem y0_mx {o : Option Nat} {x : Nat} (hx : x < 100) (ho : o99 o) : (if nI (y0 o) < nI x then nI x else nI (y0 o)) = nI (y0 (mxO o x)) := by
  cases o with
  | none =>
    unfold y0 mxO
    dsimp only
    by_cases z : 0 < x
    · rw [if_pos (nI_lt z (by omega))]
    · rw [if_neg (nI_nlt (by omega) (by omega)), show x = 0 by omega]
  | some m =>
    have := ho m rfl
    unfold y0 mxO
    dsimp only
    by_cases z : m < x
    · rw [if_pos (nI_lt z (by omega)), if_pos z]
    · rw [if_neg (nI_nlt (by omega) (by omega)), if_neg z]
def fE (sg : Nat → Int32) (n mo q : Nat) : Nat := (fgs sg n mo q 0).1
def fV (sg : Nat → Int32) (n mo q : Nat) : Nat := (fgs sg n mo q 0).2.toNatClampNeg
theorem fV_eq {sg : Nat → Int32} {n mo q : Nat} (hm : mo ≤ 2) : (fgs sg n mo q 0).2 = nI (fV sg n mo q) ∧ fV sg n mo q < 100 := by
  obtain ⟨m, e, hl⟩ := fgs_val (sg := sg) (n := n) mo q 0
  have p : 10 ^ mo ≤ 10 ^ 2 := Nat.pow_le_pow_right (by decide) hm
  have e' : (fgs sg n mo q 0).2 = nI m := e
  have c : fV sg n mo q = m := by
    unfold fV
    rw [e', nI_clamp (by omega)]
  rw [c]
  exact ⟨e', by omega⟩
def ri (sg : Nat → Int32) (n q : Nat) (s : RS) : Bool × Nat × RS :=
  if sg q = 119 then (if q + 1 < fE sg n 2 (q + 1) then (true, fE sg n 2 (q + 1), (mnO s.1 (fV sg n 2 (q + 1)), s.2)) else (false, fE sg n 2 (q + 1), s))
  else if sg q = 104 then (if q + 1 < fE sg n 2 (q + 1) then (true, fE sg n 2 (q + 1), (s.1, mnO s.2.1 (fV sg n 2 (q + 1)), s.2.2)) else (false, fE sg n 2 (q + 1), s))
  else if sg q = 121 then (if q + 1 < fE sg n 2 (q + 1) then (true, fE sg n 2 (q + 1), (s.1, s.2.1, mxO s.2.2.1 (fV sg n 2 (q + 1)), s.2.2.2)) else (false, fE sg n 2 (q + 1), s))
  else if sg q = 115 then (if q + 1 < fE sg n 1 (q + 1) then (if fV sg n 1 (q + 1) ≤ 3 then (true, fE sg n 1 (q + 1), (s.1, s.2.1, s.2.2.1, s.2.2.2.1 ||| (1 <<< (nI (fV sg n 1 (q + 1)) &&& 31)), s.2.2.2.2)) else (false, fE sg n 1 (q + 1), s)) else (false, fE sg n 1 (q + 1), s))
  else if sg q = 107 then (true, q + 1, (s.1, s.2.1, s.2.2.1, s.2.2.2.1, true, s.2.2.2.2.2))
  else if sg q = 100 then (true, q + 1, (s.1, s.2.1, s.2.2.1, s.2.2.2.1, s.2.2.2.2.1, true, s.2.2.2.2.2.2))
  else if sg q = 116 then (true, q + 1, (s.1, s.2.1, s.2.2.1, s.2.2.2.1, s.2.2.2.2.1, s.2.2.2.2.2.1, true, s.2.2.2.2.2.2.2))
  else if sg q = 118 then (true, q + 1, (s.1, s.2.1, s.2.2.1, s.2.2.2.1, s.2.2.2.2.1, s.2.2.2.2.2.1, s.2.2.2.2.2.2.1, true))
  else (false, q, s)
theorem fE_le {sg : Nat → Int32} {n mo q : Nat} (h : q ≤ n) : q ≤ fE sg n mo q ∧ fE sg n mo q ≤ n := fgs_le mo q 0 h
theorem ri_ip {sg : Nat → Int32} {n : Nat} (q : Nat) (s : RS) (lt : q < n) (e : (ri sg n q s).1 = true) : q < (ri sg n q s).2.1 ∧ (ri sg n q s).2.1 ≤ n := by
  have a := fE_le (sg := sg) (mo := 2) (show q + 1 ≤ n by omega)
  have b := fE_le (sg := sg) (mo := 1) (show q + 1 ≤ n by omega)
  unfold ri at e ⊢
  split
  · split <;> (dsimp only; omega)
  · split
    · split <;> (dsimp only; omega)
    · split
      · split <;> (dsimp only; omega)
      · split
        · split
          · split <;> (dsimp only; omega)
          · dsimp only; omega
        · split
          · dsimp only; omega
          · split
            · dsimp only; omega
            · split
              · dsimp only; omega
              · split
                · dsimp only; omega
                · exfalso
                  simp_all
/-- ThinAir's RULES -/
def R7 (h : zM) (i : Nat) (s : RS) : Prop := rI h 7 i 0 = sS s.1 ∧ rI h 7 i 1 = nI (mC 60 s.1) ∧ rI h 7 i 2 = nI (mC 40 s.2.1) ∧ rI h 7 i 3 = s.2.2.2.1 ∧ rI h 7 i 4 = nI (y0 s.2.2.1) ∧ rI h 7 i 5 = b01 s.2.2.2.2.1 ∧ rI h 7 i 6 = b01 s.2.2.2.2.2.1 ∧ rI h 7 i 7 = b01 s.2.2.2.2.2.2.1 ∧ rI h 7 i 8 = b01 s.2.2.2.2.2.2.2 ∧ o99 s.1 ∧ o99 s.2.1 ∧ o99 s.2.2.1
def W7 (c i C I F : Nat) : Bool := W5 c C I F || (Nat.beq C 7 && Nat.beq I i)
theorem W7_t (c i k : Nat) : W7 c i 7 i k = true := by simp [W7]
theorem On.w7 {a b : zM} {c : Nat} (o : On (W5 c) a b) (i : Nat) : On (W7 c i) a b := o.mono (fun C I F e => by
  unfold W7 at e
  cases h : W5 c C I F with
  | false => rfl
  | true => rw [h] at e; simp at e)
theorem R7.on {h h' : zM} {c i : Nat} {s : RS} (H : R7 h i s) (o : On (W5 c) h h') : R7 h' i s := by
  unfold R7
  rw [o.2 7 i 0 rfl, o.2 7 i 1 rfl, o.2 7 i 2 rfl, o.2 7 i 3 rfl, o.2 7 i 4 rfl, o.2 7 i 5 rfl, o.2 7 i 6 rfl, o.2 7 i 7 rfl, o.2 7 i 8 rfl]
  exact H
theorem w7e (g : zM) (i m : Nat) (v : Int32) : rI (wI g 7 i m v) 7 i m = v := by rw [rI_wI, if_pos ⟨rfl, rfl, rfl⟩]
theorem w7n (g : zM) (i m k : Nat) (v : Int32) (hk : ¬ m = k) : rI (wI g 7 i m v) 7 i k = rI g 7 i k := rI_wI_nf (fun z => hk z.2)
theorem item7 {h : zM} {c i j n q : Nat} {sg : Nat → Int32} {s : RS} (H : RDR h c j n sg q) (lt : q < n) (B : R7 h i s) : ∃ h', f_X7_readItem (some (7, i)) (some (5, c)) h = some (b01 (ri sg n q s).1, h') ∧ On (W7 c i) h h' ∧ RDR h' c j n sg (ri sg n q s).2.1 ∧ ((ri sg n q s).1 = true → R7 h' i (ri sg n q s).2.2) := by
  have P : ∀ x, f_X5_passes (some (5, c)) x h = if sg q = x then some (1, wI h 5 c 2 (nI (q + 1))) else some (0, h) := fun x => by
    rw [passes_eq H x, pas_q lt x]
    by_cases z : sg q = x <;> simp [z]
  have H1 := H.at (q' := q + 1) lt
  have O1 : On (W5 c) h (wI h 5 c 2 (nI (q + 1))) := On.rf.wI (W5_t c)
  have B1 := B.on O1
  have n10 : ¬ (1 : Int32) = 0 := by decide
  have z9 : ¬ (-9999 : Int32) = 0 := by decide
  obtain ⟨g2, a1, a2, a3⟩ := figs_eq H1 (mo := 2) (by decide)
  obtain ⟨g1, c1, c2, c3⟩ := figs_eq H1 (mo := 1) (by decide)
  obtain ⟨v2, b2⟩ := fV_eq (sg := sg) (n := n) (mo := 2) (q := q + 1) (by decide)
  obtain ⟨v1, b1⟩ := fV_eq (sg := sg) (n := n) (mo := 1) (q := q + 1) (by decide)
  rw [v2] at a1
  rw [v1] at c1
  have B2 := B1.on a2
  have B3 := B1.on c2
  have m2 : ¬ nI (fV sg n 2 (q + 1)) = -9999 := nI_n9 (by omega)
  have F2 : f_X5_figures (some (5, c)) 2 (wI h 5 c 2 (nI (q + 1))) = _ := a1
  have F1 : f_X5_figures (some (5, c)) 1 (wI h 5 c 2 (nI (q + 1))) = _ := c1
  have O2 : On (W7 c i) h g2 := (O1.tr a2).w7 i
  have O3 : On (W7 c i) h g1 := (O1.tr c2).w7 i
  unfold ri
  by_cases k1 : sg q = 119
  · rw [if_pos k1]
    by_cases o : q + 1 < fE sg n 2 (q + 1)
    · rw [if_pos o]
      rw [if_neg (show ¬ (fgs sg n 2 (q + 1) 0).1 ≤ q + 1 by unfold fE at o; omega)] at F2
      obtain ⟨r0, r1, r2, r3, r4, r5, r6, r7, r8, r9, r10, r11⟩ := B2
      refine ⟨wI (wI g2 7 i 0 1) 7 i 1 (nI (mC 60 (mnO s.1 (fV sg n 2 (q + 1))))), ?_, (O2.wI (W7_t c i 0)).wI (W7_t c i 1), (a3.ne (by decide) (by decide)).ne (by decide) (by decide), fun _ => ?_⟩
      · unfold f_X7_readItem f_X7_readWind
        simp -implicitDefEqProofs only [clR_s, ixR_s, memT1, P, k1, Bool.and_true, Bool.true_and, if_true, Option.bind_some, n10, if_false, F2, m2, not_false_eq_true, w7n g2 i 0 1 1 (by decide), r1, mC_mn (show 60 < 100 by decide) b2 r9, isB_1]
        rfl
      · refine ⟨?_, ?_, ?_, ?_, ?_, ?_, ?_, ?_, ?_, r9.mn b2, r10, r11⟩
        · rw [w7n _ _ _ _ _ (by decide), w7e]
          cases s.1 with
          | none => rfl
          | some m =>
            unfold mnO
            dsimp only
            split <;> rfl
        · rw [w7e]
        all_goals (rw [w7n _ _ _ _ _ (by decide), w7n _ _ _ _ _ (by decide)]; assumption)
    · rw [if_neg o]
      rw [if_pos (show (fgs sg n 2 (q + 1) 0).1 ≤ q + 1 by unfold fE at o; omega)] at F2
      refine ⟨g2, ?_, O2, a3, fun y => by cases y⟩
      unfold f_X7_readItem f_X7_readWind
      simp -implicitDefEqProofs only [clR_s, ixR_s, memT1, P, k1, Bool.and_true, Bool.true_and, if_true, Option.bind_some, n10, if_false, F2, not_true_eq_false, isB_0]
      rfl
  · rw [if_neg k1]
    by_cases k2 : sg q = 104
    · rw [if_pos k2]
      by_cases o : q + 1 < fE sg n 2 (q + 1)
      · rw [if_pos o]
        rw [if_neg (show ¬ (fgs sg n 2 (q + 1) 0).1 ≤ q + 1 by unfold fE at o; omega)] at F2
        obtain ⟨r0, r1, r2, r3, r4, r5, r6, r7, r8, r9, r10, r11⟩ := B2
        refine ⟨wI g2 7 i 2 (nI (mC 40 (mnO s.2.1 (fV sg n 2 (q + 1))))), ?_, O2.wI (W7_t c i 2), a3.ne (by decide) (by decide), fun _ => ?_⟩
        · unfold f_X7_readItem f_X7_readHeight
          simp -implicitDefEqProofs only [clR_s, ixR_s, memT1, P, k2, show ¬ (104 : Int32) = 119 by decide, Bool.and_true, Bool.true_and, if_true, Option.bind_some, n10, if_false, F2, m2, not_false_eq_true, r2, mC_mn (show 40 < 100 by decide) b2 r10, isB_1]
          rfl
        · refine ⟨?_, ?_, ?_, ?_, ?_, ?_, ?_, ?_, ?_, r9, r10.mn b2, r11⟩
          · rw [w7n _ _ _ _ _ (by decide)]; assumption
          · rw [w7n _ _ _ _ _ (by decide)]; assumption
          · rw [w7e]
          all_goals (rw [w7n _ _ _ _ _ (by decide)]; assumption)
      · rw [if_neg o]
        rw [if_pos (show (fgs sg n 2 (q + 1) 0).1 ≤ q + 1 by unfold fE at o; omega)] at F2
        refine ⟨g2, ?_, O2, a3, fun y => by cases y⟩
        unfold f_X7_readItem f_X7_readHeight
        simp -implicitDefEqProofs only [clR_s, ixR_s, memT1, P, k2, show ¬ (104 : Int32) = 119 by decide, Bool.and_true, Bool.true_and, if_true, Option.bind_some, n10, if_false, F2, not_true_eq_false, isB_0]
        rfl
    · rw [if_neg k2]
      by_cases k3 : sg q = 121
      · rw [if_pos k3]
        by_cases o : q + 1 < fE sg n 2 (q + 1)
        · rw [if_pos o]
          rw [if_neg (show ¬ (fgs sg n 2 (q + 1) 0).1 ≤ q + 1 by unfold fE at o; omega)] at F2
          obtain ⟨r0, r1, r2, r3, r4, r5, r6, r7, r8, r9, r10, r11⟩ := B2
          refine ⟨wI g2 7 i 4 (nI (y0 (mxO s.2.2.1 (fV sg n 2 (q + 1))))), ?_, O2.wI (W7_t c i 4), a3.ne (by decide) (by decide), fun _ => ?_⟩
          · unfold f_X7_readItem f_X7_readYear
            simp -implicitDefEqProofs only [clR_s, ixR_s, memT1, P, k3, show ¬ (121 : Int32) = 119 by decide, show ¬ (121 : Int32) = 104 by decide, Bool.and_true, Bool.true_and, if_true, Option.bind_some, n10, if_false, F2, m2, not_false_eq_true, r4, y0_mx b2 r11, isB_1]
            rfl
          · refine ⟨?_, ?_, ?_, ?_, ?_, ?_, ?_, ?_, ?_, r9, r10, r11.mx b2⟩
            · rw [w7n _ _ _ _ _ (by decide)]; assumption
            · rw [w7n _ _ _ _ _ (by decide)]; assumption
            · rw [w7n _ _ _ _ _ (by decide)]; assumption
            · rw [w7n _ _ _ _ _ (by decide)]; assumption
            · rw [w7e]
            all_goals (rw [w7n _ _ _ _ _ (by decide)]; assumption)
        · rw [if_neg o]
          rw [if_pos (show (fgs sg n 2 (q + 1) 0).1 ≤ q + 1 by unfold fE at o; omega)] at F2
          refine ⟨g2, ?_, O2, a3, fun y => by cases y⟩
          unfold f_X7_readItem f_X7_readYear
          simp -implicitDefEqProofs only [clR_s, ixR_s, memT1, P, k3, show ¬ (121 : Int32) = 119 by decide, show ¬ (121 : Int32) = 104 by decide, Bool.and_true, Bool.true_and, if_true, Option.bind_some, n10, if_false, F2, not_true_eq_false, isB_0]
          rfl
      · rw [if_neg k3]
        by_cases k4 : sg q = 115
        · rw [if_pos k4]
          have ks : ¬ (115 : Int32) = 119 ∧ ¬ (115 : Int32) = 104 ∧ ¬ (115 : Int32) = 121 := by decide
          by_cases o : q + 1 < fE sg n 1 (q + 1)
          · rw [if_pos o]
            rw [if_neg (show ¬ (fgs sg n 1 (q + 1) 0).1 ≤ q + 1 by unfold fE at o; omega)] at F1
            by_cases w : fV sg n 1 (q + 1) ≤ 3
            · rw [if_pos w]
              obtain ⟨r0, r1, r2, r3, r4, r5, r6, r7, r8, r9, r10, r11⟩ := B3
              have hw : (0 : Int32) ≤ nI (fV sg n 1 (q + 1)) ∧ nI (fV sg n 1 (q + 1)) ≤ 3 := win (n := 3) w (by decide)
              refine ⟨wI g1 7 i 3 (s.2.2.2.1 ||| (1 <<< (nI (fV sg n 1 (q + 1)) &&& 31))), ?_, O3.wI (W7_t c i 3), c3.ne (by decide) (by decide), fun _ => ?_⟩
              · unfold f_X7_readItem f_X7_readShoe
                simp -implicitDefEqProofs only [clR_s, ixR_s, memT1, P, k4, ks.1, ks.2.1, ks.2.2, Bool.and_true, Bool.true_and, if_true, Option.bind_some, n10, if_false, F1, wi_T hw, not_false_eq_true, r3, isB_1]
                rfl
              · refine ⟨?_, ?_, ?_, ?_, ?_, ?_, ?_, ?_, ?_, r9, r10, r11⟩
                · rw [w7n _ _ _ _ _ (by decide)]; assumption
                · rw [w7n _ _ _ _ _ (by decide)]; assumption
                · rw [w7n _ _ _ _ _ (by decide)]; assumption
                · rw [w7e]
                all_goals (rw [w7n _ _ _ _ _ (by decide)]; assumption)
            · rw [if_neg w]
              have hw : ¬ ((0 : Int32) ≤ nI (fV sg n 1 (q + 1)) ∧ nI (fV sg n 1 (q + 1)) ≤ 3) := fun z => absurd z.2 (nI_ge (a := 3) (by omega) (by omega))
              refine ⟨g1, ?_, O3, c3, fun y => by cases y⟩
              unfold f_X7_readItem f_X7_readShoe
              simp -implicitDefEqProofs only [clR_s, ixR_s, memT1, P, k4, ks.1, ks.2.1, ks.2.2, Bool.and_true, Bool.true_and, if_true, Option.bind_some, n10, if_false, F1, wi_F hw, not_true_eq_false, isB_0]
              rfl
          · rw [if_neg o]
            rw [if_pos (show (fgs sg n 1 (q + 1) 0).1 ≤ q + 1 by unfold fE at o; omega)] at F1
            have hw : ¬ ((0 : Int32) ≤ -9999 ∧ (-9999 : Int32) ≤ 3) := by decide
            refine ⟨g1, ?_, O3, c3, fun y => by cases y⟩
            unfold f_X7_readItem f_X7_readShoe
            simp -implicitDefEqProofs only [clR_s, ixR_s, memT1, P, k4, ks.1, ks.2.1, ks.2.2, Bool.and_true, Bool.true_and, if_true, Option.bind_some, n10, if_false, F1, wi_F hw, not_true_eq_false, isB_0]
            rfl
        · rw [if_neg k4]
          obtain ⟨r0, r1, r2, r3, r4, r5, r6, r7, r8, r9, r10, r11⟩ := B1
          by_cases k5 : sg q = 107
          · rw [if_pos k5]
            have ks : ¬ (107 : Int32) = 119 ∧ ¬ (107 : Int32) = 104 ∧ ¬ (107 : Int32) = 121 ∧ ¬ (107 : Int32) = 115 := by decide
            refine ⟨wI (wI h 5 c 2 (nI (q + 1))) 7 i 5 1, ?_, (O1.w7 i).wI (W7_t c i 5), H1.ne (by decide) (by decide), fun _ => ?_⟩
            · unfold f_X7_readItem f_X7_readBare
              simp -implicitDefEqProofs only [clR_s, ixR_s, memT1, P, k5, ks.1, ks.2.1, ks.2.2.1, ks.2.2.2, Bool.and_true, Bool.true_and, if_true, Option.bind_some, n10, if_false, isB_1]
              rfl
            · refine ⟨?_, ?_, ?_, ?_, ?_, ?_, ?_, ?_, ?_, r9, r10, r11⟩
              · rw [w7n _ _ _ _ _ (by decide)]; assumption
              · rw [w7n _ _ _ _ _ (by decide)]; assumption
              · rw [w7n _ _ _ _ _ (by decide)]; assumption
              · rw [w7n _ _ _ _ _ (by decide)]; assumption
              · rw [w7n _ _ _ _ _ (by decide)]; assumption
              · rw [w7e]; rfl
              all_goals (rw [w7n _ _ _ _ _ (by decide)]; assumption)
          · rw [if_neg k5]
            by_cases k6 : sg q = 100
            · rw [if_pos k6]
              have ks : ¬ (100 : Int32) = 119 ∧ ¬ (100 : Int32) = 104 ∧ ¬ (100 : Int32) = 121 ∧ ¬ (100 : Int32) = 115 ∧ ¬ (100 : Int32) = 107 := by decide
              refine ⟨wI (wI h 5 c 2 (nI (q + 1))) 7 i 6 1, ?_, (O1.w7 i).wI (W7_t c i 6), H1.ne (by decide) (by decide), fun _ => ?_⟩
              · unfold f_X7_readItem f_X7_readBare
                simp -implicitDefEqProofs only [clR_s, ixR_s, memT1, P, k6, ks.1, ks.2.1, ks.2.2.1, ks.2.2.2.1, ks.2.2.2.2, Bool.and_true, Bool.true_and, if_true, Option.bind_some, n10, if_false, isB_1]
                rfl
              · refine ⟨?_, ?_, ?_, ?_, ?_, ?_, ?_, ?_, ?_, r9, r10, r11⟩
                · rw [w7n _ _ _ _ _ (by decide)]; assumption
                · rw [w7n _ _ _ _ _ (by decide)]; assumption
                · rw [w7n _ _ _ _ _ (by decide)]; assumption
                · rw [w7n _ _ _ _ _ (by decide)]; assumption
                · rw [w7n _ _ _ _ _ (by decide)]; assumption
                · rw [w7n _ _ _ _ _ (by decide)]; assumption
                · rw [w7e]; rfl
                all_goals (rw [w7n _ _ _ _ _ (by decide)]; assumption)
            · rw [if_neg k6]
              by_cases k7 : sg q = 116
              · rw [if_pos k7]
                have ks : ¬ (116 : Int32) = 119 ∧ ¬ (116 : Int32) = 104 ∧ ¬ (116 : Int32) = 121 ∧ ¬ (116 : Int32) = 115 ∧ ¬ (116 : Int32) = 107 ∧ ¬ (116 : Int32) = 100 := by decide
                refine ⟨wI (wI h 5 c 2 (nI (q + 1))) 7 i 7 1, ?_, (O1.w7 i).wI (W7_t c i 7), H1.ne (by decide) (by decide), fun _ => ?_⟩
                · unfold f_X7_readItem f_X7_readBare
                  simp -implicitDefEqProofs only [clR_s, ixR_s, memT1, P, k7, ks.1, ks.2.1, ks.2.2.1, ks.2.2.2.1, ks.2.2.2.2.1, ks.2.2.2.2.2, Bool.and_true, Bool.true_and, if_true, Option.bind_some, n10, if_false, isB_1]
                  rfl
                · refine ⟨?_, ?_, ?_, ?_, ?_, ?_, ?_, ?_, ?_, r9, r10, r11⟩
                  · rw [w7n _ _ _ _ _ (by decide)]; assumption
                  · rw [w7n _ _ _ _ _ (by decide)]; assumption
                  · rw [w7n _ _ _ _ _ (by decide)]; assumption
                  · rw [w7n _ _ _ _ _ (by decide)]; assumption
                  · rw [w7n _ _ _ _ _ (by decide)]; assumption
                  · rw [w7n _ _ _ _ _ (by decide)]; assumption
                  · rw [w7n _ _ _ _ _ (by decide)]; assumption
                  · rw [w7e]; rfl
                  · rw [w7n _ _ _ _ _ (by decide)]; assumption
              · rw [if_neg k7]
                by_cases k8 : sg q = 118
                · rw [if_pos k8]
                  have ks : ¬ (118 : Int32) = 119 ∧ ¬ (118 : Int32) = 104 ∧ ¬ (118 : Int32) = 121 ∧ ¬ (118 : Int32) = 115 ∧ ¬ (118 : Int32) = 107 ∧ ¬ (118 : Int32) = 100 ∧ ¬ (118 : Int32) = 116 := by decide
                  refine ⟨wI (wI h 5 c 2 (nI (q + 1))) 7 i 8 1, ?_, (O1.w7 i).wI (W7_t c i 8), H1.ne (by decide) (by decide), fun _ => ?_⟩
                  · unfold f_X7_readItem f_X7_readBare
                    simp -implicitDefEqProofs only [clR_s, ixR_s, memT1, P, k8, ks.1, ks.2.1, ks.2.2.1, ks.2.2.2.1, ks.2.2.2.2.1, ks.2.2.2.2.2.1, ks.2.2.2.2.2.2, Bool.and_true, Bool.true_and, if_true, Option.bind_some, n10, if_false, isB_1]
                    rfl
                  · refine ⟨?_, ?_, ?_, ?_, ?_, ?_, ?_, ?_, ?_, r9, r10, r11⟩
                    · rw [w7n _ _ _ _ _ (by decide)]; assumption
                    · rw [w7n _ _ _ _ _ (by decide)]; assumption
                    · rw [w7n _ _ _ _ _ (by decide)]; assumption
                    · rw [w7n _ _ _ _ _ (by decide)]; assumption
                    · rw [w7n _ _ _ _ _ (by decide)]; assumption
                    · rw [w7n _ _ _ _ _ (by decide)]; assumption
                    · rw [w7n _ _ _ _ _ (by decide)]; assumption
                    · rw [w7n _ _ _ _ _ (by decide)]; assumption
                    · rw [w7e]; rfl
                · rw [if_neg k8]
                  refine ⟨h, ?_, On.rf, H, fun y => by cases y⟩
                  unfold f_X7_readItem f_X7_readBare
                  simp -implicitDefEqProofs only [clR_s, ixR_s, memT1, P, k1, k2, k3, k4, k5, k6, k7, k8, Bool.and_true, Bool.true_and, if_true, Option.bind_some, if_false, isB_0]
                  rfl
