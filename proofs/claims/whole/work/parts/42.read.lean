/-! which ints may change -/
def On (W : Nat → Nat → Nat → Bool) (h h' : zM) : Prop := h'.2 = h.2 ∧ ∀ c i f, W c i f = false → rI h' c i f = rI h c i f
theorem On.rf {W : Nat → Nat → Nat → Bool} {h : zM} : On W h h := ⟨rfl, fun _ _ _ _ => rfl⟩
theorem On.tr {W : Nat → Nat → Nat → Bool} {a b c : zM} (p : On W a b) (q : On W b c) : On W a c := ⟨q.1.trans p.1, fun x i f e => (q.2 x i f e).trans (p.2 x i f e)⟩
theorem On.wI {W : Nat → Nat → Nat → Bool} {a h : zM} (p : On W a h) {c i f : Nat} {v : Int32} (hw : W c i f = true) : On W a (wI h c i f v) := by
  refine ⟨p.1, fun x y z e => ?_⟩
  rw [rI_wI, if_neg]
  · exact p.2 x y z e
  · rintro ⟨rfl, rfl, rfl⟩
    rw [hw] at e
    cases e
theorem On.mono {W W' : Nat → Nat → Nat → Bool} {a b : zM} (p : On W a b) (hw : ∀ c i f, W' c i f = false → W c i f = false) : On W' a b := ⟨p.1, fun c i f e => p.2 c i f (hw c i f e)⟩
theorem On.R {W : Nat → Nat → Nat → Bool} {a b : zM} (p : On W a b) (c i f : Nat) : rR b c i f = rR a c i f := by
  unfold rR
  rw [p.1]
def W5 (x c i f : Nat) : Bool := Nat.beq c 5 && (Nat.beq i x && Nat.beq f 2)
def W2 (c i f : Nat) : Bool := Nat.beq c 11 && (Nat.beq i 0 && (Nat.ble 17 f && Nat.ble f 18))
theorem W5_t (x : Nat) : W5 x 5 x 2 = true := by simp [W5]
/-! what is read, as such -/
def fgs (sg : Nat → Int32) (n : Nat) : Nat → Nat → Int32 → Nat × Int32
  | 0, q, x => (q, x)
  | r + 1, q, x => if q < n ∧ (48 ≤ sg q ∧ sg q ≤ 57) then fgs sg n r (q + 1) (10 * x + sg q - 48) else (q, x)
theorem fgs_le {sg : Nat → Int32} {n : Nat} : ∀ (r q : Nat) (x : Int32), q ≤ n → q ≤ (fgs sg n r q x).1 ∧ (fgs sg n r q x).1 ≤ n
  | 0, q, x, h => ⟨Nat.le_refl _, h⟩
  | r + 1, q, x, h => by
    unfold fgs
    by_cases c : q < n ∧ (48 ≤ sg q ∧ sg q ≤ 57)
    · rw [if_pos c]
      have := fgs_le (sg := sg) (n := n) r (q + 1) (10 * x + sg q - 48) (by omega)
      omega
    · rw [if_neg c]
      exact ⟨Nat.le_refl _, h⟩
theorem dig {y : Int32} (h : 48 ≤ y ∧ y ≤ 57) : ∃ d, d ≤ 9 ∧ y = nI (48 + d) := by
  have a : (48 : Int32).toInt = 48 := by decide
  have b : (57 : Int32).toInt = 57 := by decide
  rw [Int32.le_iff_toInt_le, Int32.le_iff_toInt_le, a, b] at h
  refine ⟨(y.toInt - 48).toNat, by omega, ?_⟩
  apply Int32.toInt_inj.mp
  rw [nI_toInt (by omega)]
  omega
theorem dig_add (m d : Nat) : 10 * nI m + nI (48 + d) - 48 = nI (10 * m + d) := by
  rw [lit 10, pk_mul, nI_add, show (48 : Int32) = nI 48 from rfl, nI_sub (by omega)]
  congr 1
  omega
theorem fgs_val {sg : Nat → Int32} {n : Nat} : ∀ (r q m : Nat), ∃ m', (fgs sg n r q (nI m)).2 = nI m' ∧ m' < (m + 1) * 10 ^ r
  | 0, q, m => ⟨m, rfl, by omega⟩
  | r + 1, q, m => by
    unfold fgs
    by_cases c : q < n ∧ (48 ≤ sg q ∧ sg q ≤ 57)
    · rw [if_pos c]
      obtain ⟨d, hd, e⟩ := dig c.2
      rw [e, dig_add]
      obtain ⟨m', e1, e2⟩ := fgs_val (sg := sg) (n := n) r (q + 1) (10 * m + d)
      refine ⟨m', e1, Nat.lt_of_lt_of_le e2 ?_⟩
      rw [Nat.pow_succ, Nat.mul_comm (10 ^ r) 10, ← Nat.mul_assoc]
      exact Nat.mul_le_mul_right _ (by omega)
    · rw [if_neg c]
      refine ⟨m, rfl, ?_⟩
      have : 1 ≤ 10 ^ (r + 1) := Nat.pow_pos (by decide)
      have q2 : (m + 1) * 1 ≤ (m + 1) * 10 ^ (r + 1) := Nat.mul_le_mul_left _ this
      omega
def pas (sg : Nat → Int32) (n : Nat) (x : Int32) (q : Nat) : Bool := decide (q < n) && decide (sg q = x)
def nB (sg : Nat → Int32) (n q : Nat) : Nat := if pas sg n 45 q = true then q + 1 else q
def nE (sg : Nat → Int32) (n q : Nat) : Nat := (fgs sg n 2 (nB sg n q) 0).1
def nO (sg : Nat → Int32) (n q : Nat) : Bool := Nat.blt (nB sg n q) (nE sg n q)
theorem nO_iff {sg : Nat → Int32} {n q : Nat} : nO sg n q = true ↔ nB sg n q < nE sg n q := by
  unfold nO
  rw [Nat.blt_eq]
def nV (sg : Nat → Int32) (n q : Nat) : Int32 := if pas sg n 45 q = true then -(fgs sg n 2 (nB sg n q) 0).2 else (fgs sg n 2 (nB sg n q) 0).2
theorem pas_lt {sg : Nat → Int32} {n q : Nat} {x : Int32} (h : pas sg n x q = true) : q < n ∧ sg q = x := by
  unfold pas at h
  simpa using h
theorem nB_le {sg : Nat → Int32} {n q : Nat} (h : q ≤ n) : q ≤ nB sg n q ∧ nB sg n q ≤ n := by
  unfold nB
  by_cases c : pas sg n 45 q = true
  · rw [if_pos c]
    have := (pas_lt c).1
    omega
  · rw [if_neg c]
    omega
theorem nE_le {sg : Nat → Int32} {n q : Nat} (h : q ≤ n) : q ≤ nE sg n q ∧ nE sg n q ≤ n := by
  have a := nB_le (sg := sg) h
  have b := fgs_le (sg := sg) (n := n) 2 (nB sg n q) 0 a.2
  unfold nE
  omega
theorem fv2 (sg : Nat → Int32) (n q : Nat) : ∃ m, (fgs sg n 2 q 0).2 = nI m ∧ m < 100 := by
  have := fgs_val (sg := sg) (n := n) 2 q 0
  exact this
theorem nV_bd (sg : Nat → Int32) (n q : Nat) : -99 ≤ (nV sg n q).toInt ∧ (nV sg n q).toInt ≤ 99 := by
  obtain ⟨m, e, hm⟩ := fv2 sg n (nB sg n q)
  unfold nV
  rw [e]
  have t : (nI m).toInt = (m : Int) := nI_toInt (by omega)
  by_cases c : pas sg n 45 q = true
  · rw [if_pos c, i32_neg (by omega), t]
    omega
  · rw [if_neg c, t]
    omega
theorem nV_n9 (sg : Nat → Int32) (n q : Nat) : ¬ nV sg n q = -9999 := by
  intro e
  have b := nV_bd sg n q
  rw [e] at b
  have e9 : (-9999 : Int32).toInt = -9999 := by decide
  omega
/-! ThinAir's reader -/
def RDR (h : zM) (c j n : Nat) (sg : Nat → Int32) (q : Nat) : Prop := rR h 5 c 0 = some (25, j) ∧ rI h 5 c 1 = nI n ∧ rI h 5 c 2 = nI q ∧ (∀ i, i < 40 → rI h 25 j i = sg i) ∧ q ≤ n ∧ n ≤ 40
theorem RDR.at {h : zM} {c j n q q' : Nat} {sg : Nat → Int32} (H : RDR h c j n sg q) (hq : q' ≤ n) : RDR (wI h 5 c 2 (nI q')) c j n sg q' := by
  obtain ⟨a, b, d, e, f, g⟩ := H
  refine ⟨a, ?_, ?_, fun i hi => ?_, hq, g⟩
  · rw [rI_wI_nf (by omega)]
    exact b
  · rw [rI_wI, if_pos ⟨rfl, rfl, rfl⟩]
  · rw [rI_wI_ne (by decide)]
    exact e i hi
theorem passes_eq {h : zM} {c j n q : Nat} {sg : Nat → Int32} (H : RDR h c j n sg q) (x : Int32) : f_X5_passes (some (5, c)) x h = if pas sg n x q = true then some (1, wI h 5 c 2 (nI (q + 1))) else some (0, h) := by
  obtain ⟨a, b, d, e, f, g⟩ := H
  unfold f_X5_passes pas
  by_cases lt : q < n
  · have l : ¬ nI n ≤ nI q := nI_ge lt (by omega)
    have k : Nat.beq (akd 25) 2 = true := rfl
    have ix : ixOk (aln 25) (nI q) = true := ixOk_nI (n := 40) (show q < 40 by omega) (by decide)
    by_cases s : sg q = x
    · simp [clR_s, ixR_s, memT1, a, b, d, l, k, ix, nI_clamp (show q < 2 ^ 31 by omega), e q (by omega), lt, s, nI_1]
    · simp [clR_s, ixR_s, memT1, a, b, d, l, k, ix, nI_clamp (show q < 2 ^ 31 by omega), e q (by omega), lt, s]
  · have l : nI n ≤ nI q := nI_le (by omega) (by omega)
    simp [clR_s, ixR_s, memT1, b, d, l, lt]
theorem figs_loop {c j n fr bh mo : Nat} {sg : Nat → Int32} (hbh : bh = if fr + mo ≤ n then fr + mo else n) (hmo : mo ≤ 2) : ∀ (r fuel q : Nat) (x : Int32) (h : zM), RDR h c j n sg q → r + q = fr + mo → fr ≤ q → r < fuel → ∃ h', f_X5_figures_22 fuel (some (5, c)) (nI bh) (nI fr) x h = some (if (fgs sg n r q x).1 ≤ fr then -9999 else (fgs sg n r q x).2, h') ∧ On (W5 c) h h' ∧ RDR h' c j n sg (fgs sg n r q x).1
  | r, fuel + 1, q, x, h, H, e, hfr, hf => by
    obtain ⟨a, b, d, g, f, n40⟩ := id H
    have fin : ∀ y : Int32, f_X5_figures_91 (some (5, c)) (nI fr) y h = some (if q ≤ fr then -9999 else y, h) := fun y => by
      unfold f_X5_figures_91
      rw [clR_s, ixR_s, if_pos (by decide), d]
      by_cases q0 : q ≤ fr
      · rw [if_pos (nI_le q0 (by omega)), if_pos q0]
      · rw [if_neg (nI_ge (by omega) (by omega)), if_neg q0]
    have k : Nat.beq (akd 25) 2 = true := rfl
    match r, e, hf with
    | 0, e, hf =>
      refine ⟨h, ?_, On.rf, H⟩
      unfold f_X5_figures_22
      rw [clR_s, ixR_s, if_pos (by decide), d, if_pos (nI_le (by rw [hbh]; split <;> omega) (by omega)), fin]
      rfl
    | r + 1, e, hf =>
      have ix : q < n → ixOk (aln 25) (nI q) = true := fun z => ixOk_nI (n := 40) (show q < 40 by omega) (by decide)
      by_cases lt : q < n
      · have l : ¬ nI bh ≤ nI q := nI_ge (by rw [hbh]; split <;> omega) (by rw [hbh]; split <;> omega)
        by_cases c1 : sg q < 48
        · refine ⟨h, ?_, On.rf, ?_⟩
          · have z : ¬ (q < n ∧ (48 ≤ sg q ∧ sg q ≤ 57)) := fun z => absurd z.2.1 (Int32.not_le.mpr c1)
            unfold f_X5_figures_22 fgs
            rw [if_neg z]
            simp [clR_s, ixR_s, memT1, a, d, l, k, ix lt, nI_clamp (show q < 2 ^ 31 by omega), g q (by omega), c1, fin]
          · unfold fgs
            rw [if_neg (fun z => absurd z.2.1 (Int32.not_le.mpr c1))]
            exact H
        · by_cases c2 : 57 < sg q
          · refine ⟨h, ?_, On.rf, ?_⟩
            · have z : ¬ (q < n ∧ (48 ≤ sg q ∧ sg q ≤ 57)) := fun z => absurd z.2.2 (Int32.not_le.mpr c2)
              unfold f_X5_figures_22 fgs
              rw [if_neg z]
              simp [clR_s, ixR_s, memT1, a, d, l, k, ix lt, nI_clamp (show q < 2 ^ 31 by omega), g q (by omega), c1, c2, fin]
            · unfold fgs
              rw [if_neg (fun z => absurd z.2.2 (Int32.not_le.mpr c2))]
              exact H
          · have z : q < n ∧ (48 ≤ sg q ∧ sg q ≤ 57) := ⟨lt, Int32.not_lt.mp c1, Int32.not_lt.mp c2⟩
            obtain ⟨h', e1, e2, e3⟩ := figs_loop hbh hmo r fuel (q + 1) (10 * x + sg q - 48) (wI h 5 c 2 (nI (q + 1))) (H.at (by omega)) (by omega) (by omega) (by omega)
            have E : fgs sg n (r + 1) q x = fgs sg n r (q + 1) (10 * x + sg q - 48) := by
              rw [fgs, if_pos z]
            rw [E]
            refine ⟨h', ?_, (On.rf.wI (W5_t c)).tr e2, e3⟩
            unfold f_X5_figures_22
            simp only [clR_s, ixR_s, memT1, a, d, l, k, ix lt, nI_clamp (show q < 2 ^ 31 by omega), g q (by omega), c1, c2, Bool.and_true, Bool.true_and, if_true, if_false, nI_1]
            exact e1
      · refine ⟨h, ?_, On.rf, ?_⟩
        · have EE : fgs sg n (r + 1) q x = (q, x) := by
            rw [fgs, if_neg (fun z => lt z.1)]
          rw [EE]
          unfold f_X5_figures_22
          rw [clR_s, ixR_s, if_pos (by decide), d, if_pos (nI_le (by rw [hbh]; split <;> omega) (by omega)), fin]
        · unfold fgs
          rw [if_neg (fun z => lt z.1)]
          exact H
theorem figs_eq {h : zM} {c j n q mo : Nat} {sg : Nat → Int32} (H : RDR h c j n sg q) (hmo : mo ≤ 2) : ∃ h', f_X5_figures (some (5, c)) (nI mo) h = some (if (fgs sg n mo q 0).1 ≤ q then -9999 else (fgs sg n mo q 0).2, h') ∧ On (W5 c) h h' ∧ RDR h' c j n sg (fgs sg n mo q 0).1 := by
  obtain ⟨a, b, d, g, f, n40⟩ := id H
  obtain ⟨h', e1, e2, e3⟩ := figs_loop (c := c) (j := j) (n := n) (fr := q) (mo := mo) (sg := sg) rfl hmo mo 1000 q 0 h H (by omega) (Nat.le_refl _) (by omega)
  refine ⟨h', ?_, e2, e3⟩
  rw [← e1]
  unfold f_X5_figures
  rw [clR_s, ixR_s, if_pos (by decide), if_pos (by decide), b, d, nI_add]
  congr 1
  by_cases z : q + mo ≤ n
  · rw [if_neg (nI_nlt z (by omega)), if_pos z]
  · rw [if_pos (nI_lt (by omega) (by omega)), if_neg z]
theorem sgn_eq {h : zM} {c j n q : Nat} {sg : Nat → Int32} (H : RDR h c j n sg q) : ∃ h', f_X5_signedFigures (some (5, c)) h = some (if nO sg n q = true then nV sg n q else -9999, h') ∧ On (W5 c) h h' ∧ RDR h' c j n sg (nE sg n q) := by
  have P := passes_eq H 45
  obtain ⟨-, -, -, -, f, n40⟩ := id H
  obtain ⟨g1, eg, og, Hg, bg⟩ : ∃ g1, f_X5_passes (some (5, c)) 45 h = some (if pas sg n 45 q = true then 1 else 0, g1) ∧ On (W5 c) h g1 ∧ RDR g1 c j n sg (nB sg n q) ∧ True := by
    by_cases z : pas sg n 45 q = true
    · rw [if_pos z] at P
      refine ⟨_, by rw [P, if_pos z], On.rf.wI (W5_t c), ?_, trivial⟩
      unfold nB
      rw [if_pos z]
      exact H.at (pas_lt z).1
    · rw [if_neg z] at P
      refine ⟨_, by rw [P, if_neg z], On.rf, ?_, trivial⟩
      unfold nB
      rw [if_neg z]
      exact H
  obtain ⟨h', e1, e2, e3⟩ := figs_eq Hg (mo := 2) (by decide)
  refine ⟨h', ?_, og.tr e2, e3⟩
  have F : f_X5_figures (some (5, c)) 2 g1 = _ := e1
  obtain ⟨m, em, hm⟩ := fv2 sg n (nB sg n q)
  have m9 : ¬ nI m = -9999 := nI_n9 (by omega)
  unfold f_X5_signedFigures f_X5_signedFigures_24
  rw [clR_s, if_pos (by decide), eg, Option.bind_some, if_pos (by decide), F, Option.bind_some]
  by_cases o : nB sg n q < nE sg n q
  · have o1 : nO sg n q = true := nO_iff.mpr o
    have o2 : ¬ (fgs sg n 2 (nB sg n q) 0).1 ≤ nB sg n q := by
      unfold nE at o
      omega
    rw [if_pos o1, if_neg o2]
    dsimp only
    unfold nV
    rw [em, if_neg m9]
    by_cases z : pas sg n 45 q = true
    · rw [if_pos z, if_pos z, if_pos (by decide)]
    · rw [if_neg z, if_neg z, if_neg (by decide)]
  · have o1 : ¬ nO sg n q = true := fun y => o (nO_iff.mp y)
    have o2 : (fgs sg n 2 (nB sg n q) 0).1 ≤ nB sg n q := by
      unfold nE at o
      omega
    rw [if_neg o1, if_pos o2]
    dsimp only
    rw [if_pos rfl]
def shO (sg : Nat → Int32) (n q : Nat) : Bool := decide (q < n ∧ (48 ≤ sg q ∧ sg q ≤ 51))
theorem shoe_T {h : zM} {c j n q : Nat} {sg : Nat → Int32} (H : RDR h c j n sg q) (o : shO sg n q = true) : f_X5_shoeFigure (some (5, c)) h = some (sg q - 48, wI h 5 c 2 (nI (q + 1))) := by
  obtain ⟨a, b, d, g, f, n40⟩ := id H
  obtain ⟨lt, s1, s2⟩ := of_decide_eq_true o
  have l : ¬ nI n ≤ nI q := nI_ge lt (by omega)
  have k : Nat.beq (akd 25) 2 = true := rfl
  have ix : ixOk (aln 25) (nI q) = true := ixOk_nI (n := 40) (show q < 40 by omega) (by decide)
  have t1 : ¬ sg q < 48 := Int32.not_lt.mpr s1
  have t2 : sg q < 52 := by
    have e1 : (51 : Int32).toInt = 51 := by decide
    have e2 : (52 : Int32).toInt = 52 := by decide
    rw [Int32.le_iff_toInt_le, e1] at s2
    rw [Int32.lt_iff_toInt_lt, e2]
    omega
  have w : rI (wI h 5 c 2 (nI (q + 1))) 5 c 2 = nI (q + 1) := by rw [rI_wI, if_pos ⟨rfl, rfl, rfl⟩]
  have w2 : rI (wI h 5 c 2 (nI (q + 1))) 25 j q = sg q := by
    rw [rI_wI_ne (by decide)]
    exact g q (by omega)
  unfold f_X5_shoeFigure
  simp only [clR_s, ixR_s, memT1, a, b, d, l, k, ix, nI_clamp (show q < 2 ^ 31 by omega), g q (by omega), t1, t2, Bool.and_true, Bool.true_and, if_true, if_false, nI_1, w, nI_pred, w2]
theorem shoe_F {h : zM} {c j n q : Nat} {sg : Nat → Int32} (H : RDR h c j n sg q) (o : ¬ shO sg n q = true) : f_X5_shoeFigure (some (5, c)) h = some (-9999, h) := by
  obtain ⟨a, b, d, g, f, n40⟩ := id H
  unfold f_X5_shoeFigure
  by_cases lt : q < n
  · have l : ¬ nI n ≤ nI q := nI_ge lt (by omega)
    have k : Nat.beq (akd 25) 2 = true := rfl
    have ix : ixOk (aln 25) (nI q) = true := ixOk_nI (n := 40) (show q < 40 by omega) (by decide)
    by_cases t1 : sg q < 48
    · simp [clR_s, ixR_s, memT1, a, b, d, l, k, ix, nI_clamp (show q < 2 ^ 31 by omega), g q (by omega), t1]
    · have t2 : ¬ sg q < 52 := by
        intro z
        apply o
        refine decide_eq_true ⟨lt, Int32.not_lt.mp t1, ?_⟩
        have e1 : (51 : Int32).toInt = 51 := by decide
        have e2 : (52 : Int32).toInt = 52 := by decide
        rw [Int32.lt_iff_toInt_lt, e2] at z
        rw [Int32.le_iff_toInt_le, e1]
        omega
      simp [clR_s, ixR_s, memT1, a, b, d, l, k, ix, nI_clamp (show q < 2 ^ 31 by omega), g q (by omega), t1, t2]
  · have l : nI n ≤ nI q := nI_le (by omega) (by omega)
    simp [clR_s, ixR_s, memT1, b, d, l]
def skp (sg : Nat → Int32) (n : Nat) : Nat → Nat → Nat
  | 0, q => q
  | r + 1, q => if q < n ∧ sg q = 32 then skp sg n r (q + 1) else q
theorem skp_le {sg : Nat → Int32} {n : Nat} : ∀ (r q : Nat), q ≤ n → q ≤ skp sg n r q ∧ skp sg n r q ≤ n
  | 0, q, h => ⟨Nat.le_refl _, h⟩
  | r + 1, q, h => by
    unfold skp
    by_cases c : q < n ∧ sg q = 32
    · rw [if_pos c]
      have := skp_le (sg := sg) (n := n) r (q + 1) (by omega)
      omega
    · rw [if_neg c]
      exact ⟨Nat.le_refl _, h⟩
theorem skp_loop {c j n : Nat} {sg : Nat → Int32} : ∀ (r fuel q : Nat) (h : zM), RDR h c j n sg q → r + q = n → r < fuel → ∃ h', f_X5_endsBehindBlanks_0 fuel (some (5, c)) h = some (if skp sg n r q < n then 0 else 1, h') ∧ On (W5 c) h h' ∧ RDR h' c j n sg (skp sg n r q)
  | r, fuel + 1, q, h, H, e, hf => by
    obtain ⟨a, b, d, g, f, n40⟩ := id H
    have fin : f_X5_endsBehindBlanks_38 (some (5, c)) h = some (if q < n then 0 else 1, h) := by
      unfold f_X5_endsBehindBlanks_38
      rw [clR_s, ixR_s, if_pos (by decide), b, d]
      by_cases q0 : q < n
      · rw [if_pos (nI_lt q0 (by omega)), if_pos q0]
      · rw [if_neg (nI_nlt (by omega) (by omega)), if_neg q0]
    have k : Nat.beq (akd 25) 2 = true := rfl
    match r, e, hf with
    | 0, e, hf =>
      refine ⟨h, ?_, On.rf, H⟩
      unfold f_X5_endsBehindBlanks_0
      rw [clR_s, ixR_s, if_pos (by decide), b, d, if_pos (nI_le (by omega) (by omega)), fin]
      rfl
    | r + 1, e, hf =>
      have lt : q < n := by omega
      have l : ¬ nI n ≤ nI q := nI_ge lt (by omega)
      have ix : ixOk (aln 25) (nI q) = true := ixOk_nI (n := 40) (show q < 40 by omega) (by decide)
      by_cases s : sg q = 32
      · obtain ⟨h', e1, e2, e3⟩ := skp_loop r fuel (q + 1) (wI h 5 c 2 (nI (q + 1))) (H.at (by omega)) (by omega) (by omega)
        have E : skp sg n (r + 1) q = skp sg n r (q + 1) := by
          rw [skp, if_pos ⟨lt, s⟩]
        rw [E]
        refine ⟨h', ?_, (On.rf.wI (W5_t c)).tr e2, e3⟩
        unfold f_X5_endsBehindBlanks_0
        simp only [clR_s, ixR_s, memT1, a, b, d, l, k, ix, nI_clamp (show q < 2 ^ 31 by omega), g q (by omega), s, Bool.and_true, Bool.true_and, if_true, if_false, nI_1, not_true_eq_false]
        exact e1
      · have E : skp sg n (r + 1) q = q := by
          rw [skp, if_neg (fun z => s z.2)]
        rw [E]
        refine ⟨h, ?_, On.rf, H⟩
        unfold f_X5_endsBehindBlanks_0
        simp only [clR_s, ixR_s, memT1, a, b, d, l, k, ix, nI_clamp (show q < 2 ^ 31 by omega), g q (by omega), s, Bool.and_true, Bool.true_and, if_true, if_false, not_false_eq_true, fin]
/-! the reference's reader -/
def TXM (h : zM) (j n : Nat) (sg : Nat → Int32) (q : Nat) : Prop := MS h ∧ rI h 36 0 j = nI n ∧ (∀ i, i < 40 → rI h 37 0 (40 * j + i) = sg i) ∧ rI h 11 0 17 = nI q ∧ q ≤ n ∧ n ≤ 40 ∧ j ≤ 3
theorem On.MS {a b : zM} {W : Nat → Nat → Nat → Bool} (p : On W a b) (m : MS a) : MS b := by
  unfold _root_.Jvm.Pilot.CThinAirLaw_law_r6155_d9ef75.MS
  simp only [p.R]
  exact m
theorem TXM.at {h h' : zM} {j n q q' : Nat} {sg : Nat → Int32} (H : TXM h j n sg q) (o : On W2 h h') (e : rI h' 11 0 17 = nI q') (hq : q' ≤ n) : TXM h' j n sg q' := by
  obtain ⟨a, b, c, d, f, g, k⟩ := H
  exact ⟨o.MS a, by rw [o.2 _ _ _ rfl]; exact b, fun i hi => by rw [o.2 _ _ _ rfl]; exact c i hi, e, hq, g, k⟩
theorem here_eq {h : zM} {j n q : Nat} {sg : Nat → Int32} (H : TXM h j n sg q) : f_X11_here (nI j) h = some (if q < n then sg q else -9999, h) := by
  obtain ⟨a, b, c, d, f, g, k⟩ := H
  have m5 := a.2.2.2.2.1
  have m6 := a.2.2.2.2.2.1
  have e0 : (40 : Int32) * nI j + nI q = nI (40 * j + q) := by rw [lit 40, pk_mul, nI_add]
  unfold f_X11_here
  by_cases lt : q < n
  · have l : ¬ nI n ≤ nI q := nI_ge lt (by omega)
    simp [m5, m6, ixOk_nI (show j < 4 by omega) (by decide), nI_clamp (show j < 2 ^ 31 by omega), b, d, l, e0, ixOk_nI (show 40 * j + q < 160 by omega) (by decide), nI_clamp (show 40 * j + q < 2 ^ 31 by omega), c q (by omega), lt]
  · have l : nI n ≤ nI q := nI_le (by omega) (by omega)
    simp [m5, ixOk_nI (show j < 4 by omega) (by decide), nI_clamp (show j < 2 ^ 31 by omega), b, d, l, lt]
theorem byte_eq {h : zM} {j n q : Nat} {sg : Nat → Int32} (H : TXM h j n sg q) {x : Int32} (hx : ¬ x = -9999) : ∃ h', f_X11_readsByte (nI j) x h = some (if pas sg n x q = true then 1 else 0, h') ∧ On W2 h h' ∧ TXM h' j n sg (if pas sg n x q = true then q + 1 else q) := by
  have E := here_eq H
  obtain ⟨a, b, c, d, f, g, k⟩ := id H
  by_cases z : pas sg n x q = true
  · obtain ⟨lt, s⟩ := pas_lt z
    refine ⟨wI h 11 0 17 (nI (q + 1)), ?_, On.rf.wI rfl, ?_⟩
    · rw [if_pos lt, s] at E
      rw [if_pos z]
      unfold f_X11_readsByte f_X11_readsByte_14 f_X11_readsByte_29
      simp [E, d, isB_1, nI_1]
    · rw [if_pos z]
      exact H.at (On.rf.wI rfl) (by rw [rI_wI, if_pos ⟨rfl, rfl, rfl⟩]) lt
  · refine ⟨wI h 11 0 17 (nI q), ?_, On.rf.wI rfl, ?_⟩
    · have s : ¬ (if q < n then sg q else -9999) = x := by
        intro y
        by_cases lt : q < n
        · rw [if_pos lt] at y
          exact z (by unfold pas; simp [lt, y])
        · rw [if_neg lt] at y
          exact hx y.symm
      rw [if_neg z]
      unfold f_X11_readsByte f_X11_readsByte_14 f_X11_readsByte_29
      simp [E, s, d, isB_0]
    · rw [if_neg z]
      exact H.at (On.rf.wI rfl) (by rw [rI_wI, if_pos ⟨rfl, rfl, rfl⟩]) f
theorem figm_loop {j n fr mo : Nat} {sg : Nat → Int32} (hmo : mo ≤ 2) : ∀ (r fuel q : Nat) (x : Int32) (h : zM), TXM h j n sg q → rI h 11 0 18 = x → r + q = fr + mo → fr ≤ q → r < fuel → ∃ h', f_X11_readsFigures_10 fuel (nI j) (nI mo) (nI fr) h = some (if (fgs sg n r q x).1 ≤ fr then 0 else 1, h') ∧ On W2 h h' ∧ TXM h' j n sg (fgs sg n r q x).1 ∧ rI h' 11 0 18 = (fgs sg n r q x).2
  | r, fuel + 1, q, x, h, H, hx, e, hfr, hf => by
    have E := here_eq H
    obtain ⟨a, b, c, d, f, g, k⟩ := id H
    have fin : f_X11_readsFigures_68 (nI fr) h = some (if q ≤ fr then 0 else 1, h) := by
      unfold f_X11_readsFigures_68
      rw [d]
      by_cases q0 : q ≤ fr
      · rw [if_pos (nI_le q0 (by omega)), if_pos q0]
      · rw [if_neg (nI_ge (by omega) (by omega)), if_neg q0]
    match r, e, hf with
    | 0, e, hf =>
      refine ⟨h, ?_, On.rf, H, hx⟩
      unfold f_X11_readsFigures_10
      rw [d, nI_sub hfr, if_pos (nI_le (by omega) (by omega)), fin]
      rfl
    | r + 1, e, hf =>
      by_cases z : q < n ∧ (48 ≤ sg q ∧ sg q ≤ 57)
      · have w18 : rI (wI h 11 0 18 (10 * x + sg q - 48)) 11 0 17 = nI q := by
          rw [rI_wI_nf (by decide)]
          exact d
        have o : On W2 h (wI (wI h 11 0 18 (10 * x + sg q - 48)) 11 0 17 (nI (q + 1))) := (On.rf.wI rfl).wI rfl
        obtain ⟨h', e1, e2, e3, e4⟩ := figm_loop (j := j) (n := n) (fr := fr) (sg := sg) hmo r fuel (q + 1) (10 * x + sg q - 48) (wI (wI h 11 0 18 (10 * x + sg q - 48)) 11 0 17 (nI (q + 1))) (H.at o (by rw [rI_wI, if_pos ⟨rfl, rfl, rfl⟩]) (by omega)) (by rw [rI_wI_nf (by decide), rI_wI, if_pos ⟨rfl, rfl, rfl⟩]) (by omega) (by omega) (by omega)
        have EE : fgs sg n (r + 1) q x = fgs sg n r (q + 1) (10 * x + sg q - 48) := by
          rw [fgs, if_pos z]
        rw [EE]
        refine ⟨h', ?_, o.tr e2, e3, e4⟩
        rw [if_pos z.1] at E
        unfold f_X11_readsFigures_10
        rw [d, nI_sub hfr, if_neg (nI_ge (by omega) (by omega))]
        simp only [E, Option.bind_some, in_T z.2, show ¬ (1 : Int32) = 0 by decide, if_false, hx, w18, nI_1]
        exact e1
      · have EE : fgs sg n (r + 1) q x = (q, x) := by
          rw [fgs, if_neg z]
        rw [EE]
        refine ⟨h, ?_, On.rf, H, hx⟩
        have s : ¬ ((48 : Int32) ≤ (if q < n then sg q else -9999) ∧ (if q < n then sg q else -9999) ≤ 57) := by
          by_cases lt : q < n
          · rw [if_pos lt]
            exact fun y => z ⟨lt, y⟩
          · rw [if_neg lt]
            decide
        unfold f_X11_readsFigures_10
        rw [d, nI_sub hfr, if_neg (nI_ge (by omega) (by omega))]
        simp only [E, Option.bind_some, in_F s, if_true, fin]
theorem figm_eq {h : zM} {j n q mo : Nat} {sg : Nat → Int32} (H : TXM h j n sg q) (hmo : mo ≤ 2) : ∃ h', f_X11_readsFigures (nI j) (nI mo) h = some (if (fgs sg n mo q 0).1 ≤ q then 0 else 1, h') ∧ On W2 h h' ∧ TXM h' j n sg (fgs sg n mo q 0).1 ∧ rI h' 11 0 18 = (fgs sg n mo q 0).2 := by
  have o : On W2 h (wI h 11 0 18 0) := On.rf.wI rfl
  obtain ⟨a, b, c, d, f, g, k⟩ := id H
  obtain ⟨h', e1, e2, e3, e4⟩ := figm_loop (j := j) (n := n) (fr := q) (mo := mo) (sg := sg) hmo mo 1000 q 0 (wI h 11 0 18 0) (H.at o (by rw [rI_wI_nf (by decide)]; exact d) f) (by rw [rI_wI, if_pos ⟨rfl, rfl, rfl⟩]) (by omega) (Nat.le_refl _) (by omega)
  refine ⟨h', ?_, o.tr e2, e3, e4⟩
  rw [← e1]
  unfold f_X11_readsFigures
  rw [d]
theorem numm_eq {h : zM} {j n q : Nat} {sg : Nat → Int32} (H : TXM h j n sg q) : ∃ h', f_X11_readsNumber (nI j) h = some (if nO sg n q = true then 1 else 0, h') ∧ On W2 h h' ∧ TXM h' j n sg (nE sg n q) ∧ rI h' 11 0 18 = nV sg n q := by
  obtain ⟨g1, b1, b2, b3⟩ := byte_eq H (x := 45) (by decide)
  have b3' : TXM g1 j n sg (nB sg n q) := b3
  obtain ⟨g2, c1, c2, c3, c4⟩ := figm_eq b3' (mo := 2) (by decide)
  have F : f_X11_readsFigures (nI j) 2 g1 = _ := c1
  have f2 := c3.2.2.2.2.1
  have o : ∀ v, On W2 g2 (wI g2 11 0 18 v) := fun v => On.rf.wI rfl
  have ok : (if (fgs sg n 2 (nB sg n q) 0).1 ≤ nB sg n q then (0 : Int32) else 1) = if nO sg n q = true then 1 else 0 := by
    by_cases z : nB sg n q < nE sg n q
    · rw [if_neg (by unfold nE at z; omega), if_pos (nO_iff.mpr z)]
    · rw [if_pos (by unfold nE at z; omega), if_neg (fun y => z (nO_iff.mp y))]
  have bb : isB (if nO sg n q = true then (1 : Int32) else 0) = true := by
    by_cases z : nO sg n q = true
    · rw [if_pos z]
      rfl
    · rw [if_neg z]
      rfl
  refine ⟨wI g2 11 0 18 (nV sg n q), ?_, (b2.tr c2).tr (o _), c3.at (o _) (by rw [rI_wI_nf (by decide)]; exact c3.2.2.2.1) f2, by rw [rI_wI, if_pos ⟨rfl, rfl, rfl⟩]⟩
  unfold f_X11_readsNumber f_X11_readsNumber_32
  rw [b1, Option.bind_some, F, Option.bind_some, ok]
  dsimp only
  rw [c4]
  unfold nV
  by_cases z : pas sg n 45 q = true
  · rw [if_pos z, if_pos z, if_neg (by decide), bb]
    rfl
  · rw [if_neg z, if_neg z, if_pos rfl, bb]
    rfl
