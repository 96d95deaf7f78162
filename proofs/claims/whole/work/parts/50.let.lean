/-! bits (the family bt of kit/laws/BITS.to-paste) -/
def bt (x : Int32) (i : Nat) : Bool := x.toBitVec.getLsbD i
theorem b_ext {x y : Int32} (h : ∀ i, i < 32 → bt x i = bt y i) : x = y := Int32.toBitVec_inj.mp (BitVec.eq_of_getLsbD_eq (fun i hi => h i hi))
theorem b_or (x y : Int32) (i : Nat) : bt (x ||| y) i = (bt x i || bt y i) := by unfold bt; rw [Int32.toBitVec_or, BitVec.getLsbD_or]
theorem b_and (x y : Int32) (i : Nat) : bt (x &&& y) i = (bt x i && bt y i) := by unfold bt; rw [Int32.toBitVec_and, BitVec.getLsbD_and]
theorem b_0 (i : Nat) : bt 0 i = false := BitVec.getLsbD_zero
theorem s_l : ∀ n, n < 32 → ((nI n &&& 31).toBitVec.smod 32).toNat = n := by decide +kernel
theorem b_shl (n : Nat) (hn : n < 32) (x : Int32) {i : Nat} (hi : i < 32) : bt (x <<< (nI n &&& 31)) i = (decide (n ≤ i) && bt x (i - n)) := by
  unfold bt
  rw [Int32.toBitVec_shiftLeft]
  show (x.toBitVec <<< ((nI n &&& 31).toBitVec.smod 32).toNat).getLsbD i = _
  rw [s_l n hn, BitVec.getLsbD_shiftLeft]
  rcases Nat.lt_or_ge i n with h | h
  · simp [h, Nat.not_le.mpr h]
  · simp [hi, h, Nat.not_lt.mpr h]
theorem b_sshr (n : Nat) (hn : n < 32) (x : Int32) {i : Nat} (hi : i < 32) : bt (x >>> (nI n &&& 31)) i = if n + i < 32 then bt x (n + i) else bt x 31 := by
  unfold bt
  rw [Int32.toBitVec_shiftRight]
  show (x.toBitVec.sshiftRight ((nI n &&& 31).toBitVec.smod 32).toNat).getLsbD i = _
  rw [s_l n hn, BitVec.getLsbD_sshiftRight, BitVec.msb_eq_getLsbD_last]
  simp [hi]
theorem b_1 : ∀ i, i < 32 → bt 1 i = decide (i = 0) := by decide +kernel
theorem bit1 (x : Int32) {p : Nat} (hp : p < 32) : ((x >>> (nI p &&& 31)) &&& 1) = b01 (bt x p) := by
  apply b_ext
  intro i hi
  rw [b_and, b_sshr p hp x hi, b_1 i hi]
  by_cases e : i = 0
  · subst e
    cases h : bt x p with
    | false => simp [hp, h, b01, b_0]
    | true => simp [hp, h, b01, b_1]
  · cases h : bt x p with
    | false => simp [e, b01, b_0]
    | true => simp [e, b01, b_1 i hi]
theorem b01_0 (b : Bool) : b01 b = 0 ↔ b = false := by cases b <;> decide
theorem b01_1 (b : Bool) : b01 b = 1 ↔ b = true := by cases b <;> decide
theorem ms1 (k d t v : Bool) : (0 < msv k d t v &&& 1) ↔ k = true := by cases k <;> cases d <;> cases t <;> cases v <;> decide
theorem ms2 (k d t v : Bool) : (0 < msv k d t v &&& 2) ↔ d = true := by cases k <;> cases d <;> cases t <;> cases v <;> decide
theorem ms4 (k d t v : Bool) : (0 < msv k d t v &&& 4) ↔ t = true := by cases k <;> cases d <;> cases t <;> cases v <;> decide
theorem ms8 (k d t v : Bool) : (msv k d t v &&& 8 ≤ 0) ↔ v = false := by cases k <;> cases d <;> cases t <;> cases v <;> decide
/-! which MARKS RULES let in -/
def wB (h : zM) (s : RS) (m : Nat) : Bool := match s.1 with | none => true | some a => decide (¬ rI h 2 m 5 = -9999) && decide (rI h 2 m 5 ≤ nI a)
def hB (h : zM) (s : RS) (m : Nat) : Bool := match s.2.1 with | none => true | some a => decide (rI h 3 (pl h m) 0 ≤ nI a)
def yB (h : zM) (s : RS) (m : Nat) : Bool := match s.2.2.1 with | none => true | some a => decide (nI a ≤ rI h 2 m 3 / 365)
def sB (h : zM) (s : RS) (m : Nat) : Bool := !bt s.2.2.2.1 (rI h 2 m 6).toNatClampNeg
def kB (h : zM) (s : RS) (m : Nat) : Bool := !(s.2.2.2.2.1 && decide (rI h 2 m 7 = 5)) && (!(s.2.2.2.2.2.1 && decide (rI h 2 m 7 = 3)) && !(s.2.2.2.2.2.2.1 && decide (rI h 2 m 7 = 4)))
def ltB (h : zM) (s : RS) (m : Nat) : Bool := wB h s m && (hB h s m && (yB h s m && (sB h s m && kB h s m)))
theorem day_div {h : zM} {np n m : Nat} (H : InvN h np n) (hm : m < n) : ∃ d, d ≤ 27 ∧ rI h 2 m 3 / 365 = nI d := by
  obtain ⟨d, hd, e⟩ := (H.b hm).2.2.1
  refine ⟨d / 365, by omega, ?_⟩
  rw [e, show (365 : Int32) = nI 365 from rfl, pk_div (by omega) (by decide) (by decide)]
theorem c30 {h : zM} {np n m i : Nat} {s : RS} (H : InvN h np n) (hm : m < n) (R : R7 h i s) : f_X7_let_30 (some (7, i)) (some (2, m)) h = some (b01 (hB h s m && (yB h s m && (sB h s m && kB h s m))), h) := by
  obtain ⟨r0, r1, r2, r3, r4, r5, r6, r7, r8, r9, r10, r11⟩ := R
  obtain ⟨p1, -, p3⟩ := H.pl hm
  obtain ⟨-, ⟨a, ha, ea⟩, -, -, -⟩ := H.plk p1
  obtain ⟨sh, hs, es⟩ := (H.b hm).2.2.2.2.2.1
  obtain ⟨d, hd, ed⟩ := day_div H hm
  have q1 : (nI (mC 40 s.2.1) < rI h 3 (pl h m) 0) ↔ hB h s m = false := by
    rw [ea]
    unfold hB
    rw [ea]
    cases e : s.2.1 with
    | none =>
      show (nI 40 < nI a) ↔ true = false
      simp only [Bool.true_eq_false, iff_false]
      exact nI_nlt (by omega) (by omega)
    | some b =>
      have hb := r10 b e
      show (nI (if b < 40 then b else 40) < nI a) ↔ decide (nI a ≤ nI b) = false
      rw [decide_eq_false_iff_not, nI_leI (by omega) (by omega)]
      by_cases z : b < 40
      · rw [if_pos z, nI_ltI (by omega) (by omega)]
        omega
      · rw [if_neg z, nI_ltI (by omega) (by omega)]
        omega
  have q2 : (nI (y0 s.2.2.1) ≤ rI h 2 m 3 / 365) ↔ yB h s m = true := by
    rw [ed]
    unfold yB
    rw [ed]
    cases e : s.2.2.1 with
    | none =>
      show (nI 0 ≤ nI d) ↔ true = true
      simp only [iff_true]
      exact nI_le (by omega) (by omega)
    | some b =>
      show (nI b ≤ nI d) ↔ decide (nI b ≤ nI d) = true
      rw [decide_eq_true_iff]
  have q3 : ((s.2.2.2.1 >>> (rI h 2 m 6 &&& 31)) &&& 1) = b01 (!sB h s m) := by
    unfold sB
    rw [es, bit1 _ (by omega), nI_clamp (by omega), Bool.not_not]
  have q4 : ∀ b : Bool, (b01 (!b) = 1) ↔ b = false := fun b => by cases b <;> decide
  have one : ∀ b : Bool, (b01 b = 0) ↔ b = false := b01_0
  unfold f_X7_let_30 f_X7_let_93 f_X7_let_108 f_X7_let_123 f_X7_let_127
  simp -implicitDefEqProofs only [clR_s, ixR_s, memT1, p3, Bool.and_true, Bool.true_and, if_true, r2, r3, r4, r5, r6, r7, q1, q2, q3, q4, one]
  cases hB h s m with
  | false => simp [b01]
  | true =>
    cases yB h s m with
    | false => simp [b01]
    | true =>
      cases sB h s m with
      | false => simp [b01]
      | true =>
        unfold kB
        rcases knd_vals (H.d hm) with e | e | e | e | e | e <;> cases s.2.2.2.2.1 <;> cases s.2.2.2.2.2.1 <;> cases s.2.2.2.2.2.2.1 <;> simp [e, b01]
theorem cLet {h : zM} {np n m i : Nat} {s : RS} (H : InvN h np n) (hm : m < n) (R : R7 h i s) : f_X7_let (some (7, i)) (some (2, m)) h = some (b01 (ltB h s m), h) := by
  have C := c30 H hm R
  obtain ⟨r0, r1, r2, r3, r4, r5, r6, r7, r8, r9, r10, r11⟩ := R
  unfold f_X7_let ltB
  have hw := H.w hm
  cases e : s.1 with
  | none =>
    have w : wB h s m = true := by
      unfold wB
      rw [e]
    rw [e] at r0
    have r0' : rI h 7 i 0 = 0 := r0
    simp -implicitDefEqProofs only [clR_s, ixR_s, memT1, Bool.and_true, Bool.true_and, if_true, r0', C, w]
  | some a =>
    rw [e] at r0 r1
    have r0' : rI h 7 i 0 = 1 := r0
    have ra := r9 a e
    have w : wB h s m = (decide (¬ rI h 2 m 5 = -9999) && decide (rI h 2 m 5 ≤ nI a)) := by
      unfold wB
      rw [e]
    rw [w]
    by_cases w9 : rI h 2 m 5 = -9999
    · simp -implicitDefEqProofs [clR_s, ixR_s, memT1, r0', w9, b01]
    · have lim : (rI h 2 m 5 ≤ nI (mC 60 (some a))) ↔ rI h 2 m 5 ≤ nI a := by
        rcases hw with z | z
        · exact absurd z w9
        · show (rI h 2 m 5 ≤ nI (if a < 60 then a else 60)) ↔ _
          by_cases y : a < 60
          · rw [if_pos y]
          · rw [if_neg y, Int32.le_iff_toInt_le, Int32.le_iff_toInt_le, nI_toInt (by omega), nI_toInt (by omega)]
            omega
      by_cases w2 : rI h 2 m 5 ≤ nI a
      · have l1 := lim.mpr w2
        simp -implicitDefEqProofs only [clR_s, ixR_s, memT1, Bool.and_true, Bool.true_and, if_true, r0', r1, show ¬ (1 : Int32) = 0 by decide, if_false, w9, l1, C, not_false_eq_true, decide_true, w2]
      · have l1 : ¬ rI h 2 m 5 ≤ nI (mC 60 (some a)) := fun y => w2 (lim.mp y)
        simp -implicitDefEqProofs [clR_s, ixR_s, memT1, r0', r1, w9, l1, w2, b01]
theorem l37_0 {h : zM} {np n m : Nat} (H : InvN h np n) (hm : m < n) : f_X11_isLet_37 (nI m) 0 h = some (0, h) := by
  unfold f_X11_isLet_37 f_X11_isLet_76 f_X11_isLet_77 f_X11_isLet_113 f_X11_isLet_114 f_X11_isLet_140 f_X11_isLet_141 f_X11_isLet_203
  simp -implicitDefEqProofs only [if_true, mp0 H hm, Option.bind_some]
theorem l77_0 {h : zM} {np n m : Nat} (H : InvN h np n) (hm : m < n) : f_X11_isLet_77 (nI m) 0 h = some (0, h) := by
  unfold f_X11_isLet_77 f_X11_isLet_113 f_X11_isLet_114 f_X11_isLet_140 f_X11_isLet_141 f_X11_isLet_203
  simp -implicitDefEqProofs only [if_true, mp0 H hm, Option.bind_some]
theorem l114_0 {h : zM} {np n m : Nat} (H : InvN h np n) (hm : m < n) : f_X11_isLet_114 (nI m) 0 h = some (0, h) := by
  unfold f_X11_isLet_114 f_X11_isLet_140 f_X11_isLet_141 f_X11_isLet_203
  simp -implicitDefEqProofs only [if_true, mp0 H hm, Option.bind_some]
theorem l141_0 {h : zM} {np n m : Nat} (H : InvN h np n) (hm : m < n) : f_X11_isLet_141 (nI m) 0 h = some (0, h) := by
  unfold f_X11_isLet_141 f_X11_isLet_203
  simp -implicitDefEqProofs only [if_true, mp0 H hm, Option.bind_some]
theorem l141_1 {h : zM} {np n m : Nat} {s : RS} (H : InvN h np n) (hm : m < n) (R : RM h s) : f_X11_isLet_141 (nI m) 1 h = some (b01 (kB h s m), h) := by
  have r5 := R.2.2.2.2.1
  have n10 : ¬ (1 : Int32) = 0 := by decide
  unfold f_X11_isLet_141 f_X11_isLet_203 f_X11_isLet_169 f_X11_isLet_184 f_X11_isLet_199 f_X11_isLet_203
  simp -implicitDefEqProofs only [mp0 H hm, Option.bind_some, n10, if_false, r5, ms1, ms2, ms4]
  unfold kB
  rcases knd_vals (H.d hm) with e | e | e | e | e | e <;> cases s.2.2.2.2.1 <;> cases s.2.2.2.2.2.1 <;> cases s.2.2.2.2.2.2.1 <;> simp [e, b01]
theorem l114_1 {h : zM} {np n m : Nat} {s : RS} (H : InvN h np n) (hm : m < n) (R : RM h s) : f_X11_isLet_114 (nI m) 1 h = some (b01 (sB h s m && kB h s m), h) := by
  have r4 := R.2.2.2.1
  obtain ⟨sh, hs, es⟩ := (H.b hm).2.2.2.2.2.1
  have n10 : ¬ (1 : Int32) = 0 := by decide
  have q3 : ((s.2.2.2.1 >>> (nI sh &&& 31)) &&& 1) = b01 (!sB h s m) := by
    unfold sB
    rw [es, bit1 _ (by omega), nI_clamp (by omega), Bool.not_not]
  unfold f_X11_isLet_114 f_X11_isLet_140
  simp -implicitDefEqProofs only [mp6 H hm, Option.bind_some, n10, if_false, r4, es, q3, l141_0 H hm, l141_1 H hm R]
  cases sB h s m with
  | false => simp [b01]
  | true => simp [b01]
theorem l77_1 {h : zM} {np n m : Nat} {s : RS} (H : InvN h np n) (hm : m < n) (R : RM h s) : f_X11_isLet_77 (nI m) 1 h = some (b01 (yB h s m && (sB h s m && kB h s m)), h) := by
  have r3 := R.2.2.1
  have n10 : ¬ (1 : Int32) = 0 := by decide
  unfold f_X11_isLet_77 f_X11_isLet_113 f_X11_isLet_109
  rw [if_neg n10]
  simp -implicitDefEqProofs only [mp3 H hm, Option.bind_some, r3, l114_0 H hm, l114_1 H hm R]
  unfold yB
  cases e : s.2.2.1 with
  | none =>
    rw [if_pos (show oI none = -9999 from rfl)]
    rfl
  | some b =>
    have hb := R.2.2.2.2.2.2.2 b e
    rw [if_neg (show ¬ oI (some b) = -9999 from nI_n9 (by omega))]
    by_cases z : nI b ≤ rI h 2 m 3 / 365
    · rw [if_neg (show ¬ rI h 2 m 3 / 365 < oI (some b) from Int32.not_lt.mpr z)]
      simp [z]
    · rw [if_pos (show rI h 2 m 3 / 365 < oI (some b) from Int32.not_le.mp z)]
      simp [z, b01]
theorem l37_1 {h : zM} {np n m : Nat} {s : RS} (H : InvN h np n) (hm : m < n) (R : RM h s) : f_X11_isLet_37 (nI m) 1 h = some (b01 (hB h s m && (yB h s m && (sB h s m && kB h s m))), h) := by
  have r2 := R.2.1
  have n10 : ¬ (1 : Int32) = 0 := by decide
  have m7 := H.M.2.2.2.2.2.2.1
  have p8 := H.P.1
  obtain ⟨p1, -, p3⟩ := H.pl hm
  have f0 : rI h 38 0 (4 * pl h m) = rI h 3 (pl h m) 0 := ((H.plk p1).1 0 (by decide)).symm
  have k0 : (4 : Int32) * nI (pl h m) = nI (4 * pl h m) := by rw [lit 4, pk_mul]
  unfold f_X11_isLet_37 f_X11_isLet_76 f_X11_isLet_72
  rw [if_neg n10]
  simp -implicitDefEqProofs only [mp2 H hm, Option.bind_some, r2, m7, decide_true, Bool.true_and, Bool.and_true, if_true, k0, ixOk_nI (show 4 * pl h m < 32 by omega) (by decide), nI_clamp (show 4 * pl h m < 2 ^ 31 by omega), f0, l77_0 H hm, l77_1 H hm R]
  unfold hB
  cases e : s.2.1 with
  | none =>
    rw [if_pos (show oI none = -9999 from rfl)]
    rfl
  | some b =>
    have hb := R.2.2.2.2.2.2.1 b e
    rw [if_neg (show ¬ oI (some b) = -9999 from nI_n9 (by omega))]
    by_cases z : rI h 3 (pl h m) 0 ≤ nI b
    · rw [if_neg (show ¬ oI (some b) < rI h 3 (pl h m) 0 from Int32.not_lt.mpr z)]
      simp [z]
    · rw [if_pos (show oI (some b) < rI h 3 (pl h m) 0 from Int32.not_le.mp z)]
      simp [z, b01]
theorem mLet {h : zM} {np n m : Nat} {s : RS} (H : InvN h np n) (hm : m < n) (R : RM h s) : f_X11_isLet (nI m) h = some (b01 (ltB h s m), h) := by
  have r1 := R.1
  unfold f_X11_isLet f_X11_isLet_32 f_X11_isLet_36 ltB
  simp -implicitDefEqProofs only [mp5 H hm, Option.bind_some, r1, l37_0 H hm, l37_1 H hm R]
  unfold wB
  cases e : s.1 with
  | none =>
    rw [if_pos (show oI none = -9999 from rfl)]
    rfl
  | some b =>
    have hb := R.2.2.2.2.2.1 b e
    rw [if_neg (show ¬ oI (some b) = -9999 from nI_n9 (by omega))]
    by_cases w9 : rI h 2 m 5 = -9999
    · rw [if_pos w9]
      simp [w9, b01]
    · rw [if_neg w9]
      by_cases z : rI h 2 m 5 ≤ nI b
      · rw [if_neg (show ¬ oI (some b) < rI h 2 m 5 from Int32.not_lt.mpr z)]
        simp [z, w9]
      · rw [if_pos (show oI (some b) < rI h 2 m 5 from Int32.not_le.mp z)]
        simp [z, b01]
/-- what a MARK counts by RULES -/
def wr (h : zM) (s : RS) (N : Nat → Int32) (m : Nat) : Int32 := if s.2.2.2.2.2.2.2 = true then hmv h N m (rI h 2 m 5) else rI h 2 m 4
theorem mWr {h : zM} {np n m i : Nat} {s : RS} {N : Nat → Int32} (H : InvN h np n) (hm : m < n) (R : RM h s) (V : s.2.2.2.2.2.2.2 = true → LV h 0 i N) : f_X11_worth (nI m) h = some (wr h s N m, h) := by
  have r5 := R.2.2.2.2.1
  unfold f_X11_worth wr
  rw [r5]
  by_cases v : s.2.2.2.2.2.2.2 = true
  · have z : ¬ (msv s.2.2.2.2.1 s.2.2.2.2.2.1 s.2.2.2.2.2.2.1 s.2.2.2.2.2.2.2 &&& 8 ≤ 0) := fun y => by
      rw [ms8] at y
      rw [v] at y
      cases y
    have M : f_X11_homeWith 0 (nI m) (rI h 2 m 5) h = _ := mHm (l := 0) H hm (by decide) (V v) (H.w hm)
    rw [if_neg z, if_pos v, mp5 H hm, Option.bind_some]
    dsimp only
    rw [M]
    rfl
  · have v' : s.2.2.2.2.2.2.2 = false := by
      cases y : s.2.2.2.2.2.2.2 with
      | false => rfl
      | true => exact absurd y v
    rw [if_pos ((ms8 _ _ _ _).mpr v'), if_neg v, mp4 H hm]
    rfl
