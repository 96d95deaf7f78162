theorem isLaws_T {x : Int32} (q : (0 : Int32) ≤ x ∧ x ≤ 1) (h : zM) : f_X11_isLaws x h = some (1, h) := by
  unfold f_X11_isLaws
  simp [in_T q, isB_1]
theorem isLaws_F {x : Int32} (q : ¬ ((0 : Int32) ≤ x ∧ x ≤ 1)) (h : zM) : f_X11_isLaws x h = some (0, h) := by
  unfold f_X11_isLaws
  simp [in_F q, isB_0]
theorem l_in {l : Nat} (hl : l ≤ 1) : (0 : Int32) ≤ nI l ∧ nI l ≤ 1 := win (n := 1) hl (by decide)
theorem rng2 (x : Int32) : (∃ l, l ≤ 1 ∧ x = nI l) ∨ ¬ ((0 : Int32) ≤ x ∧ x ≤ 1) := by
  rcases rng x 1 (by decide) with q | q
  · exact Or.inl q
  · exact Or.inr (wout q)
theorem askL_T {h : zM} {l i : Nat} {N : Nat → Int32} (hM : MS h) (hl : l ≤ 1) (V : LV h l i N) : f_X11_askedLaws (nI l) h = some (0, h) := by
  have m := hM.2.2.2.2.2.2.2.2.2.2.2.1
  unfold f_X11_askedLaws
  simp [isLaws_T (l_in hl), m, ixOk_nI (show l < 2 by omega) (by decide), nI_clamp (show l < 2 ^ 31 by omega), V.2.2.1]
theorem askL_N {h : zM} {l : Nat} (hM : MS h) (hl : l ≤ 1) (e : rI h 43 0 l = 0) : f_X11_askedLaws (nI l) h = some (-3, fndM h 1) := by
  have m := hM.2.2.2.2.2.2.2.2.2.2.2.1
  unfold f_X11_askedLaws
  simp [isLaws_T (l_in hl), m, ixOk_nI (show l < 2 by omega) (by decide), nI_clamp (show l < 2 ^ 31 by omega), e, meets_1 hM]
theorem askL_F {h : zM} {x : Int32} (q : ¬ ((0 : Int32) ≤ x ∧ x ≤ 1)) : f_X11_askedLaws x h = some (-1, h) := by
  unfold f_X11_askedLaws
  simp [isLaws_F q]
theorem n3 : ¬ ((0 : Int32) ≤ -3) := by decide
theorem op_number {h : zM} {np n : Nat} (hI : Inv h np n) (x y : Int32) : Okk h (f_X10_number x y) (f_X11_number x y) := by
  have H := hI.N
  have hX := H.X
  have hM := H.M
  have x4 := hX.2.2.2.2.1
  rcases rng2 x with ⟨l, hl, rfl⟩ | hx
  · rcases rng y 9 (by decide) with ⟨k, hk, rfl⟩ | hy
    · have hw := win hk (by omega)
      rw [← lit 9] at hw
      rcases H.L.lv (show l < 2 by omega) with ⟨a, b⟩ | ⟨i, N, V⟩
      · refine Okk.fnd (f := 1) hI ?_ ?_
        · unfold f_X10_number
          simp [wi_T (l_in hl), wi_T hw, x4, ixOk_nI (show l < 2 by omega) (by decide), nI_clamp (show l < 2 ^ 31 by omega), a, found_1 hX]
        · have b' : rI (fndX h 1) 43 0 l = 0 := b
          unfold f_X11_number
          simp [in_T hw, askL_N hM.fndX hl b', n3]
      · refine Okk.tell (a := 1) (v := N k) hI ?_ ?_
        · unfold f_X10_number f_X10_tell
          simp [wi_T (l_in hl), wi_T hw, x4, ixOk_nI (show l < 2 by omega) (by decide), nI_clamp (show l < 2 ^ 31 by omega), V.1, V.2.1, clR_s, ixR_s, memT1, ixOk_nI (show k < 10 by omega) (by decide), nI_clamp (show k < 2 ^ 31 by omega), V.c20 (show k < 10 by omega)]
        · have F : Fr h (wI h 10 0 11 (N k)) := Fr.rf.tellX
          have V' := V.fr F
          have M' := F.MS hM
          have m := M'.2.2.2.2.2.2.2.2.2.2.2.2.1
          have e0 : (10 : Int32) * nI l + nI k = nI (10 * l + k) := by rw [lit 10, pk_mul, nI_add]
          unfold f_X11_number f_X11_ask
          simp [in_T hw, askL_T M' hl V', e0, m, ixOk_nI (show 10 * l + k < 20 by omega) (by decide), nI_clamp (show 10 * l + k < 2 ^ 31 by omega), V'.m44 (show k < 10 by omega)]
    · have hw := wout hy
      rw [← lit 9] at hw
      refine Okk.same hI (a := -1) ?_ ?_
      · unfold f_X10_number
        simp [wi_T (l_in hl), wi_F hw]
      · unfold f_X11_number
        simp [in_F hw]
  · refine Okk.same hI (a := -1) ?_ ?_
    · unfold f_X10_number
      simp [wi_F hx]
    · unfold f_X11_number
      by_cases hy : (0 : Int32) ≤ y ∧ y ≤ 9
      · simp [in_T hy, askL_F hx, m1n]
      · simp [in_F hy]
theorem both_any {h : zM} {np n : Nat} (hP : rI h 11 0 13 = nI n) (n40 : n ≤ 40) {m : Nat} (hm : m < n) (x : Int32) : f_X11_askedBoth x (nI m) h = f_X11_askedLaws x h := by
  unfold f_X11_askedBoth
  simp [isMark_in hP n40 hm, ob]
theorem both_out {h : zM} {n : Nat} (hP : rI h 11 0 13 = nI n) {y : Int32} (hy : ¬ ((0 : Int32) ≤ y ∧ y ≤ nI n - 1)) (x : Int32) : f_X11_askedBoth x y h = some (-1, h) := by
  unfold f_X11_askedBoth
  simp [isMark_out hP hy]
theorem InvN.mk13 {h : zM} {np n : Nat} (H : InvN h np n) : rI h 11 0 13 = nI n := H.K.2.2.1
theorem InvN.n40 {h : zM} {np n : Nat} (H : InvN h np n) : n ≤ 40 := H.K.1
theorem op_gives {h : zM} {np n : Nat} (hI : Inv h np n) (x y : Int32) : Okk h (f_X10_gives x y) (f_X11_gives x y) := by
  have H := hI.N
  have hX := H.X
  have hM := H.M
  have x4 := hX.2.2.2.2.1
  have n40 := H.n40
  rcases rngL y (k := n) (by omega) with ⟨m, hm, rfl⟩ | hy
  · rcases rng2 x with ⟨l, hl, rfl⟩ | hx
    · rcases H.L.lv (show l < 2 by omega) with ⟨a, b⟩ | ⟨i, N, V⟩
      · refine Okk.fnd (f := 1) hI ?_ ?_
        · unfold f_X10_gives
          simp [markAt_in hX H.K hm, wi_T (l_in hl), x4, ixOk_nI (show l < 2 by omega) (by decide), nI_clamp (show l < 2 ^ 31 by omega), a, found_1 hX]
        · have b' : rI (fndX h 1) 43 0 l = 0 := b
          have p3 : rI (fndX h 1) 11 0 13 = nI n := H.mk13
          unfold f_X11_gives
          simp [both_any (np := np) p3 n40 hm, askL_N hM.fndX hl b', n3]
      · refine Okk.tell (a := 1) (v := gv h N m (rI h 2 m 5)) hI ?_ ?_
        · unfold f_X10_gives f_X10_tell
          simp [markAt_in hX H.K hm, wi_T (l_in hl), x4, ixOk_nI (show l < 2 by omega) (by decide), nI_clamp (show l < 2 ^ 31 by omega), V.1, clR_s, memT1, cGv H hm V]
        · have F : Fr h (wI h 10 0 11 (gv h N m (rI h 2 m 5))) := Fr.rf.tellX
          have V' := V.fr F
          have H' := F.N H
          have e : gv (wI h 10 0 11 (gv h N m (rI h 2 m 5))) N m (rI h 2 m 5) = gv h N m (rI h 2 m 5) := rfl
          have e5 : rI (wI h 10 0 11 (gv h N m (rI h 2 m 5))) 2 m 5 = rI h 2 m 5 := rfl
          generalize gv h N m (rI h 2 m 5) = v at F V' H' e e5
          have q : wOk (rI h 2 m 5) := H.w hm
          unfold f_X11_gives f_X11_ask
          simp [both_any (np := np) H'.mk13 n40 hm, askL_T H'.M hl V', mp5 H' hm, e5, mGv H' hm (show l < 2 by omega) V' q, e]
    · refine Okk.same hI (a := -1) ?_ ?_
      · unfold f_X10_gives
        simp [markAt_in hX H.K hm, wi_F hx]
      · unfold f_X11_gives
        simp [both_any (np := np) H.mk13 n40 hm, askL_F hx, m1n]
  · refine Okk.same hI (a := -1) ?_ ?_
    · unfold f_X10_gives
      by_cases hx : (0 : Int32) ≤ x ∧ x ≤ 1
      · simp [markAt_out H.K hy, wi_T hx]
      · simp [markAt_out H.K hy, wi_F hx]
    · unfold f_X11_gives
      simp [both_out H.mk13 hy, m1n]
theorem op_home {h : zM} {np n : Nat} (hI : Inv h np n) (x y : Int32) : Okk h (f_X10_home x y) (f_X11_home x y) := by
  have H := hI.N
  have hX := H.X
  have hM := H.M
  have x4 := hX.2.2.2.2.1
  have n40 := H.n40
  rcases rngL y (k := n) (by omega) with ⟨m, hm, rfl⟩ | hy
  · rcases rng2 x with ⟨l, hl, rfl⟩ | hx
    · rcases H.L.lv (show l < 2 by omega) with ⟨a, b⟩ | ⟨i, N, V⟩
      · refine Okk.fnd (f := 1) hI ?_ ?_
        · unfold f_X10_home
          simp [markAt_in hX H.K hm, wi_T (l_in hl), x4, ixOk_nI (show l < 2 by omega) (by decide), nI_clamp (show l < 2 ^ 31 by omega), a, found_1 hX]
        · have b' : rI (fndX h 1) 43 0 l = 0 := b
          have p3 : rI (fndX h 1) 11 0 13 = nI n := H.mk13
          unfold f_X11_home
          simp [both_any (np := np) p3 n40 hm, askL_N hM.fndX hl b', n3]
      · refine Okk.tell (a := 1) (v := hmv h N m (rI h 2 m 5)) hI ?_ ?_
        · unfold f_X10_home f_X10_tell
          simp [markAt_in hX H.K hm, wi_T (l_in hl), x4, ixOk_nI (show l < 2 by omega) (by decide), nI_clamp (show l < 2 ^ 31 by omega), V.1, clR_s, memT1, cHm H hm V]
        · have F : Fr h (wI h 10 0 11 (hmv h N m (rI h 2 m 5))) := Fr.rf.tellX
          have V' := V.fr F
          have H' := F.N H
          have e : hmv (wI h 10 0 11 (hmv h N m (rI h 2 m 5))) N m (rI h 2 m 5) = hmv h N m (rI h 2 m 5) := rfl
          have e5 : rI (wI h 10 0 11 (hmv h N m (rI h 2 m 5))) 2 m 5 = rI h 2 m 5 := rfl
          generalize hmv h N m (rI h 2 m 5) = v at F V' H' e e5
          have q : wOk (rI h 2 m 5) := H.w hm
          unfold f_X11_home f_X11_ask
          simp [both_any (np := np) H'.mk13 n40 hm, askL_T H'.M hl V', mp5 H' hm, e5, mHm H' hm (show l < 2 by omega) V' q, e]
    · refine Okk.same hI (a := -1) ?_ ?_
      · unfold f_X10_home
        simp [markAt_in hX H.K hm, wi_F hx]
      · unfold f_X11_home
        simp [both_any (np := np) H.mk13 n40 hm, askL_F hx, m1n]
  · refine Okk.same hI (a := -1) ?_ ?_
    · unfold f_X10_home
      by_cases hx : (0 : Int32) ≤ x ∧ x ≤ 1
      · simp [markAt_out H.K hy, wi_T hx]
      · simp [markAt_out H.K hy, wi_F hx]
    · unfold f_X11_home
      simp [both_out H.mk13 hy, m1n]
/-! the least and the greatest -/
def exl (a b st : Int32) : Nat → Nat → Int32 → Int32
  | 0, _, e => e
  | r + 1, w, e => exl a b st r (w + 1) (if st - bw a b (nI w) < e then st - bw a b (nI w) else e)
def exg (a b st : Int32) : Nat → Nat → Int32 → Int32
  | 0, _, e => e
  | r + 1, w, e => exg a b st r (w + 1) (if e < st - bw a b (nI w) then st - bw a b (nI w) else e)
theorem wOk_n {w : Nat} (h : w ≤ 60) : wOk (nI w) := by
  right
  rw [nI_toInt (by omega)]
  omega
theorem cLe_loop {h : zM} {l i m : Nat} {N : Nat → Int32} (V : LV h l i N) (e9 : rI h 2 m 5 = -9999) {st : Int32} : ∀ (r fuel k : Nat) (e : Int32), r + k = 21 → r < fuel → f_X1_leastAtHome_11 fuel (some (1, i)) (some (2, m)) st e (nI k) h = some (exl (N 0) (N 1) st r k e, h)
  | 0, fuel + 1, k, s, e, hf => by
    unfold f_X1_leastAtHome_11
    have : (20 : Int32) < nI k := nI_lt (a := 20) (by omega) (by omega)
    simp [clR_s, ixR_s, memT1, e9, this, exl]
  | r + 1, fuel + 1, k, s, e, hf => by
    unfold f_X1_leastAtHome_11
    have : ¬ (20 : Int32) < nI k := nI_nlt (a := 20) (b := k) (by omega) (by decide)
    simp only [clR_s, ixR_s, memT1, e9, this, Bool.and_true, if_true, not_true_eq_false, if_false, cBw V (wOk_n (show k ≤ 60 by omega)), Option.bind_some, nI_1]
    rw [cLe_loop V e9 r fuel (k + 1) _ (by omega) (by omega)]
    rfl
theorem cGe_loop {h : zM} {l i m : Nat} {N : Nat → Int32} (V : LV h l i N) (e9 : rI h 2 m 5 = -9999) {st : Int32} : ∀ (r fuel k : Nat) (e : Int32), r + k = 21 → r < fuel → f_X1_greatestAtHome_11 fuel (some (1, i)) (some (2, m)) st e (nI k) h = some (exg (N 0) (N 1) st r k e, h)
  | 0, fuel + 1, k, s, e, hf => by
    unfold f_X1_greatestAtHome_11
    have : (20 : Int32) < nI k := nI_lt (a := 20) (by omega) (by omega)
    simp [clR_s, ixR_s, memT1, e9, this, exg]
  | r + 1, fuel + 1, k, s, e, hf => by
    unfold f_X1_greatestAtHome_11
    have : ¬ (20 : Int32) < nI k := nI_nlt (a := 20) (b := k) (by omega) (by decide)
    simp only [clR_s, ixR_s, memT1, e9, this, Bool.and_true, if_true, not_true_eq_false, if_false, cBw V (wOk_n (show k ≤ 60 by omega)), Option.bind_some, nI_1]
    rw [cGe_loop V e9 r fuel (k + 1) _ (by omega) (by omega)]
    rfl
def lea (h : zM) (N : Nat → Int32) (m : Nat) : Int32 := if rI h 2 m 5 = -9999 then exl (N 0) (N 1) (hmv h N m (-9999)) 20 1 (hmv h N m (-9999)) else hmv h N m (rI h 2 m 5)
def gre (h : zM) (N : Nat → Int32) (m : Nat) : Int32 := if rI h 2 m 5 = -9999 then exg (N 0) (N 1) (hmv h N m (-9999)) 20 1 (hmv h N m (-9999)) else hmv h N m (rI h 2 m 5)
theorem cLe {h : zM} {np n l i m : Nat} {N : Nat → Int32} (H : InvN h np n) (hm : m < n) (V : LV h l i N) : f_X1_leastAtHome (some (1, i)) (some (2, m)) h = some (lea h N m, h) := by
  unfold f_X1_leastAtHome lea
  by_cases e9 : rI h 2 m 5 = -9999
  · rw [if_pos e9]
    have := cLe_loop V e9 (st := hmv h N m (-9999)) 20 1000 1 (hmv h N m (-9999)) (by decide) (by decide)
    simp only [clR_s, memT1, Bool.and_true, if_true, cHm H hm V, e9, Option.bind_some]
    exact this
  · rw [if_neg e9]
    unfold f_X1_leastAtHome_11
    simp [clR_s, ixR_s, memT1, cHm H hm V, e9]
theorem cGe {h : zM} {np n l i m : Nat} {N : Nat → Int32} (H : InvN h np n) (hm : m < n) (V : LV h l i N) : f_X1_greatestAtHome (some (1, i)) (some (2, m)) h = some (gre h N m, h) := by
  unfold f_X1_greatestAtHome gre
  by_cases e9 : rI h 2 m 5 = -9999
  · rw [if_pos e9]
    have := cGe_loop V e9 (st := hmv h N m (-9999)) 20 1000 1 (hmv h N m (-9999)) (by decide) (by decide)
    simp only [clR_s, memT1, Bool.and_true, if_true, cHm H hm V, e9, Option.bind_some]
    exact this
  · rw [if_neg e9]
    unfold f_X1_greatestAtHome_11
    simp [clR_s, ixR_s, memT1, cHm H hm V, e9]
theorem hmv_w (h : zM) (N : Nat → Int32) (m : Nat) (w : Int32) : hmv h N m w = hmv h N m (-9999) - bw (N 0) (N 1) w := by
  have e : bw (N 0) (N 1) (-9999) = 0 := by
    unfold bw
    rw [if_pos rfl]
  unfold hmv gv
  rw [e]
  generalize bw (N 0) (N 1) w = b
  generalize sts (N 2) (N 3) (rI h 3 (pl h m) 0).toNatClampNeg 1 0 = s
  generalize (rI h 3 (pl h m) 1 - 20) * N 4 = x
  generalize rI h 3 (pl h m) 2 * N 5 = y
  generalize N (6 + (rI h 2 m 6).toNatClampNeg) = z
  simp only [Int32.sub_eq_add_neg, Int32.neg_add, Int32.zero_add]
  ac_rfl
theorem hmv_0 (h : zM) (N : Nat → Int32) (m : Nat) : hmv h N m 0 = hmv h N m (-9999) := by
  rw [hmv_w]
  have e : bw (N 0) (N 1) 0 = 0 := by
    unfold bw
    rw [if_neg (by decide), if_pos (by decide)]
    rfl
  rw [e, Int32.sub_zero]
theorem mEl_loop {h : zM} {np n l i m : Nat} {N : Nat → Int32} (H : InvN h np n) (hm : m < n) (hl : l < 2) (V : LV h l i N) : ∀ (r fuel k : Nat) (e : Int32), r + k = 21 → r < fuel → f_X11_end_33 fuel (nI l) (nI m) 0 (-9999) e (nI k) h = some (exl (N 0) (N 1) (hmv h N m (-9999)) r k e, h)
  | 0, fuel + 1, k, s, e, hf => by
    unfold f_X11_end_33
    have : (20 : Int32) < nI k := nI_lt (a := 20) (by omega) (by omega)
    simp [this, exl]
  | r + 1, fuel + 1, k, s, e, hf => by
    unfold f_X11_end_33 f_X11_end_71 f_X11_end_81
    have : ¬ (20 : Int32) < nI k := nI_nlt (a := 20) (b := k) (by omega) (by decide)
    simp only [this, if_false, not_true_eq_false, mHm H hm hl V (wOk_n (show k ≤ 60 by omega)), Option.bind_some, nI_1, hmv_w h N m (nI k)]
    rw [show exl (N 0) (N 1) (hmv h N m (-9999)) (r + 1) k s = exl (N 0) (N 1) (hmv h N m (-9999)) r (k + 1) (if hmv h N m (-9999) - bw (N 0) (N 1) (nI k) < s then hmv h N m (-9999) - bw (N 0) (N 1) (nI k) else s) from rfl]
    generalize hmv h N m (-9999) - bw (N 0) (N 1) (nI k) = x
    by_cases c : x ≤ s
    · rw [if_pos c]
      rw [mEl_loop H hm hl V r fuel (k + 1) _ (by omega) (by omega)]
      by_cases c2 : x < s
      · rw [if_pos c2]
      · rw [if_neg c2]
        have : x = s := by
          apply Int32.le_antisymm c
          exact Int32.not_lt.mp c2
        rw [this]
    · rw [if_neg c, if_pos (by decide), mEl_loop H hm hl V r fuel (k + 1) _ (by omega) (by omega), if_neg]
      intro z
      exact c (Int32.le_of_lt z)
theorem mEg_loop {h : zM} {np n l i m : Nat} {N : Nat → Int32} (H : InvN h np n) (hm : m < n) (hl : l < 2) (V : LV h l i N) : ∀ (r fuel k : Nat) (e : Int32), r + k = 21 → r < fuel → f_X11_end_33 fuel (nI l) (nI m) 1 (-9999) e (nI k) h = some (exg (N 0) (N 1) (hmv h N m (-9999)) r k e, h)
  | 0, fuel + 1, k, s, e, hf => by
    unfold f_X11_end_33
    have : (20 : Int32) < nI k := nI_lt (a := 20) (by omega) (by omega)
    simp [this, exg]
  | r + 1, fuel + 1, k, s, e, hf => by
    unfold f_X11_end_33 f_X11_end_71 f_X11_end_81
    have : ¬ (20 : Int32) < nI k := nI_nlt (a := 20) (b := k) (by omega) (by decide)
    simp only [this, if_false, not_true_eq_false, mHm H hm hl V (wOk_n (show k ≤ 60 by omega)), Option.bind_some, nI_1, hmv_w h N m (nI k)]
    rw [show exg (N 0) (N 1) (hmv h N m (-9999)) (r + 1) k s = exg (N 0) (N 1) (hmv h N m (-9999)) r (k + 1) (if s < hmv h N m (-9999) - bw (N 0) (N 1) (nI k) then hmv h N m (-9999) - bw (N 0) (N 1) (nI k) else s) from rfl]
    generalize hmv h N m (-9999) - bw (N 0) (N 1) (nI k) = x
    by_cases c : x ≤ s
    · rw [if_pos c, if_pos (by decide), mEg_loop H hm hl V r fuel (k + 1) _ (by omega) (by omega), if_neg (Int32.not_lt.mpr c)]
    · rw [if_neg c, mEg_loop H hm hl V r fuel (k + 1) _ (by omega) (by omega), if_pos (Int32.not_le.mp c)]
theorem end33_stop {k : Nat} {x1 x2 x3 x4 x5 x6 : Int32} {h : zM} (a : ¬ (20 : Int32) < x6) (b : ¬ x4 = -9999) : f_X11_end_33 (k + 1) x1 x2 x3 x4 x5 x6 h = some (x5, h) := by
  unfold f_X11_end_33
  rw [if_neg a, if_pos b]
theorem mLe {h : zM} {np n l i m : Nat} {N : Nat → Int32} (H : InvN h np n) (hm : m < n) (hl : l < 2) (V : LV h l i N) : f_X11_end (nI l) (nI m) 0 h = some (lea h N m, h) := by
  unfold f_X11_end f_X11_end_25 lea
  by_cases e9 : rI h 2 m 5 = -9999
  · have w0 : wOk 0 := wOk_n (w := 0) (by decide)
    have := mEl_loop H hm hl V 20 1000 1 (hmv h N m (-9999)) (by decide) (by decide)
    rw [mp5 H hm, Option.bind_some, if_neg (fun z => z e9), mHm H hm hl V w0, Option.bind_some, hmv_0, if_pos e9, e9]
    exact this
  · have := end33_stop (k := 999) (x1 := nI l) (x2 := nI m) (x3 := 0) (x5 := hmv h N m (rI h 2 m 5)) (h := h) (show ¬ ((20 : Int32) < 1) by decide) e9
    rw [mp5 H hm, Option.bind_some, if_pos e9, mHm H hm hl V (H.w hm), Option.bind_some, if_neg e9]
    exact this
theorem mGe {h : zM} {np n l i m : Nat} {N : Nat → Int32} (H : InvN h np n) (hm : m < n) (hl : l < 2) (V : LV h l i N) : f_X11_end (nI l) (nI m) 1 h = some (gre h N m, h) := by
  unfold f_X11_end f_X11_end_25 gre
  by_cases e9 : rI h 2 m 5 = -9999
  · have w0 : wOk 0 := wOk_n (w := 0) (by decide)
    have := mEg_loop H hm hl V 20 1000 1 (hmv h N m (-9999)) (by decide) (by decide)
    rw [mp5 H hm, Option.bind_some, if_neg (fun z => z e9), mHm H hm hl V w0, Option.bind_some, hmv_0, if_pos e9, e9]
    exact this
  · have := end33_stop (k := 999) (x1 := nI l) (x2 := nI m) (x3 := 1) (x5 := hmv h N m (rI h 2 m 5)) (h := h) (show ¬ ((20 : Int32) < 1) by decide) e9
    rw [mp5 H hm, Option.bind_some, if_pos e9, mHm H hm hl V (H.w hm), Option.bind_some, if_neg e9]
    exact this
theorem op_span {h : zM} {np n : Nat} (hI : Inv h np n) (x y : Int32) : Okk h (f_X10_span x y) (f_X11_span x y) := by
  have H := hI.N
  have hX := H.X
  have hM := H.M
  have x4 := hX.2.2.2.2.1
  have n40 := H.n40
  rcases rngL y (k := n) (by omega) with ⟨m, hm, rfl⟩ | hy
  · rcases rng2 x with ⟨l, hl, rfl⟩ | hx
    · rcases H.L.lv (show l < 2 by omega) with ⟨a, b⟩ | ⟨i, N, V⟩
      · refine Okk.fnd (f := 1) hI ?_ ?_
        · unfold f_X10_span
          simp [markAt_in hX H.K hm, wi_T (l_in hl), x4, ixOk_nI (show l < 2 by omega) (by decide), nI_clamp (show l < 2 ^ 31 by omega), a, found_1 hX]
        · have b' : rI (fndX h 1) 43 0 l = 0 := b
          have p3 : rI (fndX h 1) 11 0 13 = nI n := H.mk13
          unfold f_X11_span
          simp [both_any (np := np) p3 n40 hm, askL_N hM.fndX hl b', n3]
      · have F : Fr h (wI h 10 0 11 (lea h N m)) := Fr.rf.tellX
        have V' := V.fr F
        have H' := F.N H
        have e : lea (wI h 10 0 11 (lea h N m)) N m = lea h N m := rfl
        have g : gre (wI h 10 0 11 (lea h N m)) N m = gre h N m := rfl
        refine Okk.tell (a := gre h N m - lea h N m) (v := lea h N m) hI ?_ ?_
        · have G := cGe H' hm V'
          rw [g] at G
          unfold f_X10_span f_X10_tell
          simp [markAt_in hX H.K hm, wi_T (l_in hl), x4, ixOk_nI (show l < 2 by omega) (by decide), nI_clamp (show l < 2 ^ 31 by omega), V.1, clR_s, memT1, cLe H hm V, G]
        · have A := mLe H' hm (show l < 2 by omega) V'
          have B := mGe H' hm (show l < 2 by omega) V'
          rw [e] at A
          rw [g] at B
          unfold f_X11_span f_X11_ask
          simp [both_any (np := np) H'.mk13 n40 hm, askL_T H'.M hl V', A, B]
    · refine Okk.same hI (a := -1) ?_ ?_
      · unfold f_X10_span
        simp [markAt_in hX H.K hm, wi_F hx]
      · unfold f_X11_span
        simp [both_any (np := np) H.mk13 n40 hm, askL_F hx, m1n]
  · refine Okk.same hI (a := -1) ?_ ?_
    · unfold f_X10_span
      by_cases hx : (0 : Int32) ≤ x ∧ x ≤ 1
      · simp [markAt_out H.K hy, wi_T hx]
      · simp [markAt_out H.K hy, wi_F hx]
    · unfold f_X11_span
      simp [both_out H.mk13 hy, m1n]
theorem markAt_some {h : zM} {np n : Nat} (hX : XS h) (hK : MK h np n) (x : Int32) : ∃ r, f_X10_markAt x h = some (r, h) := by
  have := hK.1
  rcases rngL x (k := n) (by omega) with ⟨m, hm, rfl⟩ | hx
  · exact ⟨_, markAt_in hX hK hm⟩
  · exact ⟨_, markAt_out hK hx⟩
theorem op_sure {h : zM} {np n : Nat} (hI : Inv h np n) (x y z : Int32) : Okk h (f_X10_sure x y z) (f_X11_sure x y z) := by
  have H := hI.N
  have hX := H.X
  have hM := H.M
  have x4 := hX.2.2.2.2.1
  have n40 := H.n40
  rcases rngL z (k := n) (by omega) with ⟨m2, hm2, rfl⟩ | hz
  · rcases rngL y (k := n) (by omega) with ⟨m, hm, rfl⟩ | hy
    · rcases rng2 x with ⟨l, hl, rfl⟩ | hx
      · rcases H.L.lv (show l < 2 by omega) with ⟨a, b⟩ | ⟨i, N, V⟩
        · refine Okk.fnd (f := 1) hI ?_ ?_
          · unfold f_X10_sure
            simp [markAt_in hX H.K hm, markAt_in hX H.K hm2, wi_T (l_in hl), x4, ixOk_nI (show l < 2 by omega) (by decide), nI_clamp (show l < 2 ^ 31 by omega), a, found_1 hX]
          · have b' : rI (fndX h 1) 43 0 l = 0 := b
            have p3 : rI (fndX h 1) 11 0 13 = nI n := H.mk13
            unfold f_X11_sure
            simp [isMark_in p3 n40 hm2, both_any (np := np) p3 n40 hm, askL_N hM.fndX hl b', n3]
        · refine Okk.same hI (a := if lea h N m ≤ gre h N m2 then 0 else 1) ?_ ?_
          · unfold f_X10_sure
            simp [markAt_in hX H.K hm, markAt_in hX H.K hm2, wi_T (l_in hl), x4, ixOk_nI (show l < 2 by omega) (by decide), nI_clamp (show l < 2 ^ 31 by omega), V.1, clR_s, memT1, cLe H hm V, cGe H hm2 V]
            by_cases q : lea h N m ≤ gre h N m2 <;> simp [q]
          · unfold f_X11_sure
            simp [isMark_in H.mk13 n40 hm2, both_any (np := np) H.mk13 n40 hm, askL_T hM hl V, mLe H hm (show l < 2 by omega) V, mGe H hm2 (show l < 2 by omega) V]
            by_cases q : lea h N m ≤ gre h N m2 <;> simp [q]
      · refine Okk.same hI (a := -1) ?_ ?_
        · unfold f_X10_sure
          simp [markAt_in hX H.K hm, markAt_in hX H.K hm2, wi_F hx]
        · unfold f_X11_sure
          simp [isMark_in H.mk13 n40 hm2, both_any (np := np) H.mk13 n40 hm, askL_F hx, m1n]
    · refine Okk.same hI (a := -1) ?_ ?_
      · unfold f_X10_sure
        by_cases hx : (0 : Int32) ≤ x ∧ x ≤ 1
        · simp [markAt_out H.K hy, markAt_in hX H.K hm2, wi_T hx]
        · simp [markAt_out H.K hy, markAt_in hX H.K hm2, wi_F hx]
      · unfold f_X11_sure
        simp [isMark_in H.mk13 n40 hm2, both_out H.mk13 hy, m1n]
  · refine Okk.same hI (a := -1) ?_ ?_
    · obtain ⟨r, hr⟩ := markAt_some hX H.K y
      unfold f_X10_sure
      by_cases hx : (0 : Int32) ≤ x ∧ x ≤ 1
      · simp [hr, markAt_out H.K hz, wi_T hx]
      · simp [hr, markAt_out H.K hz, wi_F hx]
    · unfold f_X11_sure
      simp [isMark_out H.mk13 hz]
/-! where LAWS turn -/
def ft (a b : Int32) : Nat → Nat → Int32
  | 0, _ => -9999
  | r + 1, k => if stp a b (nI k) < 0 then nI k else ft a b r (k + 1)
theorem ft_zero (a : Int32) : ∀ (r k : Nat), ft a 0 r k = -9999
  | 0, _ => rfl
  | r + 1, k => by
    unfold ft stp
    rw [if_pos rfl, if_neg (by decide)]
    exact ft_zero a r (k + 1)
theorem stp_neg {a : Int32} {b k : Nat} (ha : -99 ≤ a.toInt ∧ a.toInt ≤ 99) (hb0 : 1 ≤ b) (hb : b ≤ 99) (hk : k ≤ 100) : stp a (nI b) (nI k) < 0 ↔ ¬ nI k / nI b ≤ a := by
  have q : k / b ≤ 100 := Nat.le_trans (Nat.div_le_self k b) hk
  unfold stp
  rw [if_neg (nI_ne0 (by omega) (by omega)), pk_div (by omega) (by omega) (by omega), Int32.lt_iff_toInt_lt, Int32.le_iff_toInt_le, Int32.toInt_sub, nI_toInt (show k / b < 2 ^ 31 by omega)]
  have e0 : (0 : Int32).toInt = 0 := by decide
  rw [e0]
  generalize k / b = d at q
  rw [Int.bmod_eq_of_le (by omega) (by omega)]
  omega
theorem cTn_loop {h : zM} {l i it b n : Nat} {N : Nat → Int32} (V : LV h l i N) (hit : it < 9) (hb0 : 1 ≤ b) (hb : b ≤ 99) (hn : n ≤ 90) : ∀ (r fuel k : Nat), r + k = n + 1 → r < fuel → f_X1_firstBelowNought_12 fuel (some (1, i)) (nI it) (nI n) (nI b) (nI k) h = some (ft (N it) (nI b) r k, h)
  | 0, fuel + 1, k, e, hf => by
    unfold f_X1_firstBelowNought_12
    rw [if_pos (nI_lt (by omega) (by omega))]
    rfl
  | r + 1, fuel + 1, k, e, hf => by
    have z : ¬ nI b = 0 := nI_ne0 (by omega) (by omega)
    unfold f_X1_firstBelowNought_12
    rw [if_neg (nI_nlt (by omega) (by omega)), if_neg (nI_nle (by omega) (by omega))]
    simp only [z, decide_false, Bool.not_false, Bool.true_and, Bool.and_true, clR_s, ixR_s, memT1, V.2.1, decide_true, ixOk_nI (show it < 10 by omega) (by decide), if_true, nI_clamp (show it < 2 ^ 31 by omega), nI_1, V.c20 (show it < 10 by omega)]
    have s := stp_neg (a := N it) (V.2.2.2.2.2.2.2.1 it (by omega)) hb0 hb (show k ≤ 100 by omega)
    rw [show ft (N it) (nI b) (r + 1) k = if stp (N it) (nI b) (nI k) < 0 then nI k else ft (N it) (nI b) r (k + 1) from rfl]
    by_cases c : nI k / nI b ≤ N it
    · rw [if_pos c, if_neg (fun y => (s.mp y) c)]
      exact cTn_loop V hit hb0 hb hn r fuel (k + 1) (by omega) (by omega)
    · rw [if_neg c, if_pos (s.mpr c)]
theorem cTn {h : zM} {l i it b n : Nat} {N : Nat → Int32} (V : LV h l i N) (hit : it < 9) (hb : b ≤ 99) (hN : N (it + 1) = nI b) (hn : n ≤ 90) : f_X1_firstBelowNought (some (1, i)) (nI it) (nI n) h = some (ft (N it) (N (it + 1)) n 1, h) := by
  unfold f_X1_firstBelowNought
  simp only [clR_s, ixR_s, memT1, V.2.1, decide_true, Bool.true_and, Bool.and_true, nI_1, ixOk_nI (show it + 1 < 10 by omega) (by decide), if_true, nI_clamp (show it + 1 < 2 ^ 31 by omega), V.c20 (show it + 1 < 10 by omega), hN]
  by_cases b0 : b = 0
  · subst b0
    rw [nI_0, ft_zero]
    by_cases n0 : nI n < 1
    · unfold f_X1_firstBelowNought_12
      rw [if_pos n0]
    · unfold f_X1_firstBelowNought_12
      rw [if_neg n0, if_pos (by decide)]
  · exact cTn_loop V hit (by omega) hb hn n 1000 1 (by omega) (by omega)
theorem mTn_loop {h : zM} {l i w n : Nat} {N : Nat → Int32} (hM : MS h) (V : LV h l i N) (hl : l < 2) (hw : (w = 0 ∧ n = 60) ∨ (w = 1 ∧ n = 40)) : ∀ (r fuel k : Nat), r + k = n + 1 → r < fuel → f_X11_turns_26 fuel (nI l) (nI w) (nI k) h = some (ft (N (2 * w)) (N (2 * w + 1)) r k, h)
  | 0, fuel + 1, k, e, hf => by
    unfold f_X11_turns_26 f_X11_turns_39
    rcases hw with ⟨rfl, rfl⟩ | ⟨rfl, rfl⟩
    · rw [if_neg (by decide), if_pos (show (60 : Int32) < nI k from nI_lt (a := 60) (by omega) (by omega))]
      rfl
    · rw [if_pos (by decide), if_pos (show (40 : Int32) < nI k from nI_lt (a := 40) (by omega) (by omega))]
      rfl
  | r + 1, fuel + 1, k, e, hf => by
    have hw2 : w < 2 := by omega
    rw [show ft (N (2 * w)) (N (2 * w + 1)) (r + 1) k = if stp (N (2 * w)) (N (2 * w + 1)) (nI k) < 0 then nI k else ft (N (2 * w)) (N (2 * w + 1)) r (k + 1) from rfl]
    have K := mTn_loop hM V hl hw r fuel (k + 1) (by omega) (by omega)
    have S := mStep hM V hl hw2 (nI k)
    have D : ∀ lim, ¬ lim < nI k → f_X11_turns_39 (f_X11_turns_26 fuel) (nI l) (nI w) (nI k) (nI k) lim h = some (if stp (N (2 * w)) (N (2 * w + 1)) (nI k) < 0 then nI k else ft (N (2 * w)) (N (2 * w + 1)) r (k + 1), h) := by
      intro lim hlim
      unfold f_X11_turns_39
      rw [if_neg hlim, S]
      simp only [Option.bind_some, nI_1]
      by_cases c : stp (N (2 * w)) (N (2 * w + 1)) (nI k) < 0
      · rw [if_pos c, if_neg (Int32.not_le.mpr c)]
      · rw [if_neg c, if_pos (Int32.not_lt.mp c), K]
    unfold f_X11_turns_26
    rcases hw with ⟨rfl, rfl⟩ | ⟨rfl, rfl⟩
    · rw [if_neg (by decide)]
      exact D 60 (nI_nlt (a := 60) (by omega) (by decide))
    · rw [if_pos (by decide)]
      exact D 40 (nI_nlt (a := 40) (by omega) (by decide))
theorem op_turns {h : zM} {np n : Nat} (hI : Inv h np n) (x y : Int32) : Okk h (f_X10_turns x y) (f_X11_turns x y) := by
  have H := hI.N
  have hX := H.X
  have hM := H.M
  have x4 := hX.2.2.2.2.1
  rcases rng2 x with ⟨l, hl, rfl⟩ | hx
  · rcases rng2 y with ⟨w, hw, rfl⟩ | hy
    · rcases H.L.lv (show l < 2 by omega) with ⟨a, b⟩ | ⟨i, N, V⟩
      · refine Okk.fnd (f := 1) hI ?_ ?_
        · unfold f_X10_turns
          simp [wi_T (l_in hl), wi_T (l_in hw), x4, ixOk_nI (show l < 2 by omega) (by decide), nI_clamp (show l < 2 ^ 31 by omega), a, found_1 hX]
        · have b' : rI (fndX h 1) 43 0 l = 0 := b
          unfold f_X11_turns
          simp [in_T (l_in hw), askL_N hM.fndX hl b', n3]
      · obtain rfl | rfl : w = 0 ∨ w = 1 := by omega
        · obtain ⟨b, hb, eb⟩ := V.2.2.2.2.2.1
          have C : f_X1_firstBelowNought (some (1, i)) 0 60 h = _ := cTn (it := 0) (n := 60) V (by decide) hb eb (by decide)
          have D : f_X11_turns_26 1000 (nI l) (nI 0) 1 h = _ := mTn_loop (n := 60) hM V (show l < 2 by omega) (Or.inl ⟨rfl, rfl⟩) 60 1000 1 (by decide) (by decide)
          refine Okk.same hI (a := ft (N 0) (N 1) 60 1) ?_ ?_
          · unfold f_X10_turns
            simp [wi_T (l_in hl), wi_T (l_in hw), x4, ixOk_nI (show l < 2 by omega) (by decide), nI_clamp (show l < 2 ^ 31 by omega), V.1, clR_s, memT1, nI_0, show (0 : Int32) ≤ 0 ∧ (0 : Int32) ≤ 1 by decide, within_eq, C]
          · unfold f_X11_turns
            simp [in_T (l_in hw), askL_T hM hl V, D]
        · obtain ⟨b, hb, eb⟩ := V.2.2.2.2.2.2.1
          have C : f_X1_firstBelowNought (some (1, i)) 2 40 h = _ := cTn (it := 2) (n := 40) V (by decide) hb eb (by decide)
          have D : f_X11_turns_26 1000 (nI l) (nI 1) 1 h = _ := mTn_loop (n := 40) hM V (show l < 2 by omega) (Or.inr ⟨rfl, rfl⟩) 40 1000 1 (by decide) (by decide)
          refine Okk.same hI (a := ft (N 2) (N 3) 40 1) ?_ ?_
          · unfold f_X10_turns
            simp [wi_T (l_in hl), wi_T (l_in hw), x4, ixOk_nI (show l < 2 by omega) (by decide), nI_clamp (show l < 2 ^ 31 by omega), V.1, clR_s, memT1, show ¬ nI 1 = 0 by decide, C]
          · unfold f_X11_turns
            simp [in_T (l_in hw), askL_T hM hl V, D]
    · refine Okk.same hI (a := -1) ?_ ?_
      · unfold f_X10_turns
        simp [wi_T (l_in hl), wi_F hy]
      · unfold f_X11_turns
        simp [in_F hy]
  · refine Okk.same hI (a := -1) ?_ ?_
    · unfold f_X10_turns
      simp [wi_F hx]
    · unfold f_X11_turns
      by_cases hy : (0 : Int32) ≤ y ∧ y ≤ 1
      · simp [in_T hy, askL_F hx, m1n]
      · simp [in_F hy]
