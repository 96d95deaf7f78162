/-! the two records as they are made -/
/-- one strip: an object of class o with its array of class a, in the table t -/
def sp (h : zM) (o a t z k : Nat) : zM := wR (wR (nwM (wI (nwM h o z) o k 0 (-1)) a 40) o k 1 (some (a, k))) t 0 k (some (o, k))
def SPk (b h : zM) (o a t z k : Nat) : Prop := cnM h o = k ∧ cnM h a = k ∧ (∀ i, i < k → rR h t 0 i = some (o, i) ∧ rR h o i 1 = some (a, i) ∧ rI h o i 0 = -1 ∧ ∀ f, rI h a i f = 0) ∧ (∀ c i f, c ≠ o → c ≠ a → c ≠ t → rR h c i f = rR b c i f) ∧ (∀ c i f, c ≠ o → c ≠ a → rI h c i f = rI b c i f) ∧ (∀ c i f, c ≠ o → c ≠ a → rL h c i f = rL b c i f) ∧ (∀ c, c ≠ o → c ≠ a → cnM h c = cnM b c) ∧ slM h = slM b ∧ ncM h = ncM b + 2 * k ∧ nsM h = nsM b + (z + 40) * k
theorem SPk.step {b h : zM} {o a t z k : Nat} (oa : o ≠ a) (ot : o ≠ t) (at_ : a ≠ t) (H : SPk b h o a t z k) : SPk b (sp h o a t z k) o a t z (k + 1) := by
  obtain ⟨h1, h2, h3, h4, h5, h6, h7, h8, h9, h10⟩ := H
  have ca : cnM (wI (nwM h o z) o k 0 (-1)) a = k := by
    rw [cn_wI, cn_nw_ne oa]
    exact h2
  have RR : ∀ c i f, rR (sp h o a t z k) c i f = if c = t ∧ i = 0 ∧ f = k then some (o, k) else if c = o ∧ i = k ∧ f = 1 then some (a, k) else if c = a ∧ i = k then none else if c = o ∧ i = k then none else rR h c i f := fun c i f => by
    unfold sp
    rw [rR_wR, rR_wR, rR_nw, ca, rR_wI, rR_nw, h1]
  have II : ∀ c i f, rI (sp h o a t z k) c i f = if c = a ∧ i = k then 0 else if c = o ∧ i = k ∧ f = 0 then -1 else if c = o ∧ i = k then 0 else rI h c i f := fun c i f => by
    unfold sp
    rw [rI_wR, rI_wR, rI_nw, ca, rI_wI, rI_nw, h1]
  have LL : ∀ c i f, rL (sp h o a t z k) c i f = if c = a ∧ i = k then 0 else if c = o ∧ i = k then 0 else rL h c i f := fun c i f => by
    unfold sp
    rw [rL_wR, rL_wR, rL_nw, ca, rL_wI, rL_nw, h1]
  have CC : ∀ c, cnM (sp h o a t z k) c = if c = a then k + 1 else if c = o then k + 1 else cnM h c := fun c => by
    unfold sp
    rw [cn_wR, cn_wR, cn_nw, ca, cn_wI, cn_nw, h1]
  have s1 : slM (sp h o a t z k) = slM h := rfl
  have s2 : ncM (sp h o a t z k) = ncM h + 2 := rfl
  have s3 : nsM (sp h o a t z k) = nsM h + z + 40 := rfl
  refine ⟨by rw [CC, if_neg oa, if_pos rfl], by rw [CC, if_pos rfl], fun i hi => ?_, fun c i f x1 x2 x3 => ?_, fun c i f x1 x2 => ?_, fun c i f x1 x2 => ?_, fun c x1 x2 => ?_, by rw [s1]; exact h8, by omega, ?_⟩
  · by_cases e : i = k
    · subst e
      refine ⟨by rw [RR, if_pos ⟨rfl, rfl, rfl⟩], ?_, ?_, fun f => by rw [II, if_pos ⟨rfl, rfl⟩]⟩
      · rw [RR, if_neg (fun q => ot q.1), if_pos ⟨rfl, rfl, rfl⟩]
      · rw [II, if_neg (fun q => oa q.1), if_pos ⟨rfl, rfl, rfl⟩]
    · obtain ⟨q1, q2, q3, q4⟩ := h3 i (by omega)
      refine ⟨?_, ?_, ?_, fun f => ?_⟩
      · rw [RR, if_neg (fun q => e q.2.2), if_neg (fun q => ot q.1.symm), if_neg (fun q => at_ q.1.symm), if_neg (fun q => ot q.1.symm)]
        exact q1
      · rw [RR, if_neg (fun q => ot q.1), if_neg (fun q => e q.2.1), if_neg (fun q => e q.2), if_neg (fun q => e q.2)]
        exact q2
      · rw [II, if_neg (fun q => e q.2), if_neg (fun q => e q.2.1), if_neg (fun q => e q.2)]
        exact q3
      · rw [II, if_neg (fun q => e q.2), if_neg (fun q => e q.2.1), if_neg (fun q => e q.2)]
        exact q4 f
  · rw [RR, if_neg (fun q => x3 q.1), if_neg (fun q => x1 q.1), if_neg (fun q => x2 q.1), if_neg (fun q => x1 q.1)]
    exact h4 c i f x1 x2 x3
  · rw [II, if_neg (fun q => x2 q.1), if_neg (fun q => x1 q.1), if_neg (fun q => x1 q.1)]
    exact h5 c i f x1 x2
  · rw [LL, if_neg (fun q => x2 q.1), if_neg (fun q => x1 q.1)]
    exact h6 c i f x1 x2
  · rw [CC, if_neg x2, if_neg x1]
    exact h7 c x1 x2
  · rw [s3, h10, Nat.mul_succ]
    omega
theorem row1 {h : zM} {k : Nat} (h6 : cnM h 6 = k) (h24 : cnM h 24 = k) : f_X6_init (some (6, cnM h 6)) (nwM h 6 2) = some (wR (nwM (wI (nwM h 6 2) 6 k 0 (-1)) 24 40) 6 k 1 (some (24, k))) := by
  have e : cnM (wI (nwM h 6 2) 6 k 0 (-1)) 24 = k := by
    rw [cn_wI, cn_nw_ne (by decide)]
    exact h24
  unfold f_X6_init f_X8_init
  rw [h6]
  simp -implicitDefEqProofs only [clR_s, ixR_s, memT1, memT2a, Bool.true_and, Bool.and_true, if_true, show Nat.blt 6 99 = true from rfl, Option.bind_some, e]
theorem txt1 {h : zM} {k : Nat} (h9 : cnM h 9 = k) (h25 : cnM h 25 = k) : f_X9_init (some (9, cnM h 9)) (nwM h 9 2) = some (wR (nwM (wI (nwM h 9 2) 9 k 0 (-1)) 25 40) 9 k 1 (some (25, k))) := by
  have e : cnM (wI (nwM h 9 2) 9 k 0 (-1)) 25 = k := by
    rw [cn_wI, cn_nw_ne (by decide)]
    exact h25
  unfold f_X9_init f_X8_init
  rw [h9]
  simp -implicitDefEqProofs only [clR_s, ixR_s, memT1, memT2b, Bool.true_and, Bool.and_true, if_true, show Nat.blt 9 99 = true from rfl, Option.bind_some, e]
theorem rows_loop {b : zM} (b26 : rR b 10 0 0 = some (26, 0)) : ∀ (r fuel k : Nat) (h : zM), r + k = 6 → r < fuel → SPk b h 6 24 26 2 k → ∃ h', f_X10_init_15 fuel (nI k) h = f_X10_init_50 1000 0 (wR (nwM h' 27 4) 10 0 1 (some (27, cnM h' 27))) ∧ SPk b h' 6 24 26 2 6
  | 0, fuel + 1, k, h, e, hf, H => by
    have : k = 6 := by omega
    subst this
    refine ⟨h, ?_, H⟩
    unfold f_X10_init_15
    rw [if_pos (by decide)]
  | r + 1, fuel + 1, k, h, e, hf, H => by
    have x0 : rR h 10 0 0 = some (26, 0) := by
      rw [H.2.2.2.1 _ _ _ (by decide) (by decide) (by decide)]
      exact b26
    obtain ⟨h', e1, e2⟩ := rows_loop b26 r fuel (k + 1) (sp h 6 24 26 2 k) (by omega) (by omega) (H.step (by decide) (by decide) (by decide))
    refine ⟨h', ?_, e2⟩
    rw [← e1]
    rw [show f_X10_init_15 (fuel + 1) (nI k) h = (if 6 ≤ nI k then (f_X10_init_50 1000 0 (wR (nwM h 27 4) 10 0 1 (some (27, (cnM h 27))))) else (if (true && (true && (true && (true && (decide (rR h 10 0 0 = (some (26, 0))) && true))))) = true then ((f_X6_init (some (6, (cnM h 6))) (nwM h 6 2)).bind fun q30 => (if (true && (true && (ixOk 6 (nI k) && true))) = true then (f_X10_init_15 fuel (nI k + 1) (wR q30 26 0 (Int32.toNatClampNeg (nI k)) (some (6, (cnM h 6))))) else none)) else none)) from rfl]
    rw [if_neg (show ¬ (6 : Int32) ≤ nI k from nI_ge (b := 6) (by omega) (by decide)), row1 H.1 H.2.1, H.1]
    simp -implicitDefEqProofs only [x0, decide_true, Bool.true_and, Bool.and_true, if_true, Option.bind_some, ixOk_nI (show k < 6 by omega) (by decide), nI_clamp (show k < 2 ^ 31 by omega), nI_1]
    rfl
/-- what is made behind the strips -/
def rkN (g : zM) (i : Nat) : zM := wR (nwM (wR (nwM (wR (nwM g 21 40) 4 i 0 (some (21, cnM g 21))) 22 40) 4 i 1 (some (22, cnM g 22))) 23 12) 4 i 2 (some (23, cnM g 23))
theorem rkN_eq (g : zM) (i : Nat) : f_X4_init (some (4, i)) g = some (rkN g i) := by
  unfold f_X4_init rkN
  simp -implicitDefEqProofs only [clR_s, ixR_s, memT1, Bool.true_and, Bool.and_true, if_true, show Nat.blt 4 99 = true from rfl]
def tail1 (h : zM) : zM := wR (nwM (wR (nwM (wR (nwM h 28 8) 10 0 2 (some (28, cnM h 28))) 29 40) 10 0 3 (some (29, cnM h 29))) 30 2) 10 0 4 (some (30, cnM h 30))
def q1 (h : zM) : zM := rkN (nwM (tail1 h) 4 4) (cnM h 4)
def q2 (h : zM) : zM := rkN (nwM (wR (q1 h) 10 0 5 (some (4, cnM h 4))) 4 4) (cnM (q1 h) 4)
def tailX (h : zM) : zM := wL (wR (nwM (wR (q2 h) 10 0 6 (some (4, cnM (q1 h) 4))) 31 6) 10 0 7 (some (31, cnM (q2 h) 31))) 10 0 14 1
theorem i50_end {f : Nat} {h : zM} : f_X10_init_50 (f + 1) 4 h = some (tailX h) := by
  unfold f_X10_init_50
  rw [if_pos (by decide), rkN_eq, Option.bind_some, rkN_eq, Option.bind_some]
  unfold tailX q2 q1 tail1
  rfl
theorem txts_loop {b : zM} (b27 : rR b 10 0 1 = some (27, 0)) : ∀ (r fuel k : Nat) (h : zM), r + k = 4 → r < fuel → SPk b h 9 25 27 2 k → ∃ h', f_X10_init_50 fuel (nI k) h = some (tailX h') ∧ SPk b h' 9 25 27 2 4
  | 0, fuel + 1, k, h, e, hf, H => by
    have : k = 4 := by omega
    subst this
    exact ⟨h, i50_end, H⟩
  | r + 1, fuel + 1, k, h, e, hf, H => by
    have x0 : rR h 10 0 1 = some (27, 0) := by
      rw [H.2.2.2.1 _ _ _ (by decide) (by decide) (by decide)]
      exact b27
    obtain ⟨h', e1, e2⟩ := txts_loop b27 r fuel (k + 1) (sp h 9 25 27 2 k) (by omega) (by omega) (H.step (by decide) (by decide) (by decide))
    refine ⟨h', ?_, e2⟩
    rw [← e1]
    rw [show f_X10_init_50 (fuel + 1) (nI k) h = (if 4 ≤ nI k then ((f_X4_init (some (4, (cnM h 4))) (nwM (wR (nwM (wR (nwM (wR (nwM h 28 8) 10 0 2 (some (28, (cnM h 28)))) 29 40) 10 0 3 (some (29, (cnM h 29)))) 30 2) 10 0 4 (some (30, (cnM h 30)))) 4 4)).bind fun q105 => ((f_X4_init (some (4, (cnM q105 4))) (nwM (wR q105 10 0 5 (some (4, (cnM h 4)))) 4 4)).bind fun q116 => (some (wL (wR (nwM (wR q116 10 0 6 (some (4, (cnM q105 4)))) 31 6) 10 0 7 (some (31, (cnM q116 31)))) 10 0 14 1)))) else (if (true && (true && (true && (true && (decide (rR h 10 0 1 = (some (27, 0))) && true))))) = true then ((f_X9_init (some (9, (cnM h 9))) (nwM h 9 2)).bind fun q64 => (if (true && (true && (ixOk 4 (nI k) && true))) = true then (f_X10_init_50 fuel (nI k + 1) (wR q64 27 0 (Int32.toNatClampNeg (nI k)) (some (9, (cnM h 9))))) else none)) else none)) from rfl]
    rw [if_neg (show ¬ (4 : Int32) ≤ nI k from nI_ge (b := 4) (by omega) (by decide)), txt1 H.1 H.2.1, H.1]
    simp -implicitDefEqProofs only [x0, decide_true, Bool.true_and, Bool.and_true, if_true, Option.bind_some, ixOk_nI (show k < 4 by omega) (by decide), nI_clamp (show k < 2 ^ 31 by omega), nI_1]
    rfl
def modN (h : zM) : zM := (wR (nwM (wR (nwM (wR (nwM (wR (nwM (wR (nwM (wR (nwM (wR (nwM (wR (nwM (wR (nwM (wR (nwM (wR (nwM (wR (nwM (wR (nwM (wR (nwM (wL (wR (nwM h 32 6) 11 0 1 (some (32, (cnM h 32)))) 11 0 4 1) 33 6) 11 0 6 (some (33, (cnM h 33)))) 34 240) 11 0 7 (some (34, (cnM h 34)))) 35 40) 11 0 8 (some (35, (cnM h 35)))) 36 4) 11 0 9 (some (36, (cnM h 36)))) 37 160) 11 0 10 (some (37, (cnM h 37)))) 38 32) 11 0 12 (some (38, (cnM h 38)))) 39 280) 11 0 14 (some (39, (cnM h 39)))) 40 40) 11 0 15 (some (40, (cnM h 40)))) 41 40) 11 0 16 (some (41, (cnM h 41)))) 42 10) 11 0 20 (some (42, (cnM h 42)))) 43 2) 11 0 26 (some (43, (cnM h 43)))) 44 20) 11 0 27 (some (44, (cnM h 44)))) 45 40) 11 0 29 (some (45, (cnM h 45)))) 46 12) 11 0 30 (some (46, (cnM h 46))))
theorem ms_loop33 : ∀ (r fuel k : Nat) (h : zM), rR h 11 0 6 = some (33, 0) → r + k = 6 → r < fuel → f_X11_init_132 fuel (nI k) h = f_X11_init_155 1000 0 (fil h 33 0 k 6 (-9999))
  | 0, fuel + 1, k, h, hM, e, hf => by
    have : k = 6 := by omega
    subst this
    unfold f_X11_init_132
    rw [if_pos (by decide), fil_nil]
  | r + 1, fuel + 1, k, h, hM, e, hf => by
    unfold f_X11_init_132
    rw [if_neg (show ¬ (6 : Int32) ≤ nI k from nI_ge (b := 6) (by omega) (by decide))]
    simp -implicitDefEqProofs only [hM, ixOk_nI (show k < 6 by omega) (by decide), nI_clamp (show k < 2 ^ 31 by omega), decide_true, Bool.true_and, Bool.and_true, if_true, nI_1]
    rw [ms_loop33 r fuel (k + 1) (wI h 33 0 k (-9999)) hM (by omega) (by omega), fil_step (by omega)]
theorem ms_loop36 : ∀ (r fuel k : Nat) (h : zM), rR h 11 0 9 = some (36, 0) → r + k = 4 → r < fuel → f_X11_init_155 fuel (nI k) h = some (fil h 36 0 k 4 (-9999))
  | 0, fuel + 1, k, h, hM, e, hf => by
    have : k = 4 := by omega
    subst this
    unfold f_X11_init_155
    rw [if_pos (by decide), fil_nil]
  | r + 1, fuel + 1, k, h, hM, e, hf => by
    unfold f_X11_init_155
    rw [if_neg (show ¬ (4 : Int32) ≤ nI k from nI_ge (b := 4) (by omega) (by decide))]
    simp -implicitDefEqProofs only [hM, ixOk_nI (show k < 4 by omega) (by decide), nI_clamp (show k < 2 ^ 31 by omega), decide_true, Bool.true_and, Bool.and_true, if_true, nI_1]
    rw [ms_loop36 r fuel (k + 1) (wI h 36 0 k (-9999)) hM (by omega) (by omega), fil_step (by omega)]
