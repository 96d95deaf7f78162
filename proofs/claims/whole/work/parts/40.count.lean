def cntB (Q : Nat → Bool) : Nat → Nat → Int32 → Int32
  | 0, _, c => c
  | r + 1, m, c => cntB Q r (m + 1) (c + if Q m = true then 1 else 0)
def wOut (h : zM) (p : Int32) (m : Nat) : Bool := decide (rI h 2 m 1 = p) && decide (rI h 2 m 5 = -9999)
theorem cWo {h : zM} {np n : Nat} (H : InvN h np n) {p : Int32} : ∀ (r fuel m : Nat) (c : Int32), r + m = n → r < fuel → f_X10_marksWithoutWind_4 fuel p c (nI m) h = some (cntB (wOut h p) r m c, h)
  | 0, fuel + 1, m, c, e, hf => by
    have n40 := H.n40
    unfold f_X10_marksWithoutWind_4
    rw [H.k10, if_pos (nI_le (by omega) (by omega))]
    rfl
  | r + 1, fuel + 1, m, c, e, hf => by
    have n40 := H.n40
    have hm : m < n := by omega
    unfold f_X10_marksWithoutWind_4 f_X10_marksWithoutWind_45 f_X10_marksWithoutWind_46
    rw [H.k10, if_neg (nI_ge hm (by omega))]
    simp only [H.x3, decide_true, Bool.true_and, Bool.and_true, ixOk_nI (show m < 40 by omega) (by decide), if_true, nI_clamp (show m < 2 ^ 31 by omega), H.m29 hm, clR_s, ixR_s, memT1, nI_1]
    rw [show cntB (wOut h p) (r + 1) m c = cntB (wOut h p) r (m + 1) (c + if wOut h p m = true then 1 else 0) from rfl]
    by_cases a : rI h 2 m 1 = p
    · rw [if_neg (fun z => z a)]
      by_cases b : rI h 2 m 5 = -9999
      · rw [if_neg (fun z => z b), if_pos (show wOut h p m = true by unfold wOut; simp [a, b])]
        exact cWo H r fuel (m + 1) _ (by omega) (by omega)
      · rw [if_pos b, if_neg (show ¬ wOut h p m = true by unfold wOut; simp [a, b])]
        exact cWo H r fuel (m + 1) _ (by omega) (by omega)
    · rw [if_pos a, if_neg (show ¬ wOut h p m = true by unfold wOut; simp [a])]
      exact cWo H r fuel (m + 1) _ (by omega) (by omega)
def nx (c : Nat → Int32) : Nat → Nat → Int32 × Int32 → Int32 × Int32
  | 0, _, s => s
  | r + 1, p, s => nx c r (p + 1) (if c p ≤ s.2 then s else (nI p, c p))
def cwo (h : zM) (n p : Nat) : Int32 := cntB (wOut h (nI p)) n 0 0
theorem mWo {h : zM} {np n : Nat} (H : InvN h np n) {p : Nat} {s : Int32 × Int32} (K : Int32 → Int32 → Int32 → zM → Option (Int32 × zM)) : ∀ (r fuel m : Nat) (c : Int32), r + m = n → r < fuel → f_X11_next_22 K fuel s.1 s.2 (nI p) c (nI m) h = (if cntB (wOut h (nI p)) r m c ≤ s.2 then K s.1 s.2 (nI (p + 1)) h else K (nI p) (cntB (wOut h (nI p)) r m c) (nI (p + 1)) h)
  | 0, fuel + 1, m, c, e, hf => by
    have n40 := H.n40
    unfold f_X11_next_22 f_X11_next_82 f_X11_next_95
    rw [H.mk13, if_pos (nI_le (by omega) (by omega)), nI_1, show cntB (wOut h (nI p)) 0 m c = c from rfl]
    by_cases q : c ≤ s.2
    · rw [if_pos q, if_pos q, if_pos q]
    · rw [if_neg q, if_neg q, if_neg q]
  | r + 1, fuel + 1, m, c, e, hf => by
    have n40 := H.n40
    have hm : m < n := by omega
    unfold f_X11_next_22 f_X11_next_61 f_X11_next_62
    rw [H.mk13, if_neg (nI_ge hm (by omega))]
    simp only [mp2 H hm, mp5 H hm, Option.bind_some, nI_1]
    rw [← (H.pl hm).2.1]
    rw [show cntB (wOut h (nI p)) (r + 1) m c = cntB (wOut h (nI p)) r (m + 1) (c + if wOut h (nI p) m = true then 1 else 0) from rfl]
    by_cases a : rI h 2 m 1 = nI p
    · rw [if_neg (fun z => z a)]
      by_cases b : rI h 2 m 5 = -9999
      · rw [if_neg (fun z => z b), if_pos (show wOut h (nI p) m = true by unfold wOut; simp [a, b])]
        exact mWo H K r fuel (m + 1) _ (by omega) (by omega)
      · rw [if_pos b, if_neg (show ¬ wOut h (nI p) m = true by unfold wOut; simp [a, b])]
        exact mWo H K r fuel (m + 1) _ (by omega) (by omega)
    · rw [if_pos a, if_neg (show ¬ wOut h (nI p) m = true by unfold wOut; simp [a])]
      exact mWo H K r fuel (m + 1) _ (by omega) (by omega)
theorem cNx {h : zM} {np n : Nat} (H : InvN h np n) : ∀ (r fuel p : Nat) (s : Int32 × Int32), r + p = np → r < fuel → f_X10_next_8 fuel s.1 s.2 (nI p) h = some ((nx (cwo h n) r p s).1, if (nx (cwo h n) r p s).1 = -9999 then h else wI h 10 0 11 (nx (cwo h n) r p s).2)
  | 0, fuel + 1, p, s, e, hf => by
    have p8 := H.P.1
    unfold f_X10_next_8 f_X10_tell
    rw [H.P.2.1, if_pos (nI_le (by omega) (by omega)), show nx (cwo h n) 0 p s = s from rfl]
    by_cases q : s.1 = -9999
    · rw [if_pos q, if_pos q]
    · rw [if_neg q, if_neg q]
      rfl
  | r + 1, fuel + 1, p, s, e, hf => by
    have p8 := H.P.1
    have n40 := H.n40
    have W : f_X10_marksWithoutWind (nI p) h = some (cwo h n p, h) := cWo H n 1000 0 0 (by omega) (by omega)
    unfold f_X10_next_8 f_X10_next_34
    rw [H.P.2.1, if_neg (nI_ge (show p < np by omega) (by omega)), W, Option.bind_some, nI_1]
    rw [show nx (cwo h n) (r + 1) p s = nx (cwo h n) r (p + 1) (if cwo h n p ≤ s.2 then s else (nI p, cwo h n p)) from rfl]
    dsimp only
    by_cases q : cwo h n p ≤ s.2
    · rw [if_pos q, if_pos q]
      exact cNx H r fuel (p + 1) s (by omega) (by omega)
    · rw [if_neg q, if_neg q]
      exact cNx H r fuel (p + 1) (nI p, cwo h n p) (by omega) (by omega)
theorem mNx {h : zM} {np n : Nat} (H : InvN h np n) : ∀ (r fuel p : Nat) (s : Int32 × Int32), r + p = np → r < fuel → f_X11_next_8 fuel s.1 s.2 (nI p) h = some ((nx (cwo h n) r p s).1, if (nx (cwo h n) r p s).1 = -9999 then h else wI h 11 0 2 (nx (cwo h n) r p s).2)
  | 0, fuel + 1, p, s, e, hf => by
    have p8 := H.P.1
    unfold f_X11_next_8 f_X11_ask
    rw [H.P.2.2.1, if_pos (nI_le (by omega) (by omega)), show nx (cwo h n) 0 p s = s from rfl]
    by_cases q : s.1 = -9999
    · rw [if_neg (fun z => z q), if_pos q, q]
    · rw [if_pos q, if_neg q]
      rfl
  | r + 1, fuel + 1, p, s, e, hf => by
    have p8 := H.P.1
    have n40 := H.n40
    unfold f_X11_next_8
    rw [H.P.2.2.1, if_neg (nI_ge (show p < np by omega) (by omega))]
    have W := mWo H (p := p) (s := s) (f_X11_next_8 fuel) n 1000 0 0 (by omega) (by omega)
    rw [nI_0] at W
    rw [W, show cntB (wOut h (nI p)) n 0 0 = cwo h n p from rfl]
    rw [show nx (cwo h n) (r + 1) p s = nx (cwo h n) r (p + 1) (if cwo h n p ≤ s.2 then s else (nI p, cwo h n p)) from rfl]
    by_cases q : cwo h n p ≤ s.2
    · rw [if_pos q, if_pos q]
      exact mNx H r fuel (p + 1) s (by omega) (by omega)
    · rw [if_neg q, if_neg q]
      exact mNx H r fuel (p + 1) (nI p, cwo h n p) (by omega) (by omega)
theorem cwo_fr {h h' : zM} (F : Fr h h') (n : Nat) : cwo h' n = cwo h n := by
  funext p
  unfold cwo
  congr 1
  funext m
  unfold wOut
  rw [F.I rfl (by decide), F.I rfl (by decide)]
theorem op_next {h : zM} {np n : Nat} (hI : Inv h np n) : Okk h f_X10_next f_X11_next := by
  have H := hI.N
  have p8 := H.P.1
  have A : f_X10_next h = _ := cNx H np 1000 0 (-9999, 0) (by omega) (by omega)
  have B : ∀ g, Fr h g → f_X11_next g = some ((nx (cwo h n) np 0 (-9999, 0)).1, if (nx (cwo h n) np 0 (-9999, 0)).1 = -9999 then g else wI g 11 0 2 (nx (cwo h n) np 0 (-9999, 0)).2) := fun g F => by
    rw [← cwo_fr F n]
    exact mNx (F.N H) np 1000 0 (-9999, 0) (by omega) (by omega)
  generalize nx (cwo h n) np 0 (-9999, 0) = s at A B
  by_cases q : s.1 = -9999
  · rw [if_pos q] at A
    refine Okk.same hI A ?_
    rw [B h Fr.rf, if_pos q]
  · rw [if_neg q] at A
    refine Okk.tell hI A ?_
    rw [B _ Fr.rf.tellX, if_neg q]
/-! count -/
def hlp (h : zM) (m : Nat) : Bool := decide ((1 : Int32) ≤ rI h 2 m 7 ∧ rI h 2 m 7 ≤ 3)
def stk5 (h : zM) (m : Nat) : Bool := decide (rI h 2 m 7 = 5)
def rwT (h : zM) (r : Nat) : Bool := decide (0 ≤ rI h 33 0 r)
def txT (h : zM) (r : Nat) : Bool := decide (0 ≤ rI h 36 0 r)
def lwT (h : zM) (l : Nat) : Bool := decide (¬ rI h 43 0 l = 0)
def cv (h : zM) (n k : Nat) : Int32 := if k = 0 then rI h 10 0 8 else if k = 1 then rI h 10 0 9 else if k = 2 then nI n else if k = 3 then cntB (hlp h) n 0 0 else if k = 4 then cntB (stk5 h) n 0 0 else if k = 5 then cntB (rwT h) 6 0 0 else if k = 6 then cntB (txT h) 4 0 0 else cntB (lwT h) 2 0 0
theorem isH {h : zM} {np n m : Nat} (H : InvN h np n) (hm : m < n) : f_X2_isHelped (some (2, m)) h = some (if hlp h m = true then 1 else 0, h) := by
  have q : ∀ k, rI h 2 m 7 = k → hlp h m = decide ((1 : Int32) ≤ k ∧ k ≤ 3) := fun k e => by
    unfold hlp
    rw [e]
  unfold f_X2_isHelped f_X2_isHelped_24
  rcases knd_vals (H.d hm) with e | e | e | e | e | e <;> rw [q _ e] <;> simp [clR_s, ixR_s, memT1, e] <;> decide
theorem cHlp {h : zM} {np n : Nat} (H : InvN h np n) : ∀ (r fuel m : Nat) (c : Int32), r + m = n → r < fuel → f_X10_marksHelped_4 fuel c (nI m) h = some (cntB (hlp h) r m c, h)
  | 0, fuel + 1, m, c, e, hf => by
    have n40 := H.n40
    unfold f_X10_marksHelped_4
    rw [H.k10, if_pos (nI_le (by omega) (by omega))]
    rfl
  | r + 1, fuel + 1, m, c, e, hf => by
    have n40 := H.n40
    have hm : m < n := by omega
    unfold f_X10_marksHelped_4 f_X10_marksHelped_30
    rw [H.k10, if_neg (nI_ge hm (by omega))]
    simp only [H.x3, decide_true, Bool.true_and, Bool.and_true, ixOk_nI (show m < 40 by omega) (by decide), if_true, nI_clamp (show m < 2 ^ 31 by omega), H.m29 hm, clR_s, ixR_s, memT1, nI_1, isH H hm, Option.bind_some]
    rw [show cntB (hlp h) (r + 1) m c = cntB (hlp h) r (m + 1) (c + if hlp h m = true then 1 else 0) from rfl]
    by_cases a : hlp h m = true
    · rw [if_pos a, if_neg (by decide)]
      exact cHlp H r fuel (m + 1) _ (by omega) (by omega)
    · rw [if_neg a, if_pos rfl]
      exact cHlp H r fuel (m + 1) _ (by omega) (by omega)
theorem cStk {h : zM} {np n : Nat} (H : InvN h np n) : ∀ (r fuel m : Nat) (c : Int32), r + m = n → r < fuel → f_X10_marksStruck_4 fuel c (nI m) h = some (cntB (stk5 h) r m c, h)
  | 0, fuel + 1, m, c, e, hf => by
    have n40 := H.n40
    unfold f_X10_marksStruck_4
    rw [H.k10, if_pos (nI_le (by omega) (by omega))]
    rfl
  | r + 1, fuel + 1, m, c, e, hf => by
    have n40 := H.n40
    have hm : m < n := by omega
    unfold f_X10_marksStruck_4 f_X10_marksStruck_31
    rw [H.k10, if_neg (nI_ge hm (by omega))]
    simp only [H.x3, decide_true, Bool.true_and, Bool.and_true, ixOk_nI (show m < 40 by omega) (by decide), if_true, nI_clamp (show m < 2 ^ 31 by omega), H.m29 hm, clR_s, ixR_s, memT1, nI_1]
    rw [show cntB (stk5 h) (r + 1) m c = cntB (stk5 h) r (m + 1) (c + if stk5 h m = true then 1 else 0) from rfl]
    by_cases a : rI h 2 m 7 = 5
    · rw [if_neg (fun z => z a), if_pos (show stk5 h m = true from decide_eq_true a)]
      exact cStk H r fuel (m + 1) _ (by omega) (by omega)
    · rw [if_pos a, if_neg (fun z : stk5 h m = true => a (of_decide_eq_true z))]
      exact cStk H r fuel (m + 1) _ (by omega) (by omega)
theorem mHlp {h : zM} {np n : Nat} (H : InvN h np n) : ∀ (r fuel m : Nat) (c : Int32), r + m = n → r < fuel → f_X11_counts_61 fuel 3 c (nI m) h = some (cntB (hlp h) r m c, h)
  | 0, fuel + 1, m, c, e, hf => by
    have n40 := H.n40
    unfold f_X11_counts_61
    rw [H.mk13, if_pos (nI_le (by omega) (by omega))]
    rfl
  | r + 1, fuel + 1, m, c, e, hf => by
    have n40 := H.n40
    have hm : m < n := by omega
    unfold f_X11_counts_61 f_X11_counts_112
    rw [H.mk13, if_neg (nI_ge hm (by omega)), if_neg (fun z => z rfl)]
    simp only [mp0 H hm, in_eq, Option.bind_some, nI_1]
    rw [show cntB (hlp h) (r + 1) m c = cntB (hlp h) r (m + 1) (c + if hlp h m = true then 1 else 0) from rfl]
    by_cases a : (1 : Int32) ≤ rI h 2 m 7 ∧ rI h 2 m 7 ≤ 3
    · rw [if_pos a, if_neg (show ¬ (1 : Int32) = 0 by decide), if_pos (show hlp h m = true from decide_eq_true a)]
      exact mHlp H r fuel (m + 1) _ (by omega) (by omega)
    · rw [if_neg a, if_pos rfl, if_neg (fun z : hlp h m = true => a (of_decide_eq_true z))]
      exact mHlp H r fuel (m + 1) _ (by omega) (by omega)
theorem mStk {h : zM} {np n : Nat} (H : InvN h np n) : ∀ (r fuel m : Nat) (c : Int32), r + m = n → r < fuel → f_X11_counts_61 fuel 4 c (nI m) h = some (cntB (stk5 h) r m c, h)
  | 0, fuel + 1, m, c, e, hf => by
    have n40 := H.n40
    unfold f_X11_counts_61
    rw [H.mk13, if_pos (nI_le (by omega) (by omega))]
    rfl
  | r + 1, fuel + 1, m, c, e, hf => by
    have n40 := H.n40
    have hm : m < n := by omega
    unfold f_X11_counts_61 f_X11_counts_112
    rw [H.mk13, if_neg (nI_ge hm (by omega)), if_pos (show ¬ (4 : Int32) = 3 by decide)]
    simp only [mp0 H hm, Option.bind_some, nI_1]
    rw [show cntB (stk5 h) (r + 1) m c = cntB (stk5 h) r (m + 1) (c + if stk5 h m = true then 1 else 0) from rfl]
    by_cases a : rI h 2 m 7 = 5
    · rw [if_neg (fun z => z a), if_pos (show stk5 h m = true from decide_eq_true a)]
      exact mStk H r fuel (m + 1) _ (by omega) (by omega)
    · rw [if_pos a, if_neg (fun z : stk5 h m = true => a (of_decide_eq_true z))]
      exact mStk H r fuel (m + 1) _ (by omega) (by omega)
theorem sizR.neg {h : zM} {cm cx r : Nat} (hc : cx = 6 ∨ cx = 9) (H : sizR h cm cx r) : f_X8_isMissing (some (cx, r)) h = some (if 0 ≤ rI h cm 0 r then 0 else 1, h) := by
  rcases H with ⟨a, b⟩ | ⟨k, hk, a, b⟩
  · rw [miss_T hc b, a, if_neg m9]
  · rw [miss_F hc hk b, a, if_pos (nI_ge0 (by omega))]
theorem cRows {h : zM} {np n : Nat} (H : InvN h np n) : ∀ (r fuel m : Nat) (c : Int32), r + m = 6 → r < fuel → f_X10_stripsThere_4 fuel (some (26, 0)) c (nI m) h = some (cntB (rwT h) r m c, h)
  | 0, fuel + 1, m, c, e, hf => by
    unfold f_X10_stripsThere_4
    rw [clR_s, if_pos (by decide), if_pos (show Int32.ofNat (aln 26) ≤ nI m from nI_le (a := 6) (by omega) (by omega))]
    rfl
  | r + 1, fuel + 1, m, c, e, hf => by
    unfold f_X10_stripsThere_4 f_X10_stripsThere_25
    rw [clR_s, ixR_s, if_pos (by decide), if_neg (show ¬ Int32.ofNat (aln 26) ≤ nI m from nI_ge (b := 6) (by omega) (by decide))]
    have x8 := H.X.2.2.2.2.2.2.2.2.1 m (by omega)
    have ix : ixOk (aln 26) (nI m) = true := ixOk_nI (n := 6) (show m < 6 by omega) (by decide)
    simp only [nI_clamp (show m < 2 ^ 31 by omega), x8, clR_s, memT2a, ix, Bool.true_and, Bool.and_true, show memN [4, 5] (akd 26) = true from rfl, if_true, (H.R m (by omega)).1.neg (Or.inl rfl), Option.bind_some, nI_1]
    rw [show cntB (rwT h) (r + 1) m c = cntB (rwT h) r (m + 1) (c + if rwT h m = true then 1 else 0) from rfl]
    by_cases a : 0 ≤ rI h 33 0 m
    · rw [if_pos a, if_pos rfl, if_pos (show rwT h m = true from decide_eq_true a)]
      exact cRows H r fuel (m + 1) _ (by omega) (by omega)
    · rw [if_neg a, if_neg (show ¬ (1 : Int32) = 0 by decide), if_neg (fun z : rwT h m = true => a (of_decide_eq_true z))]
      exact cRows H r fuel (m + 1) _ (by omega) (by omega)
theorem cTxts {h : zM} {np n : Nat} (H : InvN h np n) : ∀ (r fuel m : Nat) (c : Int32), r + m = 4 → r < fuel → f_X10_stripsThere_4 fuel (some (27, 0)) c (nI m) h = some (cntB (txT h) r m c, h)
  | 0, fuel + 1, m, c, e, hf => by
    unfold f_X10_stripsThere_4
    rw [clR_s, if_pos (by decide), if_pos (show Int32.ofNat (aln 27) ≤ nI m from nI_le (a := 4) (by omega) (by omega))]
    rfl
  | r + 1, fuel + 1, m, c, e, hf => by
    unfold f_X10_stripsThere_4 f_X10_stripsThere_25
    rw [clR_s, ixR_s, if_pos (by decide), if_neg (show ¬ Int32.ofNat (aln 27) ≤ nI m from nI_ge (b := 4) (by omega) (by decide))]
    have x8 := H.X.2.2.2.2.2.2.2.2.2.2.1 m (by omega)
    have ix : ixOk (aln 27) (nI m) = true := ixOk_nI (n := 4) (show m < 4 by omega) (by decide)
    simp only [nI_clamp (show m < 2 ^ 31 by omega), x8, clR_s, memT2b, ix, Bool.true_and, Bool.and_true, show memN [4, 5] (akd 27) = true from rfl, if_true, (H.T m (by omega)).1.neg (Or.inr rfl), Option.bind_some, nI_1]
    rw [show cntB (txT h) (r + 1) m c = cntB (txT h) r (m + 1) (c + if txT h m = true then 1 else 0) from rfl]
    by_cases a : 0 ≤ rI h 36 0 m
    · rw [if_pos a, if_pos rfl, if_pos (show txT h m = true from decide_eq_true a)]
      exact cTxts H r fuel (m + 1) _ (by omega) (by omega)
    · rw [if_neg a, if_neg (show ¬ (1 : Int32) = 0 by decide), if_neg (fun z : txT h m = true => a (of_decide_eq_true z))]
      exact cTxts H r fuel (m + 1) _ (by omega) (by omega)
theorem mRows {h : zM} {np n : Nat} (H : InvN h np n) : ∀ (r fuel m : Nat) (c : Int32), r + m = 6 → r < fuel → f_X11_counts_124 fuel c (nI m) h = some (cntB (rwT h) r m c, h)
  | 0, fuel + 1, m, c, e, hf => by
    unfold f_X11_counts_124
    rw [if_pos (show (6 : Int32) ≤ nI m from nI_le (a := 6) (by omega) (by omega))]
    rfl
  | r + 1, fuel + 1, m, c, e, hf => by
    unfold f_X11_counts_124 f_X11_counts_145
    rw [if_neg (show ¬ (6 : Int32) ≤ nI m from nI_ge (b := 6) (by omega) (by decide))]
    have m2 := H.M.2.1
    simp only [nI_clamp (show m < 2 ^ 31 by omega), ixOk_nI (show m < 6 by omega) (by decide), m2, decide_true, Bool.true_and, Bool.and_true, if_true, nI_1]
    rw [show cntB (rwT h) (r + 1) m c = cntB (rwT h) r (m + 1) (c + if rwT h m = true then 1 else 0) from rfl]
    by_cases a : 0 ≤ rI h 33 0 m
    · rw [if_neg (Int32.not_lt.mpr a), if_pos (show rwT h m = true from decide_eq_true a)]
      exact mRows H r fuel (m + 1) _ (by omega) (by omega)
    · rw [if_pos (Int32.not_le.mp a), if_neg (fun z : rwT h m = true => a (of_decide_eq_true z))]
      exact mRows H r fuel (m + 1) _ (by omega) (by omega)
theorem mTxts {h : zM} {np n : Nat} (H : InvN h np n) : ∀ (r fuel m : Nat) (c : Int32), r + m = 4 → r < fuel → f_X11_counts_157 fuel c (nI m) h = some (cntB (txT h) r m c, h)
  | 0, fuel + 1, m, c, e, hf => by
    unfold f_X11_counts_157
    rw [if_pos (show (4 : Int32) ≤ nI m from nI_le (a := 4) (by omega) (by omega))]
    rfl
  | r + 1, fuel + 1, m, c, e, hf => by
    unfold f_X11_counts_157 f_X11_counts_177
    rw [if_neg (show ¬ (4 : Int32) ≤ nI m from nI_ge (b := 4) (by omega) (by decide))]
    have m2 := H.M.2.2.2.2.1
    simp only [nI_clamp (show m < 2 ^ 31 by omega), ixOk_nI (show m < 4 by omega) (by decide), m2, decide_true, Bool.true_and, Bool.and_true, if_true, nI_1]
    rw [show cntB (txT h) (r + 1) m c = cntB (txT h) r (m + 1) (c + if txT h m = true then 1 else 0) from rfl]
    by_cases a : 0 ≤ rI h 36 0 m
    · rw [if_neg (Int32.not_lt.mpr a), if_pos (show txT h m = true from decide_eq_true a)]
      exact mTxts H r fuel (m + 1) _ (by omega) (by omega)
    · rw [if_pos (Int32.not_le.mp a), if_neg (fun z : txT h m = true => a (of_decide_eq_true z))]
      exact mTxts H r fuel (m + 1) _ (by omega) (by omega)
theorem LW.nn {h : zM} (H : LW h) {l : Nat} (hl : l < 2) : (rR h 30 0 l = none) ↔ rI h 43 0 l = 0 := by
  rcases H.lv hl with ⟨a, b⟩ | ⟨i, N, V⟩
  · simp [a, b]
  · rw [V.1, V.2.2.1]
    simp
theorem cLaws {h : zM} {np n : Nat} (H : InvN h np n) : ∀ (r fuel m : Nat) (c : Int32), r + m = 2 → r < fuel → f_X10_lawsThere_4 fuel c (nI m) h = some (cntB (lwT h) r m c, h)
  | 0, fuel + 1, m, c, e, hf => by
    unfold f_X10_lawsThere_4
    rw [if_pos (show (2 : Int32) ≤ nI m from nI_le (a := 2) (by omega) (by omega))]
    rfl
  | r + 1, fuel + 1, m, c, e, hf => by
    unfold f_X10_lawsThere_4 f_X10_lawsThere_24
    rw [if_neg (show ¬ (2 : Int32) ≤ nI m from nI_ge (b := 2) (by omega) (by decide))]
    have x4 := H.X.2.2.2.2.1
    simp only [nI_clamp (show m < 2 ^ 31 by omega), ixOk_nI (show m < 2 by omega) (by decide), x4, decide_true, Bool.true_and, Bool.and_true, if_true, nI_1]
    rw [show cntB (lwT h) (r + 1) m c = cntB (lwT h) r (m + 1) (c + if lwT h m = true then 1 else 0) from rfl]
    have nn := H.L.nn (show m < 2 by omega)
    by_cases a : rI h 43 0 m = 0
    · rw [if_pos (nn.mpr a), if_neg (fun z : lwT h m = true => (of_decide_eq_true z) a)]
      exact cLaws H r fuel (m + 1) _ (by omega) (by omega)
    · rw [if_neg (fun z => a (nn.mp z)), if_pos (show lwT h m = true from decide_eq_true a)]
      exact cLaws H r fuel (m + 1) _ (by omega) (by omega)
theorem cCnt {h : zM} {np n k : Nat} (H : InvN h np n) (hk : k < 8) : f_X10_count (nI k) h = some (cv h n k, h) := by
  have n40 := H.n40
  have x0 := H.X.1
  have x1 := H.X.2.1
  obtain rfl | rfl | rfl | rfl | rfl | rfl | rfl | rfl : k = 0 ∨ k = 1 ∨ k = 2 ∨ k = 3 ∨ k = 4 ∨ k = 5 ∨ k = 6 ∨ k = 7 := by omega
  · rfl
  · rfl
  · show some (rI h 10 0 10, h) = _
    rw [H.k10]
    rfl
  · have := cHlp H n 1000 0 0 (by omega) (by omega)
    show (f_X10_marksHelped h).bind _ = _
    rw [show f_X10_marksHelped h = _ from this]
    rfl
  · have := cStk H n 1000 0 0 (by omega) (by omega)
    show (f_X10_marksStruck h).bind _ = _
    rw [show f_X10_marksStruck h = _ from this]
    rfl
  · have := cRows H 6 1000 0 0 (by omega) (by omega)
    unfold f_X10_count
    simp only [show nI 5 = 5 from rfl, show ¬ (5 : Int32) = 0 by decide, show ¬ (5 : Int32) = 1 by decide, show ¬ (5 : Int32) = 2 by decide, show ¬ (5 : Int32) = 3 by decide, show ¬ (5 : Int32) = 4 by decide, if_false, if_true, x0, decide_true, Bool.and_true]
    rw [show f_X10_stripsThere (some (26, 0)) h = _ from this]
    rfl
  · have := cTxts H 4 1000 0 0 (by omega) (by omega)
    unfold f_X10_count
    simp only [show nI 6 = 6 from rfl, show ¬ (6 : Int32) = 0 by decide, show ¬ (6 : Int32) = 1 by decide, show ¬ (6 : Int32) = 2 by decide, show ¬ (6 : Int32) = 3 by decide, show ¬ (6 : Int32) = 4 by decide, show ¬ (6 : Int32) = 5 by decide, if_false, if_true, x1, decide_true, Bool.and_true]
    rw [show f_X10_stripsThere (some (27, 0)) h = _ from this]
    rfl
  · have := cLaws H 2 1000 0 0 (by omega) (by omega)
    show (f_X10_lawsThere h).bind _ = _
    rw [show f_X10_lawsThere h = _ from this]
    rfl
theorem mCnt {h : zM} {np n k : Nat} (H : InvN h np n) (hk : k < 8) : f_X11_counts (nI k) h = some (cv h n k, h) := by
  have n40 := H.n40
  have m26 := H.M.2.2.2.2.2.2.2.2.2.2.2.1
  obtain ⟨d, -, d1, d2⟩ := H.D
  obtain rfl | rfl | rfl | rfl | rfl | rfl | rfl | rfl : k = 0 ∨ k = 1 ∨ k = 2 ∨ k = 3 ∨ k = 4 ∨ k = 5 ∨ k = 6 ∨ k = 7 := by omega
  · show some (rI h 11 0 5, h) = some (rI h 10 0 8, h)
    rw [d1, d2]
  · show some (rI h 11 0 11, h) = some (rI h 10 0 9, h)
    rw [H.P.2.1, H.P.2.2.1]
  · show some (rI h 11 0 13, h) = _
    rw [H.mk13]
    rfl
  · exact mHlp H n 1000 0 0 (by omega) (by omega)
  · exact mStk H n 1000 0 0 (by omega) (by omega)
  · exact mRows H 6 1000 0 0 (by omega) (by omega)
  · exact mTxts H 4 1000 0 0 (by omega) (by omega)
  · unfold f_X11_counts f_X11_counts_201
    simp only [show nI 7 = 7 from rfl, show ¬ (7 : Int32) = 0 by decide, show ¬ (7 : Int32) = 1 by decide, show ¬ (7 : Int32) = 2 by decide, show ¬ (7 : Int32) = 3 by decide, show ¬ (7 : Int32) = 4 by decide, show ¬ (7 : Int32) = 5 by decide, show ¬ (7 : Int32) = 6 by decide, if_false, if_true, m26, decide_true, Bool.and_true, show Int32.toNatClampNeg 0 = 0 from rfl, show Int32.toNatClampNeg 1 = 1 from rfl]
    have e : cv h n 7 = 0 + (if lwT h 0 = true then 1 else 0) + (if lwT h 1 = true then 1 else 0) := rfl
    rw [e]
    by_cases a : rI h 43 0 0 = 0
    · rw [if_pos a, if_neg (fun z : lwT h 0 = true => (of_decide_eq_true z) a)]
      by_cases b : rI h 43 0 1 = 0
      · rw [if_pos b, if_neg (fun z : lwT h 1 = true => (of_decide_eq_true z) b)]
        rfl
      · rw [if_neg b, if_pos (show lwT h 1 = true from decide_eq_true b)]
        rfl
    · rw [if_neg a, if_pos (show lwT h 0 = true from decide_eq_true a)]
      by_cases b : rI h 43 0 1 = 0
      · rw [if_pos b, if_neg (fun z : lwT h 1 = true => (of_decide_eq_true z) b)]
        rfl
      · rw [if_neg b, if_pos (show lwT h 1 = true from decide_eq_true b)]
        rfl
theorem op_count {h : zM} {np n : Nat} (hI : Inv h np n) (x : Int32) : Okk h (f_X10_count x) (f_X11_count x) := by
  have H := hI.N
  rcases rng x 7 (by decide) with ⟨k, hk, rfl⟩ | hx
  · have hw := win hk (by omega)
    rw [← lit 7] at hw
    refine Okk.same hI (cCnt H (by omega)) ?_
    unfold f_X11_count
    simp [in_T hw, mCnt H (show k < 8 by omega)]
  · have hw := wout hx
    rw [← lit 7] at hw
    have ne : ∀ j : Int32, (0 : Int32) ≤ j ∧ j ≤ 7 → ¬ x = j := fun j q e => hw (by rw [e]; exact q)
    refine Okk.same hI (a := -1) ?_ ?_
    · unfold f_X10_count
      rw [if_neg (ne 0 (by decide)), if_neg (ne 1 (by decide)), if_neg (ne 2 (by decide)), if_neg (ne 3 (by decide)), if_neg (ne 4 (by decide)), if_neg (ne 5 (by decide)), if_neg (ne 6 (by decide)), if_neg (ne 7 (by decide))]
    · unfold f_X11_count
      simp [in_F hw]
