/-! choices -/
def cI (n k : Nat) : Nat → Nat → Int64 → Int64
  | 0, _, w => w
  | r + 1, i, w => cI n k r (i + 1) (w * lN (n - k + i) / lN i)
def mI (n : Nat) : Nat → Nat → Int64 → Int64
  | 0, _, w => w
  | r + 1, i, w => mI n r (i + 1) (w * lN (n - i + 1) / lN i)
def tn (n k : Nat) : Nat → Nat → Nat → Nat
  | 0, _, w => w
  | r + 1, i, w => tn n k r (i + 1) (w * (n - k + i) / i)
theorem ch_all : ∀ n, n < 41 → ∀ k, k < 41 → k ≤ n → cI n k k 1 1 = lN (tn n k k 1 1) ∧ mI n k 1 1 = lN (tn n k k 1 1) ∧ 1 ≤ tn n k k 1 1 ∧ tn n k k 1 1 ≤ 2 ^ n := by decide +kernel
def chN (n k : Nat) : Nat := if k ≤ n then tn n k k 1 1 else 0
theorem chN_le {n k : Nat} (hn : n ≤ 40) : chN n k ≤ 2 ^ n := by
  unfold chN
  by_cases c : k ≤ n
  · rw [if_pos c]
    exact (ch_all n (by omega) k (by omega) c).2.2.2
  · rw [if_neg c]
    exact Nat.zero_le _
theorem chN_pos {n k : Nat} (hn : n ≤ 40) (hk : k ≤ n) : 1 ≤ chN n k := by
  unfold chN
  rw [if_pos hk]
  exact (ch_all n (by omega) k (by omega) hk).2.2.1
theorem l_ne0 {i : Nat} (h1 : 1 ≤ i) (h2 : i < 2 ^ 31) : ¬ Int32.toInt64 (nI i) = 0 := by
  rw [nI_l h2]
  intro e
  have := (lN_z (by omega)).mp e
  omega
theorem cCh_loop {n k : Nat} (hn : n ≤ 100) (hk : k ≤ n) {h : zM} : ∀ (r fuel i : Nat) (w : Int64), r + i = k + 1 → 1 ≤ i → r < fuel → f_X10_choose_16 fuel (nI n) (nI k) w (nI i) h = some (cI n k r i w, h)
  | 0, fuel + 1, i, w, e, h1, hf => by
    unfold f_X10_choose_16
    rw [if_pos (nI_lt (by omega) (by omega))]
    rfl
  | r + 1, fuel + 1, i, w, e, h1, hf => by
    have z := l_ne0 h1 (show i < 2 ^ 31 by omega)
    unfold f_X10_choose_16
    rw [if_neg (nI_nlt (by omega) (by omega)), if_pos (by simp [z]), nI_sub hk, nI_add, nI_l (show n - k + i < 2 ^ 31 by omega), nI_l (show i < 2 ^ 31 by omega), nI_1, cCh_loop hn hk r fuel (i + 1) _ (by omega) (by omega) (by omega)]
    rfl
theorem mCh_loop {n k : Nat} (hn : n ≤ 100) (hk : k ≤ n) {h : zM} : ∀ (r fuel i : Nat) (w : Int64), r + i = k + 1 → 1 ≤ i → r < fuel → f_X11_ways_16 fuel (nI n) (nI k) w (nI i) h = some (mI n r i w, h)
  | 0, fuel + 1, i, w, e, h1, hf => by
    unfold f_X11_ways_16
    rw [if_pos (nI_lt (by omega) (by omega))]
    rfl
  | r + 1, fuel + 1, i, w, e, h1, hf => by
    have z := l_ne0 h1 (show i < 2 ^ 31 by omega)
    unfold f_X11_ways_16
    rw [if_neg (nI_nlt (by omega) (by omega)), if_pos (by simp [z]), nI_sub (show i ≤ n by omega), nI_1, nI_l (show n - i + 1 < 2 ^ 31 by omega), nI_l (show i < 2 ^ 31 by omega), nI_1, mCh_loop hn hk r fuel (i + 1) _ (by omega) (by omega) (by omega)]
    rfl
theorem cCh {n k : Nat} (hn : n ≤ 40) (hk : k ≤ 1000) (h : zM) : f_X10_choose (nI n) (nI k) h = some (lN (chN n k), h) := by
  unfold f_X10_choose chN
  rw [if_neg (nI_pos (by omega))]
  by_cases c : k ≤ n
  · rw [if_pos (nI_le c (by omega)), if_pos c, ← (ch_all n (by omega) k (by omega) c).1]
    exact cCh_loop (by omega) c k 1000 1 1 (by omega) (by omega) (by omega)
  · rw [if_neg (nI_ge (by omega) (by omega)), if_neg c]
    rfl
theorem mCh {n k : Nat} (hn : n ≤ 40) (hk : k ≤ 1000) (h : zM) : f_X11_ways (nI n) (nI k) h = some (lN (chN n k), h) := by
  unfold f_X11_ways chN
  rw [if_neg (nI_pos (by omega))]
  by_cases c : k ≤ n
  · rw [if_pos (nI_le c (by omega)), if_pos c, ← (ch_all n (by omega) k (by omega) c).2.1]
    exact mCh_loop (by omega) c k 1000 1 1 (by omega) (by omega) (by omega)
  · rw [if_neg (nI_ge (by omega) (by omega)), if_neg c]
    rfl
theorem cPw_loop {b j : Nat} (hb : b < 100) (hj : j ≤ 100) {h : zM} : ∀ (r fuel i w : Nat), r + i = j → r < fuel → f_X10_power_5 fuel (nI b) (nI j) (lN w) (nI i) h = some (lN (w * b ^ r), h)
  | 0, fuel + 1, i, w, e, hf => by
    unfold f_X10_power_5
    rw [if_pos (nI_le (by omega) (by omega)), Nat.pow_zero, Nat.mul_one]
  | r + 1, fuel + 1, i, w, e, hf => by
    unfold f_X10_power_5
    rw [if_neg (nI_ge (by omega) (by omega)), nI_l (show b < 2 ^ 31 by omega), lN_mul, nI_1, cPw_loop hb hj r fuel (i + 1) (w * b) (by omega) (by omega), Nat.pow_succ, Nat.mul_assoc, Nat.mul_comm b]
theorem cPw {b j : Nat} (hb : b < 100) (hj : j ≤ 100) (h : zM) : f_X10_power (nI b) (nI j) h = some (lN (b ^ j), h) := by
  have := cPw_loop hb hj (h := h) j 1000 0 1 (by omega) (by omega)
  rw [Nat.one_mul] at this
  exact this
/-! a gauge that reads just so -/
def sF (n : Nat) : Nat → Nat → Nat → Nat
  | 0, _, w => w
  | r + 1, k, w => sF n r (k + 1) (w + chN n k * 4 ^ (n - k))
def sM (n e : Nat) : Nat → Nat → Nat
  | 0, w => w
  | k + 1, w => sM n e k (w + if k < e then 0 else chN n k * 4 ^ (n - k))
theorem five_all : ∀ n, n < 21 → ∀ e, e < 21 → e ≤ n → sM n e (n + 1) 0 = sF n (n + 1 - e) e 0 ∧ sF n (n + 1 - e) e 0 < 2 ^ 60 ∧ 5 ^ n < 2 ^ 48 := by decide +kernel
theorem cFive_loop {n : Nat} (hn : n ≤ 20) {h : zM} : ∀ (r fuel k w : Nat), r + k = n + 1 → r < fuel → f_X10_tellOddsOfFive_5 fuel (nI n) (lN w) (nI k) h = f_X10_tellFraction (lN (sF n r k w)) (lN (5 ^ n)) h
  | 0, fuel + 1, k, w, e, hf => by
    unfold f_X10_tellOddsOfFive_5
    have p : f_X10_power 5 (nI n) h = _ := cPw (b := 5) (j := n) (by decide) (by omega) h
    rw [if_pos (nI_lt (by omega) (by omega)), p]
    show (f_X10_tellFraction (lN w) (lN (5 ^ n)) h).bind _ = _
    rw [show sF n 0 k w = w from rfl]
    cases f_X10_tellFraction (lN w) (lN (5 ^ n)) h <;> rfl
  | r + 1, fuel + 1, k, w, e, hf => by
    unfold f_X10_tellOddsOfFive_5
    have p : f_X10_power 4 (nI (n - k)) h = _ := cPw (b := 4) (j := n - k) (by decide) (by omega) h
    rw [if_neg (nI_nlt (by omega) (by omega)), cCh (by omega) (by omega), Option.bind_some, nI_sub (by omega), p, Option.bind_some, lN_mul, lN_add, nI_1, cFive_loop hn r fuel (k + 1) (w + chN n k * 4 ^ (n - k)) (by omega) (by omega)]
    rfl
theorem mQuad_loop {n k e : Nat} (hn : n ≤ 20) (hk : k ≤ n) (K : Int32 → Int32 → Int64 → Int64 → Int32 → zM → Option (Int32 × zM)) {a : Int64} {s : Nat} {h : zM} (he : e ≤ 20) : ∀ (r fuel i w : Nat), r + i = n - k → r < fuel → f_X11_just_122 K fuel (nI n) (nI e) a (lN s) (nI k) (lN w) (nI i) h = K (nI n) (nI e) a (lN (s + if k < e then 0 else w * 4 ^ r)) (nI k + (-1)) h
  | 0, fuel + 1, i, w, q, hf => by
    unfold f_X11_just_122 f_X11_just_159
    rw [nI_sub hk, if_pos (nI_le (by omega) (by omega))]
    by_cases c : k < e
    · rw [if_pos (nI_lt c (by omega)), if_pos c, Nat.add_zero, Int64.add_zero]
    · rw [if_neg (nI_nlt (by omega) (by omega)), if_neg c, lN_add, Nat.pow_zero, Nat.mul_one]
  | r + 1, fuel + 1, i, w, q, hf => by
    unfold f_X11_just_122
    rw [nI_sub hk, if_neg (nI_ge (by omega) (by omega)), show lN w * 4 = lN (w * 4) from lN_mul w 4, nI_1, mQuad_loop hn hk K he r fuel (i + 1) (w * 4) (by omega) (by omega), Nat.pow_succ, Nat.mul_assoc, Nat.mul_comm 4]
theorem mPen_loop {n : Nat} (hn : n ≤ 20) {x : Int32} {s : Int64} {h : zM} : ∀ (r fuel i w : Nat), r + i = n → r < fuel → f_X11_just_171 fuel (nI n) x (lN w) s (nI i) h = f_X11_tell s (lN (w * 5 ^ r)) x h
  | 0, fuel + 1, i, w, q, hf => by
    unfold f_X11_just_171
    rw [if_pos (nI_le (by omega) (by omega)), Nat.pow_zero, Nat.mul_one, ob]
  | r + 1, fuel + 1, i, w, q, hf => by
    unfold f_X11_just_171
    rw [if_neg (nI_ge (by omega) (by omega)), show lN w * 5 = lN (w * 5) from lN_mul w 5, nI_1, mPen_loop hn r fuel (i + 1) (w * 5) (by omega) (by omega), Nat.pow_succ, Nat.mul_assoc, Nat.mul_comm 5]
theorem mFive_loop {n e : Nat} (hn : n ≤ 20) (he : e ≤ 20) {h : zM} : ∀ (k fuel s : Nat), k ≤ n + 1 → k < fuel → f_X11_just_106 fuel (nI n) (nI e) 1 (lN s) (nI k - 1) h = f_X11_tell (lN (sM n e k s)) (lN (5 ^ n)) (nI e) h
  | 0, fuel + 1, s, hk, hf => by
    unfold f_X11_just_106
    rw [if_pos (by decide)]
    have := mPen_loop hn (x := nI e) (s := lN s) (h := h) n 1000 0 1 (by omega) (by omega)
    rw [Nat.one_mul] at this
    exact this
  | k + 1, fuel + 1, s, hk, hf => by
    have e1 : nI k + (-1) = nI k - 1 := by rw [Int32.sub_eq_add_neg]
    unfold f_X11_just_106
    rw [nI_pred, if_neg (nI_pos (by omega)), mCh (by omega) (by omega), Option.bind_some]
    have := mQuad_loop hn (show k ≤ n by omega) (f_X11_just_106 fuel) (a := 1) (s := s) (h := h) he (n - k) 1000 0 (chN n k) (by omega) (by omega)
    rw [show (0 : Int32) = nI 0 from rfl]
    dsimp only
    rw [this, e1, mFive_loop hn he k fuel _ (by omega) (by omega)]
    rfl
def jl (g : Nat → Int32) (w : Int32) : Nat → Nat → Nat × Nat → Nat × Nat
  | 0, _, s => s
  | r + 1, m, s => if 20 ≤ s.1 then s else jl g w r (m + 1) (if w - 2 ≤ g m ∧ g m ≤ w + 2 then (s.1 + 1, s.2 + if g m = w then 1 else 0) else s)
theorem jl_bd {g : Nat → Int32} {w : Int32} : ∀ (r m : Nat) (s : Nat × Nat), s.2 ≤ s.1 → s.1 ≤ 20 → (jl g w r m s).2 ≤ (jl g w r m s).1 ∧ (jl g w r m s).1 ≤ 20
  | 0, m, s, a, b => ⟨a, b⟩
  | r + 1, m, s, a, b => by
    unfold jl
    by_cases c : 20 ≤ s.1
    · rw [if_pos c]
      exact ⟨a, b⟩
    · rw [if_neg c]
      apply jl_bd r (m + 1)
      · by_cases d : w - 2 ≤ g m ∧ g m ≤ w + 2
        · rw [if_pos d]
          by_cases e : g m = w <;> simp only [e, if_true, if_false] <;> omega
        · rw [if_neg d]
          exact a
      · by_cases d : w - 2 ≤ g m ∧ g m ≤ w + 2
        · rw [if_pos d]
          show s.1 + 1 ≤ 20
          omega
        · rw [if_neg d]
          exact b
theorem cJl {h : zM} {np n : Nat} (H : InvN h np n) {w : Int32} : ∀ (r fuel m : Nat) (s : Nat × Nat), r + m = n → r < fuel → s.1 ≤ 20 → f_X10_just_20 fuel w (nI s.1) (nI s.2) (nI m) h = f_X10_just_88 (nI (jl (fun m => rI h 2 m 5) w r m s).1) (nI (jl (fun m => rI h 2 m 5) w r m s).2) h
  | 0, fuel + 1, m, s, e, hf, hs => by
    have n40 := H.n40
    unfold f_X10_just_20
    rw [H.k10, if_pos (nI_le (by omega) (by omega))]
    rfl
  | r + 1, fuel + 1, m, s, e, hf, hs => by
    have n40 := H.n40
    have hm : m < n := by omega
    unfold f_X10_just_20 f_X10_just_80 f_X10_just_82
    rw [H.k10, if_neg (nI_ge hm (by omega))]
    rw [show jl (fun m => rI h 2 m 5) w (r + 1) m s = if 20 ≤ s.1 then s else jl (fun m => rI h 2 m 5) w r (m + 1) (if w - 2 ≤ rI h 2 m 5 ∧ rI h 2 m 5 ≤ w + 2 then (s.1 + 1, s.2 + if rI h 2 m 5 = w then 1 else 0) else s) from rfl]
    by_cases c : 20 ≤ s.1
    · rw [if_pos (show (20 : Int32) ≤ nI s.1 from nI_le (a := 20) c (by omega)), if_pos c]
    · rw [if_neg (show ¬ (20 : Int32) ≤ nI s.1 from nI_ge (b := 20) (by omega) (by decide)), if_neg c]
      simp only [H.x3, decide_true, Bool.true_and, Bool.and_true, ixOk_nI (show m < 40 by omega) (by decide), if_true, nI_clamp (show m < 2 ^ 31 by omega), H.m29 hm, clR_s, ixR_s, memT1, within_eq, Option.bind_some, nI_1]
      by_cases d : w - 2 ≤ rI h 2 m 5 ∧ rI h 2 m 5 ≤ w + 2
      · simp only [d, and_self, if_true, show ¬ (1 : Int32) = 0 by decide, if_false]
        by_cases q : rI h 2 m 5 = w
        · rw [if_neg (fun z => z q), if_pos q]
          exact cJl H r fuel (m + 1) (s.1 + 1, s.2 + 1) (by omega) (by omega) (by show s.1 + 1 ≤ 20; omega)
        · rw [if_pos q, if_neg q, Int32.add_zero]
          exact cJl H r fuel (m + 1) (s.1 + 1, s.2 + 0) (by omega) (by omega) (by show s.1 + 1 ≤ 20; omega)
      · simp only [d, if_false, if_true]
        exact cJl H r fuel (m + 1) s (by omega) (by omega) hs
theorem w2 {w : Int32} (hw : (-58 : Int32) ≤ w ∧ w ≤ 58) : w - 2 ≤ w ∧ w ≤ w + 2 := by
  have a : (-58 : Int32).toInt = -58 := by decide
  have b : (58 : Int32).toInt = 58 := by decide
  have c : (2 : Int32).toInt = 2 := by decide
  rw [Int32.le_iff_toInt_le, Int32.le_iff_toInt_le, a, b] at hw
  rw [Int32.le_iff_toInt_le, Int32.le_iff_toInt_le, Int32.toInt_sub, Int32.toInt_add, c, Int.bmod_eq_of_le (by omega) (by omega), Int.bmod_eq_of_le (by omega) (by omega)]
  omega
theorem mJl {h : zM} {np n : Nat} (H : InvN h np n) {w : Int32} (hw : (-58 : Int32) ≤ w ∧ w ≤ 58) : ∀ (r fuel m : Nat) (s : Nat × Nat), r + m = n → r < fuel → s.1 ≤ 20 → f_X11_just_20 fuel w (nI s.1) (nI s.2) (nI m) h = f_X11_just_87 (nI (jl (fun m => rI h 2 m 5) w r m s).1) (nI (jl (fun m => rI h 2 m 5) w r m s).2) h
  | 0, fuel + 1, m, s, e, hf, hs => by
    have n40 := H.n40
    unfold f_X11_just_20
    rw [H.mk13, if_pos (nI_le (by omega) (by omega))]
    rfl
  | r + 1, fuel + 1, m, s, e, hf, hs => by
    have n40 := H.n40
    have hm : m < n := by omega
    unfold f_X11_just_20 f_X11_just_60 f_X11_just_79
    rw [H.mk13, if_neg (nI_ge hm (by omega))]
    rw [show jl (fun m => rI h 2 m 5) w (r + 1) m s = if 20 ≤ s.1 then s else jl (fun m => rI h 2 m 5) w r (m + 1) (if w - 2 ≤ rI h 2 m 5 ∧ rI h 2 m 5 ≤ w + 2 then (s.1 + 1, s.2 + if rI h 2 m 5 = w then 1 else 0) else s) from rfl]
    by_cases c : 20 ≤ s.1
    · rw [if_pos (show (20 : Int32) ≤ nI s.1 from nI_le (a := 20) c (by omega)), if_pos c]
    · rw [if_neg (show ¬ (20 : Int32) ≤ nI s.1 from nI_ge (b := 20) (by omega) (by decide)), if_neg c]
      simp only [mp5 H hm, in_eq, Option.bind_some, nI_1, Int32.add_zero]
      by_cases d : w - 2 ≤ rI h 2 m 5 ∧ rI h 2 m 5 ≤ w + 2
      · simp only [d, and_self, if_true, show ¬ (1 : Int32) = 0 by decide, if_false]
        by_cases q : rI h 2 m 5 = w
        · rw [if_neg (fun z => z q), if_pos q]
          exact mJl H hw r fuel (m + 1) (s.1 + 1, s.2 + 1) (by omega) (by omega) (by show s.1 + 1 ≤ 20; omega)
        · rw [if_pos q, if_neg q]
          exact mJl H hw r fuel (m + 1) (s.1 + 1, s.2 + 0) (by omega) (by omega) (by show s.1 + 1 ≤ 20; omega)
      · have q : ¬ rI h 2 m 5 = w := fun z => d (by rw [z]; exact w2 hw)
        simp only [d, if_false, if_true, q, not_false_eq_true]
        exact mJl H hw r fuel (m + 1) s (by omega) (by omega) hs
theorem jl_fr {h h' : zM} (F : Fr h h') : (fun m => rI h' 2 m 5) = (fun m => rI h 2 m 5) := by
  funext m
  rw [F.I rfl (by decide)]
theorem op_just {h : zM} {np n : Nat} (hI : Inv h np n) (x : Int32) : Okk h (f_X10_just x) (f_X11_just x) := by
  have H := hI.N
  have n40 := H.n40
  by_cases hw : (-58 : Int32) ≤ x ∧ x ≤ 58
  · have A : f_X10_just_20 1000 x 0 0 0 h = _ := cJl H (w := x) n 1000 0 (0, 0) (by omega) (by omega) (by decide)
    have bd := jl_bd (g := fun m => rI h 2 m 5) (w := x) n 0 (0, 0) (by decide) (by decide)
    have B : ∀ g, Fr h g → f_X11_just_20 1000 x 0 0 0 g = f_X11_just_87 (nI (jl (fun m => rI h 2 m 5) x n 0 (0, 0)).1) (nI (jl (fun m => rI h 2 m 5) x n 0 (0, 0)).2) g := fun g F => by
      rw [← jl_fr F]
      exact mJl (F.N H) hw n 1000 0 (0, 0) (by omega) (by omega) (by decide)
    generalize jl (fun m => rI h 2 m 5) x n 0 (0, 0) = s at A B bd
    have XA : f_X10_just x h = f_X10_just_88 (nI s.1) (nI s.2) h := by
      unfold f_X10_just
      rw [wi_T hw, Option.bind_some, if_pos (show ¬ (1 : Int32) = 0 by decide), A]
    have XB : ∀ g, Fr h g → f_X11_just x g = f_X11_just_87 (nI s.1) (nI s.2) g := fun g F => by
      unfold f_X11_just
      rw [in_T hw, Option.bind_some, if_pos (show ¬ (1 : Int32) = 0 by decide), B g F]
    by_cases c0 : s.1 = 0
    · refine Okk.fnd (f := 4) hI ?_ ?_
      · rw [XA]
        unfold f_X10_just_88
        rw [c0, if_neg (by decide), found_4 H.X]
        rfl
      · rw [XB _ Fr.rf.fndX]
        unfold f_X11_just_87
        rw [c0, if_neg (by decide), meets_4 H.M.fndX]
        rfl
    · have z : ¬ nI s.1 = 0 := nI_ne0 (by omega) (by omega)
      obtain ⟨v1, v2, v3⟩ := five_all s.1 (by omega) s.2 (by omega) bd.1
      have v4 : 0 < 5 ^ s.1 := Nat.pow_pos (by decide)
      have C := cFive_loop (n := s.1) (by omega) (h := h) (s.1 + 1 - s.2) 1000 s.2 0 (by omega) (by omega)
      have D : ∀ g, f_X11_just_106 1000 (nI s.1) (nI s.2) 1 (lN 0) (nI (s.1 + 1) - 1) g = _ := fun g => mFive_loop (n := s.1) (e := s.2) (by omega) (by omega) (h := g) (s.1 + 1) 1000 0 (by omega) (by omega)
      rw [v1, nI_pred] at D
      generalize sF s.1 (s.1 + 1 - s.2) s.2 0 = S at C D v2
      have e : lN S = Int64.ofInt (S : Int) := by rw [Int64.ofInt_eq_ofNat]; rfl
      rw [e] at C D
      refine Okk.frac (h1 := h) (h2 := frX h (S : Int) (5 ^ s.1)) (a := nI s.2) (U := (S : Int)) (b := 5 ^ s.1) hI ?_ ?_ Fr.rf Kp.rf Fr.rf Kp.rf (by show ncM h ≤ _; omega) (by show nsM h ≤ _; omega)
      · rw [XA]
        unfold f_X10_just_88 f_X10_tellOddsOfFive
        rw [if_pos z, show f_X10_tellOddsOfFive_5 1000 (nI s.1) 0 (nI s.2) h = _ from C, tellX (by omega) (by omega) v4 v3]
        rfl
      · have F : Fr h (frX h (S : Int) (5 ^ s.1)) := Fr.rf.wL.wL
        rw [XB _ F]
        unfold f_X11_just_87
        rw [if_pos z, show f_X11_just_106 1000 (nI s.1) (nI s.2) 1 0 (nI s.1) (frX h (S : Int) (5 ^ s.1)) = _ from D _, tellM _ (by omega) (by omega) v4 v3]
  · refine Okk.same hI (a := -1) ?_ ?_
    · unfold f_X10_just
      simp [wi_F hw]
    · unfold f_X11_just
      simp [in_F hw]
