/-- WIND, HEIGHT, HEAT, FLOOR, SHOE of a MARK -/
def asp (h : zM) (m k : Nat) : Int32 := if k = 0 then rI h 2 m 5 else if k = 4 then rI h 2 m 6 else rI h 3 (pl h m) (k - 1)
theorem cAsp {h : zM} {np n m k : Nat} (H : InvN h np n) (hm : m < n) (hk : k < 5) : f_X2_measure (some (2, m)) (nI k) h = some (asp h m k, h) := by
  obtain ⟨-, -, p3⟩ := H.pl hm
  unfold f_X2_measure asp
  obtain rfl | rfl | rfl | rfl | rfl : k = 0 ∨ k = 1 ∨ k = 2 ∨ k = 3 ∨ k = 4 := by omega
  · simp [nI_0, clR_s, ixR_s, memT1]
  · simp [show nI 1 = 1 by decide, clR_s, ixR_s, memT1, p3]
  · simp [show nI 2 = 2 by decide, clR_s, ixR_s, memT1, p3]
  · simp [show nI 3 = 3 by decide, clR_s, ixR_s, memT1, p3]
  · simp [show nI 4 = 4 by decide, clR_s, ixR_s, memT1]
theorem mAsp {h : zM} {np n m k : Nat} (H : InvN h np n) (hm : m < n) (hk : k < 5) : f_X11_aspect (nI m) (nI k) h = some (asp h m k, h) := by
  have m7 := H.M.2.2.2.2.2.2.1
  have p8 := H.P.1
  obtain ⟨p1, -, -⟩ := H.pl hm
  have f := (H.plk p1).1
  unfold f_X11_aspect
  by_cases k0 : k = 0
  · subst k0
    simp [nI_0, mp5 H hm, asp]
  · by_cases k4 : k = 4
    · subst k4
      simp [show nI 4 = 4 by decide, mp6 H hm, asp]
    · have z0 : ¬ nI k = 0 := nI_ne0 (by omega) (by omega)
      have z4 : ¬ nI k = 4 := fun e => k4 ((nI_eq (a := k) (b := 4) (by omega) (by decide)).mp e)
      have e1 : (4 : Int32) * nI (pl h m) + nI k - 1 = nI (4 * pl h m + (k - 1)) := by
        rw [lit 4, pk_mul, nI_add, show 4 * pl h m + k = 4 * pl h m + (k - 1) + 1 by omega, nI_pred]
      unfold asp
      rw [if_neg k0, if_neg k4, f (k - 1) (by omega)]
      simp [z0, z4, mp2 H hm, m7, e1, ixOk_nI (show 4 * pl h m + (k - 1) < 32 by omega) (by decide), nI_clamp (show 4 * pl h m + (k - 1) < 2 ^ 31 by omega)]
def ucl (h : zM) (a b : Nat) : Nat → Nat → Int32 → Int32
  | 0, _, x => x
  | r + 1, k, x => if asp h a k = asp h b k then ucl h a b r (k + 1) x else if x = -9999 then ucl h a b r (k + 1) (nI k) else -9999
def uml (h : zM) (a b : Nat) : Nat → Nat → Int32 → Nat → Int32
  | 0, _, x, c => if c = 1 then x else -9999
  | r + 1, k, x, c => if asp h a k = asp h b k then uml h a b r (k + 1) x c else uml h a b r (k + 1) (nI k) (c + 1)
theorem uml_2 {h : zM} {a b : Nat} : ∀ (r k : Nat) (x : Int32) (c : Nat), 2 ≤ c → uml h a b r k x c = -9999
  | 0, k, x, c, hc => by
    unfold uml
    rw [if_neg (by omega)]
  | r + 1, k, x, c, hc => by
    unfold uml
    rw [uml_2 r (k + 1) x c hc, uml_2 r (k + 1) (nI k) (c + 1) (by omega)]
    simp
theorem nI_n9 {k : Nat} (hk : k < 2 ^ 31) : ¬ nI k = -9999 := by
  intro e
  have := congrArg Int32.toInt e
  rw [nI_toInt hk] at this
  have e9 : (-9999 : Int32).toInt = -9999 := by decide
  omega
theorem uml_1 {h : zM} {a b : Nat} : ∀ (r k : Nat) (x : Int32), ¬ x = -9999 → uml h a b r k x 1 = ucl h a b r k x
  | 0, k, x, hx => by
    unfold uml ucl
    rw [if_pos rfl]
  | r + 1, k, x, hx => by
    unfold uml ucl
    rw [uml_1 r (k + 1) x hx, uml_2 r (k + 1) (nI k) 2 (by omega), if_neg hx]
theorem uml_0 {h : zM} {a b : Nat} : ∀ (r k : Nat), k + r ≤ 100 → uml h a b r k (-9999) 0 = ucl h a b r k (-9999)
  | 0, k, hk => by
    unfold uml ucl
    rw [if_neg (by decide)]
  | r + 1, k, hk => by
    unfold uml ucl
    rw [uml_0 r (k + 1) (by omega), uml_1 r (k + 1) (nI k) (nI_n9 (by omega)), if_pos rfl]
theorem ucl_ne {h : zM} {a b w : Nat} (hw : w < 100) : ∀ (r k : Nat) (x : Int32), k + r ≤ 100 → ucl h a b r k x = nI w → x = nI w ∨ ¬ asp h a w = asp h b w
  | 0, k, x, hk, e => Or.inl e
  | r + 1, k, x, hk, e => by
    unfold ucl at e
    by_cases c : asp h a k = asp h b k
    · rw [if_pos c] at e
      exact ucl_ne hw r (k + 1) x (by omega) e
    · rw [if_neg c] at e
      by_cases c2 : x = -9999
      · rw [if_pos c2] at e
        rcases ucl_ne hw r (k + 1) (nI k) (by omega) e with q | q
        · right
          have : k = w := (nI_eq (by omega) (by omega)).mp q
          rw [← this]
          exact c
        · exact Or.inr q
      · rw [if_neg c2] at e
        exact absurd e.symm (nI_n9 (by omega))
theorem cUcl_loop {h : zM} {np n a b : Nat} (H : InvN h np n) (ha : a < n) (hb : b < n) : ∀ (r fuel k : Nat) (x : Int32), r + k = 5 → r < fuel → f_X10_unlikeIn_90 fuel (some (2, a)) (some (2, b)) x (nI k) h = some (ucl h a b r k x, h)
  | 0, fuel + 1, k, x, e, hf => by
    unfold f_X10_unlikeIn_90
    rw [if_pos (show (5 : Int32) ≤ nI k from nI_le (a := 5) (by omega) (by omega))]
    rfl
  | r + 1, fuel + 1, k, x, e, hf => by
    unfold f_X10_unlikeIn_90 f_X10_unlikeIn_121
    rw [if_neg (show ¬ (5 : Int32) ≤ nI k from nI_ge (b := 5) (by omega) (by decide))]
    simp only [clR_s, memT1, Bool.and_true, if_true, cAsp H ha (show k < 5 by omega), cAsp H hb (show k < 5 by omega), Option.bind_some, nI_1]
    rw [show ucl h a b (r + 1) k x = if asp h a k = asp h b k then ucl h a b r (k + 1) x else if x = -9999 then ucl h a b r (k + 1) (nI k) else -9999 from rfl]
    rw [cUcl_loop H ha hb r fuel (k + 1) x (by omega) (by omega), cUcl_loop H ha hb r fuel (k + 1) (nI k) (by omega) (by omega)]
    by_cases c : asp h a k = asp h b k
    · rw [if_pos c, if_pos c]
    · by_cases c2 : x = -9999
      · rw [if_neg c, if_pos c2, if_neg c, if_pos c2]
      · rw [if_neg c, if_neg c2, if_neg c, if_neg c2]
theorem mUml_loop {h : zM} {np n a b : Nat} (H : InvN h np n) (ha : a < n) (hb : b < n) : ∀ (r fuel k : Nat) (x : Int32) (c : Nat), r + k = 5 → r < fuel → c ≤ k → f_X11_unlikeIn_131 fuel (nI a) (nI b) x (nI c) (nI k) h = some (uml h a b r k x c, h)
  | 0, fuel + 1, k, x, c, e, hf, hc => by
    unfold f_X11_unlikeIn_131 uml
    rw [if_pos (show (5 : Int32) ≤ nI k from nI_le (a := 5) (by omega) (by omega))]
    by_cases c1 : c = 1
    · rw [if_pos c1, if_neg (fun z => z (by rw [c1]; rfl))]
    · rw [if_neg c1, if_pos]
      intro z
      exact c1 ((nI_eq (a := c) (b := 1) (by omega) (by decide)).mp z)
  | r + 1, fuel + 1, k, x, c, e, hf, hc => by
    unfold f_X11_unlikeIn_131 f_X11_unlikeIn_159 f_X11_unlikeIn_173 f_X11_unlikeIn_187
    rw [if_neg (show ¬ (5 : Int32) ≤ nI k from nI_ge (b := 5) (by omega) (by decide))]
    simp only [mAsp H ha (show k < 5 by omega), mAsp H hb (show k < 5 by omega), Option.bind_some, nI_1, Int32.add_zero, if_true, show ¬ (1 : Int32) = 0 by decide, if_false]
    rw [show uml h a b (r + 1) k x c = if asp h a k = asp h b k then uml h a b r (k + 1) x c else uml h a b r (k + 1) (nI k) (c + 1) from rfl]
    rw [mUml_loop H ha hb r fuel (k + 1) x c (by omega) (by omega) (by omega), mUml_loop H ha hb r fuel (k + 1) (nI k) (c + 1) (by omega) (by omega) (by omega)]
    by_cases q : asp h a k = asp h b k
    · rw [if_pos q, if_pos q]
    · rw [if_neg q, if_neg q]
def ab (x : Int32) : Int32 := if 0 ≤ x then x else -x
/-- in which measure alone two MARKS are unlike -/
def unl (h : zM) (a b : Nat) : Int32 := if rI h 2 a 0 = rI h 2 b 0 then if rI h 2 a 7 = 0 then if rI h 2 b 7 = 0 then if ab (rI h 2 a 3 - rI h 2 b 3) < 365 then if (rI h 2 a 5 = -9999) = (rI h 2 b 5 = -9999) then ucl h a b 5 0 (-9999) else -9999 else -9999 else -9999 else -9999 else -9999
theorem unl_ne {h : zM} {a b w : Nat} (hw : w < 100) (e : unl h a b = nI w) : ¬ asp h a w = asp h b w := by
  have n9 := nI_n9 (k := w) (by omega)
  unfold unl at e
  split at e
  · split at e
    · split at e
      · split at e
        · split at e
          · rcases ucl_ne hw 5 0 (-9999) (by omega) e with q | q
            · exact absurd q.symm n9
            · exact q
          · exact absurd e.symm n9
        · exact absurd e.symm n9
      · exact absurd e.symm n9
    · exact absurd e.symm n9
  · exact absurd e.symm n9
theorem cUn {h : zM} {np n a b : Nat} (H : InvN h np n) (ha : a < n) (hb : b < n) : f_X10_unlikeIn (some (2, a)) (some (2, b)) h = some (unl h a b, h) := by
  have L : f_X10_unlikeIn_90 1000 (some (2, a)) (some (2, b)) (-9999) 0 h = _ := cUcl_loop H ha hb 5 1000 0 (-9999) (by decide) (by decide)
  have z : ∀ x : Int32, (0 : Int32) - x = -x := fun x => by rw [Int32.zero_sub]
  unfold f_X10_unlikeIn f_X10_unlikeIn_62 f_X10_unlikeIn_77 unl ab
  simp only [clR_s, ixR_s, memT1, Bool.and_true, if_true, L, z, Bool.true_and]
  generalize (if 0 ≤ rI h 2 a 3 - rI h 2 b 3 then rI h 2 a 3 - rI h 2 b 3 else -(rI h 2 a 3 - rI h 2 b 3)) = d
  by_cases c1 : rI h 2 a 0 = rI h 2 b 0
  · by_cases c2 : rI h 2 a 7 = 0
    · by_cases c3 : rI h 2 b 7 = 0
      · by_cases c4 : d < 365
        · by_cases c5 : rI h 2 a 5 = -9999
          · by_cases c6 : rI h 2 b 5 = -9999
            · simp [c1, c2, c3, c4, c5, c6]
            · simp [c1, c2, c3, c4, c5, c6]
          · by_cases c6 : rI h 2 b 5 = -9999
            · simp [c1, c2, c3, c4, c5, c6]
            · simp [c1, c2, c3, c4, c5, c6]
        · simp [c1, c2, c3, c4]
      · simp [c1, c2, c3]
    · simp [c1, c2]
  · simp [c1]
theorem mUn {h : zM} {np n a b : Nat} (H : InvN h np n) (ha : a < n) (hb : b < n) : f_X11_unlikeIn (nI a) (nI b) h = some (unl h a b, h) := by
  have L : f_X11_unlikeIn_131 1000 (nI a) (nI b) (-9999) 0 0 h = _ := mUml_loop H ha hb 5 1000 0 (-9999) 0 (by decide) (by decide) (by decide)
  rw [uml_0 5 0 (by decide)] at L
  unfold f_X11_unlikeIn f_X11_unlikeIn_35 f_X11_unlikeIn_52 f_X11_unlikeIn_60 f_X11_unlikeIn_110 unl ab
  simp only [mp3 H ha, mp3 H hb, mp5 H ha, mp5 H hb, mp1 H ha, mp1 H hb, mp0 H ha, mp0 H hb, Option.bind_some, L]
  generalize rI h 2 a 3 - rI h 2 b 3 = d
  by_cases c1 : rI h 2 a 0 = rI h 2 b 0
  · by_cases c2 : rI h 2 a 7 = 0
    · by_cases c3 : rI h 2 b 7 = 0
      · by_cases c5 : rI h 2 a 5 = -9999
        · by_cases c6 : rI h 2 b 5 = -9999
          · by_cases c4 : 0 ≤ d
            · simp [c1, c2, c3, c4, c5, c6] <;> split <;> rfl
            · simp [c1, c2, c3, c4, c5, c6] <;> split <;> rfl
          · simp [c1, c2, c3, c5, c6]
        · by_cases c6 : rI h 2 b 5 = -9999
          · simp [c1, c2, c3, c5, c6]
          · by_cases c4 : 0 ≤ d
            · simp [c1, c2, c3, c4, c5, c6] <;> split <;> rfl
            · simp [c1, c2, c3, c4, c5, c6] <;> split <;> rfl
      · simp [c1, c2, c3]
    · simp [c1, c2]
  · simp [c1]
/-! pairs -/
def pin (u : Nat → Nat → Int32) (w : Int32) (a : Nat) : Nat → Nat → Int32 × Int32 → Int32 × Int32
  | 0, _, s => s
  | r + 1, b, s => pin u w a r (b + 1) (if u a b = w then (s.1 + 1, if s.1 = 0 then 100 * nI a + nI b else s.2) else s)
def pout (u : Nat → Nat → Int32) (w : Int32) (n : Nat) : Nat → Nat → Int32 × Int32 → Int32 × Int32
  | 0, _, s => s
  | r + 1, a, s => pout u w n r (a + 1) (pin u w a (n - (a + 1)) (a + 1) s)
theorem InvN.k10 {h : zM} {np n : Nat} (H : InvN h np n) : rI h 10 0 10 = nI n := H.K.2.1
theorem InvN.x3 {h : zM} {np n : Nat} (H : InvN h np n) : rR h 10 0 3 = some (29, 0) := H.X.2.2.2.1
theorem cPin {h : zM} {np n a : Nat} (H : InvN h np n) (ha : a < n) {w : Int32} (K : Int32 → Int32 → Int32 → Int32 → zM → Option (Int32 × zM)) : ∀ (r fuel b : Nat) (s : Int32 × Int32), r + b = n → r < fuel → f_X10_pairs_35 K fuel w s.1 s.2 (nI a) (nI b) h = K w (pin (unl h) w a r b s).1 (pin (unl h) w a r b s).2 (nI (a + 1)) h
  | 0, fuel + 1, b, s, e, hf => by
    have n40 := H.n40
    unfold f_X10_pairs_35
    rw [H.k10, if_pos (nI_le (by omega) (by omega)), nI_1]
    rfl
  | r + 1, fuel + 1, b, s, e, hf => by
    have n40 := H.n40
    have hb : b < n := by omega
    unfold f_X10_pairs_35 f_X10_pairs_85 f_X10_pairs_81 f_X10_pairs_85
    rw [H.k10, if_neg (nI_ge hb (by omega))]
    simp only [H.x3, decide_true, Bool.true_and, Bool.and_true, ixOk_nI (show b < 40 by omega) (by decide), ixOk_nI (show a < 40 by omega) (by decide), if_true, nI_clamp (show a < 2 ^ 31 by omega), nI_clamp (show b < 2 ^ 31 by omega), H.m29 ha, H.m29 hb, cUn H ha hb, Option.bind_some, nI_1]
    rw [show pin (unl h) w a (r + 1) b s = pin (unl h) w a r (b + 1) (if unl h a b = w then (s.1 + 1, if s.1 = 0 then 100 * nI a + nI b else s.2) else s) from rfl]
    by_cases c : unl h a b = w
    · rw [if_neg (fun z => z c), if_pos c]
      by_cases c0 : s.1 = 0
      · rw [if_neg (fun z => z c0), if_pos c0]
        exact cPin H ha K r fuel (b + 1) (s.1 + 1, 100 * nI a + nI b) (by omega) (by omega)
      · rw [if_pos c0, if_neg c0]
        exact cPin H ha K r fuel (b + 1) (s.1 + 1, s.2) (by omega) (by omega)
    · rw [if_pos c, if_neg c]
      exact cPin H ha K r fuel (b + 1) s (by omega) (by omega)
theorem mPin {h : zM} {np n a : Nat} (H : InvN h np n) (ha : a < n) {w : Int32} (K : Int32 → Int32 → Int32 → Int32 → zM → Option (Int32 × zM)) : ∀ (r fuel b : Nat) (s : Int32 × Int32), r + b = n → r < fuel → f_X11_pairs_35 K fuel w s.1 s.2 (nI a) (nI b) h = K w (pin (unl h) w a r b s).1 (pin (unl h) w a r b s).2 (nI (a + 1)) h
  | 0, fuel + 1, b, s, e, hf => by
    have n40 := H.n40
    unfold f_X11_pairs_35
    rw [H.mk13, if_pos (nI_le (by omega) (by omega)), nI_1]
    rfl
  | r + 1, fuel + 1, b, s, e, hf => by
    have n40 := H.n40
    have hb : b < n := by omega
    unfold f_X11_pairs_35 f_X11_pairs_76 f_X11_pairs_72 f_X11_pairs_76
    rw [H.mk13, if_neg (nI_ge hb (by omega))]
    simp only [mUn H ha hb, Option.bind_some, nI_1]
    rw [show pin (unl h) w a (r + 1) b s = pin (unl h) w a r (b + 1) (if unl h a b = w then (s.1 + 1, if s.1 = 0 then 100 * nI a + nI b else s.2) else s) from rfl]
    by_cases c : unl h a b = w
    · rw [if_neg (fun z => z c), if_pos c]
      by_cases c0 : s.1 = 0
      · rw [if_neg (fun z => z c0), if_pos c0]
        exact mPin H ha K r fuel (b + 1) (s.1 + 1, 100 * nI a + nI b) (by omega) (by omega)
      · rw [if_pos c0, if_neg c0]
        exact mPin H ha K r fuel (b + 1) (s.1 + 1, s.2) (by omega) (by omega)
    · rw [if_pos c, if_neg c]
      exact mPin H ha K r fuel (b + 1) s (by omega) (by omega)
theorem cPout {h : zM} {np n : Nat} (H : InvN h np n) {w : Int32} : ∀ (r fuel a : Nat) (s : Int32 × Int32), r + a = n → r < fuel → f_X10_pairs_20 fuel w s.1 s.2 (nI a) h = some ((pout (unl h) w n r a s).1, wI h 10 0 11 (pout (unl h) w n r a s).2)
  | 0, fuel + 1, a, s, e, hf => by
    have n40 := H.n40
    unfold f_X10_pairs_20 f_X10_tell
    rw [H.k10, if_pos (nI_le (by omega) (by omega))]
    rfl
  | r + 1, fuel + 1, a, s, e, hf => by
    have n40 := H.n40
    unfold f_X10_pairs_20
    rw [H.k10, if_neg (nI_ge (show a < n by omega) (by omega)), nI_1, cPin H (show a < n by omega) _ (n - (a + 1)) 1000 (a + 1) s (by omega) (by omega), cPout H r fuel (a + 1) (pin (unl h) w a (n - (a + 1)) (a + 1) s) (by omega) (by omega)]
    rfl
theorem mPout {h : zM} {np n : Nat} (H : InvN h np n) {w : Int32} : ∀ (r fuel a : Nat) (s : Int32 × Int32), r + a = n → r < fuel → f_X11_pairs_20 fuel w s.1 s.2 (nI a) h = some ((pout (unl h) w n r a s).1, wI h 11 0 2 (pout (unl h) w n r a s).2)
  | 0, fuel + 1, a, s, e, hf => by
    have n40 := H.n40
    unfold f_X11_pairs_20 f_X11_ask
    rw [H.mk13, if_pos (nI_le (by omega) (by omega))]
    rfl
  | r + 1, fuel + 1, a, s, e, hf => by
    have n40 := H.n40
    unfold f_X11_pairs_20
    rw [H.mk13, if_neg (nI_ge (show a < n by omega) (by omega)), nI_1, mPin H (show a < n by omega) _ (n - (a + 1)) 1000 (a + 1) s (by omega) (by omega), mPout H r fuel (a + 1) (pin (unl h) w a (n - (a + 1)) (a + 1) s) (by omega) (by omega)]
    rfl
theorem asp_fr {h h' : zM} (F : Fr h h') (m k : Nat) : asp h' m k = asp h m k := by
  have e : pl h' m = pl h m := by
    unfold pl
    rw [F.R rfl (by decide)]
  unfold asp
  rw [e, F.I rfl (by decide), F.I rfl (by decide), F.I rfl (by decide)]
theorem ucl_fr {h h' : zM} (F : Fr h h') (a b : Nat) : ∀ (r k : Nat) (x : Int32), ucl h' a b r k x = ucl h a b r k x
  | 0, _, _ => rfl
  | r + 1, k, x => by
    unfold ucl
    rw [asp_fr F, asp_fr F, ucl_fr F a b r, ucl_fr F a b r]
theorem unl_fr {h h' : zM} (F : Fr h h') : unl h' = unl h := by
  funext a b
  unfold unl
  rw [F.I rfl (by decide), F.I rfl (by decide), F.I rfl (by decide), F.I rfl (by decide), F.I rfl (by decide), F.I rfl (by decide), F.I rfl (by decide), F.I rfl (by decide), ucl_fr F]
theorem op_pairs {h : zM} {np n : Nat} (hI : Inv h np n) (x : Int32) : Okk h (f_X10_pairs x) (f_X11_pairs x) := by
  have H := hI.N
  have n40 := H.n40
  by_cases hw : (0 : Int32) ≤ x ∧ x ≤ 4
  · have A : f_X10_pairs_20 1000 x 0 (-9999) 0 h = _ := cPout H (w := x) n 1000 0 (0, -9999) (by omega) (by omega)
    refine Okk.tell (a := (pout (unl h) x n n 0 (0, -9999)).1) (v := (pout (unl h) x n n 0 (0, -9999)).2) hI ?_ ?_
    · unfold f_X10_pairs
      simp [wi_T hw, A]
    · generalize hv : (pout (unl h) x n n 0 (0, -9999)).2 = v
      have F : Fr h (wI h 10 0 11 v) := Fr.rf.tellX
      have B : f_X11_pairs_20 1000 x 0 (-9999) 0 (wI h 10 0 11 v) = _ := mPout (F.N H) (w := x) n 1000 0 (0, -9999) (by omega) (by omega)
      rw [unl_fr F, hv] at B
      unfold f_X11_pairs
      simp [in_T hw, B]
  · refine Okk.same hI (a := -1) ?_ ?_
    · unfold f_X10_pairs
      simp [wi_F hw]
    · unfold f_X11_pairs
      simp [in_F hw]
