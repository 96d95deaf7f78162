theorem i32_sub {x y : Int32} (hx : -10000 ≤ x.toInt ∧ x.toInt ≤ 10000) (hy : -10000 ≤ y.toInt ∧ y.toInt ≤ 10000) : (x - y).toInt = x.toInt - y.toInt := by
  rw [Int32.toInt_sub, Int.bmod_eq_of_le (by omega) (by omega)]
theorem i32_neg {x : Int32} (hx : -20000 ≤ x.toInt ∧ x.toInt ≤ 20000) : (-x).toInt = -x.toInt := by
  rw [Int32.toInt_neg, Int.bmod_eq_of_le (by omega) (by omega)]
theorem i2l_ofI (x : Int32) : x.toInt64 = Int64.ofInt x.toInt := by
  apply Int64.toInt_inj.mp
  have a := i32_lo x
  have b := i32_up x
  rw [Int32.toInt_toInt64, ofI_toInt (by omega) (by omega)]
theorem i32_of (x : Int32) : x = Int32.ofInt x.toInt := (Int32.ofInt_toInt x).symm
theorem nI_nat (x : Int32) (h : 0 ≤ x.toInt) : x = nI x.toInt.natAbs := by
  apply Int32.toInt_inj.mp
  have b := i32_up x
  rw [nI_toInt (by omega)]
  omega
theorem e0_32 : (0 : Int32).toInt = 0 := by decide
/-- what one pair adds -/
def lin (P : Nat → Nat → Bool) (D A : Nat → Nat → Int) (a : Nat) : Nat → Nat → Nat × Int × Nat → Nat × Int × Nat
  | 0, _, s => s
  | r + 1, b, s => lin P D A a r (b + 1) (if P a b = true then (s.1 + 1, s.2.1 + (if D a b ≤ 0 then -A a b else A a b), s.2.2 + (D a b).natAbs) else s)
def lout (P : Nat → Nat → Bool) (D A : Nat → Nat → Int) (n : Nat) : Nat → Nat → Nat × Int × Nat → Nat × Int × Nat
  | 0, _, s => s
  | r + 1, a, s => lout P D A n r (a + 1) (lin P D A a (n - (a + 1)) (a + 1) s)
def Bd (s : Nat × Int × Nat) (c : Nat) : Prop := s.2.1.natAbs ≤ 10000 * s.1 ∧ s.1 ≤ s.2.2 ∧ s.2.2 ≤ 20000 * s.1 ∧ s.1 ≤ c
theorem lin_bd {P : Nat → Nat → Bool} {D A : Nat → Nat → Int} {n a : Nat} (hD : ∀ b, b < n → P a b = true → 1 ≤ (D a b).natAbs ∧ (D a b).natAbs ≤ 20000) (hA : ∀ b, b < n → (A a b).natAbs ≤ 10000) : ∀ (r b c : Nat) (s : Nat × Int × Nat), r + b = n → Bd s c → Bd (lin P D A a r b s) (c + r)
  | 0, b, c, s, e, H => H
  | r + 1, b, c, s, e, H => by
    unfold lin
    have q := lin_bd hD hA r (b + 1) (c + 1) (if P a b = true then (s.1 + 1, s.2.1 + (if D a b ≤ 0 then -A a b else A a b), s.2.2 + (D a b).natAbs) else s) (by omega) ?_
    · rw [show c + (r + 1) = c + 1 + r by omega]
      exact q
    · obtain ⟨h1, h2, h3, h4⟩ := H
      by_cases p : P a b = true
      · rw [if_pos p]
        have d := hD b (by omega) p
        have g := hA b (by omega)
        refine ⟨?_, ?_, ?_, ?_⟩
        · by_cases k : D a b ≤ 0
          · simp only [k, if_true]
            omega
          · simp only [k, if_false]
            omega
        · show s.1 + 1 ≤ s.2.2 + (D a b).natAbs
          omega
        · show s.2.2 + (D a b).natAbs ≤ 20000 * (s.1 + 1)
          omega
        · show s.1 + 1 ≤ c + 1
          omega
      · rw [if_neg p]
        exact ⟨h1, h2, h3, by omega⟩
theorem lout_bd {P : Nat → Nat → Bool} {D A : Nat → Nat → Int} {n : Nat} (hn : n ≤ 40) (hD : ∀ a b, a < n → b < n → P a b = true → 1 ≤ (D a b).natAbs ∧ (D a b).natAbs ≤ 20000) (hA : ∀ a b, a < n → b < n → (A a b).natAbs ≤ 10000) : ∀ (r a c : Nat) (s : Nat × Int × Nat), r + a = n → Bd s c → Bd (lout P D A n r a s) (c + 40 * r)
  | 0, a, c, s, e, H => H
  | r + 1, a, c, s, e, H => by
    unfold lout
    have q1 := lin_bd (fun b hb p => hD a b (by omega) hb p) (fun b hb => hA a b (by omega) hb) (n - (a + 1)) (a + 1) c s (by omega) H
    have q2 := lout_bd hn hD hA r (a + 1) (c + (n - (a + 1))) _ (by omega) q1
    obtain ⟨h1, h2, h3, h4⟩ := q2
    exact ⟨h1, h2, h3, by omega⟩
def lP (h : zM) (w : Int32) (a b : Nat) : Bool := decide (unl h a b = w)
def lD (h : zM) (w a b : Nat) : Int := (asp h a w).toInt - (asp h b w).toInt
def lA (h : zM) (a b : Nat) : Int := (rI h 2 a 4).toInt - (rI h 2 b 4).toInt
theorem asp_bd {h : zM} {np n m w : Nat} (H : InvN h np n) (hm : m < n) (hw : w < 5) : -10000 ≤ (asp h m w).toInt ∧ (asp h m w).toInt ≤ 10000 := by
  obtain ⟨p1, -, -⟩ := H.pl hm
  obtain ⟨-, ⟨q, hq, eq⟩, h2, h3, -⟩ := H.plk p1
  unfold asp
  by_cases k0 : w = 0
  · rw [if_pos k0]
    rcases H.w hm with e | e
    · rw [e]
      decide
    · omega
  · rw [if_neg k0]
    by_cases k4 : w = 4
    · rw [if_pos k4]
      obtain ⟨s, hs, es⟩ := (H.b hm).2.2.2.2.2.1
      rw [es, nI_toInt (by omega)]
      omega
    · rw [if_neg k4]
      obtain rfl | rfl | rfl : w = 1 ∨ w = 2 ∨ w = 3 := by omega
      · rw [show 1 - 1 = 0 from rfl, eq, nI_toInt (by omega)]
        omega
      · rw [show 2 - 1 = 1 from rfl]
        omega
      · rw [show 3 - 1 = 2 from rfl]
        rcases h3 with e | e <;> rw [e] <;> decide
theorem val_bd {h : zM} {np n m : Nat} (H : InvN h np n) (hm : m < n) : 1 ≤ (rI h 2 m 4).toInt ∧ (rI h 2 m 4).toInt ≤ 9999 := by
  obtain ⟨v, h1, h2, e⟩ := (H.b hm).2.2.2.1
  rw [e, nI_toInt (by omega)]
  omega
theorem cLin {h : zM} {np n a w : Nat} (H : InvN h np n) (ha : a < n) (hw : w < 4) (K : Int32 → Int32 → Int32 → Int32 → Int32 → zM → Option (Int32 × zM)) : ∀ (r fuel b : Nat) (s : Nat × Int × Nat), r + b = n → r < fuel → f_X10_learn_36 K fuel (nI w) (nI s.1) (Int32.ofInt s.2.1) (nI s.2.2) (nI a) (nI b) h = K (nI w) (nI (lin (lP h (nI w)) (lD h w) (lA h) a r b s).1) (Int32.ofInt (lin (lP h (nI w)) (lD h w) (lA h) a r b s).2.1) (nI (lin (lP h (nI w)) (lD h w) (lA h) a r b s).2.2) (nI (a + 1)) h
  | 0, fuel + 1, b, s, e, hf => by
    have n40 := H.n40
    unfold f_X10_learn_36
    rw [H.k10, if_pos (nI_le (by omega) (by omega)), nI_1]
    rfl
  | r + 1, fuel + 1, b, s, e, hf => by
    have n40 := H.n40
    have hb : b < n := by omega
    have ba := asp_bd H ha (show w < 5 by omega)
    have bb := asp_bd H hb (show w < 5 by omega)
    have va := val_bd H ha
    have vb := val_bd H hb
    have D : (asp h a w - asp h b w).toInt = lD h w a b := i32_sub ba bb
    have A : rI h 2 a 4 - rI h 2 b 4 = Int32.ofInt (lA h a b) := by
      unfold lA
      rw [Int32.ofInt_sub, Int32.ofInt_toInt, Int32.ofInt_toInt]
    unfold f_X10_learn_36 f_X10_learn_143 f_X10_learn_128 f_X10_learn_143
    rw [H.k10, if_neg (nI_ge hb (by omega))]
    simp only [H.x3, decide_true, Bool.true_and, Bool.and_true, ixOk_nI (show b < 40 by omega) (by decide), ixOk_nI (show a < 40 by omega) (by decide), if_true, nI_clamp (show a < 2 ^ 31 by omega), nI_clamp (show b < 2 ^ 31 by omega), H.m29 ha, H.m29 hb, cUn H ha hb, Option.bind_some, nI_1, clR_s, ixR_s, memT1, cAsp H ha (show w < 5 by omega), cAsp H hb (show w < 5 by omega), A]
    rw [show lin (lP h (nI w)) (lD h w) (lA h) a (r + 1) b s = lin (lP h (nI w)) (lD h w) (lA h) a r (b + 1) (if lP h (nI w) a b = true then (s.1 + 1, s.2.1 + (if lD h w a b ≤ 0 then -lA h a b else lA h a b), s.2.2 + (lD h w a b).natAbs) else s) from rfl]
    by_cases c : unl h a b = nI w
    · have p : lP h (nI w) a b = true := decide_eq_true c
      have M : (if 0 ≤ asp h a w - asp h b w then asp h a w - asp h b w else 0 - (asp h a w - asp h b w)) = nI (lD h w a b).natAbs := by
        have bd : -20000 ≤ (asp h a w - asp h b w).toInt ∧ (asp h a w - asp h b w).toInt ≤ 20000 := by
          rw [i32_sub ba bb]
          omega
        by_cases k : 0 ≤ asp h a w - asp h b w
        · rw [if_pos k]
          rw [Int32.le_iff_toInt_le, e0_32] at k
          rw [nI_nat _ k, D]
        · rw [if_neg k, Int32.zero_sub]
          rw [Int32.le_iff_toInt_le, e0_32] at k
          have nn := i32_neg bd
          rw [nI_nat (-(asp h a w - asp h b w)) (by omega), nn, D, Int.natAbs_neg]
      rw [if_neg (fun z => z c), if_pos p, M, nI_add]
      by_cases k : asp h a w - asp h b w ≤ 0
      · rw [if_pos k]
        rw [Int32.le_iff_toInt_le, e0_32, D] at k
        rw [if_pos k, ← Int32.ofInt_neg, ← Int32.ofInt_add]
        exact cLin H ha hw K r fuel (b + 1) (s.1 + 1, s.2.1 + -lA h a b, s.2.2 + (lD h w a b).natAbs) (by omega) (by omega)
      · rw [if_neg k]
        rw [Int32.le_iff_toInt_le, e0_32, D] at k
        rw [if_neg k, ← Int32.ofInt_add]
        exact cLin H ha hw K r fuel (b + 1) (s.1 + 1, s.2.1 + lA h a b, s.2.2 + (lD h w a b).natAbs) (by omega) (by omega)
    · have p : ¬ lP h (nI w) a b = true := fun z => c (of_decide_eq_true z)
      rw [if_pos c, if_neg p]
      exact cLin H ha hw K r fuel (b + 1) s (by omega) (by omega)
theorem mLin {h : zM} {np n a w : Nat} (H : InvN h np n) (ha : a < n) (hw : w < 4) (K : Int32 → Int32 → Int64 → Int64 → Int32 → zM → Option (Int32 × zM)) : ∀ (r fuel b : Nat) (s : Nat × Int × Nat), r + b = n → r < fuel → f_X11_learn_36 K fuel (nI w) (nI s.1) (Int64.ofInt s.2.1) (lN s.2.2) (nI a) (nI b) h = K (nI w) (nI (lin (lP h (nI w)) (lD h w) (lA h) a r b s).1) (Int64.ofInt (lin (lP h (nI w)) (lD h w) (lA h) a r b s).2.1) (lN (lin (lP h (nI w)) (lD h w) (lA h) a r b s).2.2) (nI (a + 1)) h
  | 0, fuel + 1, b, s, e, hf => by
    have n40 := H.n40
    unfold f_X11_learn_36
    rw [H.mk13, if_pos (nI_le (by omega) (by omega)), nI_1]
    rfl
  | r + 1, fuel + 1, b, s, e, hf => by
    have n40 := H.n40
    have hb : b < n := by omega
    have ba := asp_bd H ha (show w < 5 by omega)
    have bb := asp_bd H hb (show w < 5 by omega)
    have va := val_bd H ha
    have vb := val_bd H hb
    have D : (asp h a w - asp h b w).toInt = lD h w a b := i32_sub ba bb
    have A0 : (rI h 2 a 4 - rI h 2 b 4).toInt = lA h a b := i32_sub (by omega) (by omega)
    have bdA : -20000 ≤ (rI h 2 a 4 - rI h 2 b 4).toInt ∧ (rI h 2 a 4 - rI h 2 b 4).toInt ≤ 20000 := by
      rw [i32_sub (by omega) (by omega)]
      omega
    have bd : -20000 ≤ (asp h a w - asp h b w).toInt ∧ (asp h a w - asp h b w).toInt ≤ 20000 := by
      rw [i32_sub ba bb]
      omega
    have A1 : Int32.toInt64 (rI h 2 a 4 - rI h 2 b 4) = Int64.ofInt (lA h a b) := by rw [i2l_ofI, A0]
    have A2 : Int32.toInt64 (-(rI h 2 a 4 - rI h 2 b 4)) = Int64.ofInt (-lA h a b) := by rw [i2l_ofI, i32_neg bdA, A0]
    unfold f_X11_learn_36 f_X11_learn_132 f_X11_learn_107 f_X11_learn_126 f_X11_learn_132
    rw [H.mk13, if_neg (nI_ge hb (by omega))]
    simp only [mUn H ha hb, Option.bind_some, nI_1, mAsp H ha (show w < 5 by omega), mAsp H hb (show w < 5 by omega), mp4 H ha, mp4 H hb, A1, A2]
    rw [show lin (lP h (nI w)) (lD h w) (lA h) a (r + 1) b s = lin (lP h (nI w)) (lD h w) (lA h) a r (b + 1) (if lP h (nI w) a b = true then (s.1 + 1, s.2.1 + (if lD h w a b ≤ 0 then -lA h a b else lA h a b), s.2.2 + (lD h w a b).natAbs) else s) from rfl]
    by_cases c : unl h a b = nI w
    · have p : lP h (nI w) a b = true := decide_eq_true c
      rw [if_neg (fun z => z c), if_pos p]
      by_cases k : asp h a w - asp h b w ≤ 0
      · rw [if_pos k]
        have k' := k
        rw [Int32.le_iff_toInt_le, e0_32, D] at k
        have M : Int32.toInt64 (-(asp h a w - asp h b w)) = lN (lD h w a b).natAbs := by
          rw [i2l_ofI, i32_neg bd, D, ofI_pos (by omega), Int.natAbs_neg]
        rw [if_pos k, if_pos k', ← Int64.ofInt_add, M, lN_add]
        exact mLin H ha hw K r fuel (b + 1) (s.1 + 1, s.2.1 + -lA h a b, s.2.2 + (lD h w a b).natAbs) (by omega) (by omega)
      · rw [if_neg k]
        have k' := k
        rw [Int32.le_iff_toInt_le, e0_32, D] at k
        have M : Int32.toInt64 (asp h a w - asp h b w) = lN (lD h w a b).natAbs := by
          rw [i2l_ofI, D, ofI_pos (by omega)]
        rw [if_neg k, if_neg k', ← Int64.ofInt_add, M, lN_add]
        exact mLin H ha hw K r fuel (b + 1) (s.1 + 1, s.2.1 + lA h a b, s.2.2 + (lD h w a b).natAbs) (by omega) (by omega)
    · have p : ¬ lP h (nI w) a b = true := fun z => c (of_decide_eq_true z)
      rw [if_pos c, if_neg p]
      exact mLin H ha hw K r fuel (b + 1) s (by omega) (by omega)
theorem cLout {h : zM} {np n w : Nat} (H : InvN h np n) (hw : w < 4) : ∀ (r fuel a : Nat) (s : Nat × Int × Nat), r + a = n → r < fuel → f_X10_learn_21 fuel (nI w) (nI s.1) (Int32.ofInt s.2.1) (nI s.2.2) (nI a) h = f_X10_learn_21 1 (nI w) (nI (lout (lP h (nI w)) (lD h w) (lA h) n r a s).1) (Int32.ofInt (lout (lP h (nI w)) (lD h w) (lA h) n r a s).2.1) (nI (lout (lP h (nI w)) (lD h w) (lA h) n r a s).2.2) (nI n) h
  | 0, fuel + 1, a, s, e, hf => by
    have n40 := H.n40
    have : a = n := by omega
    subst this
    unfold f_X10_learn_21
    rw [H.k10, if_pos (nI_le (Nat.le_refl _) (by omega)), if_pos (nI_le (Nat.le_refl _) (by omega))]
    rfl
  | r + 1, fuel + 1, a, s, e, hf => by
    have n40 := H.n40
    rw [show f_X10_learn_21 (fuel + 1) (nI w) (nI s.1) (Int32.ofInt s.2.1) (nI s.2.2) (nI a) h = (if (rI h 10 0 10) ≤ nI a then (if ¬ nI s.1 = 0 then ((f_X10_tellFraction (Int32.toInt64 (Int32.ofInt s.2.1)) (Int32.toInt64 (nI s.2.2)) h).bind fun q171 => (some (nI s.1, q171))) else ((f_X10_found 4 h).bind fun q161 => (some (q161.1, q161.2)))) else (f_X10_learn_36 (f_X10_learn_21 fuel) 1000 (nI w) (nI s.1) (Int32.ofInt s.2.1) (nI s.2.2) (nI a) (nI a + 1) h)) from rfl]
    rw [H.k10, if_neg (nI_ge (show a < n by omega) (by omega)), nI_1, cLin H (show a < n by omega) hw _ (n - (a + 1)) 1000 (a + 1) s (by omega) (by omega)]
    exact cLout H hw r fuel (a + 1) (lin (lP h (nI w)) (lD h w) (lA h) a (n - (a + 1)) (a + 1) s) (by omega) (by omega)
theorem mLout {h : zM} {np n w : Nat} (H : InvN h np n) (hw : w < 4) : ∀ (r fuel a : Nat) (s : Nat × Int × Nat), r + a = n → r < fuel → f_X11_learn_21 fuel (nI w) (nI s.1) (Int64.ofInt s.2.1) (lN s.2.2) (nI a) h = f_X11_learn_21 1 (nI w) (nI (lout (lP h (nI w)) (lD h w) (lA h) n r a s).1) (Int64.ofInt (lout (lP h (nI w)) (lD h w) (lA h) n r a s).2.1) (lN (lout (lP h (nI w)) (lD h w) (lA h) n r a s).2.2) (nI n) h
  | 0, fuel + 1, a, s, e, hf => by
    have n40 := H.n40
    have : a = n := by omega
    subst this
    unfold f_X11_learn_21
    rw [H.mk13, if_pos (nI_le (Nat.le_refl _) (by omega)), if_pos (nI_le (Nat.le_refl _) (by omega))]
    rfl
  | r + 1, fuel + 1, a, s, e, hf => by
    have n40 := H.n40
    rw [show f_X11_learn_21 (fuel + 1) (nI w) (nI s.1) (Int64.ofInt s.2.1) (lN s.2.2) (nI a) h = (if (rI h 11 0 13) ≤ nI a then (if ¬ nI s.1 = 0 then ((f_X11_tell (Int64.ofInt s.2.1) (lN s.2.2) (nI s.1) h).bind fun q161 => (some (q161.1, q161.2))) else ((f_X11_meets 4 h).bind fun q150 => (some (q150.1, q150.2)))) else (f_X11_learn_36 (f_X11_learn_21 fuel) 1000 (nI w) (nI s.1) (Int64.ofInt s.2.1) (lN s.2.2) (nI a) (nI a + 1) h)) from rfl]
    rw [H.mk13, if_neg (nI_ge (show a < n by omega) (by omega)), nI_1, mLin H (show a < n by omega) hw _ (n - (a + 1)) 1000 (a + 1) s (by omega) (by omega)]
    exact mLout H hw r fuel (a + 1) (lin (lP h (nI w)) (lD h w) (lA h) a (n - (a + 1)) (a + 1) s) (by omega) (by omega)
theorem lP_fr {h h' : zM} (F : Fr h h') (w : Int32) : lP h' w = lP h w := by
  funext a b
  unfold lP
  rw [unl_fr F]
theorem lD_fr {h h' : zM} (F : Fr h h') (w : Nat) : lD h' w = lD h w := by
  funext a b
  unfold lD
  rw [asp_fr F, asp_fr F]
theorem lA_fr {h h' : zM} (F : Fr h h') : lA h' = lA h := by
  funext a b
  unfold lA
  rw [F.I rfl (by decide), F.I rfl (by decide)]
theorem op_learn {h : zM} {np n : Nat} (hI : Inv h np n) (x : Int32) : Okk h (f_X10_learn x) (f_X11_learn x) := by
  have H := hI.N
  have n40 := H.n40
  rcases rng x 3 (by decide) with ⟨w, hw, rfl⟩ | hx
  · have hin := win hw (by omega)
    rw [← lit 3] at hin
    have A : f_X10_learn_21 1000 (nI w) 0 0 0 0 h = _ := cLout H (show w < 4 by omega) n 1000 0 (0, 0, 0) (by omega) (by omega)
    have B : ∀ g, Fr h g → f_X11_learn_21 1000 (nI w) 0 0 0 0 g = _ := fun g F => mLout (F.N H) (show w < 4 by omega) n 1000 0 (0, 0, 0) (by omega) (by omega)
    have bd : Bd (lout (lP h (nI w)) (lD h w) (lA h) n n 0 (0, 0, 0)) (0 + 40 * n) := lout_bd n40 (fun a b ha hb p => ?_) (fun a b ha hb => ?_) n 0 0 (0, 0, 0) (by omega) ⟨by decide, by decide, by decide, by decide⟩
    · generalize hs : lout (lP h (nI w)) (lD h w) (lA h) n n 0 (0, 0, 0) = s at A bd
      have B' : ∀ g, Fr h g → f_X11_learn_21 1000 (nI w) 0 0 0 0 g = f_X11_learn_21 1 (nI w) (nI s.1) (Int64.ofInt s.2.1) (lN s.2.2) (nI n) g := fun g F => by
        rw [B g F, lP_fr F, lD_fr F, lA_fr F, hs]
      obtain ⟨b1, b2, b3, b4⟩ := bd
      have XA : f_X10_learn (nI w) h = f_X10_learn_21 1 (nI w) (nI s.1) (Int32.ofInt s.2.1) (nI s.2.2) (nI n) h := by
        unfold f_X10_learn
        rw [wi_T hin, Option.bind_some, if_pos (show ¬ (1 : Int32) = 0 by decide), A]
      have XB : ∀ g, Fr h g → f_X11_learn (nI w) g = f_X11_learn_21 1 (nI w) (nI s.1) (Int64.ofInt s.2.1) (lN s.2.2) (nI n) g := fun g F => by
        unfold f_X11_learn
        rw [in_T hin, Option.bind_some, if_pos (show ¬ (1 : Int32) = 0 by decide), B' g F]
      by_cases c0 : s.1 = 0
      · refine Okk.fnd (f := 4) hI ?_ ?_
        · rw [XA]
          unfold f_X10_learn_21
          rw [H.k10, if_pos (nI_le (Nat.le_refl _) (by omega)), c0, if_neg (by decide), found_4 H.X]
          rfl
        · rw [XB _ Fr.rf.fndX]
          unfold f_X11_learn_21
          have p3 : rI (fndX h 4) 11 0 13 = nI n := H.mk13
          rw [p3, if_pos (nI_le (Nat.le_refl _) (by omega)), c0, if_neg (by decide), meets_4 H.M.fndX]
          rfl
      · have z : ¬ nI s.1 = 0 := nI_ne0 (by omega) (by omega)
        have v1 : Int32.toInt64 (Int32.ofInt s.2.1) = Int64.ofInt s.2.1 := by
          rw [i2l_ofI, Int32.toInt_ofInt_of_le (by omega) (by omega)]
        have v2 : Int32.toInt64 (nI s.2.2) = lN s.2.2 := nI_l (by omega)
        refine Okk.frac (h1 := h) (h2 := frX h s.2.1 s.2.2) (a := nI s.1) (U := s.2.1) (b := s.2.2) hI ?_ ?_ Fr.rf Kp.rf Fr.rf Kp.rf (by show ncM h ≤ _; omega) (by show nsM h ≤ _; omega)
        · rw [XA]
          unfold f_X10_learn_21
          rw [H.k10, if_pos (nI_le (Nat.le_refl _) (by omega)), if_pos z, v1, v2, tellX (by omega) (by omega) (by omega) (by omega)]
          rfl
        · have F : Fr h (frX h s.2.1 s.2.2) := Fr.rf.wL.wL
          rw [XB _ F]
          unfold f_X11_learn_21
          rw [(F.N H).mk13, if_pos (nI_le (Nat.le_refl _) (by omega)), if_pos z, tellM _ (by omega) (by omega) (by omega) (by omega)]
          rfl
    · have q := unl_ne (show w < 100 by omega) (of_decide_eq_true p)
      have ba := asp_bd H ha (show w < 5 by omega)
      have bb := asp_bd H hb (show w < 5 by omega)
      have nz : ¬ (asp h a w).toInt = (asp h b w).toInt := fun z => q (Int32.toInt_inj.mp z)
      unfold lD
      omega
    · have va := val_bd H ha
      have vb := val_bd H hb
      unfold lA
      omega
  · have hw := wout hx
    rw [← lit 3] at hw
    refine Okk.same hI (a := -1) ?_ ?_
    · unfold f_X10_learn
      simp [wi_F hw]
    · unfold f_X11_learn
      simp [in_F hw]
