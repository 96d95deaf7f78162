theorem lN_big {n : Nat} (h : n < 2 ^ 63) : (lN n).toInt = (n : Int) := lg_ofNat_toInt h
theorem lN_div {a b : Nat} (ha : a < 2 ^ 63) (h0 : 0 < b) (hb : b < 2 ^ 63) : lN a / lN b = lN (a / b) := by
  apply Int64.toInt_inj.mp
  have q : a / b ≤ a := Nat.div_le_self a b
  rw [lg_ldiv_nonneg (by rw [lN_big ha]; omega) (by rw [lN_big hb]; omega), lN_big ha, lN_big hb, lN_big (by omega)]
  rfl
theorem lN_rem {a b : Nat} (ha : a < 2 ^ 63) (h0 : 0 < b) (hb : b < 2 ^ 63) : lN a - lN a / lN b * lN b = lN (a % b) := by
  rw [lN_div ha h0 hb, lN_mul, lN_sub (Nat.div_mul_le_self a b)]
  congr 1
  have := Nat.div_add_mod a b
  rw [Nat.mul_comm] at this
  omega
theorem lN_z {b : Nat} (hb : b < 2 ^ 63) : lN b = 0 ↔ b = 0 := by
  constructor
  · intro e
    have := congrArg Int64.toInt e
    rw [lN_big hb] at this
    have e0 : (0 : Int64).toInt = 0 := by decide
    omega
  · intro e
    rw [e]
    rfl
theorem cmp_z {b : Nat} (hb : b < 2 ^ 63) : lg_cmp (lN b) 0 = 0 ↔ b = 0 := by rw [lg_cmp_eq, lN_z hb]
theorem half {a b : Nat} (hb : 0 < b) (hr : 0 < a % b) (k : Nat) (h : b < 2 ^ (k + 1)) : b % (a % b) < 2 ^ k := by
  have h1 : a % b < b := Nat.mod_lt a hb
  generalize a % b = r at *
  have h2 : b % r < r := Nat.mod_lt b hr
  have h3 : b % r + r ≤ b := by
    have := Nat.div_add_mod b r
    have q : 1 ≤ b / r := (Nat.one_le_div_iff hr).mpr (by omega)
    have q2 : r * 1 ≤ r * (b / r) := Nat.mul_le_mul_left r q
    omega
  have : 2 ^ (k + 1) = 2 * 2 ^ k := by rw [Nat.pow_succ, Nat.mul_comm]
  omega
theorem cd_stop {f s a b : Nat} {h : zM} (h0 : b = 0) : f_X10_commonDivisor_9 (f + 1) (lN a) (lN b) (nI s) h = some (lN (Nat.gcd a b), h) := by
  subst h0
  unfold f_X10_commonDivisor_9
  rw [Nat.gcd_zero_right]
  by_cases c : (100 : Int32) ≤ nI s
  · rw [if_pos c]
  · rw [if_neg c, if_pos ((cmp_z (by decide)).mpr rfl)]
theorem cd_go {f s a b : Nat} {h : zM} (ha : a < 2 ^ 63) (hb : b < 2 ^ 63) (h0 : 0 < b) (hs : s < 100) : f_X10_commonDivisor_9 (f + 1) (lN a) (lN b) (nI s) h = f_X10_commonDivisor_9 f (lN b) (lN (a % b)) (nI (s + 1)) h := by
  have z : ¬ lN b = 0 := fun e => absurd ((lN_z hb).mp e) (by omega)
  have z2 : ¬ lg_cmp (lN b) 0 = 0 := fun e => absurd ((cmp_z hb).mp e) (by omega)
  have z3 : ¬ (100 : Int32) ≤ nI s := nI_ge (b := 100) hs (by decide)
  rw [show f_X10_commonDivisor_9 (f + 1) (lN a) (lN b) (nI s) h = (if 100 ≤ nI s then (some (lN a, h)) else (if (lg_cmp (lN b) 0) = 0 then (some (lN a, h)) else (if (true && (true && (true && (!decide (lN b = 0) && true)))) = true then (f_X10_commonDivisor_9 f (lN b) (lN a - lN a / lN b * lN b) (nI s + 1) h) else none))) from rfl, if_neg z3, if_neg z2, if_pos (by simp [z]), lN_rem ha h0 hb, nI_1]
theorem cd_loop : ∀ (k a b f s : Nat) (h : zM), a < 2 ^ 63 → b < 2 ^ 63 → b < 2 ^ k → 2 * k < f → s + 2 * k ≤ 100 → f_X10_commonDivisor_9 f (lN a) (lN b) (nI s) h = some (lN (Nat.gcd a b), h)
  | 0, a, b, f + 1, s, h, ha, hb, hk, hf, hs => cd_stop (by omega)
  | k + 1, a, b, f + 1, s, h, ha, hb, hk, hf, hs => by
    by_cases h0 : b = 0
    · exact cd_stop h0
    · have b0 : 0 < b := by omega
      have hr : a % b < b := Nat.mod_lt a b0
      rw [cd_go ha hb b0 (by omega)]
      obtain ⟨f', rfl⟩ : ∃ f', f = f' + 1 := ⟨f - 1, by omega⟩
      have g : Nat.gcd a b = Nat.gcd b (a % b) := by rw [Nat.gcd_comm a b, Nat.gcd_rec, Nat.gcd_comm]
      rw [g]
      by_cases r0 : a % b = 0
      · exact cd_stop r0
      · have r1 : 0 < a % b := by omega
        have hr2 : b % (a % b) < a % b := Nat.mod_lt b r1
        rw [cd_go hb (by omega) r1 (by omega)]
        have g2 : Nat.gcd b (a % b) = Nat.gcd (a % b) (b % (a % b)) := by rw [Nat.gcd_comm b (a % b), Nat.gcd_rec, Nat.gcd_comm]
        rw [g2]
        exact cd_loop k (a % b) (b % (a % b)) f' (s + 1 + 1) h (by omega) (by omega) (half b0 r1 k hk) (by omega) (by omega)
theorem td_stop {f a b : Nat} {u l : Int64} {x : Int32} {h : zM} (hg : Nat.gcd a b < 2 ^ 63) (g0 : 0 < Nat.gcd a b) (h0 : b = 0) : f_X11_tell_17 (f + 1) u l x (lN a) (lN b) h = some (x, wL (wL h 11 0 3 (u / lN (Nat.gcd a b))) 11 0 4 (l / lN (Nat.gcd a b))) := by
  have z : ¬ lN (Nat.gcd a b) = 0 := fun e => absurd ((lN_z hg).mp e) (by omega)
  subst h0
  rw [Nat.gcd_zero_right] at *
  unfold f_X11_tell_17
  rw [if_pos ((cmp_z (by decide)).mpr rfl), if_pos (by simp [z])]
theorem td_go {f a b : Nat} {u l : Int64} {x : Int32} {h : zM} (ha : a < 2 ^ 63) (hb : b < 2 ^ 63) (h0 : 0 < b) : f_X11_tell_17 (f + 1) u l x (lN a) (lN b) h = f_X11_tell_17 f u l x (lN b) (lN (a % b)) h := by
  have z : ¬ lN b = 0 := fun e => absurd ((lN_z hb).mp e) (by omega)
  have z2 : ¬ lg_cmp (lN b) 0 = 0 := fun e => absurd ((cmp_z hb).mp e) (by omega)
  rw [show f_X11_tell_17 (f + 1) u l x (lN a) (lN b) h = (if (lg_cmp (lN b) 0) = 0 then (if (true && (!decide (lN a = 0) && (true && (!decide (lN a = 0) && true)))) = true then (some (x, (wL (wL h 11 0 3 (u / lN a)) 11 0 4 (l / lN a)))) else none) else (if (true && (true && (true && (!decide (lN b = 0) && true)))) = true then (f_X11_tell_17 f u l x (lN b) (lN a - lN a / lN b * lN b) h) else none)) from rfl, if_neg z2, if_pos (by simp [z]), lN_rem ha h0 hb]
theorem td_loop {u l : Int64} {x : Int32} {h : zM} : ∀ (k a b f : Nat), a < 2 ^ 63 → b < 2 ^ 63 → b < 2 ^ k → 2 * k < f → 0 < Nat.gcd a b → Nat.gcd a b < 2 ^ 63 → f_X11_tell_17 f u l x (lN a) (lN b) h = some (x, wL (wL h 11 0 3 (u / lN (Nat.gcd a b))) 11 0 4 (l / lN (Nat.gcd a b)))
  | 0, a, b, f + 1, ha, hb, hk, hf, g0, hg => td_stop hg g0 (by omega)
  | k + 1, a, b, f + 1, ha, hb, hk, hf, g0, hg => by
    by_cases h0 : b = 0
    · exact td_stop hg g0 h0
    · have b0 : 0 < b := by omega
      have hr : a % b < b := Nat.mod_lt a b0
      rw [td_go ha hb b0]
      obtain ⟨f', rfl⟩ : ∃ f', f = f' + 1 := ⟨f - 1, by omega⟩
      have g : Nat.gcd a b = Nat.gcd b (a % b) := by rw [Nat.gcd_comm a b, Nat.gcd_rec, Nat.gcd_comm]
      rw [g] at g0 hg ⊢
      by_cases r0 : a % b = 0
      · exact td_stop hg g0 r0
      · have r1 : 0 < a % b := by omega
        have hr2 : b % (a % b) < a % b := Nat.mod_lt b r1
        rw [td_go hb (by omega) r1]
        have g2 : Nat.gcd b (a % b) = Nat.gcd (a % b) (b % (a % b)) := by rw [Nat.gcd_comm b (a % b), Nat.gcd_rec, Nat.gcd_comm]
        rw [g2] at g0 hg ⊢
        exact td_loop k (a % b) (b % (a % b)) f' (by omega) (by omega) (half b0 r1 k hk) (by omega) g0 hg
theorem ofI_toInt {U : Int} (a : -2 ^ 62 < U) (b : U < 2 ^ 62) : (Int64.ofInt U).toInt = U := Int64.toInt_ofInt_of_le (by omega) (by omega)
theorem ofI_pos {U : Int} (a : 0 ≤ U) : Int64.ofInt U = lN U.natAbs := by
  obtain ⟨n, rfl⟩ := Int.eq_ofNat_of_zero_le a
  rw [Int64.ofInt_eq_ofNat]
  rfl
theorem ofI_neg {U : Int} (a : U ≤ 0) : -Int64.ofInt U = lN U.natAbs := by
  rw [← Int64.ofInt_neg, ofI_pos (by omega), Int.natAbs_neg]
def fg (U : Int) (b : Nat) : Int64 := lN (Nat.gcd U.natAbs b)
def frX (h : zM) (U : Int) (b : Nat) : zM := wL (wL h 10 0 13 (Int64.ofInt U / fg U b)) 10 0 14 (lN b / fg U b)
def frM (h : zM) (U : Int) (b : Nat) : zM := wL (wL h 11 0 3 (Int64.ofInt U / fg U b)) 11 0 4 (lN b / fg U b)
theorem gcd_ok {U : Int} {b : Nat} (b0 : 0 < b) : 0 < Nat.gcd U.natAbs b ∧ Nat.gcd U.natAbs b ≤ b := ⟨Nat.gcd_pos_of_pos_right _ b0, Nat.le_of_dvd b0 (Nat.gcd_dvd_right _ _)⟩
theorem tellX {h : zM} {U : Int} {b : Nat} (a1 : -2 ^ 62 < U) (a2 : U < 2 ^ 62) (b0 : 0 < b) (b1 : b < 2 ^ 48) : f_X10_tellFraction (Int64.ofInt U) (lN b) h = some (frX h U b) := by
  have e0 : (0 : Int64).toInt = 0 := by decide
  have A : (if 0 < Int64.ofInt U then Int64.ofInt U else -Int64.ofInt U) = lN U.natAbs := by
    by_cases c : 0 < Int64.ofInt U
    · rw [if_pos c]
      rw [Int64.lt_iff_toInt_lt, ofI_toInt a1 a2, e0] at c
      exact ofI_pos (by omega)
    · rw [if_neg c]
      rw [Int64.lt_iff_toInt_lt, ofI_toInt a1 a2, e0] at c
      exact ofI_neg (by omega)
  have G := gcd_ok (U := U) b0
  have B := cd_loop 48 U.natAbs b 1000 0 h (by omega) (by omega) b1 (by decide) (by decide)
  have z : ¬ lN (Nat.gcd U.natAbs b) = 0 := fun e => absurd ((lN_z (by omega)).mp e) (by omega)
  have z2 : ¬ lg_cmp (lN (Nat.gcd U.natAbs b)) 0 ≤ 0 := by
    rw [lg_cmp_le, Int64.le_iff_toInt_le, lN_big (by omega), e0]
    omega
  unfold f_X10_tellFraction f_X10_commonDivisor frX fg
  rw [A, show f_X10_commonDivisor_9 1000 (lN U.natAbs) (lN b) 0 h = _ from B, Option.bind_some, if_neg z2, if_pos (by simp [z])]
theorem tellM {h : zM} {U : Int} {b : Nat} (x : Int32) (a1 : -2 ^ 62 < U) (a2 : U < 2 ^ 62) (b0 : 0 < b) (b1 : b < 2 ^ 48) : f_X11_tell (Int64.ofInt U) (lN b) x h = some (x, frM h U b) := by
  have e0 : (0 : Int64).toInt = 0 := by decide
  have G := gcd_ok (U := U) b0
  have B := td_loop (u := Int64.ofInt U) (l := lN b) (x := x) (h := h) 48 U.natAbs b 1000 (by omega) (by omega) b1 (by decide) G.1 (by omega)
  unfold f_X11_tell f_X11_tell_12 frM fg
  by_cases c : 0 ≤ lg_cmp (Int64.ofInt U) 0
  · rw [if_pos c]
    rw [lg_cmp_ge, Int64.le_iff_toInt_le, ofI_toInt a1 a2, e0] at c
    have e := ofI_pos c
    rw [← e] at B
    exact B
  · rw [if_neg c]
    rw [lg_cmp_ge, Int64.le_iff_toInt_le, ofI_toInt a1 a2, e0] at c
    rw [ofI_neg (by omega)]
    exact B
/-- a fraction is told -/
theorem Okk.frac {h h1 h2 : zM} {fx fm : zM → Option (Int32 × zM)} {np n : Nat} {a : Int32} {U : Int} {b : Nat} (hI : Inv h np n) (e1 : fx h = some (a, frX h1 U b)) (e2 : fm (frX h1 U b) = some (a, frM h2 U b)) (f1 : Fr h h1) (k1 : Kp h h1) (f2 : Fr (frX h1 U b) h2) (k2 : Kp (frX h1 U b) h2) (nc : ncM h2 ≤ ncM h + 20) (ns : nsM h2 ≤ nsM h + 200) : Okk h fx fm := by
  obtain ⟨-, -, -, -, -, hA, hF, hF2, -⟩ := id hI
  refine Okk.fr hI e1 e2 f1.wL.wL f2.wL.wL ?_ ?_ ?_ nc ns
  · have A : AS (frX h1 U b) := AS.wL (AS.wL (k1.AS hA))
    exact AS.wL (AS.wL (k2.AS A))
  · obtain ⟨-, -, -, -, -, -, p7, p8, -, -⟩ := k2
    have q1 : rL (frM h2 U b) 10 0 13 = rL h2 10 0 13 := rfl
    have q2 : rL (frM h2 U b) 10 0 14 = rL h2 10 0 14 := rfl
    have q3 : rL (frM h2 U b) 11 0 3 = Int64.ofInt U / fg U b := rfl
    have q4 : rL (frM h2 U b) 11 0 4 = lN b / fg U b := rfl
    exact ⟨by rw [q1, q3, p7]; rfl, by rw [q2, q4, p8]; rfl⟩
  · have G : FD (frX h1 U b) := FD.wL (FD.wL (k1.FD hF2))
    exact FD.wL (FD.wL (k2.FD G))
theorem op_fall {h : zM} {np n : Nat} (hI : Inv h np n) (x y : Int32) : Okk h (f_X10_fall x y) (f_X11_fall x y) := by
  rcases rng x 9999 (by decide) with ⟨a, ha, rfl⟩ | hx
  · have hw := win ha (by omega)
    rw [← lit 9999] at hw
    rcases rng1 y 9999 (by decide) with ⟨b, hb1, hb, rfl⟩ | hy
    · have hv := w1n hb1 hb (by omega)
      rw [← lit 9999] at hv
      have e1 : Int32.toInt64 (nI b) = Int64.ofInt (b : Int) := by rw [nI_l (by omega), Int64.ofInt_eq_ofNat]; rfl
      have e2 : Int32.toInt64 (nI a + nI b) = lN (a + b) := by rw [nI_add, nI_l (by omega)]
      refine Okk.frac (h1 := h) (h2 := frX h (b : Int) (a + b)) (a := 1) (U := (b : Int)) (b := a + b) hI ?_ ?_ Fr.rf Kp.rf Fr.rf Kp.rf (by show ncM h ≤ _; omega) (by show nsM h ≤ _; omega)
      · unfold f_X10_fall
        simp [wi_T hw, wi_T hv, e1, e2, tellX (U := (b : Int)) (b := a + b) (by omega) (by omega) (by omega) (by omega)]
      · unfold f_X11_fall
        simp [in_T hw, in_T hv, e1, e2, tellM (U := (b : Int)) (b := a + b) 1 (by omega) (by omega) (by omega) (by omega)]
    · rw [← lit 9999] at hy
      refine Okk.same hI (a := -1) ?_ ?_
      · unfold f_X10_fall
        simp [wi_T hw, wi_F hy]
      · unfold f_X11_fall f_X11_fall_36
        simp [in_T hw, in_F hy]
  · have hw := wout hx
    rw [← lit 9999] at hw
    refine Okk.same hI (a := -1) ?_ ?_
    · unfold f_X10_fall
      simp [wi_F hw]
    · unfold f_X11_fall f_X11_fall_36
      simp [in_F hw]
