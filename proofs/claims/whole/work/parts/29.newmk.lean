def Vok (a b c : Int32) : Prop := ((1 : Int32) ≤ a ∧ a ≤ 9999) ∧ (b = -9999 ∨ ((-60 : Int32) ≤ b ∧ b ≤ 60)) ∧ ((0 : Int32) ≤ c ∧ c ≤ 3)
theorem cbm_T {a b c : Int32} (H : Vok a b c) (h : zM) : f_X10_canBeMark a b c h = some (1, h) := by
  obtain ⟨h1, h2, h3⟩ := H
  unfold f_X10_canBeMark f_X10_canBeMark_29
  by_cases hb : b = -9999
  · simp [wi_T h1, hb, wi_T h3]
  · rcases h2 with h2 | h2
    · exact absurd h2 hb
    · simp [wi_T h1, hb, wi_T h2, wi_T h3]
theorem cbm_F {a b c : Int32} (H : ¬ Vok a b c) (h : zM) : f_X10_canBeMark a b c h = some (0, h) := by
  unfold f_X10_canBeMark f_X10_canBeMark_29 f_X10_canBeMark_42
  by_cases h1 : (1 : Int32) ≤ a ∧ a ≤ 9999
  · by_cases hb : b = -9999
    · have h3 : ¬ ((0 : Int32) ≤ c ∧ c ≤ 3) := fun z => H ⟨h1, Or.inl hb, z⟩
      simp [wi_T h1, hb, wi_F h3]
    · by_cases h2 : (-60 : Int32) ≤ b ∧ b ≤ 60
      · have h3 : ¬ ((0 : Int32) ≤ c ∧ c ≤ 3) := fun z => H ⟨h1, Or.inr h2, z⟩
        simp [wi_T h1, hb, wi_T h2, wi_F h3]
      · simp [wi_T h1, hb, wi_F h2]
  · simp [wi_F h1]
theorem isv_T {a b c : Int32} (H : Vok a b c) (h : zM) : f_X11_isValue a b c h = some (1, h) := by
  obtain ⟨h1, h2, h3⟩ := H
  unfold f_X11_isValue f_X11_isValue_29
  by_cases hb : b = -9999
  · simp [in_T h1, hb, in_T h3]
  · rcases h2 with h2 | h2
    · exact absurd h2 hb
    · simp [in_T h1, hb, in_T h2, in_T h3]
theorem isv_F {a b c : Int32} (H : ¬ Vok a b c) (h : zM) : f_X11_isValue a b c h = some (0, h) := by
  unfold f_X11_isValue f_X11_isValue_29 f_X11_isValue_42
  by_cases h1 : (1 : Int32) ≤ a ∧ a ≤ 9999
  · by_cases hb : b = -9999
    · have h3 : ¬ ((0 : Int32) ≤ c ∧ c ≤ 3) := fun z => H ⟨h1, Or.inl hb, z⟩
      simp [in_T h1, hb, in_F h3]
    · by_cases h2 : (-60 : Int32) ≤ b ∧ b ≤ 60
      · have h3 : ¬ ((0 : Int32) ≤ c ∧ c ≤ 3) := fun z => H ⟨h1, Or.inr h2, z⟩
        simp [in_T h1, hb, in_T h2, in_F h3]
      · simp [in_T h1, hb, in_F h2]
  · simp [in_F h1]
def mk0 (h : zM) (k p : Nat) (d x1 a b c : Int32) : zM := wI (wI (wI (wI (wR (wI (wI (nwM h 2 10) 2 k 0 x1) 2 k 1 (nI p)) 2 k 2 (some (3, p))) 2 k 3 d) 2 k 4 a) 2 k 5 b) 2 k 6 c
def mkX (h : zM) (k p : Nat) (d x1 a b c : Int32) : zM := wI (wR (mk0 h k p d x1 a b c) 29 0 k (some (2, k))) 10 0 10 (nI (k + 1))
def mkM (h : zM) (k p : Nat) (d x1 a b c : Int32) : zM := wI (wI (wI (wI (wI (wI (wI (wI h 39 0 (7 * k) 0) 39 0 (7 * k + 1) x1) 39 0 (7 * k + 2) (nI p)) 39 0 (7 * k + 3) d) 39 0 (7 * k + 4) a) 39 0 (7 * k + 5) b) 39 0 (7 * k + 6) c) 11 0 13 (nI (k + 1))
theorem addMark_eq {g : zM} {np k p : Nat} {x1 a b c : Int32} (hX : XS g) (hP : PL g np) (hp : p < np) (hk : rI g 10 0 10 = nI k) (h40 : k < 40) (hc : cnM g 2 = k) : f_X10_addMark x1 (nI p) a b c g = some (nI k, mkX g k p (rI g 10 0 8) x1 a b c) := by
  have z : nI k < 40 := nI_lt (a := k) (b := 40) (by omega) (by decide)
  have x3 := hX.2.2.2.1
  have r8 : rI (nwM g 2 10) 10 0 8 = rI g 10 0 8 := rI_nw_ne (by decide)
  have r10 : rI (mk0 g k p (rI g 10 0 8) x1 a b c) 10 0 10 = nI k := by
    unfold mk0
    rw [rI_wI_ne (by decide), rI_wI_ne (by decide), rI_wI_ne (by decide), rI_wI_ne (by decide), rI_wR, rI_wI_ne (by decide), rI_wI_ne (by decide), rI_nw_ne (by decide)]
    exact hk
  have I : f_X2_init (some (2, k)) x1 (nI p) (some (3, p)) (rI g 10 0 8) a b c (nwM g 2 10) = some (mk0 g k p (rI g 10 0 8) x1 a b c) := by
    unfold f_X2_init mk0
    rw [clR_s, ixR_s, if_pos (by decide), if_pos (by decide)]
  unfold f_X10_addMark
  rw [placeAt_in hX hP hp]
  simp only [Option.bind_some, reduceCtorEq, if_false, hk, if_pos z, hc, r8, I, x3, decide_true, Bool.and_true, if_true, ixOk_nI h40 (by decide), nI_clamp (show k < 2 ^ 31 by omega), r10, nI_1]
  rw [rI_wI, if_pos ⟨rfl, rfl, rfl⟩, nI_pred]
  rfl
theorem newMark_eq {g : zM} {k p : Nat} {x1 a b c : Int32} (hM : MS g) (hk : rI g 11 0 13 = nI k) (h40 : k < 40) : f_X11_newMark x1 (nI p) a b c g = some (nI k, mkM g k p (rI g 11 0 5) x1 a b c) := by
  have m8 := hM.2.2.2.2.2.2.2.1
  have e0 : (7 : Int32) * nI k = nI (7 * k) := by rw [lit 7, pk_mul]
  have e1 : nI (7 * k) + 1 = nI (7 * k + 1) := by rw [nI_1]
  have e2 : nI (7 * k) + 2 = nI (7 * k + 2) := by rw [lit 2, nI_add]
  have e3 : nI (7 * k) + 3 = nI (7 * k + 3) := by rw [lit 3, nI_add]
  have e4 : nI (7 * k) + 4 = nI (7 * k + 4) := by rw [lit 4, nI_add]
  have e5 : nI (7 * k) + 5 = nI (7 * k + 5) := by rw [lit 5, nI_add]
  have e6 : nI (7 * k) + 6 = nI (7 * k + 6) := by rw [lit 6, nI_add]
  have k1 : ∀ k v, rI (wI g 39 0 k v) 11 0 5 = rI g 11 0 5 := fun k v => rI_wI_ne (by decide)
  have k2 : ∀ (g : zM) k v, rI (wI g 39 0 k v) 11 0 13 = rI g 11 0 13 := fun g k v => rI_wI_ne (by decide)
  have k3 : ∀ (g : zM) k v, rI (wI g 39 0 k v) 11 0 5 = rI g 11 0 5 := fun g k v => rI_wI_ne (by decide)
  unfold f_X11_newMark mkM
  simp only [hk, k2, k3, e0, e1, e2, e3, e4, e5, e6, nI_clamp (show 7 * k < 2 ^ 31 by omega), nI_clamp (show 7 * k + 1 < 2 ^ 31 by omega), nI_clamp (show 7 * k + 2 < 2 ^ 31 by omega), nI_clamp (show 7 * k + 3 < 2 ^ 31 by omega), nI_clamp (show 7 * k + 4 < 2 ^ 31 by omega), nI_clamp (show 7 * k + 5 < 2 ^ 31 by omega), nI_clamp (show 7 * k + 6 < 2 ^ 31 by omega), ixOk_nI (show 7 * k < 280 by omega) (by decide), ixOk_nI (show 7 * k + 1 < 280 by omega) (by decide), ixOk_nI (show 7 * k + 2 < 280 by omega) (by decide), ixOk_nI (show 7 * k + 3 < 280 by omega) (by decide), ixOk_nI (show 7 * k + 4 < 280 by omega) (by decide), ixOk_nI (show 7 * k + 5 < 280 by omega) (by decide), ixOk_nI (show 7 * k + 6 < 280 by omega) (by decide), m8, nI_1, decide_true, Bool.and_true, if_true]
  rw [rI_wI, if_pos ⟨rfl, rfl, rfl⟩, nI_pred]
/-- a new MARK of ThinAir's -/
def NM (h : zM) (k p : Nat) (x1 d a b c : Int32) : Prop := (rI h 2 k 0 = x1 ∧ rI h 2 k 1 = nI p ∧ rI h 2 k 3 = d ∧ rI h 2 k 4 = a ∧ rI h 2 k 5 = b ∧ rI h 2 k 6 = c) ∧ (rI h 2 k 7 = 0 ∧ rI h 2 k 8 = 0 ∧ rI h 2 k 9 = 0) ∧ rR h 2 k 2 = some (3, p)
/-- m new MARKs, ThinAir's half -/
def HX (h h1 : zM) (n m p : Nat) (x1 d : Int32) (v : Nat → Int32) : Prop :=
  (∀ c i f, ¬ c = 2 → ¬ (c = 10 ∧ f = 10) → rI h1 c i f = rI h c i f) ∧ (∀ i f, i < n → rI h1 2 i f = rI h 2 i f) ∧ rI h1 10 0 10 = nI (n + m)
  ∧ (∀ j, j < m → NM h1 (n + j) p x1 d (v (3 * j)) (v (3 * j + 1)) (v (3 * j + 2)))
  ∧ (∀ c i f, ¬ c = 2 → ¬ c = 29 → rR h1 c i f = rR h c i f) ∧ (∀ i f, i < n → rR h1 2 i f = rR h 2 i f) ∧ (∀ k, rR h1 29 0 k = if n ≤ k ∧ k < n + m then some (2, k) else rR h 29 0 k)
  ∧ (∀ c i f, ¬ c = 2 → rL h1 c i f = rL h c i f) ∧ (∀ c, cnM h1 c = if c = 2 then n + m else cnM h c) ∧ slM h1 = slM h ∧ ncM h1 = ncM h + m ∧ nsM h1 = nsM h + 10 * m
theorem HX.refl {h : zM} {np n p : Nat} {x1 d : Int32} {v : Nat → Int32} (hK : MK h np n) : HX h h n 0 p x1 d v := by
  obtain ⟨h1, h2, h3, h4, h5, h6⟩ := hK
  refine ⟨fun _ _ _ _ _ => rfl, fun _ _ _ => rfl, h2, fun j hj => absurd hj (by omega), fun _ _ _ _ _ => rfl, fun _ _ _ => rfl, fun k => ?_, fun _ _ _ _ => rfl, fun c => ?_, rfl, rfl, rfl⟩
  · rw [if_neg (by omega)]
  · by_cases e : c = 2
    · simp [e, h4]
    · simp [e]
theorem HX.step {h h1 : zM} {n m p : Nat} {x1 d : Int32} {v : Nat → Int32} (H : HX h h1 n m p x1 d v) : HX h (mkX h1 (n + m) p d x1 (v (3 * m)) (v (3 * m + 1)) (v (3 * m + 2))) n (m + 1) p x1 d v := by
  obtain ⟨a1, a2, a3, a4, a5, a6, a7, a8, a9, a10, a11, a12⟩ := H
  have c2 : cnM h1 2 = n + m := by rw [a9]; simp
  refine ⟨fun c i f hc hf => ?_, fun i f hi => ?_, ?_, fun j hj => ?_, fun c i f hc hf => ?_, fun i f hi => ?_, fun k => ?_, fun c i f hc => ?_, fun c => ?_, a10, ?_, ?_⟩
  · rw [← a1 c i f hc hf]
    have hf' : ¬ (c = 10 ∧ i = 0 ∧ f = 10) := fun z => hf ⟨z.1, z.2.2⟩
    unfold mkX mk0
    simp -implicitDefEqProofs only [rI_wI, rI_wR, rI_nw, hc, false_and, if_false, hf']
  · rw [← a2 i f hi]
    have hi' : ¬ i = n + m := by omega
    unfold mkX mk0
    simp -implicitDefEqProofs [rI_wI, rI_wR, rI_nw, hi', c2]
  · unfold mkX
    rw [rI_wI, if_pos ⟨rfl, rfl, rfl⟩, Nat.add_assoc]
  · by_cases e : j = m
    · subst e
      unfold NM mkX mk0
      simp -implicitDefEqProofs [rI_wI, rI_wR, rI_nw, rR_wI, rR_wR, rR_nw, c2]
    · have e' : ¬ n + j = n + m := by omega
      have q := a4 j (by omega)
      unfold NM at q ⊢
      unfold mkX mk0
      simp -implicitDefEqProofs only [rI_wI, rI_wR, rI_nw, rR_wI, rR_wR, rR_nw, e', c2, false_and, and_false, if_false, show ¬ (2 = 10) by decide, show ¬ (2 = 29) by decide]
      exact q
  · rw [← a5 c i f hc hf]
    unfold mkX mk0
    simp -implicitDefEqProofs only [rR_wI, rR_wR, rR_nw, hc, hf, false_and, if_false]
  · rw [← a6 i f hi]
    have hi' : ¬ i = n + m := by omega
    unfold mkX mk0
    simp -implicitDefEqProofs [rR_wI, rR_wR, rR_nw, hi', c2]
  · have := a7 k
    by_cases e : k = n + m
    · subst e
      unfold mkX mk0
      simp -implicitDefEqProofs [rR_wI, rR_wR, rR_nw]
    · have q : (n ≤ k ∧ k < n + (m + 1)) ↔ (n ≤ k ∧ k < n + m) := by omega
      simp only [q]
      rw [← this]
      unfold mkX mk0
      simp -implicitDefEqProofs [rR_wI, rR_wR, rR_nw, e]
  · rw [← a8 c i f hc]
    unfold mkX mk0
    simp -implicitDefEqProofs only [rL_wI, rL_wR, rL_nw, hc, false_and, if_false]
  · unfold mkX mk0
    simp -implicitDefEqProofs only [cn_wI, cn_wR, cn_nw, c2]
    by_cases e : c = 2
    · simp [e]
      omega
    · simp [e, a9 c]
  · have : ncM (mkX h1 (n + m) p d x1 (v (3 * m)) (v (3 * m + 1)) (v (3 * m + 2))) = ncM h1 + 1 := rfl
    omega
  · have : nsM (mkX h1 (n + m) p d x1 (v (3 * m)) (v (3 * m + 1)) (v (3 * m + 2))) = nsM h1 + 10 := rfl
    omega
/-- m new MARKs, the reference's half -/
def HM (h h2 : zM) (n m p : Nat) (x1 d : Int32) (v : Nat → Int32) : Prop :=
  h2.2 = h.2 ∧ (∀ c i f, ¬ c = 39 → ¬ (c = 11 ∧ f = 13) → rI h2 c i f = rI h c i f) ∧ rI h2 11 0 13 = nI (n + m) ∧ (∀ k, k < 7 * n → rI h2 39 0 k = rI h 39 0 k)
  ∧ ∀ j, j < m → rI h2 39 0 (7 * (n + j)) = 0 ∧ rI h2 39 0 (7 * (n + j) + 1) = x1 ∧ rI h2 39 0 (7 * (n + j) + 2) = nI p ∧ rI h2 39 0 (7 * (n + j) + 3) = d ∧ rI h2 39 0 (7 * (n + j) + 4) = v (3 * j) ∧ rI h2 39 0 (7 * (n + j) + 5) = v (3 * j + 1) ∧ rI h2 39 0 (7 * (n + j) + 6) = v (3 * j + 2)
theorem HM.refl {h : zM} {n p : Nat} {x1 d : Int32} {v : Nat → Int32} (hK : rI h 11 0 13 = nI n) : HM h h n 0 p x1 d v := ⟨rfl, fun _ _ _ _ _ => rfl, hK, fun _ _ => rfl, fun j hj => absurd hj (by omega)⟩
theorem mkM_39 {h : zM} {k p : Nat} {d x1 a b c : Int32} {q : Nat} (hq : q < 7 * k) : rI (mkM h k p d x1 a b c) 39 0 q = rI h 39 0 q := by
  unfold mkM
  rw [rI_wI_ne (by decide), rI_wI_nf (by omega), rI_wI_nf (by omega), rI_wI_nf (by omega), rI_wI_nf (by omega), rI_wI_nf (by omega), rI_wI_nf (by omega), rI_wI_nf (by omega)]
theorem HM.step {h h2 : zM} {n m p : Nat} {x1 d : Int32} {v : Nat → Int32} (H : HM h h2 n m p x1 d v) : HM h (mkM h2 (n + m) p d x1 (v (3 * m)) (v (3 * m + 1)) (v (3 * m + 2))) n (m + 1) p x1 d v := by
  obtain ⟨a1, a2, a3, a4, a5⟩ := H
  refine ⟨a1, fun c i f hc hf => ?_, ?_, fun k hk => ?_, fun j hj => ?_⟩
  · rw [← a2 c i f hc hf]
    have hf' : ¬ (c = 11 ∧ i = 0 ∧ f = 13) := fun z => hf ⟨z.1, z.2.2⟩
    unfold mkM
    simp -implicitDefEqProofs only [rI_wI, hc, false_and, if_false, hf']
  · unfold mkM
    rw [rI_wI, if_pos ⟨rfl, rfl, rfl⟩, Nat.add_assoc]
  · rw [mkM_39 (by omega)]
    exact a4 k hk
  · by_cases e : j = m
    · subst e
      unfold mkM
      simp -implicitDefEqProofs [rI_wI]
    · rw [mkM_39 (by omega), mkM_39 (by omega), mkM_39 (by omega), mkM_39 (by omega), mkM_39 (by omega), mkM_39 (by omega), mkM_39 (by omega)]
      exact a5 j (by omega)
