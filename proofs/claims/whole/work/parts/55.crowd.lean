/-- the MARK at a place of the list -/
def el (L : List Nat) (i : Nat) : Nat := (L[L.length - 1 - i]?).getD 0
theorem Lf.el {g f : Nat → Int32} {L : List Nat} (H : Lf g f L) {i : Nat} (hi : i < L.length) : g i = f (el L i) := by
  have kl : L.length - 1 - i < L.length := by omega
  have e := Lf.get H kl
  rw [show L.length - 1 - (L.length - 1 - i) = i by omega] at e
  rw [e]
  unfold _root_.Jvm.Pilot.CThinAirLaw_law_r6155_d9ef75.el
  rw [List.getElem?_eq_getElem kl]
  rfl
theorem el_mem {L : List Nat} {i : Nat} (hi : i < L.length) : el L i ∈ L := by
  have kl : L.length - 1 - i < L.length := by omega
  unfold el
  rw [List.getElem?_eq_getElem kl]
  exact List.getElem_mem kl
def crP (h : zM) (x y : Int32) (m : Nat) : Bool := decide (rI h 3 (pl h m) 3 = x) && decide (rI h 2 m 3 / 365 = y)
theorem crP_fr {h g : zM} (F : Fr h g) (x y : Int32) : crP g x y = crP h x y := by
  funext m
  unfold crP
  rw [pl_fr F, F.I rfl (by decide), F.I rfl (by decide)]
def cro (E : Nat → Bool) (t : Nat) : Nat → Nat → Nat × Nat → Nat × Nat
  | 0, _, s => s
  | r + 1, i, s => cro E t r (i + 1) (if E i = true then (s.1 + 1, s.2 + if i < t then 1 else 0) else s)
theorem cro_bd {E : Nat → Bool} {t : Nat} : ∀ (r i : Nat) (s : Nat × Nat), s.2 ≤ s.1 → s.1 ≤ i → (cro E t r i s).2 ≤ (cro E t r i s).1 ∧ (cro E t r i s).1 ≤ i + r
  | 0, i, s, a, b => ⟨a, b⟩
  | r + 1, i, s, a, b => by
    unfold cro
    have q := cro_bd (E := E) (t := t) r (i + 1) (if E i = true then (s.1 + 1, s.2 + if i < t then 1 else 0) else s) ?_ ?_
    · exact ⟨q.1, by omega⟩
    · by_cases c : E i = true
      · rw [if_pos c]
        by_cases d : i < t <;> simp only [d, if_true, if_false] <;> omega
      · rw [if_neg c]
        exact a
    · by_cases c : E i = true
      · rw [if_pos c]
        show s.1 + 1 ≤ i + 1
        omega
      · rw [if_neg c]
        omega
theorem cCro {h : zM} {np n : Nat} (H : InvN h np n) {L : List Nat} {W : Nat → Int32} {t : Nat} {x y : Int32} (ht : t ≤ 40) (l40 : L.length ≤ 40) (ln : ∀ a, a ∈ L → a < n) (K : RK h 0 W L) : ∀ (r fuel i : Nat) (s : Nat × Nat), r + i = L.length → r < fuel → f_X10_crowd_57 fuel x y (nI t) (nI s.1) (nI s.2) (nI i) h = f_X10_crowd_57 1 x y (nI t) (nI (cro (fun i => crP h x y (el L i)) t r i s).1) (nI (cro (fun i => crP h x y (el L i)) t r i s).2) (nI L.length) h
  | 0, fuel + 1, i, s, e, hf => by
    have x5 := H.X.2.2.2.2.2.1
    have : i = L.length := by omega
    subst this
    unfold f_X10_crowd_57
    rw [K.1, if_pos (nI_le (Nat.le_refl _) (by omega)), if_pos (nI_le (Nat.le_refl _) (by omega))]
    rfl
  | r + 1, fuel + 1, i, s, e, hf => by
    have x5 := H.X.2.2.2.2.2.1
    have rf := H.X.rf (r := 0) (by decide)
    have il : i < L.length := by omega
    have am := ln _ (el_mem il)
    have w : rI h 21 0 i = nI (el L i) := K.2.1.el il
    obtain ⟨p1, -, p3⟩ := H.pl am
    have IH := fun s' => cCro H (x := x) (y := y) ht l40 ln K r fuel (i + 1) s' (by omega) (by omega)
    rw [show cro (fun i => crP h x y (el L i)) t (r + 1) i s = cro (fun i => crP h x y (el L i)) t r (i + 1) (if crP h x y (el L i) = true then (s.1 + 1, s.2 + if i < t then 1 else 0) else s) from rfl]
    rw [← IH]
    generalize el L i = m at w am p1 p3
    rw [show f_X10_crowd_57 (fuel + 1) x y (nI t) (nI s.1) (nI s.2) (nI i) h = (if (true && (true && (decide (rR h 10 0 5 = (some (4, 0))) && true))) = true then (if (rI h 4 0 3) ≤ nI i then (if nI s.1 = 0 then (f_X10_crowd_158 h) else (if (true && (true && (decide (rR h 10 0 5 = (some (4, 0))) && true))) = true then (if nI t ≤ (rI h 4 0 3) then (if (true && (true && (true && (true && (decide (rR h 10 0 5 = (some (4, 0))) && true))))) = true then ((f_X10_tellOddsOfChoice (nI s.2) (nI s.1) (nI t) (rI h 4 0 3) h).bind fun q178 => (some (nI s.2, q178))) else none) else (f_X10_crowd_158 h)) else none)) else (if (true && (true && (true && (ixOk 40 (nI i) && (true && (decide (rR h 4 0 0 = (some (21, 0))) && (true && (decide (rR h 10 0 5 = (some (4, 0))) && true)))))))) = true then ((f_X10_markAt (rI h 21 0 (Int32.toNatClampNeg (nI i))) h).bind fun q80 => (if q80.1 = none then (f_X10_crowd_135 (f_X10_crowd_57 fuel) x y (nI t) (nI s.1) (nI s.2) (nI i) q80.2) else (if (memN [3] (clR (rR q80.2 (clR q80.1) (ixR q80.1) 2)) && (memN [2] (clR q80.1) && true)) = true then (if ¬ (rI q80.2 (clR (rR q80.2 (clR q80.1) (ixR q80.1) 2)) (ixR (rR q80.2 (clR q80.1) (ixR q80.1) 2)) 3) = x then (f_X10_crowd_135 (f_X10_crowd_57 fuel) x y (nI t) (nI s.1) (nI s.2) (nI i) q80.2) else (if (true && (memN [2] (clR q80.1) && true)) = true then (if ¬ ((rI q80.2 (clR q80.1) (ixR q80.1) 3) / 365) = y then (f_X10_crowd_135 (f_X10_crowd_57 fuel) x y (nI t) (nI s.1) (nI s.2) (nI i) q80.2) else (if nI t ≤ nI i then (f_X10_crowd_132 (f_X10_crowd_57 fuel) x y (nI t) (nI s.1 + 1) (nI i) (nI s.2) 0 q80.2) else (f_X10_crowd_132 (f_X10_crowd_57 fuel) x y (nI t) (nI s.1 + 1) (nI i) (nI s.2) 1 q80.2))) else none)) else none))) else none)) else none) from rfl]
    unfold f_X10_crowd_132 f_X10_crowd_135
    simp -implicitDefEqProofs only [x5, rf.1, K.1, nI_ge il (show L.length < 2 ^ 31 by omega), if_false, ixOk_nI (show i < 40 by omega) (by decide), nI_clamp (show i < 2 ^ 31 by omega), w, markAt_in H.X H.K am, Option.bind_some, reduceCtorEq, clR_s, ixR_s, p3, memT1, decide_true, Bool.true_and, Bool.and_true, if_true, nI_1, Int32.add_zero]
    unfold crP
    by_cases a : rI h 3 (pl h m) 3 = x
    · rw [if_neg (fun z => z a)]
      by_cases b : rI h 2 m 3 / 365 = y
      · rw [if_neg (fun z => z b), if_pos (show (decide (rI h 3 (pl h m) 3 = x) && decide (rI h 2 m 3 / 365 = y)) = true by simp [a, b])]
        by_cases c : i < t
        · rw [if_neg (nI_ge c (by omega)), if_pos c]
        · rw [if_pos (nI_le (by omega) (by omega)), if_neg c]
          rfl
      · rw [if_pos b, if_neg (show ¬ (decide (rI h 3 (pl h m) 3 = x) && decide (rI h 2 m 3 / 365 = y)) = true by simp [b])]
    · rw [if_pos a, if_neg (show ¬ (decide (rI h 3 (pl h m) 3 = x) && decide (rI h 2 m 3 / 365 = y)) = true by simp [a])]
theorem mCro {h : zM} {np n : Nat} (H : InvN h np n) {L : List Nat} {t : Nat} {x y : Int32} (ht : t ≤ 40) (l40 : L.length ≤ 40) (ln : ∀ a, a ∈ L → a < n) (K : LM h L) : ∀ (r fuel i : Nat) (s : Nat × Nat), r + i = L.length → r < fuel → f_X11_crowd_61 fuel x y (nI t) (nI s.1) (nI s.2) (nI i) h = f_X11_crowd_61 1 x y (nI t) (nI (cro (fun i => crP h x y (el L i)) t r i s).1) (nI (cro (fun i => crP h x y (el L i)) t r i s).2) (nI L.length) h
  | 0, fuel + 1, i, s, e, hf => by
    have : i = L.length := by omega
    subst this
    unfold f_X11_crowd_61
    rw [K.1, if_pos (nI_le (Nat.le_refl _) (by omega)), if_pos (nI_le (Nat.le_refl _) (by omega))]
    rfl
  | r + 1, fuel + 1, i, s, e, hf => by
    have m7 := H.M.2.2.2.2.2.2.1
    have il : i < L.length := by omega
    have am := ln _ (el_mem il)
    have w : rI h 45 0 i = nI (el L i) := K.2.el il
    have IH := fun s' => mCro H (x := x) (y := y) ht l40 ln K r fuel (i + 1) s' (by omega) (by omega)
    rw [show cro (fun i => crP h x y (el L i)) t (r + 1) i s = cro (fun i => crP h x y (el L i)) t r (i + 1) (if crP h x y (el L i) = true then (s.1 + 1, s.2 + if i < t then 1 else 0) else s) from rfl]
    rw [← IH]
    generalize el L i = m at w am
    have p8 := H.P.1
    obtain ⟨p1, -, p3⟩ := H.pl am
    have f3 : rI h 38 0 (4 * pl h m + 3) = rI h 3 (pl h m) 3 := ((H.plk p1).1 3 (by decide)).symm
    have k3 : (4 : Int32) * nI (pl h m) + 3 = nI (4 * pl h m + 3) := by rw [lit 4, lit 3, pk_mul, nI_add]
    rw [show f_X11_crowd_61 (fuel + 1) x y (nI t) (nI s.1) (nI s.2) (nI i) h = (if (rI h 11 0 28) ≤ nI i then (if nI s.1 = 0 then (f_X11_crowd_179 h) else (if nI t ≤ (rI h 11 0 28) then (f_X11_crowd_192 1000 (nI t) (nI s.1) (nI s.2) 0 (nI s.2) h) else (f_X11_crowd_179 h))) else (if (true && (true && (true && (ixOk 40 (nI i) && (true && (decide (rR h 11 0 29 = (some (45, 0))) && (true && (decide (rR h 11 0 12 = (some (38, 0))) && true)))))))) = true then ((f_X11_part (rI h 45 0 (Int32.toNatClampNeg (nI i))) 2 h).bind fun q84 => (if (true && (ixOk 32 ((4 * q84.1) + 3) && true)) = true then (if ¬ (rI q84.2 38 0 (Int32.toNatClampNeg ((4 * q84.1) + 3))) = x then (f_X11_crowd_119 (f_X11_crowd_61 fuel) x y (nI t) (nI s.1) (nI s.2) (nI i) q84.2) else (if (true && (true && (true && (ixOk 40 (nI i) && (true && (decide (rR q84.2 11 0 29 = (some (45, 0))) && true)))))) = true then ((f_X11_part (rI q84.2 45 0 (Int32.toNatClampNeg (nI i))) 3 q84.2).bind fun q104 => (if ¬ (q104.1 / 365) = y then (f_X11_crowd_119 (f_X11_crowd_61 fuel) x y (nI t) (nI s.1) (nI s.2) (nI i) q104.2) else (f_X11_crowd_120 (f_X11_crowd_61 fuel) x y (nI t) (nI s.1) (nI s.2) (nI i) 1 q104.2))) else none)) else none)) else none)) from rfl]
    unfold f_X11_crowd_119 f_X11_crowd_120 f_X11_crowd_134 f_X11_crowd_155 f_X11_crowd_156
    simp -implicitDefEqProofs only [K.1, nI_ge il (show L.length < 2 ^ 31 by omega), if_false, H.M.m29, m7, ixOk_nI (show i < 40 by omega) (by decide), nI_clamp (show i < 2 ^ 31 by omega), w, mp2 H am, mp3 H am, Option.bind_some, k3, ixOk_nI (show 4 * pl h m + 3 < 32 by omega) (by decide), nI_clamp (show 4 * pl h m + 3 < 2 ^ 31 by omega), f3, decide_true, Bool.true_and, Bool.and_true, if_true, nI_1, Int32.add_zero, show ¬ (1 : Int32) = 0 by decide]
    unfold crP
    by_cases a : rI h 3 (pl h m) 3 = x
    · rw [if_neg (fun z => z a)]
      by_cases b : rI h 2 m 3 / 365 = y
      · rw [if_neg (fun z => z b), if_pos (show (decide (rI h 3 (pl h m) 3 = x) && decide (rI h 2 m 3 / 365 = y)) = true by simp [a, b])]
        by_cases c : i < t
        · rw [if_neg (nI_ge c (by omega)), if_pos c]
        · rw [if_pos (nI_le (by omega) (by omega)), if_neg c]
          rfl
      · rw [if_pos b, if_neg (show ¬ (decide (rI h 3 (pl h m) 3 = x) && decide (rI h 2 m 3 / 365 = y)) = true by simp [b])]
    · rw [if_pos a, if_neg (show ¬ (decide (rI h 3 (pl h m) 3 = x) && decide (rI h 2 m 3 / 365 = y)) = true by simp [a])]
/-! odds of a choice -/
def sC (t z q : Nat) : Nat → Nat → Nat → Nat
  | 0, _, w => w
  | r + 1, k, w => sC t z q r (k + 1) (w + chN t k * chN (z - t) (q - k))
theorem sC_bd {t z q : Nat} (ht : t ≤ z) (hz : z ≤ 40) : ∀ (r k w : Nat), sC t z q r k w ≤ w + r * 2 ^ 40
  | 0, k, w => by show w ≤ _; omega
  | r + 1, k, w => by
    unfold sC
    have a := chN_le (n := t) (k := k) (by omega)
    have b := chN_le (n := z - t) (k := q - k) (by omega)
    have c := Nat.mul_le_mul a b
    rw [← Nat.pow_add, show t + (z - t) = z by omega] at c
    have d : 2 ^ z ≤ 2 ^ 40 := Nat.pow_le_pow_right (by decide) hz
    have e := sC_bd (q := q) ht hz r (k + 1) (w + chN t k * chN (z - t) (q - k))
    have f : (r + 1) * 2 ^ 40 = r * 2 ^ 40 + 2 ^ 40 := by rw [Nat.add_mul, Nat.one_mul]
    omega
theorem cCho {t z q : Nat} (ht : t ≤ z) (hz : z ≤ 40) (hq : q ≤ 40) {h : zM} : ∀ (r fuel k w : Nat), r + k = q + 1 → r < fuel → f_X10_tellOddsOfChoice_6 fuel (nI q) (nI t) (nI z) (lN w) (nI k) h = f_X10_tellFraction (lN (sC t z q r k w)) (lN (chN z q)) h
  | 0, fuel + 1, k, w, e, hf => by
    unfold f_X10_tellOddsOfChoice_6
    rw [if_pos (nI_lt (by omega) (by omega)), cCh hz (by omega), Option.bind_some]
    show (f_X10_tellFraction (lN w) (lN (chN z q)) h).bind _ = _
    rw [show sC t z q 0 k w = w from rfl]
    cases f_X10_tellFraction (lN w) (lN (chN z q)) h <;> rfl
  | r + 1, fuel + 1, k, w, e, hf => by
    unfold f_X10_tellOddsOfChoice_6
    rw [if_neg (nI_nlt (by omega) (by omega)), cCh (by omega) (by omega), Option.bind_some, nI_sub ht, nI_sub (show k ≤ q by omega), cCh (by omega) (by omega), Option.bind_some, lN_mul, lN_add, nI_1, cCho ht hz hq r fuel (k + 1) _ (by omega) (by omega)]
    rfl
theorem mCho {t z q : Nat} (ht : t ≤ z) (hz : z ≤ 40) (hq : q ≤ 40) {x : Int32} {h : zM} (e28 : rI h 11 0 28 = nI z) : ∀ (r fuel k w : Nat), r + k = q + 1 → r < fuel → f_X11_crowd_192 fuel (nI t) (nI q) x (lN w) (nI k) h = f_X11_tell (lN (sC t z q r k w)) (lN (chN z q)) x h
  | 0, fuel + 1, k, w, e, hf => by
    unfold f_X11_crowd_192
    rw [if_pos (nI_lt (by omega) (by omega)), e28, mCh hz (by omega), Option.bind_some, ob]
    rfl
  | r + 1, fuel + 1, k, w, e, hf => by
    unfold f_X11_crowd_192
    rw [if_neg (nI_nlt (by omega) (by omega)), mCh (by omega) (by omega), Option.bind_some, e28, nI_sub ht, nI_sub (show k ≤ q by omega), mCh (by omega) (by omega), Option.bind_some, lN_mul, lN_add, nI_1, mCho ht hz hq e28 r fuel (k + 1) _ (by omega) (by omega)]
    rfl
theorem op_crowd {h : zM} {np n : Nat} (hI : Inv h np n) (x y1 y2 y3 : Int32) : Okk h (f_X10_crowd x y1 y2 y3) (f_X11_crowd x y1 y2 y3) := by
  have H := hI.N
  have n40 := H.n40
  by_cases c1 : (0 : Int32) ≤ y1 ∧ y1 ≤ 3
  · by_cases c2 : (0 : Int32) ≤ y2 ∧ y2 ≤ 27
    · rcases rng1 y3 40 (by decide) with ⟨t, ht1, ht, rfl⟩ | c3
      · have c3 := w1n ht1 ht (by decide)
        rw [← lit 40] at c3
        refine rank_op hI x 0 (Or.inl rfl) (f_X10_crowd x y1 y2 (nI t)) (f_X11_crowd x y1 y2 (nI t)) (fun q => f_X10_crowd_57 1000 y1 y2 (nI t) 0 0 0 q) (fun q => f_X11_crowd_61 1000 y1 y2 (nI t) 0 0 0 q) ?_ (fun g _ => ?_) (fun s N il g V Fg Kg K nc ns ask ex => ?_)
        · unfold f_X10_crowd
          rw [wi_T c1, Option.bind_some, if_neg (show ¬ (1 : Int32) = 0 by decide), wi_T c2, Option.bind_some, if_neg (show ¬ (1 : Int32) = 0 by decide), wi_T c3, Option.bind_some, if_pos (show ¬ (1 : Int32) = 0 by decide)]
        · unfold f_X11_crowd
          rw [in_T c1, Option.bind_some, if_neg (show ¬ (1 : Int32) = 0 by decide), in_T c2, Option.bind_some, if_neg (show ¬ (1 : Int32) = 0 by decide), in_T c3, Option.bind_some, if_pos (show ¬ (1 : Int32) = 0 by decide)]
        · obtain ⟨l40, ln, -⟩ := LO_inv (h := h) (s := s) (N := N) (one := 0) n40
          generalize LO h s N n 0 = L at K ask l40 ln
          have hX := Fg.XS hI.1
          have x5 := hX.2.2.2.2.2.1
          have A : f_X10_crowd_57 1000 y1 y2 (nI t) 0 0 0 g = _ := cCro (Fg.N H) (t := t) (x := y1) (y := y2) ht l40 ln K L.length 1000 0 (0, 0) (by omega) (by omega)
          rw [crP_fr Fg] at A
          have bd := cro_bd (E := fun i => crP h y1 y2 (el L i)) (t := t) L.length 0 (0, 0) (by decide) (by decide)
          have B : ∀ g3, Fr h g3 → LM g3 L → f_X11_crowd_61 1000 y1 y2 (nI t) 0 0 0 g3 = f_X11_crowd_61 1 y1 y2 (nI t) (nI (cro (fun i => crP h y1 y2 (el L i)) t L.length 0 (0, 0)).1) (nI (cro (fun i => crP h y1 y2 (el L i)) t L.length 0 (0, 0)).2) (nI L.length) g3 := fun g3 F3 M3 => by
            have B0 : f_X11_crowd_61 1000 y1 y2 (nI t) 0 0 0 g3 = _ := mCro (F3.N H) (t := t) (x := y1) (y := y2) ht l40 ln M3 L.length 1000 0 (0, 0) (by omega) (by omega)
            rw [crP_fr F3] at B0
            exact B0
          generalize cro (fun i => crP h y1 y2 (el L i)) t L.length 0 (0, 0) = c at A B bd
          have ex' : f_X10_crowd x y1 y2 (nI t) h = _ := ex.trans A
          have fnd : f_X10_crowd x y1 y2 (nI t) h = some (-3, fndX g 4) → (∀ g3, RM g3 s → LM g3 L → Fr h g3 → f_X11_crowd_61 1 y1 y2 (nI t) (nI c.1) (nI c.2) (nI L.length) g3 = some (-3, fndM g3 4)) → Okk h (f_X10_crowd x y1 y2 (nI t)) (f_X11_crowd x y1 y2 (nI t)) := fun X Y => by
            obtain ⟨g3, m1, m2, m3, m4, m5, m6, m7⟩ := ask _ Fg.fndX
            have e1 : ncM (fndX g 4) = ncM g := rfl
            have e2 : nsM (fndX g 4) = nsM g := rfl
            exact Okk.fd (f := 4) (h1 := g) (h2 := g3) hI X (by rw [m1, B g3 (Fg.fndX.tr m2) m5]; exact Y g3 m4 m5 (Fg.fndX.tr m2)) Fg Kg m2 m3 (by omega) (by omega)
          have le := nI_le (Nat.le_refl L.length) (show L.length < 2 ^ 31 by omega)
          by_cases z0 : c.1 = 0
          · refine fnd ?_ (fun g3 R3 L3 F3 => ?_)
            · rw [ex']
              unfold f_X10_crowd_57 f_X10_crowd_158
              rw [if_pos (by rw [x5]; decide), K.1, if_pos le, z0, if_pos (by decide), found_4 hX]
              rfl
            · unfold f_X11_crowd_61 f_X11_crowd_179
              rw [L3.1, if_pos le, z0, if_pos (by decide), meets_4 (F3.MS hI.2.1)]
              rfl
          · have nz : ¬ nI c.1 = 0 := nI_ne0 (by omega) (by omega)
            by_cases tl : t ≤ L.length
            · have tl' := nI_le tl (show L.length < 2 ^ 31 by omega)
              have C := cCho tl l40 (show c.1 ≤ 40 by omega) (h := g) (c.1 + 1 - c.2) 1000 c.2 0 (by omega) (by omega)
              have D : ∀ g3, LM g3 L → f_X11_crowd_192 1000 (nI t) (nI c.1) (nI c.2) (lN 0) (nI c.2) g3 = _ := fun g3 M3 => mCho tl l40 (show c.1 ≤ 40 by omega) (x := nI c.2) M3.1 (c.1 + 1 - c.2) 1000 c.2 0 (by omega) (by omega)
              have sb := sC_bd (q := c.1) tl l40 (c.1 + 1 - c.2) c.2 0
              have cp := chN_pos l40 (show c.1 ≤ L.length by omega)
              have cb := chN_le (n := L.length) (k := c.1) l40
              have p40 : 2 ^ L.length ≤ 2 ^ 40 := Nat.pow_le_pow_right (by decide) l40
              have s41 : (c.1 + 1 - c.2) * 2 ^ 40 ≤ 41 * 2 ^ 40 := Nat.mul_le_mul_right _ (by omega)
              generalize sC t L.length c.1 (c.1 + 1 - c.2) c.2 0 = S at C D sb
              generalize chN L.length c.1 = U at C D cp cb
              have e : lN S = Int64.ofInt (S : Int) := by rw [Int64.ofInt_eq_ofNat]; rfl
              rw [e] at C D
              have S1 : (S : Int) < 2 ^ 62 := by omega
              have U1 : U < 2 ^ 48 := by omega
              have X : f_X10_crowd x y1 y2 (nI t) h = some (nI c.2, frX g (S : Int) U) := by
                rw [ex']
                unfold f_X10_crowd_57 f_X10_tellOddsOfChoice
                rw [if_pos (by rw [x5]; decide), K.1, if_pos le, if_neg nz, if_pos (by rw [x5]; decide), if_pos tl', if_pos (by rw [x5]; decide), show f_X10_tellOddsOfChoice_6 1000 (nI c.1) (nI t) (nI L.length) 0 (nI c.2) g = _ from C, tellX (by omega) S1 (by omega) U1]
                rfl
              have F1 : Fr h (frX g (S : Int) U) := Fg.wL.wL
              obtain ⟨g3, m1, m2, m3, m4, m5, m6, m7⟩ := ask _ F1
              have e3 : ncM (frX g (S : Int) U) = ncM g := rfl
              have e4 : nsM (frX g (S : Int) U) = nsM g := rfl
              refine Okk.frac (h1 := g) (h2 := g3) (a := nI c.2) (U := (S : Int)) (b := U) hI X ?_ Fg Kg m2 m3 (by omega) (by omega)
              rw [m1, B g3 (F1.tr m2) m5]
              unfold f_X11_crowd_61
              rw [m5.1, if_pos le, if_neg nz, if_pos tl', show f_X11_crowd_192 1000 (nI t) (nI c.1) (nI c.2) 0 (nI c.2) g3 = _ from D g3 m5, tellM _ (by omega) S1 (by omega) U1]
            · have tl' : ¬ nI t ≤ nI L.length := nI_ge (by omega) (by omega)
              refine fnd ?_ (fun g3 R3 L3 F3 => ?_)
              · rw [ex']
                unfold f_X10_crowd_57 f_X10_crowd_158
                rw [if_pos (by rw [x5]; decide), K.1, if_pos le, if_neg nz, if_pos (by rw [x5]; decide), if_neg tl', found_4 hX]
                rfl
              · unfold f_X11_crowd_61 f_X11_crowd_179
                rw [L3.1, if_pos le, if_neg nz, if_neg tl', meets_4 (F3.MS hI.2.1)]
                rfl
      · rw [← lit 40] at c3
        refine Okk.same hI (a := -1) ?_ ?_
        · unfold f_X10_crowd
          simp [wi_T c1, wi_T c2, wi_F c3]
        · unfold f_X11_crowd
          simp [in_T c1, in_T c2, in_F c3]
    · refine Okk.same hI (a := -1) ?_ ?_
      · unfold f_X10_crowd
        simp [wi_T c1, wi_F c2]
      · unfold f_X11_crowd
        simp [in_T c1, in_F c2]
  · refine Okk.same hI (a := -1) ?_ ?_
    · unfold f_X10_crowd
      simp [wi_F c1]
    · unfold f_X11_crowd
      simp [in_F c1]
