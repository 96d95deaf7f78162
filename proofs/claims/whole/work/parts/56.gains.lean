def WH (C I F : Nat) : Bool := (Nat.beq C 35 || (Nat.beq C 45 || Nat.beq C 46)) || (Nat.beq C 11 && (Nat.beq I 0 && Nat.beq F 28))
theorem WH_rl (c i f : Nat) (e : rl c f = true) : WH c i f = false := by
  have h1 : ¬ c = 35 := by rintro rfl; cases e
  have h2 : ¬ c = 45 := by rintro rfl; cases e
  have h3 : ¬ c = 46 := by rintro rfl; cases e
  unfold WH
  rw [beqF h1, beqF h2, beqF h3]
  by_cases c11 : c = 11
  · subst c11
    have z : rl 11 f = memN [5, 11, 13] f := rfl
    rw [z] at e
    have q : f = 5 ∨ f = 11 ∨ f = 13 := by simpa [memN] using e
    rw [beqF (show ¬ f = 28 by omega)]
    simp
  · rw [beqF c11]
    rfl
theorem On.gh {h h' : zM} (o : On WG h h') : On WH h h' := o.mono (fun C I F e => by
  unfold WH at e
  unfold WG
  cases x : Nat.beq C 45 with
  | true => rw [x] at e; simp at e
  | false => exact (Bool.or_eq_false_iff.mp e).2)
theorem On.frH {h h' : zM} (o : On WH h h') : Fr h h' := Fr.rf.on o (fun c i f e _ => WH_rl c i f e)
theorem On.kpH {h h' : zM} (o : On WH h h') : Kp h h' := Kp.rf.on o rfl rfl rfl rfl (fun _ => rfl) (fun _ => rfl)
theorem sr7_loop : ∀ (r fuel k : Nat) (g : zM), MS g → r + k = 12 → r < fuel → f_X11_setRanks_7 fuel (nI k) g = f_X11_setRanks_29 1000 0 (fil g 46 0 k 12 40)
  | 0, fuel + 1, k, g, M, e, hf => by
    have : k = 12 := by omega
    subst this
    unfold f_X11_setRanks_7
    rw [if_pos (by decide), fil_nil]
  | r + 1, fuel + 1, k, g, M, e, hf => by
    unfold f_X11_setRanks_7
    rw [if_neg (show ¬ (12 : Int32) ≤ nI k from nI_ge (b := 12) (by omega) (by decide))]
    simp -implicitDefEqProofs only [M.m30, ixOk_nI (show k < 12 by omega) (by decide), nI_clamp (show k < 2 ^ 31 by omega), decide_true, Bool.true_and, Bool.and_true, if_true, nI_1]
    rw [sr7_loop r fuel (k + 1) (wI g 46 0 k 40) M (by omega) (by omega), fil_step (by omega)]
theorem sr29_loop {h : zM} {np n : Nat} {B : List Nat} (H : InvN h np n) (hn : ∀ a, a ∈ B → a < n) (h40 : B.length ≤ 40) : ∀ (k fuel : Nat) (g : zM), k ≤ B.length → k < fuel → Fr h g → LM g B → (∀ p, p < 12 → rI g 46 0 p = sv 40 (st (pe h) (B.drop k) p)) → ∃ g', f_X11_setRanks_29 fuel (nI (B.length - k)) g = some g' ∧ On WH g g' ∧ (∀ p, p < 12 → rI g' 46 0 p = sv 40 (st (pe h) B p)) ∧ ∀ f, rI g' 35 0 f = rI g 35 0 f
  | 0, fuel + 1, g, hk, hf, F, K, D => by
    rw [List.drop_zero] at D
    refine ⟨g, ?_, On.rf, D, fun _ => rfl⟩
    unfold f_X11_setRanks_29
    rw [K.1, if_pos (nI_le (by omega) (by omega))]
  | k + 1, fuel + 1, g, hk, hf, F, K, D => by
    have G := F.N H
    have kl : k < B.length := by omega
    have ha : B[k] < n := hn _ (List.getElem_mem kl)
    have d := drop_s kl
    have w45 := Lf.get K.2 kl
    obtain ⟨pa, pb⟩ := H.pe ha
    have pa' : rI g 2 (B[k]) 0 = nI (pe h (B[k])) := by
      rw [F.I rfl (by decide)]
      exact pa
    have P1 := mp1 G ha
    rw [pa'] at P1
    have i0 : B.length - (k + 1) = B.length - 1 - k := by omega
    rw [← i0] at w45
    have dl : (B.drop (k + 1)).length = B.length - (k + 1) := List.length_drop
    have o : On WH g (wI g 46 0 (pe h (B[k])) (nI (B.length - (k + 1)))) := On.rf.wI rfl
    obtain ⟨g', e1, e2, e3, e4⟩ := sr29_loop H hn h40 k fuel (wI g 46 0 (pe h (B[k])) (nI (B.length - (k + 1)))) (by omega) (by omega) (F.tr o.frH) ⟨by rw [rI_wI_ne (by decide)]; exact K.1, K.2.congr (fun i _ => rI_wI_ne (by decide))⟩ (fun p hp => by
      rw [d, show st (pe h) (B[k] :: B.drop (k + 1)) p = if pe h (B[k]) = p then some (B.drop (k + 1)).length else st (pe h) (B.drop (k + 1)) p from rfl, dl, rI_wI]
      by_cases y : pe h (B[k]) = p
      · rw [if_pos ⟨rfl, rfl, y.symm⟩, if_pos y]
        rfl
      · rw [if_neg (fun z => y z.2.2.symm), if_neg y]
        exact D p hp)
    rw [show B.length - k = B.length - (k + 1) + 1 by omega] at e1
    refine ⟨g', ?_, o.tr e2, e3, fun f => by rw [e4, rI_wI_ne (by decide)]⟩
    generalize B.length - (k + 1) = ii at *
    have w45' : rI g 45 0 ii = nI (B[k]) := w45
    unfold f_X11_setRanks_29
    rw [K.1, if_neg (nI_ge (show ii < B.length by omega) (by omega))]
    simp -implicitDefEqProofs only [G.M.m29, G.M.m30, ixOk_nI (show ii < 40 by omega) (by decide), nI_clamp (show ii < 2 ^ 31 by omega), w45', P1, ixOk_nI pb (by decide), nI_clamp (show pe h (B[k]) < 2 ^ 31 by omega), decide_true, Bool.true_and, Bool.and_true, if_true, Option.bind_some, nI_1]
    exact e1
/-- the seats of all PERSONS by RULES -/
def sts12 (h : zM) (s : RS) (N : Nat → Int32) (n p : Nat) : Option Nat := st (pe h) (bst (pe h) (LL h s N n)) p
theorem sts12_fr {h g : zM} (F : Fr h g) (s : RS) (N : Nat → Int32) (n : Nat) : sts12 g s N n = sts12 h s N n := by
  funext p
  unfold sts12
  rw [LL_fr F, pe_fr F]
theorem ranks_eq {g : zM} {np n il : Nat} {s : RS} {N : Nat → Int32} (G : InvN g np n) (R : RM g s) (V : s.2.2.2.2.2.2.2 = true → LV g 0 il N) : ∃ g', f_X11_setRanks g = some g' ∧ On WH g g' ∧ (∀ p, p < 12 → rI g' 46 0 p = sv 40 (sts12 g s N n p)) ∧ ∀ f, rI g' 35 0 f = rI g 35 0 f := by
  have n40 := G.n40
  obtain ⟨g1, a1, a2, a3⟩ := set1 (N := N) G R V
  obtain ⟨l1, l2, -⟩ := LL_inv (h := g) (s := s) (N := N) (n := n)
  have bl := bst_len (p := pe g) (LL g s N n)
  have M1 := a2.MS G.M
  have L7 := sr7_loop 12 1000 0 g1 M1 (by decide) (by decide)
  rw [nI_0] at L7
  have I : ∀ c i f, c ≠ 46 → rI (fil g1 46 0 0 12 40) c i f = rI g1 c i f := fun c i f hc => by
    rw [rI_fil, if_neg (fun z => hc z.1)]
  have o : On WH g1 (fil g1 46 0 0 12 40) := ⟨rfl, fun c i f e => by
    apply I
    rintro rfl
    cases i <;> cases e⟩
  have F1 : Fr g (fil g1 46 0 0 12 40) := (a2.gh.tr o).frH
  have dl : (bst (pe g) (LL g s N n)).drop (bst (pe g) (LL g s N n)).length = [] := List.drop_length
  obtain ⟨g', e1, e2, e3, e4⟩ := sr29_loop G (fun a ha => l2 a (bst_mem _ ha)) (by omega) (bst (pe g) (LL g s N n)).length 1000 (fil g1 46 0 0 12 40) (Nat.le_refl _) (by omega) F1 ⟨by rw [I _ _ _ (by decide)]; exact a3.1, a3.2.congr (fun i _ => I _ _ _ (by decide))⟩ (fun p hp => by
    rw [dl, rI_fil, if_pos ⟨rfl, rfl, Nat.zero_le _, hp⟩]
    rfl)
  rw [Nat.sub_self, nI_0] at e1
  refine ⟨g', ?_, (a2.gh.tr o).tr e2, e3, fun f => ?_⟩
  · unfold f_X11_setRanks
    rw [a1, Option.bind_some, L7]
    exact e1
  · rw [e4, I _ _ _ (by decide), a2.2 _ _ _ rfl]
/-! who gains -/
def pc : Nat → Nat → Nat
  | 0, _ => 0
  | k + 1, v => v % 2 + pc k (v / 2)
theorem or_all : ∀ p, p < 12 → ∀ v, v < 2 ^ p → nI v ||| (1 <<< (nI p &&& 31)) = nI (v + 2 ^ p) ∧ pc 12 (v + 2 ^ p) = pc 12 v + 1 := by decide +kernel
def bc1 (x0 : Int32) : Int32 := x0 - ((UInt32.toInt32 ((Int32.toUInt32 x0) >>> ((Int32.toUInt32 1) &&& Int32.toUInt32 31))) &&& 1431655765)
def bc2 (x0 : Int32) : Int32 := (x0 &&& 858993459) + ((UInt32.toInt32 ((Int32.toUInt32 x0) >>> ((Int32.toUInt32 2) &&& Int32.toUInt32 31))) &&& 858993459)
def bc3 (x0 : Int32) : Int32 := (x0 + (UInt32.toInt32 ((Int32.toUInt32 x0) >>> ((Int32.toUInt32 4) &&& Int32.toUInt32 31)))) &&& 252645135
def bc4 (x0 : Int32) : Int32 := x0 + (UInt32.toInt32 ((Int32.toUInt32 x0) >>> ((Int32.toUInt32 8) &&& Int32.toUInt32 31)))
def bc5 (x0 : Int32) : Int32 := x0 + (UInt32.toInt32 ((Int32.toUInt32 x0) >>> ((Int32.toUInt32 16) &&& Int32.toUInt32 31)))
def bcx (x : Int32) : Int32 := bc5 (bc4 (bc3 (bc2 (bc1 x)))) &&& 63
theorem bc_eq (x : Int32) (h : zM) : f_J6_bitCount_0f7a4 x h = some (bcx x, h) := rfl
theorem bc_all2 : ∀ a, a < 64 → ∀ b, b < 64 → bcx (nI (64 * a + b)) = nI (pc 12 (64 * a + b)) := by decide +kernel
theorem bc_all (v : Nat) (h : v < 4096) : bcx (nI v) = nI (pc 12 v) := by
  have := bc_all2 (v / 64) (by omega) (v % 64) (by omega)
  rw [Nat.div_add_mod] at this
  exact this
def gnP (a b : Nat → Option Nat) (p : Nat) : Bool := decide (sv 99 (a p) < sv 99 (b p))
def gnl (E : Nat → Bool) : Nat → Nat → Nat → Nat
  | 0, _, v => v
  | r + 1, p, v => gnl E r (p + 1) (if E p = true then v + 2 ^ p else v)
theorem gnl_bd {E : Nat → Bool} : ∀ (r p v : Nat), v < 2 ^ p → gnl E r p v < 2 ^ (p + r)
  | 0, p, v, h => h
  | r + 1, p, v, h => by
    unfold gnl
    have e : 2 ^ (p + 1) = 2 * 2 ^ p := by rw [Nat.pow_succ, Nat.mul_comm]
    have := gnl_bd (E := E) r (p + 1) (if E p = true then v + 2 ^ p else v) (by split <;> omega)
    rw [show p + (r + 1) = p + 1 + r by omega]
    exact this
theorem cGn {g : zM} {a b : Nat → Option Nat} (hX : XS g) (A : ∀ p, p < 12 → rI g 23 0 p = sv 99 (a p)) (B : ∀ p, p < 12 → rI g 23 1 p = sv 99 (b p)) : ∀ (r fuel p v : Nat), r + p = 12 → r < fuel → v < 2 ^ p → f_X10_gains_19 fuel (nI v) (nI p) g = some (nI (pc 12 (gnl (gnP a b) r p v)), wI g 10 0 11 (nI (gnl (gnP a b) r p v)))
  | 0, fuel + 1, p, v, e, hf, hv => by
    have : p = 12 := by omega
    subst this
    unfold f_X10_gains_19 f_X10_tell
    rw [if_pos (by decide), Option.bind_some, bc_eq, Option.bind_some, bc_all v hv]
    rfl
  | r + 1, fuel + 1, p, v, e, hf, hv => by
    have hp : p < 12 := by omega
    have x5 := hX.2.2.2.2.2.1
    have x6 := hX.2.2.2.2.2.2.1
    have f0 := hX.rf (r := 0) (by decide)
    have f1 := hX.rf (r := 1) (by decide)
    have e2 : 2 ^ (p + 1) = 2 * 2 ^ p := by rw [Nat.pow_succ, Nat.mul_comm]
    unfold f_X10_gains_19 f_X10_gains_58
    rw [if_neg (show ¬ (12 : Int32) ≤ nI p from nI_ge (b := 12) hp (by decide))]
    simp -implicitDefEqProofs only [x5, x6, f0.2.2, f1.2.2, ixOk_nI hp (by decide), nI_clamp (show p < 2 ^ 31 by omega), A p hp, B p hp, decide_true, Bool.true_and, Bool.and_true, if_true, nI_1, (or_all p hp v hv).1]
    rw [show gnl (gnP a b) (r + 1) p v = gnl (gnP a b) r (p + 1) (if gnP a b p = true then v + 2 ^ p else v) from rfl]
    by_cases c : sv 99 (a p) < sv 99 (b p)
    · rw [if_neg (Int32.not_le.mpr c), if_pos (show gnP a b p = true from decide_eq_true c)]
      exact cGn hX A B r fuel (p + 1) (v + 2 ^ p) (by omega) (by omega) (by omega)
    · rw [if_pos (Int32.not_lt.mp c), if_neg (fun z : gnP a b p = true => c (of_decide_eq_true z))]
      exact cGn hX A B r fuel (p + 1) v (by omega) (by omega) (by omega)
theorem sv_lt {a b : Option Nat} (ha : ∀ k, a = some k → k < 40) (hb : ∀ k, b = some k → k < 40) : (sv 40 b ≤ sv 40 a) ↔ ¬ (sv 99 a < sv 99 b) := by
  cases a with
  | none =>
    cases b with
    | none => decide
    | some j =>
      have := hb j rfl
      show (nI j ≤ nI 40) ↔ ¬ (nI 99 < nI j)
      rw [nI_leI (by omega) (by omega), nI_ltI (by omega) (by omega)]
      omega
  | some i =>
    have := ha i rfl
    cases b with
    | none =>
      show (nI 40 ≤ nI i) ↔ ¬ (nI i < nI 99)
      rw [nI_leI (by omega) (by omega), nI_ltI (by omega) (by omega)]
      omega
    | some j =>
      have := hb j rfl
      show (nI j ≤ nI i) ↔ ¬ (nI i < nI j)
      rw [nI_leI (by omega) (by omega), nI_ltI (by omega) (by omega)]
      omega
theorem MS.m8 {h : zM} (H : MS h) : rR h 11 0 8 = some (35, 0) := H.2.2.2.1
theorem mGn {g : zM} {a b : Nat → Option Nat} (hM : MS g) (la : ∀ p k, a p = some k → k < 40) (lb : ∀ p k, b p = some k → k < 40) (A : ∀ p, p < 12 → rI g 46 0 p = sv 40 (a p)) (B : ∀ p, p < 12 → rI g 35 0 p = sv 40 (b p)) : ∀ (r fuel p v : Nat), r + p = 12 → r < fuel → v < 2 ^ p → f_X11_gains_146 fuel (nI v) (nI (pc 12 v)) (nI p) g = some (nI (pc 12 (gnl (gnP a b) r p v)), wI g 11 0 2 (nI (gnl (gnP a b) r p v)))
  | 0, fuel + 1, p, v, e, hf, hv => by
    have : p = 12 := by omega
    subst this
    unfold f_X11_gains_146 f_X11_ask
    rw [if_pos (by decide)]
    rfl
  | r + 1, fuel + 1, p, v, e, hf, hv => by
    have hp : p < 12 := by omega
    have e2 : 2 ^ (p + 1) = 2 * 2 ^ p := by rw [Nat.pow_succ, Nat.mul_comm]
    unfold f_X11_gains_146 f_X11_gains_180 f_X11_gains_207
    rw [if_neg (show ¬ (12 : Int32) ≤ nI p from nI_ge (b := 12) hp (by decide))]
    simp -implicitDefEqProofs only [hM.m8, hM.m30, ixOk_nI hp (by decide), ixOk_nI (show p < 40 by omega) (by decide), nI_clamp (show p < 2 ^ 31 by omega), A p hp, B p hp, decide_true, Bool.true_and, Bool.and_true, if_true, nI_1, (or_all p hp v hv).1, or0, Int32.add_zero]
    rw [show gnl (gnP a b) (r + 1) p v = gnl (gnP a b) r (p + 1) (if gnP a b p = true then v + 2 ^ p else v) from rfl]
    by_cases c : sv 99 (a p) < sv 99 (b p)
    · have c' : ¬ sv 40 (b p) ≤ sv 40 (a p) := fun z => ((sv_lt (la p) (lb p)).mp z) c
      rw [if_neg c', if_neg c', if_pos (show gnP a b p = true from decide_eq_true c), ← (or_all p hp v hv).2]
      exact mGn hM la lb A B r fuel (p + 1) (v + 2 ^ p) (by omega) (by omega) (by omega)
    · have c' : sv 40 (b p) ≤ sv 40 (a p) := (sv_lt (la p) (lb p)).mpr c
      rw [if_pos c', if_pos c', if_neg (fun z : gnP a b p = true => c (of_decide_eq_true z))]
      exact mGn hM la lb A B r fuel (p + 1) v (by omega) (by omega) (by omega)
theorem g100_loop {x : Int32} : ∀ (r fuel k : Nat) (g : zM), MS g → r + k = 12 → r < fuel → ∃ g', f_X11_gains_100 fuel x (nI k) g = f_X11_gains_100 1 x 12 g' ∧ On WH g g' ∧ (∀ p, p < 12 → k ≤ p → rI g' 35 0 p = rI g 46 0 p) ∧ (∀ p, p < k → rI g' 35 0 p = rI g 35 0 p)
  | 0, fuel + 1, k, g, M, e, hf => by
    have : k = 12 := by omega
    subst this
    refine ⟨g, ?_, On.rf, fun p h1 h2 => by omega, fun _ _ => rfl⟩
    unfold f_X11_gains_100
    rw [if_pos (by decide), if_pos (by decide)]
  | r + 1, fuel + 1, k, g, M, e, hf => by
    have o : On WH g (wI g 35 0 k (rI g 46 0 k)) := On.rf.wI rfl
    obtain ⟨g', e1, e2, e3, e4⟩ := g100_loop (x := x) r fuel (k + 1) (wI g 35 0 k (rI g 46 0 k)) M (by omega) (by omega)
    refine ⟨g', ?_, o.tr e2, fun p h1 h2 => ?_, fun p hp => ?_⟩
    · rw [← e1, show f_X11_gains_100 (fuel + 1) x (nI k) g = (if 12 ≤ nI k then ((f_X11_askedRules x g).bind fun q129 => ((f_X11_setRanks q129.2).bind fun q134 => (f_X11_gains_146 1000 0 0 0 q134))) else (if (true && (ixOk 40 (nI k) && (true && (ixOk 12 (nI k) && (true && (decide (rR g 11 0 30 = (some (46, 0))) && (true && (decide (rR g 11 0 8 = (some (35, 0))) && true)))))))) = true then (f_X11_gains_100 fuel x (nI k + 1) (wI g 35 0 (Int32.toNatClampNeg (nI k)) (rI g 46 0 (Int32.toNatClampNeg (nI k))))) else none)) from rfl]
      rw [if_neg (show ¬ (12 : Int32) ≤ nI k from nI_ge (b := 12) (by omega) (by decide))]
      simp -implicitDefEqProofs only [M.m30, M.m8, ixOk_nI (show k < 12 by omega) (by decide), ixOk_nI (show k < 40 by omega) (by decide), nI_clamp (show k < 2 ^ 31 by omega), decide_true, Bool.true_and, Bool.and_true, if_true, nI_1]
    · by_cases z : p = k
      · subst z
        rw [e4 p (by omega), rI_wI, if_pos ⟨rfl, rfl, rfl⟩]
      · rw [e3 p h1 (by omega), rI_wI_ne (by decide)]
    · rw [e4 p (by omega), rI_wI_nf (fun z => by omega)]
