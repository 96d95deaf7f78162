def updN (N : Nat → Int32) (k : Nat) (v : Int32) : Nat → Int32 := fun i => if i = k then v else N i
/-- an item of two numbers, of one, of a SHOE -/
def liP (sg : Nat → Int32) (n k q : Nat) (N : Nat → Int32) : Bool × Nat × (Nat → Int32) :=
  if nO sg n q = true then (if pas sg n 44 (nE sg n q) = true then (if nO sg n (nE sg n q + 1) = true then (if 1 ≤ nV sg n (nE sg n q + 1) then (true, nE sg n (nE sg n q + 1), updN (updN N k (nV sg n q)) (k + 1) (nV sg n (nE sg n q + 1))) else (false, nE sg n (nE sg n q + 1), N)) else (false, nE sg n (nE sg n q + 1), N)) else (false, nE sg n q, N)) else (false, nE sg n q, N)
def liS (sg : Nat → Int32) (n k q : Nat) (N : Nat → Int32) : Bool × Nat × (Nat → Int32) := if nO sg n q = true then (true, nE sg n q, updN N k (nV sg n q)) else (false, nE sg n q, N)
def liH (sg : Nat → Int32) (n q : Nat) (N : Nat → Int32) : Bool × Nat × (Nat → Int32) :=
  if shO sg n q = true then (if pas sg n 58 (q + 1) = true then (if nO sg n (q + 1 + 1) = true then (true, nE sg n (q + 1 + 1), updN N (6 + (sg q - 48).toNatClampNeg) (nV sg n (q + 1 + 1))) else (false, nE sg n (q + 1 + 1), N)) else (false, q + 1, N)) else (false, q, N)
def li (sg : Nat → Int32) (n q : Nat) (N : Nat → Int32) : Bool × Nat × (Nat → Int32) := if sg q = 87 then liP sg n 0 (q + 1) N else if sg q = 72 then liP sg n 2 (q + 1) N else if sg q = 84 then liS sg n 4 (q + 1) N else if sg q = 70 then liS sg n 5 (q + 1) N else if sg q = 83 then liH sg n (q + 1) N else (false, q, N)
def b01 (b : Bool) : Int32 := if b = true then 1 else 0
theorem isB_b (b : Bool) : isB (b01 b) = true := by cases b <;> rfl
def W20 (c i C I F : Nat) : Bool := W5 c C I F || (Nat.beq C 20 && Nat.beq I i)
theorem W20_t (c i k : Nat) : W20 c i 20 i k = true := by simp [W20]
theorem On.w20 {a b : zM} {c : Nat} (o : On (W5 c) a b) (i : Nat) : On (W20 c i) a b := o.mono (fun C I F e => by
  unfold W20 at e
  cases h : W5 c C I F with
  | false => rfl
  | true => rw [h] at e; simp at e)
theorem RDR.ne {h : zM} {c j n q C I F : Nat} {v : Int32} {sg : Nat → Int32} (H : RDR h c j n sg q) (h1 : C ≠ 5) (h2 : C ≠ 25) : RDR (wI h C I F v) c j n sg q := by
  obtain ⟨a, b, d, e, f, g⟩ := H
  exact ⟨a, by rw [rI_wI_ne h1]; exact b, by rw [rI_wI_ne h1]; exact d, fun i hi => by rw [rI_wI_ne h2]; exact e i hi, f, g⟩
def NB (h : zM) (i : Nat) (N : Nat → Int32) : Prop := rR h 1 i 0 = some (20, i) ∧ ∀ k, k < 10 → rI h 20 i k = N k
theorem NB.on {h h' : zM} {c i : Nat} {N : Nat → Int32} (H : NB h i N) (o : On (W5 c) h h') : NB h' i N := ⟨by rw [o.R]; exact H.1, fun k hk => by rw [o.2 _ _ _ rfl]; exact H.2 k hk⟩
theorem NB.wI {h : zM} {i k : Nat} {N : Nat → Int32} {v : Int32} (H : NB h i N) : NB (wI h 20 i k v) i (updN N k v) := by
  refine ⟨H.1, fun k' hk => ?_⟩
  rw [rI_wI]
  unfold updN
  by_cases e : k' = k
  · rw [if_pos ⟨rfl, rfl, e⟩, if_pos e]
  · rw [if_neg (fun z => e z.2.2), if_neg e]
    exact H.2 k' hk
theorem fall_eq {h : zM} {c i j n q k : Nat} {sg N : Nat → Int32} (H : RDR h c j n sg q) (B : NB h i N) (hk : k < 9) : ∃ h', f_X1_readFalling (some (1, i)) (some (5, c)) (nI k) h = some (b01 (liP sg n k q N).1, h') ∧ On (W20 c i) h h' ∧ RDR h' c j n sg (liP sg n k q N).2.1 ∧ ((liP sg n k q N).1 = true → NB h' i (liP sg n k q N).2.2) := by
  obtain ⟨h1, s1, s2, s3⟩ := sgn_eq H
  have B1 := B.on s2
  have ik := ixOk_nI (show k < 10 by omega) (show 10 < 2 ^ 31 by decide)
  have ik1 := ixOk_nI (show k + 1 < 10 by omega) (show 10 < 2 ^ 31 by decide)
  have ck := nI_clamp (show k < 2 ^ 31 by omega)
  have ck1 := nI_clamp (show k + 1 < 2 ^ 31 by omega)
  have w1 : ∀ (g : zM) (m : Nat) (v : Int32), rI (wI g 20 i m v) 20 i m = v := fun g m v => by rw [rI_wI, if_pos ⟨rfl, rfl, rfl⟩]
  by_cases o1 : nO sg n q = true
  · rw [if_pos o1] at s1
    have v9 := nV_n9 sg n q
    have H2 : RDR (wI h1 20 i k (nV sg n q)) c j n sg (nE sg n q) := s3.ne (by decide) (by decide)
    have B2 : NB (wI h1 20 i k (nV sg n q)) i (updN N k (nV sg n q)) := B1.wI
    have O2 : On (W20 c i) h (wI h1 20 i k (nV sg n q)) := (s2.w20 i).wI (W20_t c i k)
    have P := passes_eq H2 44
    by_cases p1 : pas sg n 44 (nE sg n q) = true
    · rw [if_pos p1] at P
      have H3 := H2.at (q' := nE sg n q + 1) (pas_lt p1).1
      have O3 : On (W5 c) (wI h1 20 i k (nV sg n q)) (wI (wI h1 20 i k (nV sg n q)) 5 c 2 (nI (nE sg n q + 1))) := On.rf.wI (W5_t c)
      have B3 := B2.on O3
      obtain ⟨h4, t1, t2, t3⟩ := sgn_eq H3
      have B4 := B3.on t2
      by_cases o2 : nO sg n (nE sg n q + 1) = true
      · rw [if_pos o2] at t1
        have E : liP sg n k q N = if 1 ≤ nV sg n (nE sg n q + 1) then (true, nE sg n (nE sg n q + 1), updN (updN N k (nV sg n q)) (k + 1) (nV sg n (nE sg n q + 1))) else (false, nE sg n (nE sg n q + 1), N) := by
          unfold liP
          rw [if_pos o1, if_pos p1, if_pos o2]
        rw [E]
        refine ⟨wI h4 20 i (k + 1) (nV sg n (nE sg n q + 1)), ?_, ((O2.tr (O3.w20 i)).tr (t2.w20 i)).wI (W20_t c i _), ?_, ?_⟩
        · unfold f_X1_readFalling
          simp only [clR_s, ixR_s, memT1, B.1, B1.1, B3.1, B4.1, s1, P, t1, decide_true, Bool.true_and, Bool.and_true, if_true, Option.bind_some, ik, ik1, ck, ck1, w1, v9, if_false, show ¬ (1 : Int32) = 0 by decide, not_false_eq_true, nI_1]
          by_cases z : 1 ≤ nV sg n (nE sg n q + 1)
          · have z' : ¬ nV sg n (nE sg n q + 1) ≤ 0 := by
              rw [Int32.le_iff_toInt_le] at z ⊢
              rw [e0_32]
              rw [show (1 : Int32).toInt = 1 by decide] at z
              omega
            rw [if_neg z', if_pos z]
            rfl
          · have z' : nV sg n (nE sg n q + 1) ≤ 0 := by
              rw [Int32.le_iff_toInt_le] at z ⊢
              rw [e0_32]
              rw [show (1 : Int32).toInt = 1 by decide] at z
              omega
            rw [if_pos z', if_neg z]
            rfl
        · have := t3.ne (C := 20) (I := i) (F := k + 1) (v := nV sg n (nE sg n q + 1)) (by decide) (by decide)
          by_cases z : 1 ≤ nV sg n (nE sg n q + 1)
          · rw [if_pos z]
            exact this
          · rw [if_neg z]
            exact this
        · by_cases z : 1 ≤ nV sg n (nE sg n q + 1)
          · rw [if_pos z]
            exact fun _ => B4.wI
          · rw [if_neg z]
            exact fun y => by cases y
      · rw [if_neg o2] at t1
        have E : liP sg n k q N = (false, nE sg n (nE sg n q + 1), N) := by
          unfold liP
          rw [if_pos o1, if_pos p1, if_neg o2]
        rw [E]
        refine ⟨wI h4 20 i (k + 1) (-9999), ?_, ((O2.tr (O3.w20 i)).tr (t2.w20 i)).wI (W20_t c i _), t3.ne (by decide) (by decide), fun y => by cases y⟩
        unfold f_X1_readFalling
        simp only [clR_s, ixR_s, memT1, B.1, B1.1, B3.1, B4.1, s1, P, t1, decide_true, Bool.true_and, Bool.and_true, if_true, Option.bind_some, ik, ik1, ck, ck1, w1, v9, if_false, show ¬ (1 : Int32) = 0 by decide, not_false_eq_true, nI_1, show (-9999 : Int32) ≤ 0 by decide]
        rfl
    · rw [if_neg p1] at P
      have E : liP sg n k q N = (false, nE sg n q, N) := by
        unfold liP
        rw [if_pos o1, if_neg p1]
      rw [E]
      refine ⟨wI h1 20 i k (nV sg n q), ?_, O2, H2, fun y => by cases y⟩
      unfold f_X1_readFalling
      simp only [clR_s, ixR_s, memT1, B.1, B1.1, s1, P, decide_true, Bool.true_and, Bool.and_true, if_true, Option.bind_some, ik, ck, w1, v9, if_false, not_true_eq_false]
      rfl
  · rw [if_neg o1] at s1
    have E : liP sg n k q N = (false, nE sg n q, N) := by
      unfold liP
      rw [if_neg o1]
    rw [E]
    refine ⟨wI h1 20 i k (-9999), ?_, (s2.w20 i).wI (W20_t c i k), s3.ne (by decide) (by decide), fun y => by cases y⟩
    unfold f_X1_readFalling
    simp only [clR_s, ixR_s, memT1, B.1, B1.1, s1, decide_true, Bool.true_and, Bool.and_true, if_true, Option.bind_some, ik, ck, w1]
    rfl
theorem single_eq {h : zM} {c i j n q k : Nat} {sg N : Nat → Int32} (H : RDR h c j n sg q) (B : NB h i N) (hk : k < 10) : ∃ h', f_X1_readSingle (some (1, i)) (some (5, c)) (nI k) h = some (b01 (liS sg n k q N).1, h') ∧ On (W20 c i) h h' ∧ RDR h' c j n sg (liS sg n k q N).2.1 ∧ ((liS sg n k q N).1 = true → NB h' i (liS sg n k q N).2.2) := by
  obtain ⟨h1, s1, s2, s3⟩ := sgn_eq H
  have B1 := B.on s2
  have ik := ixOk_nI (show k < 10 by omega) (show 10 < 2 ^ 31 by decide)
  have ck := nI_clamp (show k < 2 ^ 31 by omega)
  have w1 : ∀ (g : zM) (m : Nat) (v : Int32), rI (wI g 20 i m v) 20 i m = v := fun g m v => by rw [rI_wI, if_pos ⟨rfl, rfl, rfl⟩]
  unfold liS
  by_cases o1 : nO sg n q = true
  · rw [if_pos o1] at s1 ⊢
    have v9 := nV_n9 sg n q
    refine ⟨wI h1 20 i k (nV sg n q), ?_, (s2.w20 i).wI (W20_t c i k), s3.ne (by decide) (by decide), fun _ => B1.wI⟩
    unfold f_X1_readSingle
    simp only [clR_s, ixR_s, memT1, B.1, B1.1, s1, decide_true, Bool.true_and, Bool.and_true, if_true, Option.bind_some, ik, ck, w1, v9, if_false]
    rfl
  · rw [if_neg o1] at s1 ⊢
    refine ⟨wI h1 20 i k (-9999), ?_, (s2.w20 i).wI (W20_t c i k), s3.ne (by decide) (by decide), fun y => by cases y⟩
    unfold f_X1_readSingle
    simp only [clR_s, ixR_s, memT1, B.1, B1.1, s1, decide_true, Bool.true_and, Bool.and_true, if_true, Option.bind_some, ik, ck, w1]
    rfl
theorem shO_nat {sg : Nat → Int32} {n q : Nat} (o : shO sg n q = true) : ∃ d, d ≤ 3 ∧ sg q - 48 = nI d ∧ q < n := by
  obtain ⟨lt, s1, s2⟩ := of_decide_eq_true o
  have a : (48 : Int32).toInt = 48 := by decide
  have b : (51 : Int32).toInt = 51 := by decide
  rw [Int32.le_iff_toInt_le, a] at s1
  rw [Int32.le_iff_toInt_le, b] at s2
  refine ⟨((sg q).toInt - 48).toNat, by omega, ?_, lt⟩
  apply Int32.toInt_inj.mp
  rw [nI_toInt (by omega), Int32.toInt_sub, a, Int.bmod_eq_of_le (by omega) (by omega)]
  omega
theorem shoeL_eq {h : zM} {c i j n q : Nat} {sg N : Nat → Int32} (H : RDR h c j n sg q) (B : NB h i N) : ∃ h', f_X1_readShoe (some (1, i)) (some (5, c)) h = some (b01 (liH sg n q N).1, h') ∧ On (W20 c i) h h' ∧ RDR h' c j n sg (liH sg n q N).2.1 ∧ ((liH sg n q N).1 = true → NB h' i (liH sg n q N).2.2) := by
  unfold liH
  by_cases o : shO sg n q = true
  · rw [if_pos o]
    obtain ⟨d, hd, ed, lt⟩ := shO_nat o
    have S := shoe_T H o
    rw [ed] at S ⊢
    have d9 : ¬ nI d = -9999 := nI_n9 (by omega)
    have H1 := H.at (q' := q + 1) lt
    have O1 : On (W5 c) h (wI h 5 c 2 (nI (q + 1))) := On.rf.wI (W5_t c)
    have P := passes_eq H1 58
    by_cases p : pas sg n 58 (q + 1) = true
    · rw [if_pos p] at P ⊢
      have H2 := H1.at (q' := q + 1 + 1) (pas_lt p).1
      have O2 : On (W5 c) (wI h 5 c 2 (nI (q + 1))) (wI (wI h 5 c 2 (nI (q + 1))) 5 c 2 (nI (q + 1 + 1))) := On.rf.wI (W5_t c)
      have B2 := B.on (O1.tr O2)
      obtain ⟨h3, t1, t2, t3⟩ := sgn_eq H2
      have B3 := B2.on t2
      have e6 : (6 : Int32) + nI d = nI (6 + d) := by rw [lit 6, nI_add]
      have ik := ixOk_nI (show 6 + d < 10 by omega) (show 10 < 2 ^ 31 by decide)
      have ck := nI_clamp (show 6 + d < 2 ^ 31 by omega)
      have cd := nI_clamp (show d < 2 ^ 31 by omega)
      have w1 : ∀ (g : zM) (m : Nat) (v : Int32), rI (wI g 20 i m v) 20 i m = v := fun g m v => by rw [rI_wI, if_pos ⟨rfl, rfl, rfl⟩]
      have O3 := (((O1.tr O2).tr t2).w20 i)
      rw [cd]
      by_cases o2 : nO sg n (q + 1 + 1) = true
      · rw [if_pos o2] at t1 ⊢
        have v9 := nV_n9 sg n (q + 1 + 1)
        refine ⟨wI h3 20 i (6 + d) (nV sg n (q + 1 + 1)), ?_, O3.wI (W20_t c i _), t3.ne (by decide) (by decide), fun _ => B3.wI⟩
        unfold f_X1_readShoe
        simp only [clR_s, ixR_s, memT1, B2.1, B3.1, S, P, t1, d9, decide_true, Bool.true_and, Bool.and_true, if_true, Option.bind_some, e6, ik, ck, w1, v9, if_false, show ¬ (1 : Int32) = 0 by decide, not_false_eq_true]
        rfl
      · rw [if_neg o2] at t1 ⊢
        refine ⟨wI h3 20 i (6 + d) (-9999), ?_, O3.wI (W20_t c i _), t3.ne (by decide) (by decide), fun y => by cases y⟩
        unfold f_X1_readShoe
        simp only [clR_s, ixR_s, memT1, B2.1, B3.1, S, P, t1, d9, decide_true, Bool.true_and, Bool.and_true, if_true, Option.bind_some, e6, ik, ck, w1, if_false, show ¬ (1 : Int32) = 0 by decide, not_false_eq_true]
        rfl
    · rw [if_neg p] at P ⊢
      refine ⟨_, ?_, O1.w20 i, H1, fun y => by cases y⟩
      unfold f_X1_readShoe
      simp only [clR_s, ixR_s, memT1, S, P, d9, Bool.and_true, if_true, Option.bind_some, if_false, not_true_eq_false]
      rfl
  · rw [if_neg o]
    refine ⟨h, ?_, On.rf, H, fun y => by cases y⟩
    unfold f_X1_readShoe
    simp only [clR_s, memT1, shoe_F H o, Bool.and_true, if_true, Option.bind_some]
    rfl
theorem pas_q {sg : Nat → Int32} {n q : Nat} (lt : q < n) (x : Int32) : pas sg n x q = decide (sg q = x) := by
  unfold pas
  simp [lt]
theorem item1 {h : zM} {c i j n q : Nat} {sg N : Nat → Int32} (H : RDR h c j n sg q) (lt : q < n) (B : NB h i N) : ∃ h', f_X1_readItem (some (1, i)) (some (5, c)) h = some (b01 (li sg n q N).1, h') ∧ On (W20 c i) h h' ∧ RDR h' c j n sg (li sg n q N).2.1 ∧ ((li sg n q N).1 = true → NB h' i (li sg n q N).2.2) := by
  have P : ∀ x, f_X5_passes (some (5, c)) x h = if sg q = x then some (1, wI h 5 c 2 (nI (q + 1))) else some (0, h) := fun x => by
    rw [passes_eq H x, pas_q lt x]
    by_cases z : sg q = x <;> simp [z]
  have H1 := H.at (q' := q + 1) lt
  have O1 : On (W5 c) h (wI h 5 c 2 (nI (q + 1))) := On.rf.wI (W5_t c)
  have B1 := B.on O1
  have n10 : ¬ (1 : Int32) = 0 := by decide
  unfold li
  by_cases c1 : sg q = 87
  · rw [if_pos c1]
    obtain ⟨h', e1, e2, e3, e4⟩ := fall_eq (k := 0) H1 B1 (by decide)
    have e1' : f_X1_readFalling (some (1, i)) (some (5, c)) 0 (wI h 5 c 2 (nI (q + 1))) = _ := e1
    refine ⟨h', ?_, (O1.w20 i).tr e2, e3, e4⟩
    unfold f_X1_readItem
    simp -implicitDefEqProofs only [clR_s, memT1, P, c1, Bool.and_true, if_true, Option.bind_some, n10, if_false, e1', isB_b]
  · rw [if_neg c1]
    by_cases c2 : sg q = 72
    · rw [if_pos c2]
      obtain ⟨h', e1, e2, e3, e4⟩ := fall_eq (k := 2) H1 B1 (by decide)
      have e1' : f_X1_readFalling (some (1, i)) (some (5, c)) 2 (wI h 5 c 2 (nI (q + 1))) = _ := e1
      refine ⟨h', ?_, (O1.w20 i).tr e2, e3, e4⟩
      unfold f_X1_readItem
      simp -implicitDefEqProofs only [clR_s, memT1, P, c2, Bool.and_true, if_true, Option.bind_some, n10, if_false, e1', isB_b, show ¬ (72 : Int32) = 87 by decide]
    · rw [if_neg c2]
      by_cases c3 : sg q = 84
      · rw [if_pos c3]
        obtain ⟨h', e1, e2, e3, e4⟩ := single_eq (k := 4) H1 B1 (by decide)
        have e1' : f_X1_readSingle (some (1, i)) (some (5, c)) 4 (wI h 5 c 2 (nI (q + 1))) = _ := e1
        refine ⟨h', ?_, (O1.w20 i).tr e2, e3, e4⟩
        unfold f_X1_readItem
        simp -implicitDefEqProofs only [clR_s, memT1, P, c3, Bool.and_true, if_true, Option.bind_some, n10, if_false, e1', isB_b, show ¬ (84 : Int32) = 87 by decide, show ¬ (84 : Int32) = 72 by decide]
      · rw [if_neg c3]
        by_cases c4 : sg q = 70
        · rw [if_pos c4]
          obtain ⟨h', e1, e2, e3, e4⟩ := single_eq (k := 5) H1 B1 (by decide)
          have e1' : f_X1_readSingle (some (1, i)) (some (5, c)) 5 (wI h 5 c 2 (nI (q + 1))) = _ := e1
          refine ⟨h', ?_, (O1.w20 i).tr e2, e3, e4⟩
          unfold f_X1_readItem
          simp -implicitDefEqProofs only [clR_s, memT1, P, c4, Bool.and_true, if_true, Option.bind_some, n10, if_false, e1', isB_b, show ¬ (70 : Int32) = 87 by decide, show ¬ (70 : Int32) = 72 by decide, show ¬ (70 : Int32) = 84 by decide]
        · rw [if_neg c4]
          by_cases c5 : sg q = 83
          · rw [if_pos c5]
            obtain ⟨h', e1, e2, e3, e4⟩ := shoeL_eq H1 B1
            refine ⟨h', ?_, (O1.w20 i).tr e2, e3, e4⟩
            unfold f_X1_readItem f_X1_readItem_85
            simp -implicitDefEqProofs only [clR_s, memT1, P, c5, Bool.and_true, if_true, Option.bind_some, n10, if_false, e1, show ¬ (83 : Int32) = 87 by decide, show ¬ (83 : Int32) = 72 by decide, show ¬ (83 : Int32) = 84 by decide, show ¬ (83 : Int32) = 70 by decide]
            cases (liH sg n (q + 1) N).1 <;> rfl
          · rw [if_neg c5]
            refine ⟨h, ?_, On.rf, H, fun y => by cases y⟩
            unfold f_X1_readItem f_X1_readItem_85
            simp -implicitDefEqProofs only [clR_s, memT1, P, c1, c2, c3, c4, c5, Bool.and_true, if_true, Option.bind_some, if_false]
            rfl
