def WL (c i f : Nat) : Bool := W2 c i f || Nat.beq c 42
theorem On.wl {a b : zM} (o : On W2 a b) : On WL a b := o.mono (fun C I F e => by
  unfold WL at e
  cases h : W2 C I F with
  | false => rfl
  | true => rw [h] at e; simp at e)
theorem WL_t (k : Nat) : WL 42 0 k = true := by simp [WL]
theorem TXM.on {h h' : zM} {j n q : Nat} {sg : Nat → Int32} {W : Nat → Nat → Nat → Bool} (H : TXM h j n sg q) (o : On W h h') (w1 : ∀ f, W 36 0 f = false) (w2 : ∀ f, W 37 0 f = false) {q' : Nat} (e : rI h' 11 0 17 = nI q') (hq : q' ≤ n) : TXM h' j n sg q' := by
  obtain ⟨a, b, c, d, f, g, k⟩ := H
  exact ⟨o.MS a, by rw [o.2 _ _ _ (w1 _)]; exact b, fun i hi => by rw [o.2 _ _ _ (w2 _)]; exact c i hi, e, hq, g, k⟩
theorem TXM.w42 {h : zM} {j n q k : Nat} {v : Int32} {sg : Nat → Int32} (H : TXM h j n sg q) : TXM (wI h 42 0 k v) j n sg q := H.on (W := WL) (On.rf.wI (WL_t k)) (fun _ => rfl) (fun _ => rfl) (by rw [rI_wI_ne (by decide)]; exact H.2.2.2.1) H.2.2.2.2.1
def NM2 (h : zM) (N : Nat → Int32) : Prop := ∀ k, k < 10 → rI h 42 0 k = N k
theorem NM2.on {h h' : zM} {N : Nat → Int32} (H : NM2 h N) (o : On W2 h h') : NM2 h' N := fun k hk => by
  rw [o.2 _ _ _ rfl]
  exact H k hk
theorem NM2.wI {h : zM} {k : Nat} {N : Nat → Int32} {v : Int32} (H : NM2 h N) : NM2 (wI h 42 0 k v) (updN N k v) := by
  intro k' hk
  rw [rI_wI]
  unfold updN
  by_cases e : k' = k
  · rw [if_pos ⟨rfl, rfl, e⟩, if_pos e]
  · rw [if_neg (fun z => e z.2.2), if_neg e]
    exact H k' hk
theorem MS.m20 {h : zM} (H : MS h) : rR h 11 0 20 = some (42, 0) := H.2.2.2.2.2.2.2.2.2.2.1
theorem mS_eq {h : zM} {j n q k : Nat} {sg N : Nat → Int32} {x : Int32} (H : TXM h j n sg q) (B : NM2 h N) (hx : (x = 84 ∧ k = 4) ∨ (x = 70 ∧ k = 5)) : ∃ h', f_X11_readsLaw_12 (nI j) x h = some (b01 (liS sg n k q N).1, h') ∧ On WL h h' ∧ TXM h' j n sg (liS sg n k q N).2.1 ∧ ((liS sg n k q N).1 = true → NM2 h' (liS sg n k q N).2.2) := by
  obtain ⟨h1, s1, s2, s3, s4⟩ := numm_eq H
  have m20 := s3.1.m20
  have B1 := B.on s2
  have ak : Nat.beq (akd 42) 1 = true := rfl
  have i4 : ixOk (aln 42) 4 = true := rfl
  have i5 : ixOk (aln 42) 5 = true := rfl
  have c4 : Int32.toNatClampNeg 4 = 4 := rfl
  have c5 : Int32.toNatClampNeg 5 = 5 := rfl
  refine ⟨wI h1 42 0 k (nV sg n q), ?_, s2.wl.wI (WL_t k), ?_, ?_⟩
  · have b : (liS sg n k q N).1 = nO sg n q := by
      unfold liS
      cases nO sg n q <;> rfl
    have s1' : f_X11_readsNumber (nI j) h = some (b01 (nO sg n q), h1) := s1
    rw [b]
    unfold f_X11_readsLaw_12 f_X11_readsLaw_33
    rcases hx with ⟨rfl, rfl⟩ | ⟨rfl, rfl⟩
    · simp -implicitDefEqProofs only [s1', m20, decide_true, Bool.true_and, Bool.and_true, if_true, Option.bind_some, not_true_eq_false, if_false, clR_s, ixR_s, isB_b, ak, i4, c4, s4]
    · simp -implicitDefEqProofs only [s1', m20, decide_true, Bool.true_and, Bool.and_true, if_true, Option.bind_some, show ¬ (70 : Int32) = 84 by decide, not_false_eq_true, clR_s, ixR_s, isB_b, ak, i5, c5, s4]
  · have b : (liS sg n k q N).2.1 = nE sg n q := by
      unfold liS
      cases nO sg n q <;> rfl
    rw [b]
    exact s3.w42
  · unfold liS
    by_cases o : nO sg n q = true
    · rw [if_pos o]
      exact fun _ => B1.wI
    · rw [if_neg o]
      exact fun y => by cases y
theorem mP_eq {h : zM} {j n q k : Nat} {sg N : Nat → Int32} (H : TXM h j n sg q) (B : NM2 h N) (hk : k < 9) : ∃ h', f_X11_readsLaw_128 (nI j) (nI k) h = some (b01 (liP sg n k q N).1, h') ∧ On WL h h' ∧ TXM h' j n sg (liP sg n k q N).2.1 ∧ ((liP sg n k q N).1 = true → NM2 h' (liP sg n k q N).2.2) := by
  obtain ⟨h1, s1, s2, s3, s4⟩ := numm_eq H
  have B1 := B.on s2
  have n10 : ¬ (1 : Int32) = 0 := by decide
  have ik := ixOk_nI (show k < 10 by omega) (show 10 < 2 ^ 31 by decide)
  have ik1 := ixOk_nI (show k + 1 < 10 by omega) (show 10 < 2 ^ 31 by decide)
  have ck := nI_clamp (show k < 2 ^ 31 by omega)
  have ck1 := nI_clamp (show k + 1 < 2 ^ 31 by omega)
  unfold liP
  by_cases o1 : nO sg n q = true
  · rw [if_pos o1] at s1 ⊢
    obtain ⟨h2, t1, t2, t3⟩ := byte_eq s3 (x := 44) (by decide)
    have B2 := B1.on t2
    by_cases p : pas sg n 44 (nE sg n q) = true
    · rw [if_pos p] at t1 ⊢
      rw [if_pos p] at t3
      obtain ⟨h3, u1, u2, u3, u4⟩ := numm_eq t3
      have B3 := B2.on u2
      have m20 := u3.1.m20
      by_cases o2 : nO sg n (nE sg n q + 1) = true
      · rw [if_pos o2] at u1 ⊢
        by_cases z : 1 ≤ nV sg n (nE sg n q + 1)
        · rw [if_pos z]
          have w : rI (wI h3 42 0 k (nV sg n q)) 11 0 18 = nV sg n (nE sg n q + 1) := by
            rw [rI_wI_ne (by decide)]
            exact u4
          refine ⟨wI (wI h3 42 0 k (nV sg n q)) 42 0 (k + 1) (nV sg n (nE sg n q + 1)), ?_, (((s2.tr t2).tr u2).wl.wI (WL_t k)).wI (WL_t _), u3.w42.w42, fun _ => B3.wI.wI⟩
          unfold f_X11_readsLaw_128
          simp -implicitDefEqProofs only [s1, s4, t1, u1, u4, m20, decide_true, Bool.true_and, Bool.and_true, if_true, Option.bind_some, n10, not_false_eq_true, if_false, z, ik, ik1, ck, ck1, nI_1, w]
          rfl
        · rw [if_neg z]
          refine ⟨h3, ?_, ((s2.tr t2).tr u2).wl, u3, fun y => by cases y⟩
          unfold f_X11_readsLaw_128
          simp -implicitDefEqProofs only [s1, t1, u1, u4, if_true, Option.bind_some, n10, not_false_eq_true, if_false, z]
          rfl
      · rw [if_neg o2] at u1 ⊢
        refine ⟨h3, ?_, ((s2.tr t2).tr u2).wl, u3, fun y => by cases y⟩
        unfold f_X11_readsLaw_128
        simp -implicitDefEqProofs only [s1, t1, u1, if_true, Option.bind_some, n10, not_false_eq_true, if_false]
        rfl
    · rw [if_neg p] at t1 ⊢
      rw [if_neg p] at t3
      refine ⟨h2, ?_, (s2.tr t2).wl, t3, fun y => by cases y⟩
      unfold f_X11_readsLaw_128
      simp -implicitDefEqProofs only [s1, t1, if_true, Option.bind_some, n10, not_false_eq_true, if_false]
      rfl
  · rw [if_neg o1] at s1 ⊢
    refine ⟨h1, ?_, s2.wl, s3, fun y => by cases y⟩
    unfold f_X11_readsLaw_128
    simp -implicitDefEqProofs only [s1, Option.bind_some, not_true_eq_false, if_false]
    rfl
theorem mH_eq {h : zM} {j n q : Nat} {sg N : Nat → Int32} (H : TXM h j n sg q) (B : NM2 h N) : ∃ h', f_X11_readsLaw (nI j) 83 h = some (b01 (liH sg n q N).1, h') ∧ On WL h h' ∧ TXM h' j n sg (liH sg n q N).2.1 ∧ ((liH sg n q N).1 = true → NM2 h' (liH sg n q N).2.2) := by
  have E := here_eq H
  obtain ⟨a, b, c, d, f, g, k⟩ := id H
  have n10 : ¬ (1 : Int32) = 0 := by decide
  have s84 : ¬ (83 : Int32) = 84 := by decide
  have s70 : ¬ (83 : Int32) = 70 := by decide
  unfold liH
  by_cases o : shO sg n q = true
  · rw [if_pos o]
    obtain ⟨dd, hd, ed, lt⟩ := shO_nat o
    have o' := of_decide_eq_true o
    rw [if_pos lt] at E
    have O1 : On W2 h (wI h 11 0 17 (nI (q + 1))) := On.rf.wI rfl
    have H1 := H.at O1 (q' := q + 1) (by rw [rI_wI, if_pos ⟨rfl, rfl, rfl⟩]) lt
    obtain ⟨h2, t1, t2, t3⟩ := byte_eq H1 (x := 58) (by decide)
    have B2 := (B.on O1).on t2
    rw [ed]
    have cd := nI_clamp (show dd < 2 ^ 31 by omega)
    by_cases p : pas sg n 58 (q + 1) = true
    · rw [if_pos p] at t1 ⊢
      rw [if_pos p] at t3
      obtain ⟨h3, u1, u2, u3, u4⟩ := numm_eq t3
      have B3 := B2.on u2
      have m20 := u3.1.m20
      have e6 : (6 : Int32) + nI dd = nI (6 + dd) := by rw [lit 6, nI_add]
      have ik := ixOk_nI (show 6 + dd < 10 by omega) (show 10 < 2 ^ 31 by decide)
      have ck := nI_clamp (show 6 + dd < 2 ^ 31 by omega)
      rw [cd]
      by_cases o2 : nO sg n (q + 1 + 1) = true
      · rw [if_pos o2] at u1 ⊢
        refine ⟨wI h3 42 0 (6 + dd) (nV sg n (q + 1 + 1)), ?_, ((O1.tr t2).tr u2).wl.wI (WL_t _), u3.w42, fun _ => B3.wI⟩
        unfold f_X11_readsLaw
        simp -implicitDefEqProofs only [s84, s70, if_false, not_false_eq_true, not_true_eq_false, if_true, E, in_T o'.2, Option.bind_some, n10, d, nI_1, t1, u1, ed, e6, ik, ck, m20, decide_true, Bool.true_and, Bool.and_true, u4]
        rfl
      · rw [if_neg o2] at u1 ⊢
        refine ⟨h3, ?_, ((O1.tr t2).tr u2).wl, u3, fun y => by cases y⟩
        unfold f_X11_readsLaw
        simp -implicitDefEqProofs only [s84, s70, if_false, not_false_eq_true, not_true_eq_false, if_true, E, in_T o'.2, Option.bind_some, n10, d, nI_1, t1, u1]
        rfl
    · rw [if_neg p] at t1 ⊢
      rw [if_neg p] at t3
      refine ⟨h2, ?_, (O1.tr t2).wl, t3, fun y => by cases y⟩
      unfold f_X11_readsLaw
      simp -implicitDefEqProofs only [s84, s70, if_false, not_false_eq_true, not_true_eq_false, if_true, E, in_T o'.2, Option.bind_some, n10, d, nI_1, t1]
      rfl
  · rw [if_neg o]
    have s : ¬ ((48 : Int32) ≤ (if q < n then sg q else -9999) ∧ (if q < n then sg q else -9999) ≤ 51) := by
      by_cases lt : q < n
      · rw [if_pos lt]
        exact fun y => o (decide_eq_true ⟨lt, y⟩)
      · rw [if_neg lt]
        decide
    refine ⟨h, ?_, On.rf, H, fun y => by cases y⟩
    unfold f_X11_readsLaw
    simp -implicitDefEqProofs only [s84, s70, if_false, not_false_eq_true, not_true_eq_false, if_true, E, in_F s, Option.bind_some]
    rfl
def isL (x : Int32) : Bool := decide (x = 87 ∨ x = 72 ∨ x = 84 ∨ x = 70 ∨ x = 83)
theorem let0 (x : Int32) (h : zM) : f_X11_isLetter x 0 h = some (b01 (isL x), h) := by
  unfold f_X11_isLetter f_X11_isLetter_90 isL
  by_cases c1 : x = 87
  · simp [c1, b01]
  · by_cases c2 : x = 72
    · simp [c2, b01]
    · by_cases c3 : x = 84
      · simp [c3, b01]
      · by_cases c4 : x = 70
        · simp [c4, b01]
        · by_cases c5 : x = 83
          · simp [c5, b01]
          · simp [c1, c2, c3, c4, c5, b01]
theorem mLaw {h : zM} {j n q : Nat} {sg N : Nat → Int32} (H : TXM h j n sg (q + 1)) (B : NM2 h N) (l : isL (sg q) = true) : ∃ h', f_X11_readsLaw (nI j) (sg q) h = some (b01 (li sg n q N).1, h') ∧ On WL h h' ∧ TXM h' j n sg (li sg n q N).2.1 ∧ ((li sg n q N).1 = true → NM2 h' (li sg n q N).2.2) := by
  unfold li
  by_cases c1 : sg q = 87
  · rw [if_pos c1, c1]
    have P := mP_eq (k := 0) H B (by decide)
    unfold f_X11_readsLaw
    rw [if_neg (by decide), if_pos (by decide), if_pos (by decide), if_neg (fun z => z rfl)]
    exact P
  · rw [if_neg c1]
    by_cases c2 : sg q = 72
    · rw [if_pos c2, c2]
      have P := mP_eq (k := 2) H B (by decide)
      unfold f_X11_readsLaw
      rw [if_neg (by decide), if_pos (by decide), if_pos (by decide), if_pos (by decide)]
      exact P
    · rw [if_neg c2]
      by_cases c3 : sg q = 84
      · rw [if_pos c3, c3]
        have P := mS_eq (k := 4) (x := 84) H B (Or.inl ⟨rfl, rfl⟩)
        unfold f_X11_readsLaw
        rw [if_pos rfl]
        exact P
      · rw [if_neg c3]
        by_cases c4 : sg q = 70
        · rw [if_pos c4, c4]
          have P := mS_eq (k := 5) (x := 70) H B (Or.inr ⟨rfl, rfl⟩)
          unfold f_X11_readsLaw
          rw [if_neg (by decide), if_neg (fun z => z rfl)]
          exact P
        · rw [if_neg c4]
          have c5 : sg q = 83 := by
            have := of_decide_eq_true l
            simpa [c1, c2, c3, c4] using this
          rw [if_pos c5, c5]
          exact mH_eq H B
/-! all items -/
def pall {σ : Type} (sg : Nat → Int32) (n : Nat) (it : Nat → σ → Bool × Nat × σ) : Nat → Nat → Nat → σ → Bool × Nat × Nat × σ
  | 0, k, q, s => (false, k, q, s)
  | f + 1, k, q, s => if n ≤ skp sg n (n - q) q then (true, k, skp sg n (n - q) q, s) else if (it (skp sg n (n - q) q) s).1 = true then pall sg n it f (k + 1) (it (skp sg n (n - q) q) s).2.1 (it (skp sg n (n - q) q) s).2.2 else (false, k, (it (skp sg n (n - q) q) s).2.1, s)
theorem allX {σ : Type} {sg : Nat → Int32} {n c j : Nat} {it : Nat → σ → Bool × Nat × σ} {x0 : zR} {W : Nat → Nat → Nat → Bool} {R : zM → σ → Prop} (hx0 : memN [1, 7] (clR x0) = true) (hW : ∀ a b, On (W5 c) a b → On W a b) (hR : ∀ a b s, On (W5 c) a b → R a s → R b s) (ip : ∀ q s, q < n → (it q s).1 = true → q < (it q s).2.1)
    (hit : ∀ h q s, RDR h c j n sg q → q < n → R h s → ∃ h', (if clR x0 = 1 then f_X1_readItem x0 (some (5, c)) h else f_X7_readItem x0 (some (5, c)) h) = some (b01 (it q s).1, h') ∧ On W h h' ∧ RDR h' c j n sg (it q s).2.1 ∧ ((it q s).1 = true → R h' (it q s).2.2)) :
    ∀ (f fuel k q : Nat) (s : σ) (h : zM), RDR h c j n sg q → R h s → f + k = 41 → k ≤ q → f < fuel → ∃ h', f_X0_readAll_2 fuel x0 (some (5, c)) (nI k) h = some (if (pall sg n it f k q s).1 = true then nI (pall sg n it f k q s).2.1 else -9999, h') ∧ On W h h' ∧ RDR h' c j n sg (pall sg n it f k q s).2.2.1 ∧ ((pall sg n it f k q s).1 = true → R h' (pall sg n it f k q s).2.2.2)
  | 0, fuel + 1, k, q, s, h, H, hs, e, hk, hf => by
    have := H.2.2.2.2
    omega
  | f + 1, fuel + 1, k, q, s, h, H, hs, e, hk, hf => by
    obtain ⟨-, -, -, -, qn, n40⟩ := id H
    obtain ⟨h1, a1, a2, a3⟩ := skp_loop (n - q) 1000 q h H (by omega) (by omega)
    have sl := skp_le (sg := sg) (n - q) q qn
    have E : f_X5_endsBehindBlanks (some (5, c)) h = _ := a1
    rw [pall]
    generalize skp sg n (n - q) q = q1 at E a3 sl
    have z40 : ¬ (40 : Int32) < nI k := nI_nlt (a := 40) (by omega) (by decide)
    by_cases c1 : n ≤ q1
    · rw [if_pos c1]
      rw [if_neg (by omega)] at E
      refine ⟨h1, ?_, hW _ _ a2, a3, fun _ => hR _ _ _ a2 hs⟩
      unfold f_X0_readAll_2
      simp -implicitDefEqProofs only [z40, if_false, clR_s, memT1, Bool.and_true, if_true, E, Option.bind_some, show ¬ (1 : Int32) = 0 by decide]
    · rw [if_neg c1]
      rw [if_pos (by omega)] at E
      obtain ⟨h2, b1, b2, b3, b4⟩ := hit h1 q1 s a3 (by omega) (hR _ _ _ a2 hs)
      by_cases c2 : (it q1 s).1 = true
      · rw [if_pos c2]
        rw [c2] at b1
        have lt := ip q1 s (by omega) c2
        obtain ⟨h3, d1, d2, d3, d4⟩ := allX hx0 hW hR ip hit f fuel (k + 1) (it q1 s).2.1 (it q1 s).2.2 h2 b3 (b4 c2) (by omega) (by omega) (by omega)
        refine ⟨h3, ?_, ((hW _ _ a2).tr b2).tr d2, d3, d4⟩
        unfold f_X0_readAll_2
        simp -implicitDefEqProofs only [z40, if_false, clR_s, memT1, hx0, Bool.and_true, if_true, E, Option.bind_some, b1, b01, show ¬ (1 : Int32) = 0 by decide, not_false_eq_true, nI_1]
        exact d1
      · rw [if_neg c2]
        have c3 : (it q1 s).1 = false := by
          cases y : (it q1 s).1 with
          | false => rfl
          | true => exact absurd y c2
        rw [c3] at b1
        refine ⟨h2, ?_, (hW _ _ a2).tr b2, b3, fun y => by cases y⟩
        unfold f_X0_readAll_2
        simp -implicitDefEqProofs only [z40, if_false, clR_s, memT1, hx0, Bool.and_true, if_true, E, Option.bind_some, b1, b01, not_true_eq_false, Bool.false_eq_true]
theorem pall_blank {σ : Type} {sg : Nat → Int32} {n : Nat} {it : Nat → σ → Bool × Nat × σ} {f k q : Nat} {s : σ} (lt : q < n) (e : sg q = 32) : pall sg n it (f + 1) k q s = pall sg n it (f + 1) k (q + 1) s := by
  have z : skp sg n (n - q) q = skp sg n (n - (q + 1)) (q + 1) := by
    obtain ⟨r, hr⟩ : ∃ r, n - q = r + 1 := ⟨n - q - 1, by omega⟩
    rw [hr, show n - (q + 1) = r by omega, skp, if_pos ⟨lt, e⟩]
  rw [pall, pall, z]
theorem skp_no {sg : Nat → Int32} {n q : Nat} (e : ¬ (q < n ∧ sg q = 32)) (r : Nat) : skp sg n r q = q := by
  cases r with
  | zero => rfl
  | succ r => rw [skp, if_neg e]
theorem pall_at {σ : Type} {sg : Nat → Int32} {n : Nat} {it : Nat → σ → Bool × Nat × σ} {f k q : Nat} {s : σ} (sk : skp sg n (n - q) q = q) (lt : q < n) : pall sg n it (f + 1) k q s = if (it q s).1 = true then pall sg n it f (k + 1) (it q s).2.1 (it q s).2.2 else (false, k, (it q s).2.1, s) := by
  rw [show pall sg n it (f + 1) k q s = if n ≤ skp sg n (n - q) q then (true, k, skp sg n (n - q) q, s) else if (it (skp sg n (n - q) q) s).1 = true then pall sg n it f (k + 1) (it (skp sg n (n - q) q) s).2.1 (it (skp sg n (n - q) q) s).2.2 else (false, k, (it (skp sg n (n - q) q) s).2.1, s) from rfl, sk, if_neg (show ¬ n ≤ q by omega)]
theorem pall_end {σ : Type} {sg : Nat → Int32} {n : Nat} {it : Nat → σ → Bool × Nat × σ} {f k q : Nat} {s : σ} (sk : skp sg n (n - q) q = q) (ge : n ≤ q) : pall sg n it (f + 1) k q s = (true, k, q, s) := by
  unfold pall
  rw [sk, if_pos ge]
/-- the items of the reference: x is the flag rules, W what it may write, it its item -/
theorem allM {σ : Type} {sg : Nat → Int32} {n j : Nat} {it : Nat → σ → Bool × Nat × σ} {x : Int32} {W : Nat → Nat → Nat → Bool} {R : zM → σ → Prop} {ok : Int32 → Bool} (hx : x = 0 ∨ x = 1) (wI19 : W 11 0 19 = true) (hW : ∀ a b, On W2 a b → On W a b) (w1 : ∀ f, W 36 0 f = false) (w2 : ∀ f, W 37 0 f = false) (hR : ∀ a b s, On W2 a b → R a s → R b s) (hR19 : ∀ a s v, R a s → R (wI a 11 0 19 v) s) (ip : ∀ q s, q < n → (it q s).1 = true → q < (it q s).2.1 ∧ (it q s).2.1 ≤ n)
    (hok : ∀ y h, f_X11_isLetter y x h = some (b01 (ok y), h)) (hno : ∀ q s, ok (sg q) = false → it q s = (false, q, s))
    (hit : ∀ h q s, TXM h j n sg (q + 1) → R h s → ok (sg q) = true → ∃ h', (if x = 0 then f_X11_readsLaw (nI j) (sg q) h else f_X11_readsRule (nI j) (sg q) h) = some (b01 (it q s).1, h') ∧ On W h h' ∧ TXM h' j n sg (it q s).2.1 ∧ rI h' 11 0 19 = rI h 11 0 19 ∧ ((it q s).1 = true → R h' (it q s).2.2)) :
    ∀ (fuel f k q : Nat) (s : σ) (h : zM), TXM h j n sg q → R h s → rI h 11 0 19 = nI k → f + k = 41 → k ≤ q → n - q < fuel → ∃ h', f_X11_reads_62 fuel (nI j) x h = some (if (pall sg n it f k q s).1 = true then -9999 else nI (pall sg n it f k q s).2.2.1, h') ∧ On W h h' ∧ rI h' 11 0 19 = nI (pall sg n it f k q s).2.1 ∧ ((pall sg n it f k q s).1 = true → R h' (pall sg n it f k q s).2.2.2)
  | fuel + 1, f, k, q, s, h, H, hs, e19, e, hk, hf => by
    have E := here_eq H
    obtain ⟨a, b, c, d, qn, n40, j3⟩ := id H
    have m5 := a.2.2.2.2.1
    have ij := ixOk_nI (show j < 4 by omega) (show 4 < 2 ^ 31 by decide)
    have cj := nI_clamp (show j < 2 ^ 31 by omega)
    obtain ⟨f, rfl⟩ : ∃ f', f = f' + 1 := ⟨f - 1, by omega⟩
    by_cases lt : q < n
    · have l : ¬ nI n ≤ nI q := nI_ge lt (by omega)
      rw [if_pos lt] at E
      have O1 : On W2 h (wI h 11 0 17 (nI (q + 1))) := On.rf.wI rfl
      have H1 := H.at O1 (q' := q + 1) (by rw [rI_wI, if_pos ⟨rfl, rfl, rfl⟩]) lt
      by_cases s32 : sg q = 32
      · rw [pall_blank lt s32]
        obtain ⟨h', e1, e2, e3, e4⟩ := allM hx wI19 hW w1 w2 hR hR19 ip hok hno hit fuel (f + 1) k (q + 1) s (wI h 11 0 17 (nI (q + 1))) H1 (hR _ _ _ O1 hs) (by rw [rI_wI_nf (by decide)]; exact e19) e (by omega) (by omega)
        refine ⟨h', ?_, (hW _ _ O1).tr e2, e3, e4⟩
        unfold f_X11_reads_62
        simp -implicitDefEqProofs only [m5, ij, cj, b, d, l, E, s32, decide_true, Bool.true_and, Bool.and_true, if_true, if_false, Option.bind_some, not_true_eq_false, nI_1]
        exact e1
      · have sk : skp sg n (n - q) q = q := skp_no (fun z => s32 z.2) _
        rw [pall_at sk lt]
        cases okq : ok (sg q) with
        | false =>
          have I := hno q s okq
          rw [I, if_neg (show ¬ (false, q, s).1 = true by simp)]
          refine ⟨h, ?_, On.rf, e19, fun y => by cases y⟩
          have hk' := hok (sg q) h
          rw [okq] at hk'
          unfold f_X11_reads_62
          simp -implicitDefEqProofs only [m5, ij, cj, b, d, l, E, s32, decide_true, Bool.true_and, Bool.and_true, if_true, if_false, Option.bind_some, not_false_eq_true, hk', b01, Bool.false_eq_true, not_true_eq_false]
        | true =>
          obtain ⟨h2, b1, b2, b3, b4, b5⟩ := hit (wI h 11 0 17 (nI (q + 1))) q s H1 (hR _ _ _ O1 hs) okq
          have e19' : rI h2 11 0 19 = nI k := by
            rw [b4, rI_wI_nf (by decide)]
            exact e19
          have hk' := hok (sg q) h
          rw [okq] at hk'
          by_cases c2 : (it q s).1 = true
          · rw [if_pos c2]
            rw [c2] at b1
            have lt2 := ip q s lt c2
            have O3 : On W h2 (wI h2 11 0 19 (nI (k + 1))) := On.rf.wI wI19
            have H3 := b3.on O3 w1 w2 (q' := (it q s).2.1) (by rw [rI_wI_nf (by decide)]; exact b3.2.2.2.1) b3.2.2.2.2.1
            obtain ⟨h', e1, e2, e3, e4⟩ := allM hx wI19 hW w1 w2 hR hR19 ip hok hno hit fuel f (k + 1) (it q s).2.1 (it q s).2.2 (wI h2 11 0 19 (nI (k + 1))) H3 (hR19 _ _ _ (b5 c2)) (by rw [rI_wI, if_pos ⟨rfl, rfl, rfl⟩]) (by omega) (by omega) (by omega)
            refine ⟨h', ?_, (((hW _ _ O1).tr b2).tr O3).tr e2, e3, e4⟩
            unfold f_X11_reads_62 f_X11_reads_153
            rcases hx with rfl | rfl
            · rw [if_pos rfl] at b1
              simp -implicitDefEqProofs only [m5, ij, cj, b, d, l, E, s32, decide_true, Bool.true_and, Bool.and_true, if_true, if_false, Option.bind_some, not_false_eq_true, hk', b01, show ¬ (1 : Int32) = 0 by decide, nI_1, b1, e19']
              exact e1
            · rw [if_neg (by decide)] at b1
              simp -implicitDefEqProofs only [m5, ij, cj, b, d, l, E, s32, decide_true, Bool.true_and, Bool.and_true, if_true, if_false, Option.bind_some, not_false_eq_true, hk', b01, show ¬ (1 : Int32) = 0 by decide, nI_1, b1, e19']
              exact e1
          · rw [if_neg c2]
            have c3 : (it q s).1 = false := by
              cases y : (it q s).1 with
              | false => rfl
              | true => exact absurd y c2
            rw [c3] at b1
            have d2 := b3.2.2.2.1
            refine ⟨h2, ?_, (hW _ _ O1).tr b2, e19', fun y => by cases y⟩
            unfold f_X11_reads_62 f_X11_reads_148
            rcases hx with rfl | rfl
            · rw [if_pos rfl] at b1
              simp -implicitDefEqProofs only [m5, ij, cj, b, d, l, E, s32, decide_true, Bool.true_and, Bool.and_true, if_true, if_false, Option.bind_some, not_false_eq_true, hk', b01, show ¬ (1 : Int32) = 0 by decide, nI_1, b1, Bool.false_eq_true, not_true_eq_false, d2]
            · rw [if_neg (by decide)] at b1
              simp -implicitDefEqProofs only [m5, ij, cj, b, d, l, E, s32, decide_true, Bool.true_and, Bool.and_true, if_true, if_false, Option.bind_some, not_false_eq_true, hk', b01, show ¬ (1 : Int32) = 0 by decide, nI_1, b1, Bool.false_eq_true, not_true_eq_false, d2]
    · have l : nI n ≤ nI q := nI_le (by omega) (by omega)
      have sk : skp sg n (n - q) q = q := skp_no (fun z => lt z.1) _
      rw [pall_end sk (by omega)]
      refine ⟨h, ?_, On.rf, e19, fun _ => hs⟩
      unfold f_X11_reads_62
      simp -implicitDefEqProofs only [m5, ij, cj, b, d, l, decide_true, Bool.true_and, Bool.and_true, if_true]
