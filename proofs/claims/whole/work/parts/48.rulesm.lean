def RM (h : zM) (s : RS) : Prop := rI h 11 0 21 = oI s.1 ∧ rI h 11 0 22 = oI s.2.1 ∧ rI h 11 0 23 = oI s.2.2.1 ∧ rI h 11 0 24 = s.2.2.2.1 ∧ rI h 11 0 25 = msv s.2.2.2.2.1 s.2.2.2.2.2.1 s.2.2.2.2.2.2.1 s.2.2.2.2.2.2.2 ∧ o99 s.1 ∧ o99 s.2.1 ∧ o99 s.2.2.1
theorem RM.on2 {h h' : zM} {s : RS} (H : RM h s) (o : On W2 h h') : RM h' s := by
  unfold RM
  rw [o.2 11 0 21 rfl, o.2 11 0 22 rfl, o.2 11 0 23 rfl, o.2 11 0 24 rfl, o.2 11 0 25 rfl]
  exact H
theorem RM.w19 {h : zM} {s : RS} {v : Int32} (H : RM h s) : RM (wI h 11 0 19 v) s := by
  unfold RM
  rw [rI_wI_nf (by decide), rI_wI_nf (by decide), rI_wI_nf (by decide), rI_wI_nf (by decide), rI_wI_nf (by decide)]
  exact H
theorem TXM.onX {h h' : zM} {j n q : Nat} {sg : Nat → Int32} (H : TXM h j n sg q) (o : On WX h h') (e : rI h' 11 0 17 = rI h 11 0 17) : TXM h' j n sg q := H.on o (fun _ => rfl) (fun _ => rfl) (by rw [e]; exact H.2.2.2.1) H.2.2.2.2.1
def fi4 (h : zM) (a b d e : Int32) : zM := wI (wI (wI (wI h 11 0 21 a) 11 0 22 b) 11 0 23 d) 11 0 24 e
theorem fi4_on (h : zM) (a b d e : Int32) : On WX h (fi4 h a b d e) := (((On.rf.wI rfl).wI rfl).wI rfl).wI rfl
theorem fi4_21 (h : zM) (a b d e : Int32) : rI (fi4 h a b d e) 11 0 21 = a := by
  unfold fi4
  rw [rI_wI_nf (by decide), rI_wI_nf (by decide), rI_wI_nf (by decide), rI_wI, if_pos ⟨rfl, rfl, rfl⟩]
theorem fi4_22 (h : zM) (a b d e : Int32) : rI (fi4 h a b d e) 11 0 22 = b := by
  unfold fi4
  rw [rI_wI_nf (by decide), rI_wI_nf (by decide), rI_wI, if_pos ⟨rfl, rfl, rfl⟩]
theorem fi4_23 (h : zM) (a b d e : Int32) : rI (fi4 h a b d e) 11 0 23 = d := by
  unfold fi4
  rw [rI_wI_nf (by decide), rI_wI, if_pos ⟨rfl, rfl, rfl⟩]
theorem fi4_24 (h : zM) (a b d e : Int32) : rI (fi4 h a b d e) 11 0 24 = e := by
  unfold fi4
  rw [rI_wI, if_pos ⟨rfl, rfl, rfl⟩]
theorem fi4_o (h : zM) (a b d e : Int32) {f : Nat} (hf : ¬ (21 ≤ f ∧ f ≤ 24)) : rI (fi4 h a b d e) 11 0 f = rI h 11 0 f := by
  unfold fi4
  rw [rI_wI_nf (by omega), rI_wI_nf (by omega), rI_wI_nf (by omega), rI_wI_nf (by omega)]
theorem RM.fi {h : zM} {s s' : RS} {a b d e : Int32} (h1 : a = oI s'.1) (h2 : b = oI s'.2.1) (h3 : d = oI s'.2.2.1) (h4 : e = s'.2.2.2.1) (h5 : s'.2.2.2.2 = s.2.2.2.2) (H : RM h s) (q : o99 s'.1 ∧ o99 s'.2.1 ∧ o99 s'.2.2.1) : RM (fi4 h a b d e) s' := by
  refine ⟨by rw [fi4_21]; exact h1, by rw [fi4_22]; exact h2, by rw [fi4_23]; exact h3, by rw [fi4_24]; exact h4, ?_, q⟩
  rw [fi4_o _ _ _ _ _ (by decide), h5]
  exact H.2.2.2.2.1
theorem msv_k (k d t v : Bool) : msv k d t v ||| 1 = msv true d t v := by cases k <;> cases d <;> cases t <;> cases v <;> decide
theorem msv_d (k d t v : Bool) : msv k d t v ||| 2 = msv k true t v := by cases k <;> cases d <;> cases t <;> cases v <;> decide
theorem msv_t (k d t v : Bool) : msv k d t v ||| 4 = msv k d true v := by cases k <;> cases d <;> cases t <;> cases v <;> decide
theorem msv_v (k d t v : Bool) : msv k d t v ||| 8 = msv k d t true := by cases k <;> cases d <;> cases t <;> cases v <;> decide
theorem or0 (x : Int32) : x ||| 0 = x := Int32.or_zero
theorem oI_mn {o : Option Nat} {x : Nat} (hx : x < 100) (ho : o99 o) : (if oI o = -9999 then nI x else if oI o ≤ nI x then oI o else nI x) = oI (mnO o x) := by
  cases o with
  | none => rfl
  | some m =>
    have := ho m rfl
    show (if nI m = -9999 then nI x else if nI m ≤ nI x then nI m else nI x) = oI (if x < m then some x else some m)
    rw [if_neg (nI_n9 (by omega))]
    by_cases z : x < m
    · rw [if_neg (nI_ge z (by omega)), if_pos z]
      rfl
    · rw [if_pos (nI_le (by omega) (by omega)), if_neg z]
      rfl
theorem oI_mx {o : Option Nat} {x : Nat} (hx : x < 100) (ho : o99 o) : (if nI x ≤ oI o then oI o else nI x) = oI (mxO o x) := by
  cases o with
  | none =>
    show (if nI x ≤ -9999 then (-9999 : Int32) else nI x) = nI x
    rw [if_neg]
    intro z
    rw [Int32.le_iff_toInt_le, nI_toInt (by omega)] at z
    rw [show (-9999 : Int32).toInt = -9999 by decide] at z
    omega
  | some m =>
    have := ho m rfl
    show (if nI x ≤ nI m then nI m else nI x) = oI (if m < x then some x else some m)
    by_cases z : m < x
    · rw [if_neg (nI_ge z (by omega)), if_pos z]
      rfl
    · rw [if_pos (nI_le (by omega) (by omega)), if_neg z]
      rfl
/-- where a figure is wanted -/
theorem fig_pre {h : zM} {j n q mo : Nat} {sg : Nat → Int32} {s : RS} (H : TXM h j n sg q) (B : RM h s) (hmo : mo ≤ 2) : ∃ h1, f_X11_readsFigures (nI j) (nI mo) (wI h 11 0 25 (rI h 11 0 25 ||| 0)) = some (if q < fE sg n mo q then 1 else 0, h1) ∧ On WX h h1 ∧ TXM h1 j n sg (fE sg n mo q) ∧ rI h1 11 0 18 = nI (fV sg n mo q) ∧ RM h1 s ∧ rI h1 11 0 19 = rI h 11 0 19 := by
  have O0 : On WX h (wI h 11 0 25 (rI h 11 0 25 ||| 0)) := On.rf.wI rfl
  have H0 : TXM (wI h 11 0 25 (rI h 11 0 25 ||| 0)) j n sg q := H.onX O0 (rI_wI_nf (by decide))
  have B0 : RM (wI h 11 0 25 (rI h 11 0 25 ||| 0)) s := by
    unfold RM
    rw [rI_wI_nf (by decide), rI_wI_nf (by decide), rI_wI_nf (by decide), rI_wI_nf (by decide), rI_wI, if_pos ⟨rfl, rfl, rfl⟩, or0]
    exact B
  obtain ⟨h1, a1, a2, a3, a4⟩ := figm_eq H0 hmo
  refine ⟨h1, ?_, O0.tr (mono2 _ _ a2), a3, a4.trans (fV_eq hmo).1, B0.on2 a2, ?_⟩
  · rw [a1]
    unfold fE
    by_cases z : (fgs sg n mo q 0).1 ≤ q
    · rw [if_pos z, if_neg (by omega)]
    · rw [if_neg z, if_pos (by omega)]
  · rw [a2.2 _ _ _ rfl, rI_wI_nf (by decide)]
def isR (x : Int32) : Bool := decide (x = 119 ∨ x = 104 ∨ x = 115 ∨ x = 121 ∨ x = 107 ∨ x = 100 ∨ x = 116 ∨ x = 118)
theorem let1 (x : Int32) (h : zM) : f_X11_isLetter x 1 h = some (b01 (isR x), h) := by
  unfold f_X11_isLetter f_X11_isLetter_52 isR
  by_cases c1 : x = 119
  · simp [c1, b01]
  · by_cases c2 : x = 104
    · simp [c2, b01]
    · by_cases c3 : x = 115
      · simp [c3, b01]
      · by_cases c4 : x = 121
        · simp [c4, b01]
        · by_cases c5 : x = 107
          · simp [c5, b01]
          · by_cases c6 : x = 100
            · simp [c6, b01]
            · by_cases c7 : x = 116
              · simp [c7, b01]
              · by_cases c8 : x = 118
                · simp [c8, b01]
                · simp [c1, c2, c3, c4, c5, c6, c7, c8, b01]
theorem wx1 (h : zM) (f : Nat) (v : Int32) : rI (wI h 11 0 f v) 11 0 f = v := by rw [rI_wI, if_pos ⟨rfl, rfl, rfl⟩]
theorem wx2 (h : zM) (f g : Nat) (v : Int32) (hf : ¬ f = g) : rI (wI h 11 0 f v) 11 0 g = rI h 11 0 g := rI_wI_nf (fun z => hf z.2)
theorem if3 {α : Type} {p q : Prop} [Decidable p] [Decidable q] {a b c : α} {F : α → Option (Int32 × zM)} : (if p then F a else if q then F b else F c) = F (if p then a else if q then b else c) := by
  by_cases h1 : p
  · rw [if_pos h1, if_pos h1]
  · rw [if_neg h1, if_neg h1]
    by_cases h2 : q
    · rw [if_pos h2, if_pos h2]
    · rw [if_neg h2, if_neg h2]
theorem if2 {α : Type} {p : Prop} [Decidable p] {a b : α} {F : α → Option (Int32 × zM)} : (if p then F a else F b) = F (if p then a else b) := by
  by_cases h1 : p
  · rw [if_pos h1, if_pos h1]
  · rw [if_neg h1, if_neg h1]
theorem mRule {h : zM} {j n q : Nat} {sg : Nat → Int32} {s : RS} (H : TXM h j n sg (q + 1)) (B : RM h s) (l : isR (sg q) = true) : ∃ h', f_X11_readsRule (nI j) (sg q) h = some (b01 (ri sg n q s).1, h') ∧ On WX h h' ∧ TXM h' j n sg (ri sg n q s).2.1 ∧ rI h' 11 0 19 = rI h 11 0 19 ∧ ((ri sg n q s).1 = true → RM h' (ri sg n q s).2.2) := by
  have n10 : ¬ (1 : Int32) = 0 := by decide
  have le0 : (0 : Int32) ≤ 0 := by decide
  obtain ⟨g, p1, p2, p3, p4, p5, p6⟩ := fig_pre (mo := 2) H B (by decide)
  obtain ⟨g', t1, t2, t3, t4, t5, t6⟩ := fig_pre (mo := 1) H B (by decide)
  have b2 := (fV_eq (sg := sg) (n := n) (mo := 2) (q := q + 1) (by decide)).2
  have b1 := (fV_eq (sg := sg) (n := n) (mo := 1) (q := q + 1) (by decide)).2
  have P1 : f_X11_readsFigures (nI j) 2 (wI h 11 0 25 (rI h 11 0 25 ||| 0)) = _ := p1
  have T1 : f_X11_readsFigures (nI j) 1 (wI h 11 0 25 (rI h 11 0 25 ||| 0)) = _ := t1
  rw [or0] at P1 T1
  obtain ⟨r1, r2, r3, r4, r5, r6, r7, r8⟩ := id p5
  obtain ⟨u1, u2, u3, u4, u5, u6, u7, u8⟩ := id t5
  have bare : ∀ v : Int32, ∀ s' : RS, rI h 11 0 25 ||| v = msv s'.2.2.2.2.1 s'.2.2.2.2.2.1 s'.2.2.2.2.2.2.1 s'.2.2.2.2.2.2.2 → s'.1 = s.1 → s'.2.1 = s.2.1 → s'.2.2.1 = s.2.2.1 → s'.2.2.2.1 = s.2.2.2.1 → On WX h (wI h 11 0 25 (rI h 11 0 25 ||| v)) ∧ TXM (wI h 11 0 25 (rI h 11 0 25 ||| v)) j n sg (q + 1) ∧ rI (wI h 11 0 25 (rI h 11 0 25 ||| v)) 11 0 19 = rI h 11 0 19 ∧ RM (wI h 11 0 25 (rI h 11 0 25 ||| v)) s' := fun v s' e1 e2 e3 e4 e5 => by
    have O : On WX h (wI h 11 0 25 (rI h 11 0 25 ||| v)) := On.rf.wI rfl
    obtain ⟨q1, q2, q3, q4, q5, q6, q7, q8⟩ := B
    refine ⟨O, H.onX O (rI_wI_nf (by decide)), rI_wI_nf (by decide), ?_, ?_, ?_, ?_, ?_, ?_, ?_, ?_⟩
    · rw [rI_wI_nf (by decide), e2]; exact q1
    · rw [rI_wI_nf (by decide), e3]; exact q2
    · rw [rI_wI_nf (by decide), e4]; exact q3
    · rw [rI_wI_nf (by decide), e5]; exact q4
    · rw [wx1]; exact e1
    · rw [e2]; exact q6
    · rw [e3]; exact q7
    · rw [e4]; exact q8
  unfold ri
  by_cases k1 : sg q = 119
  · rw [if_pos k1, k1]
    by_cases o : q + 1 < fE sg n 2 (q + 1)
    · rw [if_pos o] at P1 ⊢
      have ks : ¬ (119 : Int32) = 107 ∧ ¬ (119 : Int32) = 100 ∧ ¬ (119 : Int32) = 116 ∧ ¬ (119 : Int32) = 118 ∧ ¬ (119 : Int32) = 115 ∧ ¬ (119 : Int32) = 104 ∧ ¬ (119 : Int32) = 121 := by decide
      have E : f_X11_readsRule (nI j) 119 h = some (1, fi4 g (oI (mnO s.1 (fV sg n 2 (q + 1)))) (oI s.2.1) (oI s.2.2.1) s.2.2.2.1) := by
        rw [← oI_mn b2 r6]
        unfold f_X11_readsRule f_X11_readsRule_42 f_X11_readsRule_72 f_X11_readsRule_108 f_X11_readsRule_115 f_X11_readsRule_119 f_X11_readsRule_150 f_X11_readsRule_157 f_X11_readsRule_161 f_X11_readsRule_189 f_X11_readsRule_193 f_X11_readsRule_224 f_X11_readsRule_225 f_X11_readsRule_243 fi4
        simp -implicitDefEqProofs only [ks.1, ks.2.1, ks.2.2.1, ks.2.2.2.1, ks.2.2.2.2.1, ks.2.2.2.2.2.1, ks.2.2.2.2.2.2, not_false_eq_true, if_true, le0, or0, P1, Option.bind_some, n10, not_true_eq_false, if_false, wx1, wx2 _ 21 22 _ (by decide), wx2 _ 21 23 _ (by decide), wx2 _ 21 24 _ (by decide), wx2 _ 22 23 _ (by decide), wx2 _ 22 24 _ (by decide), wx2 _ 23 24 _ (by decide), p4, r1, r2, r3, r4]
        split
        · rfl
        · split <;> rfl
      refine ⟨_, E, p2.tr (fi4_on _ _ _ _ _), p3.onX (fi4_on _ _ _ _ _) (fi4_o _ _ _ _ _ (by decide)), by rw [fi4_o _ _ _ _ _ (by decide)]; exact p6, fun _ => RM.fi (s := s) rfl rfl rfl rfl rfl p5 ⟨r6.mn b2, r7, r8⟩⟩
    · rw [if_neg o] at P1 ⊢
      have ks : ¬ (119 : Int32) = 107 ∧ ¬ (119 : Int32) = 100 ∧ ¬ (119 : Int32) = 116 ∧ ¬ (119 : Int32) = 118 ∧ ¬ (119 : Int32) = 115 := by decide
      refine ⟨g, ?_, p2, p3, p6, fun y => by cases y⟩
      unfold f_X11_readsRule f_X11_readsRule_42 f_X11_readsRule_72
      simp -implicitDefEqProofs only [ks.1, ks.2.1, ks.2.2.1, ks.2.2.2.1, ks.2.2.2.2, not_false_eq_true, if_true, le0, or0, P1, Option.bind_some, not_true_eq_false, if_false]
      rfl
  · rw [if_neg k1]
    by_cases k2 : sg q = 104
    · rw [if_pos k2, k2]
      by_cases o : q + 1 < fE sg n 2 (q + 1)
      · rw [if_pos o] at P1 ⊢
        have ks : ¬ (104 : Int32) = 107 ∧ ¬ (104 : Int32) = 100 ∧ ¬ (104 : Int32) = 116 ∧ ¬ (104 : Int32) = 118 ∧ ¬ (104 : Int32) = 115 ∧ ¬ (104 : Int32) = 119 ∧ ¬ (104 : Int32) = 121 := by decide
        have E : f_X11_readsRule (nI j) 104 h = some (1, fi4 g (oI s.1) (oI (mnO s.2.1 (fV sg n 2 (q + 1)))) (oI s.2.2.1) s.2.2.2.1) := by
          rw [← oI_mn b2 r7]
          unfold f_X11_readsRule f_X11_readsRule_42 f_X11_readsRule_72 f_X11_readsRule_108 f_X11_readsRule_115 f_X11_readsRule_119 f_X11_readsRule_150 f_X11_readsRule_157 f_X11_readsRule_161 f_X11_readsRule_189 f_X11_readsRule_193 f_X11_readsRule_224 f_X11_readsRule_225 f_X11_readsRule_243 fi4
          simp -implicitDefEqProofs only [ks.1, ks.2.1, ks.2.2.1, ks.2.2.2.1, ks.2.2.2.2.1, ks.2.2.2.2.2.1, ks.2.2.2.2.2.2, not_false_eq_true, if_true, le0, or0, P1, Option.bind_some, n10, not_true_eq_false, if_false, wx1, wx2 _ 21 18 _ (by decide), wx2 _ 21 22 _ (by decide), wx2 _ 21 23 _ (by decide), wx2 _ 21 24 _ (by decide), wx2 _ 22 23 _ (by decide), wx2 _ 22 24 _ (by decide), wx2 _ 23 24 _ (by decide), p4, r1, r2, r3, r4]
          split
          · rfl
          · split <;> rfl
        refine ⟨_, E, p2.tr (fi4_on _ _ _ _ _), p3.onX (fi4_on _ _ _ _ _) (fi4_o _ _ _ _ _ (by decide)), by rw [fi4_o _ _ _ _ _ (by decide)]; exact p6, fun _ => RM.fi (s := s) rfl rfl rfl rfl rfl p5 ⟨r6, r7.mn b2, r8⟩⟩
      · rw [if_neg o] at P1 ⊢
        have ks : ¬ (104 : Int32) = 107 ∧ ¬ (104 : Int32) = 100 ∧ ¬ (104 : Int32) = 116 ∧ ¬ (104 : Int32) = 118 ∧ ¬ (104 : Int32) = 115 := by decide
        refine ⟨g, ?_, p2, p3, p6, fun y => by cases y⟩
        unfold f_X11_readsRule f_X11_readsRule_42 f_X11_readsRule_72
        simp -implicitDefEqProofs only [ks.1, ks.2.1, ks.2.2.1, ks.2.2.2.1, ks.2.2.2.2, not_false_eq_true, if_true, le0, or0, P1, Option.bind_some, not_true_eq_false, if_false]
        rfl
    · rw [if_neg k2]
      by_cases k3 : sg q = 121
      · rw [if_pos k3, k3]
        by_cases o : q + 1 < fE sg n 2 (q + 1)
        · rw [if_pos o] at P1 ⊢
          have ks : ¬ (121 : Int32) = 107 ∧ ¬ (121 : Int32) = 100 ∧ ¬ (121 : Int32) = 116 ∧ ¬ (121 : Int32) = 118 ∧ ¬ (121 : Int32) = 115 ∧ ¬ (121 : Int32) = 119 ∧ ¬ (121 : Int32) = 104 := by decide
          have E : f_X11_readsRule (nI j) 121 h = some (1, fi4 g (oI s.1) (oI s.2.1) (oI (mxO s.2.2.1 (fV sg n 2 (q + 1)))) s.2.2.2.1) := by
            rw [← oI_mx b2 r8]
            unfold f_X11_readsRule f_X11_readsRule_42 f_X11_readsRule_72 f_X11_readsRule_115 f_X11_readsRule_119 f_X11_readsRule_157 f_X11_readsRule_161 f_X11_readsRule_189 f_X11_readsRule_193 f_X11_readsRule_224 f_X11_readsRule_225 f_X11_readsRule_243 fi4
            simp -implicitDefEqProofs only [ks.1, ks.2.1, ks.2.2.1, ks.2.2.2.1, ks.2.2.2.2.1, ks.2.2.2.2.2.1, ks.2.2.2.2.2.2, not_false_eq_true, if_true, le0, or0, P1, Option.bind_some, n10, not_true_eq_false, if_false, wx1, wx2 _ 21 18 _ (by decide), wx2 _ 22 18 _ (by decide), wx2 _ 21 22 _ (by decide), wx2 _ 21 23 _ (by decide), wx2 _ 21 24 _ (by decide), wx2 _ 22 23 _ (by decide), wx2 _ 22 24 _ (by decide), wx2 _ 23 24 _ (by decide), p4, r1, r2, r3, r4]
            split <;> rfl
          refine ⟨_, E, p2.tr (fi4_on _ _ _ _ _), p3.onX (fi4_on _ _ _ _ _) (fi4_o _ _ _ _ _ (by decide)), by rw [fi4_o _ _ _ _ _ (by decide)]; exact p6, fun _ => RM.fi (s := s) rfl rfl rfl rfl rfl p5 ⟨r6, r7, r8.mx b2⟩⟩
        · rw [if_neg o] at P1 ⊢
          have ks : ¬ (121 : Int32) = 107 ∧ ¬ (121 : Int32) = 100 ∧ ¬ (121 : Int32) = 116 ∧ ¬ (121 : Int32) = 118 ∧ ¬ (121 : Int32) = 115 := by decide
          refine ⟨g, ?_, p2, p3, p6, fun y => by cases y⟩
          unfold f_X11_readsRule f_X11_readsRule_42 f_X11_readsRule_72
          simp -implicitDefEqProofs only [ks.1, ks.2.1, ks.2.2.1, ks.2.2.2.1, ks.2.2.2.2, not_false_eq_true, if_true, le0, or0, P1, Option.bind_some, not_true_eq_false, if_false]
          rfl
      · rw [if_neg k3]
        by_cases k4 : sg q = 115
        · rw [if_pos k4, k4]
          have ks : ¬ (115 : Int32) = 107 ∧ ¬ (115 : Int32) = 100 ∧ ¬ (115 : Int32) = 116 ∧ ¬ (115 : Int32) = 118 ∧ ¬ (115 : Int32) = 119 ∧ ¬ (115 : Int32) = 104 ∧ ¬ (115 : Int32) = 121 := by decide
          by_cases o : q + 1 < fE sg n 1 (q + 1)
          · rw [if_pos o] at T1 ⊢
            by_cases w : fV sg n 1 (q + 1) ≤ 3
            · rw [if_pos w]
              have w' : ¬ (3 : Int32) < nI (fV sg n 1 (q + 1)) := nI_nlt (a := 3) w (by decide)
              have E : f_X11_readsRule (nI j) 115 h = some ((1 : Int32), fi4 g' (oI s.1) (oI s.2.1) (oI s.2.2.1) (s.2.2.2.1 ||| (1 <<< (nI (fV sg n 1 (q + 1)) &&& 31)))) := by
                unfold f_X11_readsRule f_X11_readsRule_42 f_X11_readsRule_72 f_X11_readsRule_115 f_X11_readsRule_119 f_X11_readsRule_157 f_X11_readsRule_161 f_X11_readsRule_189 f_X11_readsRule_193 f_X11_readsRule_225 f_X11_readsRule_243 fi4
                simp -implicitDefEqProofs only [ks.1, ks.2.1, ks.2.2.1, ks.2.2.2.1, ks.2.2.2.2.1, ks.2.2.2.2.2.1, ks.2.2.2.2.2.2, not_false_eq_true, if_true, le0, or0, T1, Option.bind_some, n10, not_true_eq_false, if_false, wx1, wx2 _ 21 18 _ (by decide), wx2 _ 22 18 _ (by decide), wx2 _ 23 18 _ (by decide), wx2 _ 24 18 _ (by decide), wx2 _ 21 22 _ (by decide), wx2 _ 21 23 _ (by decide), wx2 _ 21 24 _ (by decide), wx2 _ 22 23 _ (by decide), wx2 _ 22 24 _ (by decide), wx2 _ 23 24 _ (by decide), t4, u1, u2, u3, u4, w']
              refine ⟨_, E, t2.tr (fi4_on _ _ _ _ _), t3.onX (fi4_on _ _ _ _ _) (fi4_o _ _ _ _ _ (by decide)), by rw [fi4_o _ _ _ _ _ (by decide)]; exact t6, fun _ => RM.fi (s := s) rfl rfl rfl rfl rfl t5 ⟨u6, u7, u8⟩⟩
            · rw [if_neg w]
              have w' : (3 : Int32) < nI (fV sg n 1 (q + 1)) := nI_lt (a := 3) (by omega) (by omega)
              have E : f_X11_readsRule (nI j) 115 h = some ((0 : Int32), fi4 g' (oI s.1) (oI s.2.1) (oI s.2.2.1) s.2.2.2.1) := by
                unfold f_X11_readsRule f_X11_readsRule_42 f_X11_readsRule_72 f_X11_readsRule_115 f_X11_readsRule_119 f_X11_readsRule_157 f_X11_readsRule_161 f_X11_readsRule_189 f_X11_readsRule_193 f_X11_readsRule_224 f_X11_readsRule_225 fi4
                simp -implicitDefEqProofs only [ks.1, ks.2.1, ks.2.2.1, ks.2.2.2.1, ks.2.2.2.2.1, ks.2.2.2.2.2.1, ks.2.2.2.2.2.2, not_false_eq_true, if_true, le0, or0, T1, Option.bind_some, n10, not_true_eq_false, if_false, wx1, wx2 _ 21 18 _ (by decide), wx2 _ 22 18 _ (by decide), wx2 _ 23 18 _ (by decide), wx2 _ 24 18 _ (by decide), wx2 _ 21 22 _ (by decide), wx2 _ 21 23 _ (by decide), wx2 _ 21 24 _ (by decide), wx2 _ 22 23 _ (by decide), wx2 _ 22 24 _ (by decide), wx2 _ 23 24 _ (by decide), t4, u1, u2, u3, u4, w']
              exact ⟨_, E, t2.tr (fi4_on _ _ _ _ _), t3.onX (fi4_on _ _ _ _ _) (fi4_o _ _ _ _ _ (by decide)), by rw [fi4_o _ _ _ _ _ (by decide)]; exact t6, fun y => by cases y⟩
          · rw [if_neg o] at T1 ⊢
            refine ⟨g', ?_, t2, t3, t6, fun y => by cases y⟩
            unfold f_X11_readsRule f_X11_readsRule_42 f_X11_readsRule_72
            simp -implicitDefEqProofs only [ks.1, ks.2.1, ks.2.2.1, ks.2.2.2.1, not_false_eq_true, if_true, le0, or0, T1, Option.bind_some, not_true_eq_false, if_false]
            rfl
        · rw [if_neg k4]
          have B5 := B.2.2.2.2.1
          by_cases k5 : sg q = 107
          · rw [if_pos k5, k5]
            obtain ⟨z1, z2, z3, z4⟩ := bare 1 (s.1, s.2.1, s.2.2.1, s.2.2.2.1, true, s.2.2.2.2.2) (by rw [B5]; exact msv_k _ _ _ _) rfl rfl rfl rfl
            refine ⟨_, ?_, z1, z2, z3, fun _ => z4⟩
            unfold f_X11_readsRule f_X11_readsRule_42
            rw [if_neg (fun z => z rfl), if_neg (by decide)]
            rfl
          · rw [if_neg k5]
            by_cases k6 : sg q = 100
            · rw [if_pos k6, k6]
              obtain ⟨z1, z2, z3, z4⟩ := bare 2 (s.1, s.2.1, s.2.2.1, s.2.2.2.1, s.2.2.2.2.1, true, s.2.2.2.2.2.2) (by rw [B5]; exact msv_d _ _ _ _) rfl rfl rfl rfl
              refine ⟨_, ?_, z1, z2, z3, fun _ => z4⟩
              unfold f_X11_readsRule f_X11_readsRule_42
              rw [if_pos (by decide), if_neg (fun z => z rfl), if_neg (by decide)]
              rfl
            · rw [if_neg k6]
              by_cases k7 : sg q = 116
              · rw [if_pos k7, k7]
                obtain ⟨z1, z2, z3, z4⟩ := bare 4 (s.1, s.2.1, s.2.2.1, s.2.2.2.1, s.2.2.2.2.1, s.2.2.2.2.2.1, true, s.2.2.2.2.2.2.2) (by rw [B5]; exact msv_t _ _ _ _) rfl rfl rfl rfl
                refine ⟨_, ?_, z1, z2, z3, fun _ => z4⟩
                unfold f_X11_readsRule f_X11_readsRule_42
                rw [if_pos (by decide), if_pos (by decide), if_neg (fun z => z rfl), if_neg (by decide)]
                rfl
              · rw [if_neg k7]
                have k8 : sg q = 118 := by
                  have := of_decide_eq_true l
                  simpa [k1, k2, k3, k4, k5, k6, k7] using this
                rw [if_pos k8, k8]
                obtain ⟨z1, z2, z3, z4⟩ := bare 8 (s.1, s.2.1, s.2.2.1, s.2.2.2.1, s.2.2.2.2.1, s.2.2.2.2.2.1, s.2.2.2.2.2.2.1, true) (by rw [B5]; exact msv_v _ _ _ _) rfl rfl rfl rfl
                refine ⟨_, ?_, z1, z2, z3, fun _ => z4⟩
                unfold f_X11_readsRule f_X11_readsRule_42
                rw [if_pos (by decide), if_pos (by decide), if_pos (by decide), if_neg (fun z => z rfl), if_neg (by decide)]
                rfl
def s0 : RS := (none, none, none, 0, false, false, false, false)
def rR0 (sg : Nat → Int32) (n : Nat) : Bool × Nat × Nat × RS := pall sg n (ri sg n) 41 0 0 s0
theorem readR {h : zM} {c i j n : Nat} {sg : Nat → Int32} (H : RDR h c j n sg 0) (B : R7 h i s0) : ∃ h', f_X0_readAll (some (7, i)) (some (5, c)) h = some (if (rR0 sg n).1 = true then nI (rR0 sg n).2.1 else -9999, h') ∧ On (W7 c i) h h' ∧ RDR h' c j n sg (rR0 sg n).2.2.1 ∧ ((rR0 sg n).1 = true → R7 h' i (rR0 sg n).2.2.2) := by
  have A := allX (sg := sg) (n := n) (c := c) (j := j) (it := ri sg n) (x0 := some (7, i)) (W := W7 c i) (R := fun h s => R7 h i s) rfl (fun a b o => o.w7 i) (fun a b s o r => R7.on r o) (fun q s lt e => (ri_ip q s lt e).1) (fun h q s H lt B => by
    obtain ⟨h', e1, e2, e3, e4⟩ := item7 H lt B
    exact ⟨h', by rw [clR_s, if_neg (by decide)]; exact e1, e2, e3, e4⟩) 41 1000 0 0 s0 h H B (by decide) (Nat.zero_le _) (by decide)
  exact A
theorem readRM {h : zM} {j n : Nat} {sg : Nat → Int32} (hM : MS h) (T : TT h j n sg) : ∃ h', f_X11_reads (nI j) 1 h = some (if (rR0 sg n).1 = true then -9999 else nI (rR0 sg n).2.2.1, h') ∧ On WX h h' ∧ rI h' 11 0 19 = nI (rR0 sg n).2.1 ∧ ((rR0 sg n).1 = true → RM h' (rR0 sg n).2.2.2) := by
  have hno : ∀ q (s : RS), isR (sg q) = false → ri sg n q s = (false, q, s) := fun q s e => by
    have e' : ¬ (sg q = 119 ∨ sg q = 104 ∨ sg q = 115 ∨ sg q = 121 ∨ sg q = 107 ∨ sg q = 100 ∨ sg q = 116 ∨ sg q = 118) := of_decide_eq_false e
    have a1 : ¬ sg q = 119 := fun z => e' (Or.inl z)
    have a2 : ¬ sg q = 104 := fun z => e' (Or.inr (Or.inl z))
    have a3 : ¬ sg q = 115 := fun z => e' (Or.inr (Or.inr (Or.inl z)))
    have a4 : ¬ sg q = 121 := fun z => e' (Or.inr (Or.inr (Or.inr (Or.inl z))))
    have a5 : ¬ sg q = 107 := fun z => e' (Or.inr (Or.inr (Or.inr (Or.inr (Or.inl z)))))
    have a6 : ¬ sg q = 100 := fun z => e' (Or.inr (Or.inr (Or.inr (Or.inr (Or.inr (Or.inl z))))))
    have a7 : ¬ sg q = 116 := fun z => e' (Or.inr (Or.inr (Or.inr (Or.inr (Or.inr (Or.inr (Or.inl z)))))))
    have a8 : ¬ sg q = 118 := fun z => e' (Or.inr (Or.inr (Or.inr (Or.inr (Or.inr (Or.inr (Or.inr z)))))))
    unfold ri
    rw [if_neg a1, if_neg a2, if_neg a4, if_neg a3, if_neg a5, if_neg a6, if_neg a7, if_neg a8]
  have hit : ∀ (h : zM) q (s : RS), TXM h j n sg (q + 1) → RM h s → isR (sg q) = true → ∃ h', (if (1 : Int32) = 0 then f_X11_readsLaw (nI j) (sg q) h else f_X11_readsRule (nI j) (sg q) h) = some (b01 (ri sg n q s).1, h') ∧ On WX h h' ∧ TXM h' j n sg (ri sg n q s).2.1 ∧ rI h' 11 0 19 = rI h 11 0 19 ∧ ((ri sg n q s).1 = true → RM h' (ri sg n q s).2.2) := fun h q s H B l => by
    obtain ⟨h', e1, e2, e3, e4, e5⟩ := mRule H B l
    exact ⟨h', by rw [if_neg (by decide)]; exact e1, e2, e3, e4, e5⟩
  obtain ⟨h', e1, e2, e3, e4⟩ := allM (sg := sg) (n := n) (j := j) (it := ri sg n) (x := 1) (W := WX) (R := fun h s => RM h s) (ok := isR) (Or.inr rfl) rfl mono2 (fun _ => rfl) (fun _ => rfl) (fun a b s o r => RM.on2 r o) (fun a s v r => RM.w19 r) (fun q s lt e => ri_ip q s lt e) (fun y h => let1 y h) hno hit 1000 41 0 0 s0 (rst h) (T.tx hM (rst_on h) (rst_17 h)) ⟨rst_21 h, rst_22 h, rst_23 h, rst_24 h, rst_25 h, fun _ z => (nomatch z), fun _ z => (nomatch z), fun _ z => (nomatch z)⟩ (rst_19 h) (by decide) (Nat.zero_le _) (by have := T.2.1; omega)
  refine ⟨h', ?_, (rst_on h).tr e2, e3, e4⟩
  rw [reads_eq hM]
  exact e1
