/-! lists, the last one first -/
def Lf (g f : Nat → Int32) : List Nat → Prop
  | [] => True
  | a :: t => g t.length = f a ∧ Lf g f t
theorem Lf.congr {g g' f : Nat → Int32} : ∀ {L : List Nat}, Lf g f L → (∀ i, i < L.length → g' i = g i) → Lf g' f L
  | [], _, _ => trivial
  | a :: t, h, e => ⟨by rw [e t.length (by simp)]; exact h.1, Lf.congr h.2 (fun i hi => e i (by simp; omega))⟩
theorem Lf.get {g f : Nat → Int32} : ∀ {L : List Nat}, Lf g f L → ∀ {k : Nat} (hk : k < L.length), g (L.length - 1 - k) = f (L[k])
  | a :: t, h, 0, hk => by
    have : (a :: t).length - 1 - 0 = t.length := by simp
    rw [this]
    exact h.1
  | a :: t, h, k + 1, hk => by
    have hk' : k < t.length := by simpa using hk
    have e := Lf.get h.2 hk'
    have : (a :: t).length - 1 - (k + 1) = t.length - 1 - k := by
      rw [List.length_cons]
      omega
    rw [this]
    exact e
def insR (W : Nat → Int32) (m : Nat) : List Nat → List Nat
  | [] => [m]
  | a :: t => if W a < W m then a :: insR W m t else m :: a :: t
theorem insR_len {W : Nat → Int32} {m : Nat} : ∀ (L : List Nat), (insR W m L).length = L.length + 1
  | [] => rfl
  | a :: t => by
    unfold insR
    by_cases c : W a < W m
    · rw [if_pos c, List.length_cons, insR_len t, List.length_cons]
    · rw [if_neg c]
      rfl
theorem insR_mem {W : Nat → Int32} {m x : Nat} : ∀ (L : List Nat), x ∈ insR W m L ↔ x = m ∨ x ∈ L
  | [] => by simp [insR]
  | a :: t => by
    unfold insR
    by_cases c : W a < W m
    · rw [if_pos c, List.mem_cons, insR_mem t, List.mem_cons]
      constructor
      · rintro (h | h | h)
        · exact Or.inr (Or.inl h)
        · exact Or.inl h
        · exact Or.inr (Or.inr h)
      · rintro (h | h | h)
        · exact Or.inr (Or.inl h)
        · exact Or.inl h
        · exact Or.inr (Or.inr h)
    · rw [if_neg c, List.mem_cons]
def Srt (W : Nat → Int32) : List Nat → Prop
  | [] => True
  | a :: t => (∀ b, b ∈ t → W a ≤ W b) ∧ Srt W t
theorem insR_srt {W : Nat → Int32} {m : Nat} : ∀ (L : List Nat), Srt W L → Srt W (insR W m L)
  | [], _ => ⟨fun _ h => (by cases h), trivial⟩
  | a :: t, h => by
    unfold insR
    by_cases c : W a < W m
    · rw [if_pos c]
      refine ⟨fun b hb => ?_, insR_srt t h.2⟩
      rcases (insR_mem t).mp hb with rfl | hb
      · exact Int32.le_of_lt c
      · exact h.1 b hb
    · rw [if_neg c]
      refine ⟨fun b hb => ?_, h⟩
      have c' := Int32.not_lt.mp c
      rcases List.mem_cons.mp hb with rfl | hb
      · exact c'
      · exact Int32.le_trans c' (h.1 b hb)
def fl (P : Nat → Bool) (W : Nat → Int32) : Nat → Nat → List Nat → List Nat
  | 0, _, L => L
  | r + 1, m, L => fl P W r (m + 1) (if P m = true then insR W m L else L)
theorem fl_inv {P : Nat → Bool} {W : Nat → Int32} {n : Nat} : ∀ (r m : Nat) (L : List Nat), r + m = n → L.length ≤ m → (∀ a, a ∈ L → a < n) → Srt W L → (fl P W r m L).length ≤ n ∧ (∀ a, a ∈ fl P W r m L → a < n) ∧ Srt W (fl P W r m L)
  | 0, m, L, e, h1, h2, h3 => ⟨by show L.length ≤ n; omega, h2, h3⟩
  | r + 1, m, L, e, h1, h2, h3 => by
    unfold fl
    by_cases c : P m = true
    · rw [if_pos c]
      refine fl_inv r (m + 1) _ (by omega) (by rw [insR_len]; omega) (fun a ha => ?_) (insR_srt L h3)
      rcases (insR_mem L).mp ha with rfl | ha
      · omega
      · exact h2 a ha
    · rw [if_neg c]
      exact fl_inv r (m + 1) _ (by omega) (by omega) h2 h3
/-! ThinAir's ranking r -/
def WR (r C I F : Nat) : Bool := ((Nat.beq C 21 || (Nat.beq C 22 || Nat.beq C 23)) && Nat.beq I r) || (Nat.beq C 4 && (Nat.beq I r && Nat.beq F 3))
theorem WR_21 (r f : Nat) : WR r 21 r f = true := by simp [WR]
theorem WR_22 (r f : Nat) : WR r 22 r f = true := by simp [WR]
theorem WR_23 (r f : Nat) : WR r 23 r f = true := by simp [WR]
theorem WR_4 (r : Nat) : WR r 4 r 3 = true := by simp [WR]
theorem WR_rl (r c i f : Nat) (e : rl c f = true) : WR r c i f = false := by
  have h4 : ¬ c = 4 := by rintro rfl; cases e
  have h1 : ¬ c = 21 := by rintro rfl; cases e
  have h2 : ¬ c = 22 := by rintro rfl; cases e
  have h3 : ¬ c = 23 := by rintro rfl; cases e
  unfold WR
  rw [beqF h4, beqF h1, beqF h2, beqF h3]
  rfl
theorem On.frR {r : Nat} {h h' : zM} (o : On (WR r) h h') : Fr h h' := Fr.rf.on o (fun c i f e _ => WR_rl r c i f e)
theorem On.kpR {r : Nat} {h h' : zM} (o : On (WR r) h h') : Kp h h' := Kp.rf.on o rfl rfl rfl rfl (fun _ => rfl) (fun _ => rfl)
def RF (h : zM) (r : Nat) : Prop := rR h 4 r 0 = some (21, r) ∧ rR h 4 r 1 = some (22, r) ∧ rR h 4 r 2 = some (23, r)
theorem RF.on {h h' : zM} {r : Nat} {W : Nat → Nat → Nat → Bool} (H : RF h r) (o : On W h h') : RF h' r := ⟨by rw [o.R]; exact H.1, by rw [o.R]; exact H.2.1, by rw [o.R]; exact H.2.2⟩
theorem XS.rf {h : zM} (H : XS h) {r : Nat} (hr : r < 2) : RF h r := ⟨H.2.2.2.2.2.2.2.2.2.2.2.2.1 r hr, H.2.2.2.2.2.2.2.2.2.2.2.2.2.1 r hr, H.2.2.2.2.2.2.2.2.2.2.2.2.2.2 r hr⟩
def RK (h : zM) (r : Nat) (W : Nat → Int32) (L : List Nat) : Prop := rI h 4 r 3 = nI L.length ∧ Lf (fun i => rI h 21 r i) nI L ∧ Lf (fun i => rI h 22 r i) W L
theorem m1 (k : Nat) : nI (k + 1) + (-1) = nI k := by rw [← Int32.sub_eq_add_neg, nI_pred]
theorem add65 {h : zM} {r k m : Nat} {w : Int32} (F : RF h r) (hk : k < 40) : f_X4_add_65 (some (4, r)) (nI m) w (nI k) h = some (wI (wI (wI h 21 r k (nI m)) 22 r k w) 4 r 3 (rI h 4 r 3 + 1)) := by
  have e : rI (wI (wI h 21 r k (nI m)) 22 r k w) 4 r 3 = rI h 4 r 3 := by rw [rI_wI_ne (by decide), rI_wI_ne (by decide)]
  unfold f_X4_add_65
  simp -implicitDefEqProofs only [clR_s, ixR_s, memT1, F.1, F.2.1, ixOk_nI hk (by decide), nI_clamp (show k < 2 ^ 31 by omega), decide_true, Bool.true_and, Bool.and_true, if_true, e]
theorem add_loop {r m : Nat} {W : Nat → Int32} : ∀ (t : List Nat) (fuel : Nat) (h : zM), RF h r → t.length < 40 → t.length < fuel → Lf (fun i => rI h 21 r i) nI t → Lf (fun i => rI h 22 r i) W t → ∃ h', f_X4_add_15 fuel (some (4, r)) (nI m) (W m) (nI t.length) h = some h' ∧ On (WR r) h h' ∧ Lf (fun i => rI h' 21 r i) nI (insR W m t) ∧ Lf (fun i => rI h' 22 r i) W (insR W m t) ∧ (∀ i, t.length < i → rI h' 21 r i = rI h 21 r i ∧ rI h' 22 r i = rI h 22 r i) ∧ rI h' 4 r 3 = rI h 4 r 3 + 1
  | t, fuel + 1, h, F, h40, hf, A, B => by
    have fin : ∀ (u : List Nat), u.length = t.length → Lf (fun i => rI h 21 r i) nI u → Lf (fun i => rI h 22 r i) W u → ∃ h', f_X4_add_65 (some (4, r)) (nI m) (W m) (nI t.length) h = some h' ∧ On (WR r) h h' ∧ Lf (fun i => rI h' 21 r i) nI (m :: u) ∧ Lf (fun i => rI h' 22 r i) W (m :: u) ∧ (∀ i, t.length < i → rI h' 21 r i = rI h 21 r i ∧ rI h' 22 r i = rI h 22 r i) ∧ rI h' 4 r 3 = rI h 4 r 3 + 1 := fun u hu A B => by
      have q21 : ∀ i, ¬ i = t.length → rI (wI (wI (wI h 21 r t.length (nI m)) 22 r t.length (W m)) 4 r 3 (rI h 4 r 3 + 1)) 21 r i = rI h 21 r i := fun i hi => by
        rw [rI_wI_ne (by decide), rI_wI_ne (by decide), rI_wI_nf (fun z => hi z.2.symm)]
      have q22 : ∀ i, ¬ i = t.length → rI (wI (wI (wI h 21 r t.length (nI m)) 22 r t.length (W m)) 4 r 3 (rI h 4 r 3 + 1)) 22 r i = rI h 22 r i := fun i hi => by
        rw [rI_wI_ne (by decide), rI_wI_nf (fun z => hi z.2.symm), rI_wI_ne (by decide)]
      refine ⟨_, add65 F h40, ((On.rf.wI (WR_21 r _)).wI (WR_22 r _)).wI (WR_4 r), ⟨?_, A.congr (fun i hi => q21 i (by omega))⟩, ⟨?_, B.congr (fun i hi => q22 i (by omega))⟩, fun i hi => ⟨q21 i (by omega), q22 i (by omega)⟩, ?_⟩
      · show rI _ 21 r u.length = nI m
        rw [hu, rI_wI_ne (by decide), rI_wI_ne (by decide), rI_wI, if_pos ⟨rfl, rfl, rfl⟩]
      · show rI _ 22 r u.length = W m
        rw [hu, rI_wI_ne (by decide), rI_wI, if_pos ⟨rfl, rfl, rfl⟩]
      · rw [rI_wI, if_pos ⟨rfl, rfl, rfl⟩]
    match t, h40, hf, A, B, fin with
    | [], h40, hf, A, B, fin =>
      obtain ⟨h', e1, e2⟩ := fin [] rfl trivial trivial
      refine ⟨h', ?_, e2⟩
      unfold f_X4_add_15
      rw [if_pos (by decide)]
      exact e1
    | a :: t', h40, hf, A, B, fin =>
      have hl : (a :: t').length = t'.length + 1 := rfl
      have b1 : rI h 22 r t'.length = W a := B.1
      have a1 : rI h 21 r t'.length = nI a := A.1
      by_cases c : W a < W m
      · have I : insR W m (a :: t') = a :: insR W m t' := by
          rw [insR, if_pos c]
        rw [I]
        have w22 : rI (wI h 21 r (t'.length + 1) (nI a)) 22 r t'.length = W a := by
          rw [rI_wI_ne (by decide)]
          exact b1
        have F1 : RF (wI (wI h 21 r (t'.length + 1) (nI a)) 22 r (t'.length + 1) (W a)) r := F
        have q21 : ∀ i, ¬ i = t'.length + 1 → rI (wI (wI h 21 r (t'.length + 1) (nI a)) 22 r (t'.length + 1) (W a)) 21 r i = rI h 21 r i := fun i hi => by
          rw [rI_wI_ne (by decide), rI_wI_nf (fun z => hi z.2.symm)]
        have q22 : ∀ i, ¬ i = t'.length + 1 → rI (wI (wI h 21 r (t'.length + 1) (nI a)) 22 r (t'.length + 1) (W a)) 22 r i = rI h 22 r i := fun i hi => by
          rw [rI_wI_nf (fun z => hi z.2.symm), rI_wI_ne (by decide)]
        obtain ⟨h', e1, e2, e3, e4, e5, e6⟩ := add_loop (m := m) t' fuel (wI (wI h 21 r (t'.length + 1) (nI a)) 22 r (t'.length + 1) (W a)) F1 (by omega) (by omega) (A.2.congr (fun i hi => q21 i (by omega))) (B.2.congr (fun i hi => q22 i (by omega)))
        refine ⟨h', ?_, ((On.rf.wI (WR_21 r _)).wI (WR_22 r _)).tr e2, ⟨?_, e3⟩, ⟨?_, e4⟩, fun i hi => ?_, ?_⟩
        · unfold f_X4_add_15
          rw [hl, if_neg (nI_nle (by omega) (by omega))]
          simp -implicitDefEqProofs only [clR_s, ixR_s, memT1, F.1, F.2.1, nI_pred, ixOk_nI (show t'.length < 40 by omega) (by decide), ixOk_nI (show t'.length + 1 < 40 by omega) (by decide), nI_clamp (show t'.length < 2 ^ 31 by omega), nI_clamp (show t'.length + 1 < 2 ^ 31 by omega), decide_true, Bool.true_and, Bool.and_true, if_true, a1, b1, Int32.not_le.mpr c, if_false, w22, m1]
          exact e1
        · show rI h' 21 r (insR W m t').length = nI a
          rw [insR_len, (e5 _ (by omega)).1, rI_wI_ne (by decide), rI_wI, if_pos ⟨rfl, rfl, rfl⟩]
        · show rI h' 22 r (insR W m t').length = W a
          rw [insR_len, (e5 _ (by omega)).2, rI_wI, if_pos ⟨rfl, rfl, rfl⟩]
        · rw [(e5 i (by omega)).1, (e5 i (by omega)).2, q21 i (by omega), q22 i (by omega)]
          exact ⟨rfl, rfl⟩
        · rw [e6, rI_wI_ne (by decide), rI_wI_ne (by decide)]
      · have I : insR W m (a :: t') = m :: a :: t' := by
          rw [insR, if_neg c]
        rw [I]
        obtain ⟨h', e1, e2⟩ := fin (a :: t') rfl A B
        refine ⟨h', ?_, e2⟩
        unfold f_X4_add_15
        rw [hl, if_neg (nI_nle (by omega) (by omega))]
        simp -implicitDefEqProofs only [clR_s, ixR_s, memT1, F.2.1, nI_pred, ixOk_nI (show t'.length < 40 by omega) (by decide), nI_clamp (show t'.length < 2 ^ 31 by omega), decide_true, Bool.true_and, Bool.and_true, if_true, b1, Int32.not_lt.mp c]
        exact e1
theorem add_eq {h : zM} {r m : Nat} {W : Nat → Int32} {L : List Nat} (F : RF h r) (hL : L.length < 40) (H : RK h r W L) : ∃ h', f_X4_add (some (4, r)) (nI m) (W m) h = some h' ∧ On (WR r) h h' ∧ RK h' r W (insR W m L) := by
  obtain ⟨a, b, c⟩ := H
  obtain ⟨h', e1, e2, e3, e4, e5, e6⟩ := add_loop (m := m) L 1000 h F hL (by omega) b c
  refine ⟨h', ?_, e2, ?_, e3, e4⟩
  · unfold f_X4_add
    rw [clR_s, ixR_s, if_pos (by decide), a, if_pos (show nI L.length < 40 from nI_lt (b := 40) hL (by decide)), if_pos (by decide)]
    exact e1
  · rw [e6, a, nI_1, insR_len]
theorem pl_fr {h h' : zM} (F : Fr h h') (m : Nat) : pl h' m = pl h m := by
  unfold pl
  rw [F.R rfl (by decide)]
theorem hmv_fr {h h' : zM} (F : Fr h h') (N : Nat → Int32) (m : Nat) (w : Int32) : hmv h' N m w = hmv h N m w := by
  unfold hmv gv
  rw [pl_fr F, F.I rfl (by decide), F.I rfl (by decide), F.I rfl (by decide), F.I rfl (by decide), F.I rfl (by decide), F.I rfl (by decide)]
theorem wr_fr {h h' : zM} (F : Fr h h') (s : RS) (N : Nat → Int32) : wr h' s N = wr h s N := by
  funext m
  unfold wr
  rw [hmv_fr F, F.I rfl (by decide), F.I rfl (by decide)]
theorem ltB_fr {h h' : zM} (F : Fr h h') (s : RS) : ltB h' s = ltB h s := by
  funext m
  unfold ltB wB hB yB sB kB
  rw [pl_fr F, F.I (c := 2) rfl (by decide), F.I (c := 3) rfl (by decide), F.I (c := 2) rfl (by decide), F.I (c := 2) rfl (by decide), F.I (c := 2) rfl (by decide)]
theorem R7.onR {h h' : zM} {r i : Nat} {s : RS} (H : R7 h i s) (o : On (WR r) h h') : R7 h' i s := by
  unfold R7
  rw [o.2 7 i 0 rfl, o.2 7 i 1 rfl, o.2 7 i 2 rfl, o.2 7 i 3 rfl, o.2 7 i 4 rfl, o.2 7 i 5 rfl, o.2 7 i 6 rfl, o.2 7 i 7 rfl, o.2 7 i 8 rfl]
  exact H
/-- which LAWS fill uses -/
def x3L (s : RS) (il : Nat) : zR := if s.2.2.2.2.2.2.2 = true then some (1, il) else none
theorem fill_loop {h : zM} {np n r i il : Nat} {s : RS} {N : Nat → Int32} (H : InvN h np n) (hr : r < 2) (V : s.2.2.2.2.2.2.2 = true → LV h 0 il N) : ∀ (k fuel m : Nat) (g : zM) (L : List Nat), k + m = n → k < fuel → Fr h g → R7 g i s → L.length ≤ m → RK g r (wr h s N) L → ∃ g', f_X10_fill_26 fuel (some (4, r)) (some (7, i)) (x3L s il) (nI m) g = some g' ∧ On (WR r) g g' ∧ RK g' r (wr h s N) (fl (ltB h s) (wr h s N) k m L)
  | 0, fuel + 1, m, g, L, e, hf, F, R, hl, K => by
    have n40 := H.n40
    refine ⟨g, ?_, On.rf, K⟩
    unfold f_X10_fill_26
    rw [(F.N H).k10, if_pos (nI_le (by omega) (by omega))]
  | k + 1, fuel + 1, m, g, L, e, hf, F, R, hl, K => by
    have n40 := H.n40
    have G := F.N H
    have hm : m < n := by omega
    have cl := cLet G hm R
    rw [ltB_fr F] at cl
    rw [fl]
    by_cases c : ltB h s m = true
    · rw [if_pos c]
      rw [c] at cl
      obtain ⟨g1, a1, a2, a3⟩ := add_eq (m := m) (G.X.rf hr) (by omega) K
      obtain ⟨g', b1, b2, b3⟩ := fill_loop H hr V k fuel (m + 1) g1 (insR (wr h s N) m L) (by omega) (by omega) (F.tr a2.frR) (R.onR a2) (by rw [insR_len]; omega) a3
      refine ⟨g', ?_, a2.tr b2, b3⟩
      unfold f_X10_fill_26 f_X10_fill_74 f_X10_fill_77
      rw [G.k10, if_neg (nI_ge hm (by omega))]
      by_cases v : s.2.2.2.2.2.2.2 = true
      · have x3 : x3L s il = some (1, il) := if_pos v
        have hv := cHm G hm ((V v).fr F)
        have w : hmv g N m (rI g 2 m 5) = wr h s N m := by
          unfold wr
          rw [if_pos v, hmv_fr F, F.I rfl (by decide)]
        rw [w] at hv
        rw [x3] at b1 ⊢
        simp -implicitDefEqProofs only [clR_s, ixR_s, memT1, G.x3, G.m29 hm, ixOk_nI (show m < 40 by omega) (by decide), nI_clamp (show m < 2 ^ 31 by omega), decide_true, Bool.true_and, Bool.and_true, if_true, cl, b01, Option.bind_some, show ¬ (1 : Int32) = 0 by decide, if_false, reduceCtorEq, hv, a1, nI_1]
        exact b1
      · have x3 : x3L s il = none := if_neg v
        have w : rI g 2 m 4 = wr h s N m := by
          unfold wr
          rw [if_neg v, F.I rfl (by decide)]
        rw [x3] at b1 ⊢
        simp -implicitDefEqProofs only [clR_s, ixR_s, memT1, G.x3, G.m29 hm, ixOk_nI (show m < 40 by omega) (by decide), nI_clamp (show m < 2 ^ 31 by omega), decide_true, Bool.true_and, Bool.and_true, if_true, cl, b01, Option.bind_some, show ¬ (1 : Int32) = 0 by decide, if_false, w, a1, nI_1]
        exact b1
    · rw [if_neg c]
      have c' : ltB h s m = false := by
        cases y : ltB h s m with
        | false => rfl
        | true => exact absurd y c
      rw [c'] at cl
      obtain ⟨g', b1, b2, b3⟩ := fill_loop H hr V k fuel (m + 1) g L (by omega) (by omega) F R (by omega) K
      refine ⟨g', ?_, b2, b3⟩
      unfold f_X10_fill_26 f_X10_fill_77
      rw [G.k10, if_neg (nI_ge hm (by omega))]
      simp -implicitDefEqProofs only [clR_s, ixR_s, memT1, G.x3, G.m29 hm, ixOk_nI (show m < 40 by omega) (by decide), nI_clamp (show m < 2 ^ 31 by omega), decide_true, Bool.true_and, Bool.and_true, if_true, cl, b01, Option.bind_some, if_false, Bool.false_eq_true, nI_1]
      exact b1
/-- all that RULES let in, in order -/
def LL (h : zM) (s : RS) (N : Nat → Int32) (n : Nat) : List Nat := fl (ltB h s) (wr h s N) n 0 []
theorem LL_inv {h : zM} {s : RS} {N : Nat → Int32} {n : Nat} : (LL h s N n).length ≤ n ∧ (∀ a, a ∈ LL h s N n → a < n) ∧ Srt (wr h s N) (LL h s N n) := fl_inv n 0 [] (by omega) (by simp) (fun _ z => by cases z) trivial
theorem fill_eq {h : zM} {np n r i il : Nat} {s : RS} {N : Nat → Int32} (H : InvN h np n) (hr : r < 2) (R : R7 h i s) (V : s.2.2.2.2.2.2.2 = true → LV h 0 il N) : ∃ g', f_X10_fill (some (4, r)) (some (7, i)) h = some g' ∧ On (WR r) h g' ∧ RK g' r (wr h s N) (LL h s N n) := by
  have n40 := H.n40
  have O : On (WR r) h (wI h 4 r 3 0) := On.rf.wI (WR_4 r)
  obtain ⟨g', a1, a2, a3⟩ := fill_loop (r := r) (i := i) H hr V n 1000 0 (wI h 4 r 3 0) [] (by omega) (by omega) O.frR (R.onR O) (by simp) ⟨by rw [rI_wI, if_pos ⟨rfl, rfl, rfl⟩]; rfl, trivial, trivial⟩
  refine ⟨g', ?_, O.tr a2, a3⟩
  rw [nI_0] at a1
  have r8 := R.2.2.2.2.2.2.2.2.1
  have x4 := H.X.2.2.2.2.1
  unfold f_X10_fill f_X10_fill_17
  by_cases v : s.2.2.2.2.2.2.2 = true
  · have x3 : x3L s il = some (1, il) := if_pos v
    rw [x3] at a1
    rw [v] at r8
    have r8' : rI h 7 i 8 = 1 := r8
    simp -implicitDefEqProofs only [clR_s, ixR_s, memT1, r8', x4, show ixOk 2 0 = true from rfl, show Int32.toNatClampNeg 0 = 0 from rfl, (V v).1, decide_true, Bool.true_and, Bool.and_true, if_true, show ¬ (1 : Int32) = 0 by decide, if_false]
    exact a1
  · have x3 : x3L s il = none := if_neg v
    have v' : s.2.2.2.2.2.2.2 = false := by
      cases y : s.2.2.2.2.2.2.2 with
      | false => rfl
      | true => exact absurd y v
    rw [x3] at a1
    rw [v'] at r8
    have r8' : rI h 7 i 8 = 0 := r8
    simp -implicitDefEqProofs only [clR_s, ixR_s, memT1, r8', Bool.true_and, Bool.and_true, if_true]
    exact a1
