theorem HM.rR {h h2 : zM} {n m p : Nat} {x1 d : Int32} {v : Nat → Int32} (H : HM h h2 n m p x1 d v) (c i f : Nat) : rR h2 c i f = rR h c i f := by
  unfold _root_.Jvm.Pilot.CThinAirLaw_law_r6155_d9ef75.rR
  rw [H.1]
theorem HM.rL {h h2 : zM} {n m p : Nat} {x1 d : Int32} {v : Nat → Int32} (H : HM h h2 n m p x1 d v) (c i f : Nat) : rL h2 c i f = rL h c i f := by
  unfold _root_.Jvm.Pilot.CThinAirLaw_law_r6155_d9ef75.rL
  rw [H.1]
theorem HM.cn {h h2 : zM} {n m p : Nat} {x1 d : Int32} {v : Nat → Int32} (H : HM h h2 n m p x1 d v) (c : Nat) : cnM h2 c = cnM h c := by
  unfold cnM
  rw [H.1]
theorem HX.XS {h h1 : zM} {n m p : Nat} {x1 d : Int32} {v : Nat → Int32} (H : HX h h1 n m p x1 d v) (hX : XS h) : XS h1 := by
  have q := H.2.2.2.2.1
  unfold _root_.Jvm.Pilot.CThinAirLaw_law_r6155_d9ef75.XS
  simp only [q 10 _ _ (by decide) (by decide), q 26 _ _ (by decide) (by decide), q 6 _ _ (by decide) (by decide), q 27 _ _ (by decide) (by decide), q 9 _ _ (by decide) (by decide), q 4 _ _ (by decide) (by decide)]
  exact hX
theorem HX.MS {h h1 : zM} {n m p : Nat} {x1 d : Int32} {v : Nat → Int32} (H : HX h h1 n m p x1 d v) (hM : MS h) : MS h1 := by
  have q := H.2.2.2.2.1
  unfold _root_.Jvm.Pilot.CThinAirLaw_law_r6155_d9ef75.MS
  simp only [q 11 _ _ (by decide) (by decide)]
  exact hM
theorem HX.PL {h h1 : zM} {n m p np : Nat} {x1 d : Int32} {v : Nat → Int32} (H : HX h h1 n m p x1 d v) (hP : PL h np) : PL h1 np := by
  obtain ⟨a1, a2, a3, a4, a5, a6, a7, a8, a9, a10, a11, a12⟩ := H
  exact hP.of (a1 _ _ _ (by decide) (by decide)) (a1 _ _ _ (by decide) (by decide)) (by rw [a9]; rfl) (fun _ => a5 _ _ _ (by decide) (by decide)) (fun _ _ _ => a1 _ _ _ (by decide) (by simp)) (fun _ => a1 _ _ _ (by decide) (by simp))
theorem HM.MS {h h1 : zM} {n m p : Nat} {x1 d : Int32} {v : Nat → Int32} (H : HM h h1 n m p x1 d v) (hM : MS h) : MS h1 := by
  unfold _root_.Jvm.Pilot.CThinAirLaw_law_r6155_d9ef75.MS
  simp only [H.rR]
  exact hM
theorem mk_inv {h h1 h2 : zM} {np n m p : Nat} {x1 d : Int32} {v : Nat → Int32} (hI : Inv h np n) (A : HX h h1 n m p x1 d v) (B : HM h1 h2 n m p x1 d v) (h40 : n + m ≤ 40) (hp : p < np) (hx : (0 : Int32) ≤ x1 ∧ x1 ≤ 11) (hd : ∃ e, e ≤ 9999 ∧ d = nI e) (hv : ∀ j, j < m → Vok (v (3 * j)) (v (3 * j + 1)) (v (3 * j + 2))) : Inv h2 np (n + m) := by
  obtain ⟨a1, a2, a3, a4, a5, a6, a7, a8, a9, a10, a11, a12⟩ := A
  have R := B.rR
  have L := B.rL
  have C := B.cn
  obtain ⟨b1, b2, b3, b4, b5⟩ := B
  obtain ⟨hX, hM, hR, hT, hD, hA, hF, hF2, hP, hK, hL⟩ := hI
  have I : ∀ c i f, ¬ c = 2 → ¬ (c = 10 ∧ f = 10) → ¬ c = 39 → ¬ (c = 11 ∧ f = 13) → rI h2 c i f = rI h c i f := fun c i f q1 q2 q3 q4 => (b2 c i f q3 q4).trans (a1 c i f q1 q2)
  have Q : ∀ c i f, ¬ c = 2 → ¬ c = 29 → rR h2 c i f = rR h c i f := fun c i f q1 q2 => (R c i f).trans (a5 c i f q1 q2)
  have Cn : ∀ c, ¬ c = 2 → cnM h2 c = cnM h c := fun c q => by rw [C, a9, if_neg q]
  refine ⟨?_, ?_, hR.of (fun _ => I _ _ _ (by decide) (by simp) (by decide) (by simp)) (fun _ => I _ _ _ (by decide) (by simp) (by decide) (by simp)) (fun _ _ => I _ _ _ (by decide) (by simp) (by decide) (by simp)) (fun _ => I _ _ _ (by decide) (by simp) (by decide) (by simp)), hT.of (fun _ => I _ _ _ (by decide) (by simp) (by decide) (by simp)) (fun _ => I _ _ _ (by decide) (by simp) (by decide) (by simp)) (fun _ _ => I _ _ _ (by decide) (by simp) (by decide) (by simp)) (fun _ => I _ _ _ (by decide) (by simp) (by decide) (by simp)), hD.of (I _ _ _ (by decide) (by decide) (by decide) (by decide)) (I _ _ _ (by decide) (by decide) (by decide) (by decide)), hA.of (I _ _ _ (by decide) (by decide) (by decide) (by decide)) (I _ _ _ (by decide) (by decide) (by decide) (by decide)), hF.of ((L _ _ _).trans (a8 _ _ _ (by decide))) ((L _ _ _).trans (a8 _ _ _ (by decide))) ((L _ _ _).trans (a8 _ _ _ (by decide))) ((L _ _ _).trans (a8 _ _ _ (by decide))), hF2.of (I _ _ _ (by decide) (by decide) (by decide) (by decide)) (I _ _ _ (by decide) (by decide) (by decide) (by decide)) (fun _ => I _ _ _ (by decide) (by simp) (by decide) (by simp)) (fun _ => I _ _ _ (by decide) (by simp) (by decide) (by simp)), hP.of (I _ _ _ (by decide) (by decide) (by decide) (by decide)) (I _ _ _ (by decide) (by decide) (by decide) (by decide)) (Cn _ (by decide)) (fun _ => Q _ _ _ (by decide) (by decide)) (fun _ _ _ => I _ _ _ (by decide) (by simp) (by decide) (by simp)) (fun _ => I _ _ _ (by decide) (by simp) (by decide) (by simp)), ?_, hL.of (by rw [Cn _ (by decide), Cn _ (by decide)]; exact hL.1) (by rw [Cn _ (by decide)]; exact Nat.le_refl _) (fun _ => Q _ _ _ (by decide) (by decide)) (fun _ _ => Q _ _ _ (by decide) (by decide)) (fun _ _ _ => I _ _ _ (by decide) (by simp) (by decide) (by simp)) (fun _ => I _ _ _ (by decide) (by simp) (by decide) (by simp)) (fun _ => I _ _ _ (by decide) (by simp) (by decide) (by simp))⟩
  · unfold XS
    simp only [Q 10 _ _ (by decide) (by decide), Q 26 _ _ (by decide) (by decide), Q 6 _ _ (by decide) (by decide), Q 27 _ _ (by decide) (by decide), Q 9 _ _ (by decide) (by decide), Q 4 _ _ (by decide) (by decide)]
    exact hX
  · unfold MS
    simp only [Q 11 _ _ (by decide) (by decide)]
    exact hM
  · obtain ⟨k1, k2, k3, k4, k5, k6⟩ := hK
    have r2 : ∀ i f, rI h2 2 i f = rI h1 2 i f := fun i f => b2 2 i f (by decide) (by simp)
    refine ⟨h40, ?_, b3, ?_, fun k hk => ?_, fun k hk => ?_⟩
    · rw [b2 _ _ _ (by decide) (by decide)]
      exact a3
    · rw [C, a9]
      simp
    · by_cases e : k < n
      · obtain ⟨q1, q2⟩ := k5 k e
        refine ⟨?_, MK1.of q2 (fun f => ?_) ?_ ?_ ?_ (fun f hf => ?_)⟩
        · rw [R, a7, if_neg (by omega)]
          exact q1
        · rw [r2, a2 k f e]
        · rw [R, a6 k 2 e]
        · exact I _ _ _ (by decide) (by simp) (by decide) (by simp)
        · exact I _ _ _ (by decide) (by simp) (by decide) (by simp)
        · rw [b4 _ (by omega), a1 _ _ _ (by decide) (by simp)]
      · obtain ⟨j, hj, rfl⟩ : ∃ j, j < m ∧ k = n + j := ⟨k - n, by omega, by omega⟩
        obtain ⟨⟨n0, n1, n3, n4, n5, n6⟩, ⟨n7, n8, n9⟩, nr⟩ := a4 j hj
        obtain ⟨v1, v2, v3⟩ := hv j hj
        refine ⟨?_, ?_, ?_, ?_⟩
        · rw [R, a7, if_pos (by omega)]
        · left
          rw [r2, r2, r2]
          exact ⟨n7, n8, n9⟩
        · unfold MKb
          simp only [r2, R]
          refine ⟨?_, ⟨p, hp, n1, nr⟩, ?_, ?_, ?_, ?_, ?_⟩
          · rw [n0]
            rcases rng x1 11 (by decide) with ⟨q, b, c⟩ | b | b
            · exact ⟨q, b, c⟩
            · exact absurd hx.1 (Int32.not_le.mpr b)
            · exact absurd hx.2 (Int32.not_le.mpr b)
          · rw [n3]
            obtain ⟨e, he1, he2⟩ := hd
            exact ⟨e, he1, he2⟩
          · rw [n4]
            rcases rng1 (v (3 * j)) 9999 (by decide) with ⟨q, b, c, d⟩ | b
            · exact ⟨q, b, c, d⟩
            · exact absurd v1 b
          · rw [n5]
            rcases v2 with v2 | v2
            · exact Or.inl v2
            · right
              rw [Int32.le_iff_toInt_le, Int32.le_iff_toInt_le] at v2
              have e1 : (-60 : Int32).toInt = -60 := by decide
              have e2 : (60 : Int32).toInt = 60 := by decide
              rw [e1, e2] at v2
              exact v2
          · rw [n6]
            rcases rng (v (3 * j + 2)) 3 (by decide) with ⟨q, b, c⟩ | b | b
            · exact ⟨q, b, c⟩
            · exact absurd v3.1 (Int32.not_le.mpr b)
            · exact absurd v3.2 (Int32.not_le.mpr b)
          · exact ⟨0, by omega, n8⟩
        · obtain ⟨c0, c1, c2, c3, c4, c5, c6⟩ := b5 j hj
          unfold MKe
          simp only [r2, n0, n1, n3, n4, n5, n6, n7]
          exact ⟨c0, c1, c2, c3, c4, c5, c6⟩
    · rw [R, a7, if_neg (by omega)]
      exact k6 k (by omega)
theorem mk_scr {h h1 h2 : zM} {n m p : Nat} {x1 d : Int32} {v : Nat → Int32} (A : HX h h1 n m p x1 d v) (B : HM h1 h2 n m p x1 d v) : Scr h h1 ∧ Scr h h2 ∧ ncM h2 = ncM h + m ∧ nsM h2 = nsM h + 10 * m := by
  have a : Scr h h1 := ⟨A.2.2.2.2.2.2.2.2.2.1, fun j => A.1 19 0 j (by decide) (by simp)⟩
  have s : slM h2 = slM h1 := by unfold slM; rw [B.1]
  have nn : ncM h2 = ncM h1 := by unfold ncM; rw [B.1]
  have ss : nsM h2 = nsM h1 := by unfold nsM; rw [B.1]
  refine ⟨a, a.trans ⟨s, fun j => B.2.1 19 0 j (by decide) (by simp)⟩, by rw [nn]; exact A.2.2.2.2.2.2.2.2.2.2.1, by rw [ss]; exact A.2.2.2.2.2.2.2.2.2.2.2⟩
theorem isPerson_T {x : Int32} (q : (0 : Int32) ≤ x ∧ x ≤ 11) (h : zM) : f_X11_isPerson x h = some (1, h) := by
  unfold f_X11_isPerson
  simp [in_T q, isB_1]
theorem isPerson_F {x : Int32} (q : ¬ ((0 : Int32) ≤ x ∧ x ≤ 11)) (h : zM) : f_X11_isPerson x h = some (0, h) := by
  unfold f_X11_isPerson
  simp [in_F q, isB_0]
def v3 (a b c : Int32) (k : Nat) : Int32 := if k = 0 then a else if k = 1 then b else c
theorem op_mark {h : zM} {np n : Nat} (hI : Inv h np n) (x1 x2 a b c : Int32) : Okk h (f_X10_mark x1 x2 a b c) (f_X11_mark x1 x2 a b c) := by
  have hX := hI.1
  have hM := hI.2.1
  have hP := hI.2.2.2.2.2.2.2.2.1
  have hK := hI.2.2.2.2.2.2.2.2.2.1
  obtain ⟨d, hd, d1, d2⟩ := hI.2.2.2.2.1
  by_cases c1 : (0 : Int32) ≤ x1 ∧ x1 ≤ 11
  · have hP8 := hP.1
    rcases rngL x2 (k := np) (by omega) with ⟨p, hp, rfl⟩ | hx2
    · by_cases c3 : Vok a b c
      · by_cases h40 : n = 40
        · refine Okk.same hI (a := -2) ?_ ?_
          · unfold f_X10_mark
            simp [wi_T c1, placeAt_in hX hP hp, cbm_T c3, hK.2.1, h40, show ¬ (nI 40 < 40) by decide]
          · unfold f_X11_mark
            simp [isPerson_T c1, isPlace_in hP.2.2.1 hP.1 hp, isv_T c3, hK.2.2.1, h40, show nI 40 = 40 by decide]
        · have hn : n < 40 := by have := hK.1; omega
          have z : nI n < 40 := nI_lt (a := n) (b := 40) (by omega) (by decide)
          have z' : ¬ nI n = 40 := by
            intro e
            rw [e] at z
            exact absurd z (by decide)
          have A := (HX.refl (p := p) (x1 := x1) (d := nI d) (v := v3 a b c) hK).step
          have A0 : f_X10_addMark x1 (nI p) a b c h = some (nI n, mkX h n p (nI d) x1 a b c) := by
            rw [addMark_eq hX hP hp hK.2.1 hn hK.2.2.2.1, d1]
          have A' : HX h (mkX h n p (nI d) x1 a b c) n 1 p x1 (nI d) (v3 a b c) := A
          generalize mkX h n p (nI d) x1 a b c = h1 at A0 A'
          have M1 := A'.MS hM
          have k1 : rI h1 11 0 13 = nI n := by rw [A'.1 _ _ _ (by decide) (by decide)]; exact hK.2.2.1
          have t1 : rI h1 11 0 5 = nI d := by rw [A'.1 _ _ _ (by decide) (by decide)]; exact d2
          have pl1 : rI h1 11 0 11 = nI np := by rw [A'.1 _ _ _ (by decide) (by decide)]; exact hP.2.2.1
          have B := (HM.refl (p := p) (x1 := x1) (d := nI d) (v := v3 a b c) k1).step
          have B0 : f_X11_newMark x1 (nI p) a b c h1 = some (nI n, mkM h1 n p (nI d) x1 a b c) := by
            rw [newMark_eq M1 k1 hn, t1]
          have B' : HM h1 (mkM h1 n p (nI d) x1 a b c) n 1 p x1 (nI d) (v3 a b c) := B
          generalize mkM h1 n p (nI d) x1 a b c = h2 at B0 B'
          have S := mk_scr A' B'
          refine ⟨nI n, h1, h2, ?_, ?_, S.1, S.2.1, ⟨np, n + 1, mk_inv hI A' B' (by omega) hp c1 ⟨d, hd, rfl⟩ (fun j hj => ?_)⟩, by omega, by omega⟩
          · unfold f_X10_mark
            simp [wi_T c1, placeAt_in hX hP hp, cbm_T c3, hK.2.1, z, A0]
          · unfold f_X11_mark
            simp [isPerson_T c1, isPlace_in pl1 hP.1 hp, isv_T c3, k1, z', B0]
          · have : j = 0 := by omega
            subst this
            exact c3
      · refine Okk.same hI (a := -1) ?_ ?_
        · unfold f_X10_mark
          simp [wi_T c1, placeAt_in hX hP hp, cbm_F c3]
        · unfold f_X11_mark
          simp [isPerson_T c1, isPlace_in hP.2.2.1 hP.1 hp, isv_F c3]
    · refine Okk.same hI (a := -1) ?_ ?_
      · unfold f_X10_mark
        simp [wi_T c1, placeAt_out hP hx2]
      · unfold f_X11_mark
        simp [isPerson_T c1, isPlace_out hP.2.2.1 hx2]
  · refine Okk.same hI (a := -1) ?_ ?_
    · unfold f_X10_mark
      simp [wi_F c1]
    · unfold f_X11_mark
      simp [isPerson_F c1]
