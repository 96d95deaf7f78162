theorem rkN_R {g : zM} {i j : Nat} (h1 : cnM g 21 = j) (h2 : cnM g 22 = j) (h3 : cnM g 23 = j) (C I F : Nat) : rR (rkN g i) C I F = if C = 4 ∧ I = i ∧ F = 2 then some (23, j) else if C = 23 ∧ I = j then none else if C = 4 ∧ I = i ∧ F = 1 then some (22, j) else if C = 22 ∧ I = j then none else if C = 4 ∧ I = i ∧ F = 0 then some (21, j) else if C = 21 ∧ I = j then none else rR g C I F := by
  unfold rkN
  rw [rR_wR, rR_nw, rR_wR, rR_nw, rR_wR, rR_nw]
  simp only [cn_wR, cn_nw_ne (show (21 : Nat) ≠ 22 by decide), cn_nw_ne (show (21 : Nat) ≠ 23 by decide), cn_nw_ne (show (22 : Nat) ≠ 23 by decide), h1, h2, h3]
theorem rkN_I {g : zM} {i j : Nat} (h1 : cnM g 21 = j) (h2 : cnM g 22 = j) (h3 : cnM g 23 = j) (C I F : Nat) : rI (rkN g i) C I F = if C = 23 ∧ I = j then 0 else if C = 22 ∧ I = j then 0 else if C = 21 ∧ I = j then 0 else rI g C I F := by
  unfold rkN
  rw [rI_wR, rI_nw, rI_wR, rI_nw, rI_wR, rI_nw]
  simp only [cn_wR, cn_nw_ne (show (21 : Nat) ≠ 22 by decide), cn_nw_ne (show (21 : Nat) ≠ 23 by decide), cn_nw_ne (show (22 : Nat) ≠ 23 by decide), h1, h2, h3]
theorem rkN_L {g : zM} {i j : Nat} (h1 : cnM g 21 = j) (h2 : cnM g 22 = j) (h3 : cnM g 23 = j) (C I F : Nat) : rL (rkN g i) C I F = if C = 23 ∧ I = j then 0 else if C = 22 ∧ I = j then 0 else if C = 21 ∧ I = j then 0 else rL g C I F := by
  unfold rkN
  rw [rL_wR, rL_nw, rL_wR, rL_nw, rL_wR, rL_nw]
  simp only [cn_wR, cn_nw_ne (show (21 : Nat) ≠ 22 by decide), cn_nw_ne (show (21 : Nat) ≠ 23 by decide), cn_nw_ne (show (22 : Nat) ≠ 23 by decide), h1, h2, h3]
theorem rkN_c {g : zM} {i : Nat} (C : Nat) : cnM (rkN g i) C = if C = 23 then cnM g 23 + 1 else if C = 22 then cnM g 22 + 1 else if C = 21 then cnM g 21 + 1 else cnM g C := by
  unfold rkN
  simp only [cn_wR, cn_nw, show ¬ (23 : Nat) = 22 by decide, show ¬ (23 : Nat) = 21 by decide, show ¬ (22 : Nat) = 21 by decide, if_false]
/-- ThinAir's record is made, the reference's isn't -/
def QX (b h : zM) : Prop := XS h ∧ (∀ r, r < 6 → rI h 6 r 0 = -1 ∧ ∀ f, rI h 24 r f = 0) ∧ (∀ r, r < 4 → rI h 9 r 0 = -1 ∧ ∀ f, rI h 25 r f = 0) ∧ (∀ f, rI h 10 0 f = 0) ∧ rL h 10 0 13 = 0 ∧ rL h 10 0 14 = 1 ∧ (∀ f, rI h 31 0 f = 0) ∧ (∀ p, rR h 28 0 p = none) ∧ (∀ p, rR h 29 0 p = none) ∧ (∀ p, rR h 30 0 p = none) ∧ (∀ c, 32 ≤ c ∨ c = 11 → cnM h c = 0) ∧ cnM h 1 = 0 ∧ cnM h 2 = 0 ∧ cnM h 3 = 0 ∧ cnM h 20 = 0 ∧ (∀ j, rI h 19 0 j = rI b 19 0 j) ∧ slM h = slM b ∧ ncM h ≤ ncM b + 40 ∧ nsM h ≤ nsM b + 1000
theorem tail_facts {h : zM} (c0 : ∀ c, c = 28 ∨ c = 29 ∨ c = 30 ∨ c = 4 ∨ c = 21 ∨ c = 22 ∨ c = 23 ∨ c = 31 → cnM h c = 0) : (∀ C I F, rR (tailX h) C I F = if C = 10 ∧ I = 0 ∧ F = 7 then some (31, 0) else if C = 31 ∧ I = 0 then none else if C = 10 ∧ I = 0 ∧ F = 6 then some (4, 1) else if C = 4 ∧ I = 1 ∧ F = 2 then some (23, 1) else if C = 23 ∧ I = 1 then none else if C = 4 ∧ I = 1 ∧ F = 1 then some (22, 1) else if C = 22 ∧ I = 1 then none else if C = 4 ∧ I = 1 ∧ F = 0 then some (21, 1) else if C = 21 ∧ I = 1 then none else if C = 4 ∧ I = 1 then none else if C = 10 ∧ I = 0 ∧ F = 5 then some (4, 0) else if C = 4 ∧ I = 0 ∧ F = 2 then some (23, 0) else if C = 23 ∧ I = 0 then none else if C = 4 ∧ I = 0 ∧ F = 1 then some (22, 0) else if C = 22 ∧ I = 0 then none else if C = 4 ∧ I = 0 ∧ F = 0 then some (21, 0) else if C = 21 ∧ I = 0 then none else if C = 4 ∧ I = 0 then none else rR (tail1 h) C I F) ∧ (∀ C I F, C ≠ 31 → C ≠ 23 → C ≠ 22 → C ≠ 21 → C ≠ 4 → rI (tailX h) C I F = rI (tail1 h) C I F) ∧ (∀ F, rI (tailX h) 31 0 F = 0) ∧ (∀ I F, rL (tailX h) 10 I F = if I = 0 ∧ F = 14 then 1 else rL (tail1 h) 10 I F) ∧ (∀ C, C ≠ 31 → C ≠ 23 → C ≠ 22 → C ≠ 21 → C ≠ 4 → cnM (tailX h) C = cnM (tail1 h) C) := by
  have t1 : ∀ C, C ≠ 28 → C ≠ 29 → C ≠ 30 → cnM (tail1 h) C = cnM h C := fun C a b c => by
    unfold tail1
    rw [cn_wR, cn_nw_ne (fun z => c z.symm), cn_wR, cn_nw_ne (fun z => b z.symm), cn_wR, cn_nw_ne (fun z => a z.symm)]
  have a4 : cnM (tail1 h) 4 = 0 := (t1 4 (by decide) (by decide) (by decide)).trans (c0 4 (by decide))
  have a21 : cnM (nwM (tail1 h) 4 4) 21 = 0 := by rw [cn_nw_ne (by decide), t1 21 (by decide) (by decide) (by decide)]; exact c0 21 (by decide)
  have a22 : cnM (nwM (tail1 h) 4 4) 22 = 0 := by rw [cn_nw_ne (by decide), t1 22 (by decide) (by decide) (by decide)]; exact c0 22 (by decide)
  have a23 : cnM (nwM (tail1 h) 4 4) 23 = 0 := by rw [cn_nw_ne (by decide), t1 23 (by decide) (by decide) (by decide)]; exact c0 23 (by decide)
  have h4 : cnM h 4 = 0 := c0 4 (by decide)
  have b4 : cnM (q1 h) 4 = 1 := by
    unfold q1
    rw [rkN_c, if_neg (by decide), if_neg (by decide), if_neg (by decide), cn_nw, if_pos rfl, a4]
  have q1c : ∀ C, C ≠ 23 → C ≠ 22 → C ≠ 21 → C ≠ 4 → cnM (q1 h) C = cnM (tail1 h) C := fun C x1 x2 x3 x4 => by
    unfold q1
    rw [rkN_c, if_neg x1, if_neg x2, if_neg x3, cn_nw_ne (fun z => x4 z.symm)]
  have b21 : cnM (nwM (wR (q1 h) 10 0 5 (some (4, cnM h 4))) 4 4) 21 = 1 := by
    rw [cn_nw_ne (by decide), cn_wR]
    unfold q1
    rw [rkN_c, if_neg (by decide), if_neg (by decide), if_pos rfl, a21]
  have b22 : cnM (nwM (wR (q1 h) 10 0 5 (some (4, cnM h 4))) 4 4) 22 = 1 := by
    rw [cn_nw_ne (by decide), cn_wR]
    unfold q1
    rw [rkN_c, if_neg (by decide), if_pos rfl, a22]
  have b23 : cnM (nwM (wR (q1 h) 10 0 5 (some (4, cnM h 4))) 4 4) 23 = 1 := by
    rw [cn_nw_ne (by decide), cn_wR]
    unfold q1
    rw [rkN_c, if_pos rfl, a23]
  have q2c : ∀ C, C ≠ 23 → C ≠ 22 → C ≠ 21 → C ≠ 4 → cnM (q2 h) C = cnM (tail1 h) C := fun C x1 x2 x3 x4 => by
    unfold q2
    rw [rkN_c, if_neg x1, if_neg x2, if_neg x3, cn_nw_ne (fun z => x4 z.symm), cn_wR]
    exact q1c C x1 x2 x3 x4
  have c31 : cnM (q2 h) 31 = 0 := by
    rw [q2c 31 (by decide) (by decide) (by decide) (by decide), t1 31 (by decide) (by decide) (by decide)]
    exact c0 31 (by decide)
  refine ⟨fun C I F => ?_, fun C I F x1 x2 x3 x4 x5 => ?_, fun F => ?_, fun I F => ?_, fun C x1 x2 x3 x4 x5 => ?_⟩
  · unfold tailX
    rw [rR_wL, rR_wR, rR_nw, cn_wR, c31, rR_wR, b4]
    unfold q2
    rw [b4, rkN_R b21 b22 b23, rR_nw, cn_wR, b4, rR_wR, h4]
    unfold q1
    rw [h4, rkN_R a21 a22 a23, rR_nw, a4]
  · unfold tailX
    rw [rI_wL, rI_wR, rI_nw_ne (fun z => x1 z.symm), rI_wR]
    unfold q2
    rw [rkN_I b21 b22 b23, if_neg (fun z => x2 z.1), if_neg (fun z => x3 z.1), if_neg (fun z => x4 z.1), rI_nw_ne (fun z => x5 z.symm), rI_wR]
    unfold q1
    rw [rkN_I a21 a22 a23, if_neg (fun z => x2 z.1), if_neg (fun z => x3 z.1), if_neg (fun z => x4 z.1), rI_nw_ne (fun z => x5 z.symm)]
  · unfold tailX
    rw [rI_wL, rI_wR, rI_nw, cn_wR, c31, if_pos ⟨rfl, rfl⟩]
  · unfold tailX
    rw [rL_wL]
    by_cases e : I = 0 ∧ F = 14
    · rw [if_pos ⟨rfl, e⟩, if_pos e]
    · rw [if_neg (fun z => e z.2), if_neg e, rL_wR, rL_nw_ne (by decide), rL_wR]
      unfold q2
      rw [rkN_L b21 b22 b23, if_neg (by simp), if_neg (by simp), if_neg (by simp), rL_nw_ne (by decide), rL_wR]
      unfold q1
      rw [rkN_L a21 a22 a23, if_neg (by simp), if_neg (by simp), if_neg (by simp), rL_nw_ne (by decide)]
  · unfold tailX
    rw [cn_wL, cn_wR, cn_nw_ne (fun z => x1 z.symm), cn_wR]
    exact q2c C x2 x3 x4 x5
theorem tail1_R {h : zM} (c28 : cnM h 28 = 0) (c29 : cnM h 29 = 0) (c30 : cnM h 30 = 0) (C I F : Nat) : rR (tail1 h) C I F = if C = 10 ∧ I = 0 ∧ F = 4 then some (30, 0) else if C = 30 ∧ I = 0 then none else if C = 10 ∧ I = 0 ∧ F = 3 then some (29, 0) else if C = 29 ∧ I = 0 then none else if C = 10 ∧ I = 0 ∧ F = 2 then some (28, 0) else if C = 28 ∧ I = 0 then none else rR h C I F := by
  unfold tail1
  rw [rR_wR, rR_nw, rR_wR, rR_nw, rR_wR, rR_nw]
  simp only [cn_wR, cn_nw_ne (show (28 : Nat) ≠ 29 by decide), cn_nw_ne (show (28 : Nat) ≠ 30 by decide), cn_nw_ne (show (29 : Nat) ≠ 30 by decide), c28, c29, c30]
theorem tail1_I {h : zM} {C I F : Nat} (x1 : C ≠ 28) (x2 : C ≠ 29) (x3 : C ≠ 30) : rI (tail1 h) C I F = rI h C I F := by
  unfold tail1
  rw [rI_wR, rI_nw_ne (fun z => x3 z.symm), rI_wR, rI_nw_ne (fun z => x2 z.symm), rI_wR, rI_nw_ne (fun z => x1 z.symm)]
theorem tail1_L {h : zM} {C I F : Nat} (x1 : C ≠ 28) (x2 : C ≠ 29) (x3 : C ≠ 30) : rL (tail1 h) C I F = rL h C I F := by
  unfold tail1
  rw [rL_wR, rL_nw_ne (fun z => x3 z.symm), rL_wR, rL_nw_ne (fun z => x2 z.symm), rL_wR, rL_nw_ne (fun z => x1 z.symm)]
theorem tail1_c {h : zM} {C : Nat} (x1 : C ≠ 28) (x2 : C ≠ 29) (x3 : C ≠ 30) : cnM (tail1 h) C = cnM h C := by
  unfold tail1
  rw [cn_wR, cn_nw_ne (fun z => x3 z.symm), cn_wR, cn_nw_ne (fun z => x2 z.symm), cn_wR, cn_nw_ne (fun z => x1 z.symm)]
theorem initX (xs : Nat → Int32) (L : Nat) : ∃ q, f_X10_init (nwM (hm0 xs L) 10 15) = some q ∧ QX (hm0 xs L) q := by
  have z0 : ∀ C, C ≠ 19 → C ≠ 10 → cnM (nwM (hm0 xs L) 10 15) C = 0 := fun C a b => by
    rw [cn_nw_ne (fun z => b z.symm)]
    exact if_neg a
  have zI : ∀ C I F, C ≠ 19 → rI (nwM (hm0 xs L) 10 15) C I F = 0 := fun C I F a => by
    rw [rI_nw]
    split
    · rfl
    · exact if_neg a
  have zL : ∀ C I F, rL (nwM (hm0 xs L) 10 15) C I F = 0 := fun C I F => by
    rw [rL_nw]
    split <;> rfl
  have zS : ∀ F, rI (nwM (hm0 xs L) 10 15) 19 0 F = rI (hm0 xs L) 19 0 F := fun F => rI_nw_ne (by decide)
  have sl0 : slM (nwM (hm0 xs L) 10 15) = slM (hm0 xs L) := rfl
  have nc0 : ncM (nwM (hm0 xs L) 10 15) = ncM (hm0 xs L) + 1 := rfl
  have ns0 : nsM (nwM (hm0 xs L) 10 15) = nsM (hm0 xs L) + 15 := rfl
  unfold f_X10_init
  generalize nwM (hm0 xs L) 10 15 = g0 at z0 zI zL zS sl0 nc0 ns0
  -- rows
  have r26 : rR (wR (nwM g0 26 6) 10 0 0 (some (26, cnM g0 26))) 10 0 0 = some (26, 0) := by
    rw [rR_wR, if_pos ⟨rfl, rfl, rfl⟩, z0 26 (by decide) (by decide)]
  have cA : ∀ C, C ≠ 26 → cnM (wR (nwM g0 26 6) 10 0 0 (some (26, cnM g0 26))) C = cnM g0 C := fun C a => by
    rw [cn_wR, cn_nw_ne (fun z => a z.symm)]
  have iA : ∀ C I F, C ≠ 26 → rI (wR (nwM g0 26 6) 10 0 0 (some (26, cnM g0 26))) C I F = rI g0 C I F := fun C I F a => by
    rw [rI_wR, rI_nw_ne (fun z => a z.symm)]
  have lA : ∀ C I F, C ≠ 26 → rL (wR (nwM g0 26 6) 10 0 0 (some (26, cnM g0 26))) C I F = rL g0 C I F := fun C I F a => by
    rw [rL_wR, rL_nw_ne (fun z => a z.symm)]
  have slA : slM (wR (nwM g0 26 6) 10 0 0 (some (26, cnM g0 26))) = slM g0 := rfl
  have ncA : ncM (wR (nwM g0 26 6) 10 0 0 (some (26, cnM g0 26))) = ncM g0 + 1 := rfl
  have nsA : nsM (wR (nwM g0 26 6) 10 0 0 (some (26, cnM g0 26))) = nsM g0 + 6 := rfl
  generalize wR (nwM g0 26 6) 10 0 0 (some (26, cnM g0 26)) = gA at r26 cA iA lA slA ncA nsA
  obtain ⟨gB, e1, b1, b2, b3, b4, b5, b6, b7, b8, b9, b10⟩ := rows_loop r26 6 1000 0 gA (by decide) (by decide) ⟨by rw [cA 6 (by decide)]; exact z0 6 (by decide) (by decide), by rw [cA 24 (by decide)]; exact z0 24 (by decide) (by decide), fun i hi => absurd hi (by omega), fun _ _ _ _ _ _ => rfl, fun _ _ _ _ _ => rfl, fun _ _ _ _ _ => rfl, fun _ _ _ => rfl, rfl, by omega, by omega⟩
  rw [nI_0] at e1
  rw [e1]
  -- texts
  have c27 : cnM gB 27 = 0 := by
    rw [b7 27 (by decide) (by decide), cA 27 (by decide)]
    exact z0 27 (by decide) (by decide)
  have r27 : rR (wR (nwM gB 27 4) 10 0 1 (some (27, cnM gB 27))) 10 0 1 = some (27, 0) := by
    rw [rR_wR, if_pos ⟨rfl, rfl, rfl⟩, c27]
  have cC : ∀ C, C ≠ 27 → cnM (wR (nwM gB 27 4) 10 0 1 (some (27, cnM gB 27))) C = cnM gB C := fun C a => by
    rw [cn_wR, cn_nw_ne (fun z => a z.symm)]
  have iC : ∀ C I F, C ≠ 27 → rI (wR (nwM gB 27 4) 10 0 1 (some (27, cnM gB 27))) C I F = rI gB C I F := fun C I F a => by
    rw [rI_wR, rI_nw_ne (fun z => a z.symm)]
  have lC : ∀ C I F, C ≠ 27 → rL (wR (nwM gB 27 4) 10 0 1 (some (27, cnM gB 27))) C I F = rL gB C I F := fun C I F a => by
    rw [rL_wR, rL_nw_ne (fun z => a z.symm)]
  have rC : ∀ C I F, C ≠ 27 → ¬ (C = 10 ∧ F = 1) → rR (wR (nwM gB 27 4) 10 0 1 (some (27, cnM gB 27))) C I F = rR gB C I F := fun C I F a b => by
    rw [rR_wR, if_neg (fun z => b ⟨z.1, z.2.2⟩), rR_nw_ne (fun z => a z.symm)]
  have slC : slM (wR (nwM gB 27 4) 10 0 1 (some (27, cnM gB 27))) = slM gB := rfl
  have ncC : ncM (wR (nwM gB 27 4) 10 0 1 (some (27, cnM gB 27))) = ncM gB + 1 := rfl
  have nsC : nsM (wR (nwM gB 27 4) 10 0 1 (some (27, cnM gB 27))) = nsM gB + 4 := rfl
  generalize wR (nwM gB 27 4) 10 0 1 (some (27, cnM gB 27)) = gC at r27 cC iC lC rC slC ncC nsC
  obtain ⟨gD, e2, d1, d2, d3, d4, d5, d6, d7, d8, d9, d10⟩ := txts_loop r27 4 1000 0 gC (by decide) (by decide) ⟨by rw [cC 9 (by decide), b7 9 (by decide) (by decide), cA 9 (by decide)]; exact z0 9 (by decide) (by decide), by rw [cC 25 (by decide), b7 25 (by decide) (by decide), cA 25 (by decide)]; exact z0 25 (by decide) (by decide), fun i hi => absurd hi (by omega), fun _ _ _ _ _ _ => rfl, fun _ _ _ _ _ => rfl, fun _ _ _ _ _ => rfl, fun _ _ _ => rfl, rfl, by omega, by omega⟩
  rw [nI_0] at e2
  refine ⟨tailX gD, e2, ?_⟩
  have cD : ∀ C, C ≠ 9 → C ≠ 25 → C ≠ 27 → C ≠ 6 → C ≠ 24 → C ≠ 26 → C ≠ 19 → C ≠ 10 → cnM gD C = 0 := fun C x1 x2 x3 x4 x5 x6 x7 x8 => by
    rw [d7 C x1 x2, cC C x3, b7 C x4 x5, cA C x6]
    exact z0 C x7 x8
  have iD : ∀ C I F, C ≠ 9 → C ≠ 25 → C ≠ 27 → C ≠ 6 → C ≠ 24 → C ≠ 26 → rI gD C I F = rI g0 C I F := fun C I F x1 x2 x3 x4 x5 x6 => by
    rw [d5 C I F x1 x2, iC C I F x3, b5 C I F x4 x5, iA C I F x6]
  obtain ⟨TR, TI, T31, TL, TC⟩ := tail_facts (h := gD) (fun c hc => by
    rcases hc with rfl | rfl | rfl | rfl | rfl | rfl | rfl | rfl <;> exact cD _ (by decide) (by decide) (by decide) (by decide) (by decide) (by decide) (by decide) (by decide))
  have UR := tail1_R (h := gD) (cD 28 (by decide) (by decide) (by decide) (by decide) (by decide) (by decide) (by decide) (by decide)) (cD 29 (by decide) (by decide) (by decide) (by decide) (by decide) (by decide) (by decide) (by decide)) (cD 30 (by decide) (by decide) (by decide) (by decide) (by decide) (by decide) (by decide) (by decide))
  have Rb : ∀ C I F, C = 6 ∨ C = 26 → rR gD C I F = rR gB C I F := fun C I F hC => by
    rcases hC with rfl | rfl
    · rw [d4 _ _ _ (by decide) (by decide) (by decide), rC _ _ _ (by decide) (by omega)]
    · rw [d4 _ _ _ (by decide) (by decide) (by decide), rC _ _ _ (by decide) (by omega)]
  have s1 : slM (tailX gD) = slM gD := rfl
  have s2 : ncM (tailX gD) = ncM gD + 12 := rfl
  have s3 : nsM (tailX gD) = nsM gD + 8 + 40 + 2 + 4 + 40 + 40 + 12 + 4 + 40 + 40 + 12 + 6 := rfl
  generalize tailX gD = X at TR TI T31 TL TC s1 s2 s3
  have R10 : rR gD 10 0 0 = some (26, 0) := by
    rw [d4 _ _ _ (by decide) (by decide) (by decide), rC _ _ _ (by decide) (by decide), b4 _ _ _ (by decide) (by decide) (by decide)]
    exact r26
  have R11 : rR gD 10 0 1 = some (27, 0) := by
    rw [d4 _ _ _ (by decide) (by decide) (by decide)]
    exact r27
  refine ⟨⟨?_, ?_, ?_, ?_, ?_, ?_, ?_, ?_, fun i hi => ?_, fun i hi => ?_, fun i hi => ?_, fun i hi => ?_, fun i hi => ?_, fun i hi => ?_, fun i hi => ?_⟩, fun r hr => ⟨?_, fun f => ?_⟩, fun r hr => ⟨?_, fun f => ?_⟩, fun f => ?_, ?_, ?_, T31, fun p => ?_, fun p => ?_, fun p => ?_, fun c hc => ?_, ?_, ?_, ?_, ?_, fun j => ?_, ?_, ?_, ?_⟩
  · rw [TR, UR]; simp -implicitDefEqProofs [R10]
  · rw [TR, UR]; simp -implicitDefEqProofs [R11]
  · rw [TR, UR]; simp -implicitDefEqProofs
  · rw [TR, UR]; simp -implicitDefEqProofs
  · rw [TR, UR]; simp -implicitDefEqProofs
  · rw [TR, UR]; simp -implicitDefEqProofs
  · rw [TR, UR]; simp -implicitDefEqProofs
  · rw [TR, UR]; simp -implicitDefEqProofs
  · rw [TR, UR]; simp -implicitDefEqProofs [Rb 26 0 i (Or.inr rfl), (b3 i hi).1]
  · rw [TR, UR]; simp -implicitDefEqProofs [Rb 6 i 1 (Or.inl rfl), (b3 i hi).2.1]
  · rw [TR, UR]; simp -implicitDefEqProofs [(d3 i hi).1]
  · rw [TR, UR]; simp -implicitDefEqProofs [(d3 i hi).2.1]
  · obtain rfl | rfl : i = 0 ∨ i = 1 := by omega
    · rw [TR]; simp -implicitDefEqProofs
    · rw [TR]; simp -implicitDefEqProofs
  · obtain rfl | rfl : i = 0 ∨ i = 1 := by omega
    · rw [TR]; simp -implicitDefEqProofs
    · rw [TR]; simp -implicitDefEqProofs
  · obtain rfl | rfl : i = 0 ∨ i = 1 := by omega
    · rw [TR]; simp -implicitDefEqProofs
    · rw [TR]; simp -implicitDefEqProofs
  · rw [TI _ _ _ (by decide) (by decide) (by decide) (by decide) (by decide), tail1_I (by decide) (by decide) (by decide), d5 _ _ _ (by decide) (by decide), iC _ _ _ (by decide)]
    exact (b3 r hr).2.2.1
  · rw [TI _ _ _ (by decide) (by decide) (by decide) (by decide) (by decide), tail1_I (by decide) (by decide) (by decide), d5 _ _ _ (by decide) (by decide), iC _ _ _ (by decide)]
    exact (b3 r hr).2.2.2 f
  · rw [TI _ _ _ (by decide) (by decide) (by decide) (by decide) (by decide), tail1_I (by decide) (by decide) (by decide)]
    exact (d3 r hr).2.2.1
  · rw [TI _ _ _ (by decide) (by decide) (by decide) (by decide) (by decide), tail1_I (by decide) (by decide) (by decide)]
    exact (d3 r hr).2.2.2 f
  · rw [TI _ _ _ (by decide) (by decide) (by decide) (by decide) (by decide), tail1_I (by decide) (by decide) (by decide), iD _ _ _ (by decide) (by decide) (by decide) (by decide) (by decide) (by decide)]
    exact zI _ _ _ (by decide)
  · rw [TL, if_neg (by decide), tail1_L (by decide) (by decide) (by decide), d6 _ _ _ (by decide) (by decide), lC _ _ _ (by decide), b6 _ _ _ (by decide) (by decide), lA _ _ _ (by decide)]
    exact zL _ _ _
  · rw [TL, if_pos ⟨rfl, rfl⟩]
  · rw [TR, UR]; simp -implicitDefEqProofs
  · rw [TR, UR]; simp -implicitDefEqProofs
  · rw [TR, UR]; simp -implicitDefEqProofs
  · rw [TC c (by omega) (by omega) (by omega) (by omega) (by omega), tail1_c (by omega) (by omega) (by omega)]
    exact cD c (by omega) (by omega) (by omega) (by omega) (by omega) (by omega) (by omega) (by omega)
  · rw [TC _ (by decide) (by decide) (by decide) (by decide) (by decide), tail1_c (by decide) (by decide) (by decide)]
    exact cD _ (by decide) (by decide) (by decide) (by decide) (by decide) (by decide) (by decide) (by decide)
  · rw [TC _ (by decide) (by decide) (by decide) (by decide) (by decide), tail1_c (by decide) (by decide) (by decide)]
    exact cD _ (by decide) (by decide) (by decide) (by decide) (by decide) (by decide) (by decide) (by decide)
  · rw [TC _ (by decide) (by decide) (by decide) (by decide) (by decide), tail1_c (by decide) (by decide) (by decide)]
    exact cD _ (by decide) (by decide) (by decide) (by decide) (by decide) (by decide) (by decide) (by decide)
  · rw [TC _ (by decide) (by decide) (by decide) (by decide) (by decide), tail1_c (by decide) (by decide) (by decide)]
    exact cD _ (by decide) (by decide) (by decide) (by decide) (by decide) (by decide) (by decide) (by decide)
  · rw [TI _ _ _ (by decide) (by decide) (by decide) (by decide) (by decide), tail1_I (by decide) (by decide) (by decide), iD _ _ _ (by decide) (by decide) (by decide) (by decide) (by decide) (by decide)]
    exact zS j
  · rw [s1, d8, slC, b8, slA, sl0]
  · omega
  · omega
