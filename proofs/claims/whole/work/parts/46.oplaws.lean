theorem pall_inv {σ : Type} {sg : Nat → Int32} {n : Nat} {it : Nat → σ → Bool × Nat × σ} {P : σ → Prop} (hp : ∀ q s, P s → (it q s).1 = true → P (it q s).2.2) : ∀ (f k q : Nat) (s : σ), P s → P (pall sg n it f k q s).2.2.2
  | 0, k, q, s, h => h
  | f + 1, k, q, s, h => by
    rw [show pall sg n it (f + 1) k q s = if n ≤ skp sg n (n - q) q then (true, k, skp sg n (n - q) q, s) else if (it (skp sg n (n - q) q) s).1 = true then pall sg n it f (k + 1) (it (skp sg n (n - q) q) s).2.1 (it (skp sg n (n - q) q) s).2.2 else (false, k, (it (skp sg n (n - q) q) s).2.1, s) from rfl]
    by_cases a : n ≤ skp sg n (n - q) q
    · rw [if_pos a]
      exact h
    · rw [if_neg a]
      by_cases b : (it (skp sg n (n - q) q) s).1 = true
      · rw [if_pos b]
        exact pall_inv hp f (k + 1) _ _ (hp _ _ h b)
      · rw [if_neg b]
        exact h
theorem pall_cnt {σ : Type} {sg : Nat → Int32} {n : Nat} {it : Nat → σ → Bool × Nat × σ} : ∀ (f k q : Nat) (s : σ), (pall sg n it f k q s).2.1 ≤ k + f
  | 0, k, q, s => Nat.le_refl _
  | f + 1, k, q, s => by
    rw [show pall sg n it (f + 1) k q s = if n ≤ skp sg n (n - q) q then (true, k, skp sg n (n - q) q, s) else if (it (skp sg n (n - q) q) s).1 = true then pall sg n it f (k + 1) (it (skp sg n (n - q) q) s).2.1 (it (skp sg n (n - q) q) s).2.2 else (false, k, (it (skp sg n (n - q) q) s).2.1, s) from rfl]
    by_cases a : n ≤ skp sg n (n - q) q
    · rw [if_pos a]
      exact Nat.le_add_right _ _
    · rw [if_neg a]
      by_cases b : (it (skp sg n (n - q) q) s).1 = true
      · rw [if_pos b]
        have := pall_cnt (sg := sg) (n := n) (it := it) f (k + 1) (it (skp sg n (n - q) q) s).2.1 (it (skp sg n (n - q) q) s).2.2
        omega
      · rw [if_neg b]
        exact Nat.le_add_right _ _
def NOK (N : Nat → Int32) : Prop := (∀ k, -99 ≤ (N k).toInt ∧ (N k).toInt ≤ 99) ∧ (∃ b, b ≤ 99 ∧ N 1 = nI b) ∧ ∃ b, b ≤ 99 ∧ N 3 = nI b
theorem updN_ne {N : Nat → Int32} {k m : Nat} {v : Int32} (h : ¬ m = k) : updN N k v m = N m := by
  unfold updN
  rw [if_neg h]
theorem updN_eq {N : Nat → Int32} {k : Nat} {v : Int32} : updN N k v k = v := by
  unfold updN
  rw [if_pos rfl]
theorem updN_bd {N : Nat → Int32} {k : Nat} {v : Int32} (h : ∀ k, -99 ≤ (N k).toInt ∧ (N k).toInt ≤ 99) (hv : -99 ≤ v.toInt ∧ v.toInt ≤ 99) : ∀ m, -99 ≤ (updN N k v m).toInt ∧ (updN N k v m).toInt ≤ 99 := fun m => by
  unfold updN
  by_cases e : m = k
  · rw [if_pos e]
    exact hv
  · rw [if_neg e]
    exact h m
theorem nV_pos {sg : Nat → Int32} {n q : Nat} (h : 1 ≤ nV sg n q) : ∃ b, b ≤ 99 ∧ nV sg n q = nI b := by
  have b := nV_bd sg n q
  rw [Int32.le_iff_toInt_le, show (1 : Int32).toInt = 1 by decide] at h
  exact ⟨(nV sg n q).toInt.natAbs, by omega, nI_nat _ (by omega)⟩
theorem li_ok {sg : Nat → Int32} {n : Nat} (q : Nat) (s : Nat → Int32) (h : NOK s) (e : (li sg n q s).1 = true) : NOK (li sg n q s).2.2 := by
  obtain ⟨h1, h2, h3⟩ := h
  have S : ∀ k, 4 ≤ k → (liS sg n k (q + 1) s).1 = true → NOK (liS sg n k (q + 1) s).2.2 := fun k hk e => by
    unfold liS at e ⊢
    by_cases o : nO sg n (q + 1) = true
    · rw [if_pos o]
      refine ⟨updN_bd h1 (nV_bd _ _ _), ?_, ?_⟩
      · dsimp only
        rw [updN_ne (by omega)]
        exact h2
      · dsimp only
        rw [updN_ne (by omega)]
        exact h3
    · rw [if_neg o] at e
      cases e
  have P : ∀ k, k = 0 ∨ k = 2 → (liP sg n k (q + 1) s).1 = true → NOK (liP sg n k (q + 1) s).2.2 := fun k hk e => by
    unfold liP at e ⊢
    by_cases a : nO sg n (q + 1) = true
    · rw [if_pos a] at e ⊢
      by_cases b : pas sg n 44 (nE sg n (q + 1)) = true
      · rw [if_pos b] at e ⊢
        by_cases c : nO sg n (nE sg n (q + 1) + 1) = true
        · rw [if_pos c] at e ⊢
          by_cases d : 1 ≤ nV sg n (nE sg n (q + 1) + 1)
          · rw [if_pos d]
            refine ⟨updN_bd (updN_bd h1 (nV_bd _ _ _)) (nV_bd _ _ _), ?_, ?_⟩
            · rcases hk with rfl | rfl
              · dsimp only
                rw [updN_eq]
                exact nV_pos d
              · dsimp only
                rw [updN_ne (by omega), updN_ne (by omega)]
                exact h2
            · rcases hk with rfl | rfl
              · dsimp only
                rw [updN_ne (by omega), updN_ne (by omega)]
                exact h3
              · dsimp only
                rw [updN_eq]
                exact nV_pos d
          · rw [if_neg d] at e
            cases e
        · rw [if_neg c] at e
          cases e
      · rw [if_neg b] at e
        cases e
    · rw [if_neg a] at e
      cases e
  unfold li at e ⊢
  by_cases c1 : sg q = 87
  · rw [if_pos c1] at e ⊢
    exact P 0 (Or.inl rfl) e
  · rw [if_neg c1] at e ⊢
    by_cases c2 : sg q = 72
    · rw [if_pos c2] at e ⊢
      exact P 2 (Or.inr rfl) e
    · rw [if_neg c2] at e ⊢
      by_cases c3 : sg q = 84
      · rw [if_pos c3] at e ⊢
        exact S 4 (by decide) e
      · rw [if_neg c3] at e ⊢
        by_cases c4 : sg q = 70
        · rw [if_pos c4] at e ⊢
          exact S 5 (by decide) e
        · rw [if_neg c4] at e ⊢
          by_cases c5 : sg q = 83
          · rw [if_pos c5] at e ⊢
            unfold liH at e ⊢
            by_cases a : shO sg n (q + 1) = true
            · rw [if_pos a] at e ⊢
              by_cases b : pas sg n 58 (q + 1 + 1) = true
              · rw [if_pos b] at e ⊢
                by_cases c : nO sg n (q + 1 + 1 + 1) = true
                · rw [if_pos c]
                  refine ⟨updN_bd h1 (nV_bd _ _ _), ?_, ?_⟩
                  · dsimp only
                    rw [updN_ne (by omega)]
                    exact h2
                  · dsimp only
                    rw [updN_ne (by omega)]
                    exact h3
                · rw [if_neg c] at e
                  cases e
              · rw [if_neg b] at e
                cases e
            · rw [if_neg a] at e
              cases e
          · rw [if_neg c5] at e
            cases e
theorem rL0_ok (sg : Nat → Int32) (n : Nat) : NOK (rL0 sg n).2.2.2 := pall_inv (fun q s h e => li_ok q s h e) 41 0 0 (fun _ => 0) ⟨fun _ => (by decide : -99 ≤ (0 : Int32).toInt ∧ (0 : Int32).toInt ≤ 99), ⟨0, by decide, rfl⟩, ⟨0, by decide, rfl⟩⟩
theorem rng3 (x : Int32) : (∃ j, j ≤ 3 ∧ x = nI j) ∨ (x < 0 ∨ nI 3 < x) := by
  rcases rng x 3 (by decide) with q | q
  · exact Or.inl q
  · exact Or.inr q
theorem lawcp_loop {l : Nat} (hl : l ≤ 1) : ∀ (r fuel k : Nat) (h : zM), MS h → r + k = 10 → r < fuel → f_X11_laws_46 fuel (nI l) (nI k) h = some (rI h 11 0 19, cpM h 42 0 k 44 0 (10 * l + k) r)
  | 0, fuel + 1, k, h, hM, e, hf => by
    unfold f_X11_laws_46
    rw [if_pos (show (10 : Int32) ≤ nI k from nI_le (a := 10) (by omega) (by omega)), cp_nil]
  | r + 1, fuel + 1, k, h, hM, e, hf => by
    have m27 := hM.2.2.2.2.2.2.2.2.2.2.2.2.1
    have e0 : (10 : Int32) * nI l + nI k = nI (10 * l + k) := by rw [lit 10, pk_mul, nI_add]
    unfold f_X11_laws_46
    rw [if_neg (show ¬ (10 : Int32) ≤ nI k from nI_ge (b := 10) (by omega) (by decide))]
    simp only [e0, hM.m20, m27, ixOk_nI (show 10 * l + k < 20 by omega) (by decide), ixOk_nI (show k < 10 by omega) (by decide), nI_clamp (show k < 2 ^ 31 by omega), nI_clamp (show 10 * l + k < 2 ^ 31 by omega), decide_true, Bool.true_and, Bool.and_true, if_true, nI_1]
    rw [lawcp_loop hl r fuel (k + 1) (wI h 44 0 (10 * l + k) (rI h 42 0 k)) hM (by omega) (by omega), rI_wI_ne (by decide), show 10 * l + (k + 1) = 10 * l + k + 1 from rfl, cp_step (by decide)]
theorem TW.tt {h : zM} (T : TW h) {j : Nat} (hj : j ≤ 3) : (rI h 36 0 j = -9999 ∧ rI h 9 j 0 = -1) ∨ ∃ k, TT h j k (fun i => rI h 25 j i) := by
  obtain ⟨s, c⟩ := T j (by omega)
  rcases s with q | ⟨k, hk, a, b⟩
  · exact Or.inl q
  · exact Or.inr ⟨k, hj, hk, b, a, fun _ _ => rfl, fun i hi => (c i hi).symm⟩
/-- the LAWS stand in both records -/
theorem law_inv {g g1 g2 : zM} {np n l i : Nat} {N : Nat → Int32} (G : InvN g np n) (A : AS g) (F : FR g) (D : FD g) (hl : l ≤ 1) (B : NB g i N) (ok : NOK N) (hi : i < cnM g 1) (e1 : g1 = wR g 30 0 l (some (1, i))) (o : On WX g1 g2) (B2 : NM2 g2 N) : Inv (cpM (wI g2 43 0 l 1) 42 0 0 44 0 (10 * l) 10) np n := by
  obtain ⟨hX, hM, hR, hT, hD, hP, hK, hL⟩ := G
  have rr : ∀ c i f, rR g2 c i f = rR g1 c i f := o.R
  have cc : ∀ c, cnM g2 c = cnM g1 c := o.cn
  have ll : ∀ c i f, rL g2 c i f = rL g1 c i f := fun c i f => by
    unfold rL
    rw [o.1]
  have r1 : ∀ c i f, c ≠ 30 → rR g1 c i f = rR g c i f := fun c i f hc => by
    rw [e1, rR_wR_ne (fun z => hc z.symm)]
  have c1 : ∀ c, cnM g1 c = cnM g c := fun c => by rw [e1]; rfl
  have i1 : ∀ c i f, rI g1 c i f = rI g c i f := fun c i f => by rw [e1]; rfl
  have l1 : ∀ c i f, rL g1 c i f = rL g c i f := fun c i f => by rw [e1]; rfl
  have I0 : ∀ c i f, c ≠ 44 → c ≠ 43 → WX c i f = false → rI (cpM (wI g2 43 0 l 1) 42 0 0 44 0 (10 * l) 10) c i f = rI g c i f := fun c i f h1 h2 h3 => by
    show (if c = 44 ∧ i = 0 ∧ 10 * l ≤ f ∧ f < 10 * l + 10 then _ else rI (wI g2 43 0 l 1) c i f) = _
    rw [if_neg (fun z => h1 z.1), rI_wI_ne (fun z => h2 z.symm), o.2 c i f h3, i1]
  have R0 : ∀ c i f, c ≠ 30 → rR (cpM (wI g2 43 0 l 1) 42 0 0 44 0 (10 * l) 10) c i f = rR g c i f := fun c i f hc => (rr c i f).trans (r1 c i f hc)
  have C0 : ∀ c, cnM (cpM (wI g2 43 0 l 1) 42 0 0 44 0 (10 * l) 10) c = cnM g c := fun c => (cc c).trans (c1 c)
  have L0 : ∀ c i f, rL (cpM (wI g2 43 0 l 1) 42 0 0 44 0 (10 * l) 10) c i f = rL g c i f := fun c i f => (ll c i f).trans (l1 c i f)
  have R30 : ∀ l', rR (cpM (wI g2 43 0 l 1) 42 0 0 44 0 (10 * l) 10) 30 0 l' = if l' = l then some (1, i) else rR g 30 0 l' := fun l' => by
    show rR g2 30 0 l' = _
    rw [rr, e1, rR_wR]
    by_cases z : l' = l
    · rw [if_pos ⟨rfl, rfl, z⟩, if_pos z]
    · rw [if_neg (fun y => z y.2.2), if_neg z]
  have I43 : ∀ l', rI (cpM (wI g2 43 0 l 1) 42 0 0 44 0 (10 * l) 10) 43 0 l' = if l' = l then 1 else rI g 43 0 l' := fun l' => by
    show rI (wI g2 43 0 l 1) 43 0 l' = _
    rw [rI_wI]
    by_cases z : l' = l
    · rw [if_pos ⟨rfl, rfl, z⟩, if_pos z]
    · rw [if_neg (fun y => z y.2.2), if_neg z, o.2 _ _ _ rfl, i1]
  have I44 : ∀ f, rI (cpM (wI g2 43 0 l 1) 42 0 0 44 0 (10 * l) 10) 44 0 f = if 10 * l ≤ f ∧ f < 10 * l + 10 then N (f - 10 * l) else rI g 44 0 f := fun f => by
    show (if 44 = 44 ∧ 0 = 0 ∧ 10 * l ≤ f ∧ f < 10 * l + 10 then rI (wI g2 43 0 l 1) 42 0 (0 + (f - 10 * l)) else rI (wI g2 43 0 l 1) 44 0 f) = _
    by_cases z : 10 * l ≤ f ∧ f < 10 * l + 10
    · rw [if_pos ⟨rfl, rfl, z⟩, if_pos z, rI_wI_ne (by decide), Nat.zero_add]
      exact B2 _ (by omega)
    · rw [if_neg (fun y => z y.2.2), if_neg z, rI_wI_ne (by decide), o.2 _ _ _ rfl, i1]
  generalize cpM (wI g2 43 0 l 1) 42 0 0 44 0 (10 * l) 10 = h at I0 R0 C0 L0 R30 I43 I44
  refine ⟨?_, ?_, hR.of (fun _ => I0 _ _ _ (by decide) (by decide) rfl) (fun _ => I0 _ _ _ (by decide) (by decide) rfl) (fun _ _ => I0 _ _ _ (by decide) (by decide) rfl) (fun _ => I0 _ _ _ (by decide) (by decide) rfl), hT.of (fun _ => I0 _ _ _ (by decide) (by decide) rfl) (fun _ => I0 _ _ _ (by decide) (by decide) rfl) (fun _ _ => I0 _ _ _ (by decide) (by decide) rfl) (fun _ => I0 _ _ _ (by decide) (by decide) rfl), hD.of (I0 _ _ _ (by decide) (by decide) rfl) (I0 _ _ _ (by decide) (by decide) rfl), A.of (I0 _ _ _ (by decide) (by decide) rfl) (I0 _ _ _ (by decide) (by decide) rfl), F.of (L0 _ _ _) (L0 _ _ _) (L0 _ _ _) (L0 _ _ _), D.of (I0 _ _ _ (by decide) (by decide) rfl) (I0 _ _ _ (by decide) (by decide) rfl) (fun _ => I0 _ _ _ (by decide) (by decide) rfl) (fun _ => I0 _ _ _ (by decide) (by decide) rfl), hP.of (I0 _ _ _ (by decide) (by decide) rfl) (I0 _ _ _ (by decide) (by decide) rfl) (C0 _) (fun _ => R0 _ _ _ (by decide)) (fun _ _ _ => I0 _ _ _ (by decide) (by decide) rfl) (fun _ => I0 _ _ _ (by decide) (by decide) rfl), hK.of (I0 _ _ _ (by decide) (by decide) rfl) (I0 _ _ _ (by decide) (by decide) rfl) (C0 _) (fun _ => R0 _ _ _ (by decide)) (fun _ _ _ => I0 _ _ _ (by decide) (by decide) rfl) (fun _ _ => R0 _ _ _ (by decide)) (fun _ => I0 _ _ _ (by decide) (by decide) rfl) (fun _ => I0 _ _ _ (by decide) (by decide) rfl) (fun _ => I0 _ _ _ (by decide) (by decide) rfl), ?_⟩
  · unfold XS
    simp only [R0 10 _ _ (by decide), R0 26 _ _ (by decide), R0 6 _ _ (by decide), R0 27 _ _ (by decide), R0 9 _ _ (by decide), R0 4 _ _ (by decide)]
    exact hX
  · unfold MS
    simp only [R0 11 _ _ (by decide)]
    exact hM
  · refine ⟨by rw [C0, C0]; exact hL.1, fun l' hl' => ?_⟩
    by_cases z : l' = l
    · subst z
      refine Or.inr ⟨i, by rw [R30, if_pos rfl], by rw [C0]; exact hi, by rw [R0 _ _ _ (by decide)]; exact B.1, by rw [I43, if_pos rfl], ?_, fun k hk => ?_⟩
      · obtain ⟨o1, ⟨b1, o2, o3⟩, ⟨b2, o4, o5⟩⟩ := ok
        refine ⟨fun k hk => ?_, ⟨b1, o2, ?_⟩, ⟨b2, o4, ?_⟩⟩
        · rw [I44, if_pos (by omega)]
          exact o1 _
        · rw [I44, if_pos (by omega), show 10 * l' + 1 - 10 * l' = 1 by omega]
          exact o3
        · rw [I44, if_pos (by omega), show 10 * l' + 3 - 10 * l' = 3 by omega]
          exact o5
      · rw [I0 _ _ _ (by decide) (by decide) rfl, B.2 k hk, I44, if_pos (by omega), show 10 * l' + k - 10 * l' = k by omega]
    · have q44 : ∀ k, k < 10 → rI h 44 0 (10 * l' + k) = rI g 44 0 (10 * l' + k) := fun k hk => by
        rw [I44, if_neg (by omega)]
      rcases hL.2 l' hl' with ⟨a1, a2⟩ | ⟨i', a1, a2, a3, a4, a5, a6⟩
      · exact Or.inl ⟨by rw [R30, if_neg z]; exact a1, by rw [I43, if_neg z]; exact a2⟩
      · refine Or.inr ⟨i', by rw [R30, if_neg z]; exact a1, by rw [C0]; exact a2, by rw [R0 _ _ _ (by decide)]; exact a3, by rw [I43, if_neg z]; exact a4, ?_, fun k hk => ?_⟩
        · obtain ⟨o1, o2, o3⟩ := a5
          exact ⟨fun k hk => by rw [q44 k hk]; exact o1 k hk, by rw [q44 1 (by decide)]; exact o2, by rw [q44 3 (by decide)]; exact o3⟩
        · rw [I0 _ _ _ (by decide) (by decide) rfl, q44 k hk]
          exact a6 k hk
theorem n4 : ¬ (-4 : Int32) = -9999 := by decide
theorem op_laws {h : zM} {np n : Nat} (hI : Inv h np n) (x y : Int32) : Okk h (f_X10_laws x y) (f_X11_laws x y) := by
  have H := hI.N
  have hX := H.X
  have hM := H.M
  obtain ⟨-, -, -, -, -, hA, hF, hF2, -⟩ := id hI
  rcases rng2 x with ⟨l, hl, rfl⟩ | hx
  · rcases rng3 y with ⟨j, hj, rfl⟩ | hy
    · rcases H.T.tt hj with ⟨t1, t2⟩ | ⟨k, T⟩
      · refine Okk.fnd (f := 1) hI ?_ ?_
        · unfold f_X10_laws
          simp [textAt_in hX hj, wi_T (l_in hl), clR_s, memT1, miss_T (Or.inr rfl) t2, found_1 hX]
        · have t1' : rI (fndX h 1) 36 0 j = -9999 := t1
          unfold f_X11_laws
          simp [isLaws_T (l_in hl), askT_F hM.fndX hj t1', n3]
      · generalize (fun i => rI h 25 j i) = sg at T
        obtain ⟨-, k40, s9, s36, s25, s37⟩ := id T
        -- ThinAir
        have cn := H.L.1
        have c5 : cnM (lwN h) 5 = cnM h 5 := rfl
        have R0 := rdN_rd (h := lwN h) (j := j) (k := k) (sg := sg) k40 (fun i hi => by rw [lwN_fr.I rfl (by decide)]; exact s25 i hi)
        have B0 := (lwN_nb cn).fr (rdN_fr (h := lwN h) (j := j) (k := k)) (show cnM h 1 < cnM h 1 + 1 by omega) (show cnM h 1 < cnM h 20 + 1 by omega)
        obtain ⟨g, a1, a2, a3, a4⟩ := readL R0 B0
        have Fg : Fr h g := (lwN_fr.tr rdN_fr).on20 a2 (by omega)
        have Kg : Kp h g := (lwN_kp.tr rdN_kp).on20 a2
        have s9' : rI (lwN h) 9 j 0 = nI k := by
          rw [lwN_fr.I rfl (by decide)]
          exact s9
        have i1 := lwN_eq h
        have i2 := rdN_eq (lwN_fr.XS hX) hj s9'
        have nc : ncM g = ncM h + 3 := a2.nc
        have ns : nsM g = nsM h + 14 := a2.ns
        have x4 := (Fg.XS hX).2.2.2.2.1
        by_cases ok : (rL0 sg k).1 = true
        · rw [if_pos ok] at a1
          have c41 : (rL0 sg k).2.1 ≤ 0 + 41 := pall_cnt 41 0 0 (fun _ => 0)
          have q9 : ¬ nI (rL0 sg k).2.1 = -9999 := nI_n9 (by omega)
          have B := a4 ok
          have M1 : MS (wR g 30 0 l (some (1, cnM h 1))) := MS.wR (Fg.MS hM) (by decide)
          have T0 : TT g j k sg := T.fr Fg
          have T1 : TT (wR g 30 0 l (some (1, cnM h 1))) j k sg := T0
          obtain ⟨g2, b1, b2, b3, b4⟩ := readLM M1 T1
          rw [if_pos ok] at b1
          have m26 := (b2.MS M1).2.2.2.2.2.2.2.2.2.2.2.1
          have L := lawcp_loop hl 10 1000 0 (wI g2 43 0 l 1) (b2.MS M1) (by decide) (by decide)
          rw [nI_0, rI_wI_ne (by decide), b3, Nat.add_zero] at L
          have hi : cnM h 1 < cnM g 1 := by
            have e1 : cnM g 1 = cnM h 1 + 1 := a2.cn 1
            omega
          have sc : Scr h (wR g 30 0 l (some (1, cnM h 1))) := Scr.wR Fg.scr
          have sc2 : Scr h (wI g2 43 0 l 1) := Scr.wI (sc.trans b2.frM.scr) (by decide)
          have nc2 : ncM g2 = ncM g := b2.nc
          have ns2 : nsM g2 = nsM g := b2.ns
          refine ⟨nI (rL0 sg k).2.1, wR g 30 0 l (some (1, cnM h 1)), cpM (wI g2 43 0 l 1) 42 0 0 44 0 (10 * l) 10, ?_, ?_, sc, ⟨sc2.1, sc2.2⟩, ⟨np, n, law_inv (Fg.N H) (Kg.AS hA) (Kg.FR hF) (Kg.FD hF2) hl B (rL0_ok sg k) hi rfl b2 (b4 ok)⟩, ?_, ?_⟩
          · unfold f_X10_laws
            simp [textAt_in hX hj, wi_T (l_in hl), clR_s, memT1, miss_F (Or.inr rfl) k40 s9, i1, i2, a1, q9, x4, ixOk_nI (show l < 2 by omega) (by decide), nI_clamp (show l < 2 ^ 31 by omega)]
          · unfold f_X11_laws
            simp [isLaws_T (l_in hl), askT_T M1 hj k40 T1.2.2.2.1, b1, m26, ixOk_nI (show l < 2 by omega) (by decide), nI_clamp (show l < 2 ^ 31 by omega), L]
          · show ncM g2 ≤ _
            omega
          · show nsM g2 ≤ _
            omega
        · rw [if_neg ok] at a1
          obtain ⟨g2, b1, b2, b3, b4⟩ := readLM (Fg.MS hM) (T.fr Fg)
          rw [if_neg ok] at b1
          have q9 : ¬ nI (rL0 sg k).2.2.1 = -9999 := nI_n9 (by have := a3.2.2.2.2; omega)
          refine Okk.qt (a := -4) (h1 := g) (h2 := g2) hI ?_ ?_ Fg Kg b2.frM b2.kpM ?_ ?_
          · unfold f_X10_laws
            simp [textAt_in hX hj, wi_T (l_in hl), clR_s, memT1, miss_F (Or.inr rfl) k40 s9, i1, i2, a1]
          · unfold f_X11_laws
            simp [isLaws_T (l_in hl), askT_T (Fg.MS hM) hj k40 (T.fr Fg).2.2.2.1, b1, q9]
          · have := b2.nc
            omega
          · have := b2.ns
            omega
    · refine Okk.same hI (a := -1) ?_ ?_
      · unfold f_X10_laws
        simp [textAt_out hy, wi_T (l_in hl)]
      · unfold f_X11_laws
        simp [isLaws_T (l_in hl), askT_out hy, m1n]
  · refine Okk.same hI (a := -1) ?_ ?_
    · rcases rng3 y with ⟨j, hj, rfl⟩ | hy
      · unfold f_X10_laws
        simp [textAt_in hX hj, wi_F hx]
      · unfold f_X10_laws
        simp [textAt_out hy, wi_F hx]
    · unfold f_X11_laws
      simp [isLaws_F hx]
