/-! the best of each PERSON -/
def pe (h : zM) (a : Nat) : Nat := (rI h 2 a 0).toNatClampNeg
theorem InvN.pe {h : zM} {np n a : Nat} (H : InvN h np n) (ha : a < n) : rI h 2 a 0 = nI (pe h a) ∧ pe h a < 12 := by
  obtain ⟨p, hp, e⟩ := (H.b ha).1
  unfold _root_.Jvm.Pilot.CThinAirLaw_law_r6155_d9ef75.pe
  rw [e, nI_clamp (by omega)]
  exact ⟨rfl, by omega⟩
theorem pe_fr {h h' : zM} (F : Fr h h') : pe h' = pe h := by
  funext a
  unfold pe
  rw [F.I rfl (by decide)]
def st (p : Nat → Nat) : List Nat → Nat → Option Nat
  | [], _ => none
  | a :: t, x => if p a = x then some t.length else st p t x
def bst (p : Nat → Nat) : List Nat → List Nat
  | [] => []
  | a :: t => if st p (bst p t) (p a) = none then a :: bst p t else bst p t
theorem bst_len {p : Nat → Nat} : ∀ (L : List Nat), (bst p L).length ≤ L.length
  | [] => Nat.le_refl _
  | a :: t => by
    unfold bst
    have := bst_len (p := p) t
    split
    · simp only [List.length_cons]
      omega
    · simp only [List.length_cons]
      omega
theorem bst_mem {p : Nat → Nat} {x : Nat} : ∀ (L : List Nat), x ∈ bst p L → x ∈ L
  | [], h => h
  | a :: t, h => by
    unfold bst at h
    split at h
    · rcases List.mem_cons.mp h with e | e
      · exact List.mem_cons.mpr (Or.inl e)
      · exact List.mem_cons.mpr (Or.inr (bst_mem t e))
    · exact List.mem_cons.mpr (Or.inr (bst_mem t h))
theorem bst_srt {p : Nat → Nat} {W : Nat → Int32} : ∀ (L : List Nat), Srt W L → Srt W (bst p L)
  | [], _ => trivial
  | a :: t, h => by
    unfold bst
    split
    · exact ⟨fun b hb => h.1 b (bst_mem t hb), bst_srt t h.2⟩
    · exact bst_srt t h.2
theorem st_lt {p : Nat → Nat} {x k : Nat} : ∀ (L : List Nat), st p L x = some k → k < L.length
  | [], h => by cases h
  | a :: t, h => by
    unfold st at h
    split at h
    · cases h
      simp
    · have := st_lt t h
      simp only [List.length_cons]
      omega
def sv (d : Nat) (o : Option Nat) : Int32 := match o with | none => nI d | some i => nI i
theorem drop_s {L : List Nat} {k : Nat} (hk : k < L.length) : L.drop k = L[k] :: L.drop (k + 1) := List.drop_eq_getElem_cons hk
theorem keep_loop {h : zM} {np n r : Nat} {W : Nat → Int32} {L : List Nat} (H : InvN h np n) (hr : r < 2) (hn : ∀ a, a ∈ L → a < n) (h40 : L.length ≤ 40) (K : RK h r W L) : ∀ (k fuel : Nat) (g : zM), k ≤ L.length → k < fuel → Fr h g → rI g 4 r 3 = nI L.length → Lf (fun i => rI g 21 r i) nI (bst (pe h) (L.drop k)) → Lf (fun i => rI g 22 r i) W (bst (pe h) (L.drop k)) → (∀ j, L.length - k ≤ j → rI g 21 r j = rI h 21 r j ∧ rI g 22 r j = rI h 22 r j) → (∀ x, x < 12 → rI g 23 r x = sv 99 (st (pe h) (bst (pe h) (L.drop k)) x)) → ∃ g', f_X4_keepBestOfEach_13 fuel (some (4, r)) (some (29, 0)) (nI (bst (pe h) (L.drop k)).length) (nI (L.length - k)) g = some g' ∧ On (WR r) g g' ∧ RK g' r W (bst (pe h) L) ∧ ∀ x, x < 12 → rI g' 23 r x = sv 99 (st (pe h) (bst (pe h) L) x)
  | 0, fuel + 1, g, hk, hf, F, hsz, A, B, C, D => by
    rw [List.drop_zero] at A B D ⊢
    refine ⟨wI g 4 r 3 (nI (bst (pe h) L).length), ?_, On.rf.wI (WR_4 r), ⟨by rw [rI_wI, if_pos ⟨rfl, rfl, rfl⟩], A.congr (fun i _ => rI_wI_ne (by decide)), B.congr (fun i _ => rI_wI_ne (by decide))⟩, fun x hx => by rw [rI_wI_ne (by decide)]; exact D x hx⟩
    unfold f_X4_keepBestOfEach_13
    rw [clR_s, ixR_s, if_pos (by decide), hsz, if_pos (nI_le (by omega) (by omega)), if_pos (by decide)]
  | k + 1, fuel + 1, g, hk, hf, F, hsz, A, B, C, D => by
    have G := F.N H
    have RFg := G.X.rf hr
    have kl : k < L.length := by omega
    have ha : L[k] < n := hn _ (List.getElem_mem kl)
    have d := drop_s kl
    have i0 : L.length - (k + 1) = L.length - 1 - k := by omega
    have i1 : L.length - k = L.length - (k + 1) + 1 := by omega
    have w21 : rI g 21 r (L.length - (k + 1)) = nI (L[k]) := by
      rw [(C _ (Nat.le_refl _)).1, i0]
      exact Lf.get K.2.1 kl
    have w22 : rI g 22 r (L.length - (k + 1)) = rI h 22 r (L.length - (k + 1)) := (C _ (Nat.le_refl _)).2
    have w22' : rI g 22 r (L.length - (k + 1)) = W (L[k]) := by
      rw [w22, i0]
      exact Lf.get K.2.2 kl
    obtain ⟨pa, pb⟩ := H.pe ha
    have pa' : rI g 2 (L[k]) 0 = nI (pe h (L[k])) := by
      rw [F.I rfl (by decide)]
      exact pa
    have lt := H.lt ha
    have bl := bst_len (p := pe h) (L.drop (k + 1))
    rw [List.length_drop] at bl
    have ix29 : ixOk (aln 29) (nI (L[k])) = true := ixOk_nI (n := 40) lt (by decide)
    have ak : memN [7] (akd 29) = true := rfl
    have m29 := G.m29 ha
    have E : bst (pe h) (L.drop k) = if st (pe h) (bst (pe h) (L.drop (k + 1))) (pe h (L[k])) = none then L[k] :: bst (pe h) (L.drop (k + 1)) else bst (pe h) (L.drop (k + 1)) := by rw [d]; rfl
    have sea := D (pe h (L[k])) pb
    generalize hB : bst (pe h) (L.drop (k + 1)) = B0 at A B D bl E sea
    generalize hi : L.length - (k + 1) = ii at *
    by_cases c : st (pe h) B0 (pe h (L[k])) = none
    · rw [if_pos c] at E
      rw [c] at sea
      have sea' : rI g 23 r (pe h (L[k])) = 99 := sea
      have q23 : ∀ C I f, C ≠ 23 → rI (wI g 23 r (pe h (L[k])) (nI B0.length)) C I f = rI g C I f := fun C I f hC => rI_wI_ne hC.symm
      have v21 : rI (wI g 23 r (pe h (L[k])) (nI B0.length)) 21 r ii = nI (L[k]) := by rw [q23 _ _ _ (by decide)]; exact w21
      have v22 : rI (wI (wI g 23 r (pe h (L[k])) (nI B0.length)) 21 r B0.length (nI (L[k]))) 22 r ii = W (L[k]) := by rw [rI_wI_ne (by decide), q23 _ _ _ (by decide)]; exact w22'
      have r21 : ∀ j, ¬ j = B0.length → rI (wI (wI (wI g 23 r (pe h (L[k])) (nI B0.length)) 21 r B0.length (nI (L[k]))) 22 r B0.length (W (L[k]))) 21 r j = rI g 21 r j := fun j hj => by
        rw [rI_wI_ne (by decide), rI_wI_nf (fun z => hj z.2.symm), q23 _ _ _ (by decide)]
      have r22 : ∀ j, ¬ j = B0.length → rI (wI (wI (wI g 23 r (pe h (L[k])) (nI B0.length)) 21 r B0.length (nI (L[k]))) 22 r B0.length (W (L[k]))) 22 r j = rI g 22 r j := fun j hj => by
        rw [rI_wI_nf (fun z => hj z.2.symm), rI_wI_ne (by decide), q23 _ _ _ (by decide)]
      have o : On (WR r) g (wI (wI (wI g 23 r (pe h (L[k])) (nI B0.length)) 21 r B0.length (nI (L[k]))) 22 r B0.length (W (L[k]))) := ((On.rf.wI (WR_23 r _)).wI (WR_21 r _)).wI (WR_22 r _)
      obtain ⟨g', e1, e2, e3, e4⟩ := keep_loop H hr hn h40 K k fuel (wI (wI (wI g 23 r (pe h (L[k])) (nI B0.length)) 21 r B0.length (nI (L[k]))) 22 r B0.length (W (L[k]))) (by omega) (by omega) (F.tr o.frR) (by rw [rI_wI_ne (by decide), rI_wI_ne (by decide), q23 _ _ _ (by decide)]; exact hsz) (by
        rw [E]
        refine ⟨?_, A.congr (fun i hi => r21 i (by omega))⟩
        show rI _ 21 r B0.length = _
        rw [rI_wI_ne (by decide), rI_wI, if_pos ⟨rfl, rfl, rfl⟩]) (by
        rw [E]
        refine ⟨?_, B.congr (fun i hi => r22 i (by omega))⟩
        show rI _ 22 r B0.length = _
        rw [rI_wI, if_pos ⟨rfl, rfl, rfl⟩]) (fun j hj => by
        rw [r21 j (by omega), r22 j (by omega)]
        exact C j (by omega)) (fun x hx => by
        rw [E, rI_wI_ne (by decide), rI_wI_ne (by decide), rI_wI]
        unfold st
        by_cases y : pe h (L[k]) = x
        · rw [if_pos ⟨rfl, rfl, y.symm⟩, if_pos y]
          rfl
        · rw [if_neg (fun z => y z.2.2.symm), if_neg y]
          exact D x hx)
      rw [E, i1] at e1
      refine ⟨g', ?_, o.tr e2, e3, e4⟩
      unfold f_X4_keepBestOfEach_13 f_X4_keepBestOfEach_81
      rw [clR_s, ixR_s, if_pos (by decide), hsz, if_neg (nI_ge (show ii < L.length by omega) (by omega))]
      simp -implicitDefEqProofs only [clR_s, ixR_s, memT1, RFg.1, RFg.2.1, RFg.2.2, ixOk_nI (show ii < 40 by omega) (by decide), ixOk_nI (show B0.length < 40 by omega) (by decide), nI_clamp (show ii < 2 ^ 31 by omega), nI_clamp (show B0.length < 2 ^ 31 by omega), w21, nI_clamp (show L[k] < 2 ^ 31 by omega), m29, pa', ixOk_nI pb (by decide), nI_clamp (show pe h (L[k]) < 2 ^ 31 by omega), ix29, ak, decide_true, Bool.true_and, Bool.and_true, if_true, sea', not_true_eq_false, if_false, v21, v22, nI_1]
      exact e1
    · rw [if_neg c] at E
      obtain ⟨q, hq⟩ : ∃ q, st (pe h) B0 (pe h (L[k])) = some q := by
        cases y : st (pe h) B0 (pe h (L[k])) with
        | none => exact absurd y c
        | some q => exact ⟨q, rfl⟩
      have ql := st_lt B0 hq
      rw [hq] at sea
      have sea' : rI g 23 r (pe h (L[k])) = nI q := sea
      have q99 : ¬ nI q = 99 := fun z => by
        have := (nI_eq (a := q) (b := 99) (by omega) (by decide)).mp z
        omega
      obtain ⟨g', e1, e2, e3, e4⟩ := keep_loop H hr hn h40 K k fuel g (by omega) (by omega) F hsz (by rw [E]; exact A) (by rw [E]; exact B) (fun j hj => C j (by omega)) (fun x hx => by rw [E]; exact D x hx)
      rw [E, i1] at e1
      refine ⟨g', ?_, e2, e3, e4⟩
      unfold f_X4_keepBestOfEach_13 f_X4_keepBestOfEach_81
      rw [clR_s, ixR_s, if_pos (by decide), hsz, if_neg (nI_ge (show ii < L.length by omega) (by omega))]
      simp -implicitDefEqProofs only [clR_s, ixR_s, memT1, RFg.1, RFg.2.2, ixOk_nI (show ii < 40 by omega) (by decide), nI_clamp (show ii < 2 ^ 31 by omega), w21, nI_clamp (show L[k] < 2 ^ 31 by omega), m29, pa', ixOk_nI pb (by decide), nI_clamp (show pe h (L[k]) < 2 ^ 31 by omega), ix29, ak, decide_true, Bool.true_and, Bool.and_true, if_true, sea', q99, not_false_eq_true, nI_1]
      exact e1
theorem fil23_on {g : zM} {r : Nat} : On (WR r) g (fil g 23 r 0 12 99) := ⟨rfl, fun c i f e => by
  rw [rI_fil, if_neg]
  rintro ⟨rfl, rfl, -, -⟩
  rw [WR_23] at e
  cases e⟩
theorem keep_eq {h : zM} {np n r : Nat} {W : Nat → Int32} {L : List Nat} (H : InvN h np n) (hr : r < 2) (hn : ∀ a, a ∈ L → a < n) (h40 : L.length ≤ 40) (K : RK h r W L) : ∃ g', f_X4_keepBestOfEach (some (4, r)) (some (29, 0)) h = some g' ∧ On (WR r) h g' ∧ RK g' r W (bst (pe h) L) ∧ ∀ x, x < 12 → rI g' 23 r x = sv 99 (st (pe h) (bst (pe h) L) x) := by
  have RFh := H.X.rf hr
  have o : On (WR r) h (fil h 23 r 0 12 99) := fil23_on
  have I : ∀ c i f, c ≠ 23 → rI (fil h 23 r 0 12 99) c i f = rI h c i f := fun c i f hc => by
    rw [rI_fil, if_neg (fun z => hc z.1)]
  have dl : L.drop L.length = [] := List.drop_length
  obtain ⟨g', e1, e2, e3, e4⟩ := keep_loop H hr hn h40 K L.length 1000 (fil h 23 r 0 12 99) (Nat.le_refl _) (by omega) o.frR (by rw [I _ _ _ (by decide)]; exact K.1) (by rw [dl]; trivial) (by rw [dl]; trivial) (fun j _ => ⟨I _ _ _ (by decide), I _ _ _ (by decide)⟩) (fun x hx => by
    rw [dl, rI_fil, if_pos ⟨rfl, rfl, Nat.zero_le _, hx⟩]
    rfl)
  rw [dl, Nat.sub_self] at e1
  refine ⟨g', ?_, o.tr e2, e3, e4⟩
  have ff := fillI_eq (c := 23) (i := r) (v := 99) rfl (by decide) h
  rw [show aln 23 = 12 from rfl] at ff
  unfold f_X4_keepBestOfEach
  simp -implicitDefEqProofs only [clR_s, ixR_s, memT1, RFh.2.2, decide_true, Bool.true_and, Bool.and_true, if_true, ff, Option.bind_some]
  exact e1
/-! the reference's list -/
def WG (C I F : Nat) : Bool := Nat.beq C 45 || (Nat.beq C 11 && (Nat.beq I 0 && Nat.beq F 28))
theorem WG_rl (c i f : Nat) (e : rl c f = true) : WG c i f = false := by
  have h2 : ¬ c = 45 := by rintro rfl; cases e
  unfold WG
  rw [beqF h2]
  by_cases c11 : c = 11
  · subst c11
    have z : rl 11 f = memN [5, 11, 13] f := rfl
    rw [z] at e
    have q : f = 5 ∨ f = 11 ∨ f = 13 := by simpa [memN] using e
    rw [beqF (show ¬ f = 28 by omega)]
    simp
  · rw [beqF c11]
    rfl
theorem On.frG {h h' : zM} (o : On WG h h') : Fr h h' := Fr.rf.on o (fun c i f e _ => WG_rl c i f e)
theorem On.kpG {h h' : zM} (o : On WG h h') : Kp h h' := Kp.rf.on o rfl rfl rfl rfl (fun _ => rfl) (fun _ => rfl)
theorem RM.onG {h h' : zM} {s : RS} (H : RM h s) (o : On WG h h') : RM h' s := by
  unfold RM
  rw [o.2 11 0 21 rfl, o.2 11 0 22 rfl, o.2 11 0 23 rfl, o.2 11 0 24 rfl, o.2 11 0 25 rfl]
  exact H
theorem MS.m29 {h : zM} (H : MS h) : rR h 11 0 29 = some (45, 0) := H.2.2.2.2.2.2.2.2.2.2.2.2.2.1
theorem MS.m30 {h : zM} (H : MS h) : rR h 11 0 30 = some (46, 0) := H.2.2.2.2.2.2.2.2.2.2.2.2.2.2
def LM (h : zM) (L : List Nat) : Prop := rI h 11 0 28 = nI L.length ∧ Lf (fun i => rI h 45 0 i) nI L
theorem sl72 {g : zM} {k m : Nat} {x1 : Int32} (K : Int32 → Int32 → zM → Option zM) (M : MS g) (hk : k < 40) : f_X11_setList_72 K x1 (nI m) (nI k) g = K x1 (nI (m + 1)) (wI (wI g 45 0 k (nI m)) 11 0 28 (rI g 11 0 28 + 1)) := by
  have e : rI (wI g 45 0 k (nI m)) 11 0 28 = rI g 11 0 28 := rI_wI_ne (by decide)
  unfold f_X11_setList_72 f_X11_setList_89
  simp -implicitDefEqProofs only [M.m29, ixOk_nI hk (by decide), nI_clamp (show k < 2 ^ 31 by omega), decide_true, Bool.true_and, Bool.and_true, if_true, e, nI_1]
theorem sl_loop {h : zM} {np n m il : Nat} {s : RS} {N : Nat → Int32} {x1 : Int32} (H : InvN h np n) (hm : m < n) (V : s.2.2.2.2.2.2.2 = true → LV h 0 il N) (K : Int32 → Int32 → zM → Option zM) : ∀ (t : List Nat) (fuel : Nat) (g : zM), Fr h g → RM g s → (∀ a, a ∈ t → a < n) → t.length < 40 → t.length < fuel → Lf (fun i => rI g 45 0 i) nI t → ∃ g', f_X11_setList_28 K fuel x1 (nI m) (nI t.length) g = K x1 (nI (m + 1)) g' ∧ On WG g g' ∧ Lf (fun i => rI g' 45 0 i) nI (insR (wr h s N) m t) ∧ (∀ i, t.length < i → rI g' 45 0 i = rI g 45 0 i) ∧ rI g' 11 0 28 = rI g 11 0 28 + 1
  | t, fuel + 1, g, F, R, hn, h40, hf, A => by
    have G := F.N H
    have fin : ∀ (u : List Nat), u.length = t.length → Lf (fun i => rI g 45 0 i) nI u → ∃ g', f_X11_setList_72 K x1 (nI m) (nI t.length) g = K x1 (nI (m + 1)) g' ∧ On WG g g' ∧ Lf (fun i => rI g' 45 0 i) nI (m :: u) ∧ (∀ i, t.length < i → rI g' 45 0 i = rI g 45 0 i) ∧ rI g' 11 0 28 = rI g 11 0 28 + 1 := fun u hu A => by
      have q : ∀ i, ¬ i = t.length → rI (wI (wI g 45 0 t.length (nI m)) 11 0 28 (rI g 11 0 28 + 1)) 45 0 i = rI g 45 0 i := fun i hi => by
        rw [rI_wI_ne (by decide), rI_wI_nf (fun z => hi z.2.symm)]
      refine ⟨_, sl72 K G.M h40, (On.rf.wI rfl).wI rfl, ⟨?_, A.congr (fun i hi => q i (by omega))⟩, fun i hi => q i (by omega), ?_⟩
      · show rI _ 45 0 u.length = nI m
        rw [hu, rI_wI_ne (by decide), rI_wI, if_pos ⟨rfl, rfl, rfl⟩]
      · rw [rI_wI, if_pos ⟨rfl, rfl, rfl⟩]
    match t, hn, h40, hf, A, fin with
    | [], hn, h40, hf, A, fin =>
      obtain ⟨g', e1, e2⟩ := fin [] rfl trivial
      refine ⟨g', ?_, e2⟩
      unfold f_X11_setList_28
      rw [if_pos (by decide)]
      exact e1
    | a :: t', hn, h40, hf, A, fin =>
      have hl : (a :: t').length = t'.length + 1 := rfl
      have a1 : rI g 45 0 t'.length = nI a := A.1
      have an : a < n := hn a (by simp)
      have Wa := mWr G an R (fun v => (V v).fr F)
      have Wm := mWr G hm R (fun v => (V v).fr F)
      rw [wr_fr F] at Wa Wm
      by_cases c : wr h s N a < wr h s N m
      · have I : insR (wr h s N) m (a :: t') = a :: insR (wr h s N) m t' := by
          rw [insR, if_pos c]
        rw [I]
        have o : On WG g (wI g 45 0 (t'.length + 1) (nI a)) := On.rf.wI rfl
        have q : ∀ i, ¬ i = t'.length + 1 → rI (wI g 45 0 (t'.length + 1) (nI a)) 45 0 i = rI g 45 0 i := fun i hi => rI_wI_nf (fun z => hi z.2.symm)
        obtain ⟨g', e1, e2, e3, e4, e5⟩ := sl_loop (x1 := x1) H hm V K t' fuel (wI g 45 0 (t'.length + 1) (nI a)) (F.tr o.frG) (R.onG o) (fun b hb => hn b (List.mem_cons_of_mem _ hb)) (by omega) (by omega) (A.2.congr (fun i hi => q i (by omega)))
        refine ⟨g', ?_, o.tr e2, ⟨?_, e3⟩, fun i hi => ?_, ?_⟩
        · unfold f_X11_setList_28
          rw [hl, if_neg (nI_nle (by omega) (by omega))]
          simp -implicitDefEqProofs only [nI_pred, G.M.m29, ixOk_nI (show t'.length < 40 by omega) (by decide), ixOk_nI (show t'.length + 1 < 40 by omega) (by decide), nI_clamp (show t'.length < 2 ^ 31 by omega), nI_clamp (show t'.length + 1 < 2 ^ 31 by omega), decide_true, Bool.true_and, Bool.and_true, if_true, a1, Wa, Wm, Option.bind_some, Int32.not_le.mpr c, if_false, m1]
          exact e1
        · show rI g' 45 0 (insR (wr h s N) m t').length = nI a
          rw [insR_len, e4 _ (by omega), rI_wI, if_pos ⟨rfl, rfl, rfl⟩]
        · rw [e4 i (by omega), q i (by omega)]
        · rw [e5, rI_wI_ne (by decide)]
      · have I : insR (wr h s N) m (a :: t') = m :: a :: t' := by
          rw [insR, if_neg c]
        rw [I]
        obtain ⟨g', e1, e2⟩ := fin (a :: t') rfl A
        refine ⟨g', ?_, e2⟩
        unfold f_X11_setList_28
        rw [hl, if_neg (nI_nle (by omega) (by omega))]
        simp -implicitDefEqProofs only [nI_pred, G.M.m29, ixOk_nI (show t'.length < 40 by omega) (by decide), nI_clamp (show t'.length < 2 ^ 31 by omega), decide_true, Bool.true_and, Bool.and_true, if_true, a1, Wa, Wm, Option.bind_some, Int32.not_lt.mp c]
        exact e1
theorem sf_loop {h : zM} {np n il : Nat} {s : RS} {N : Nat → Int32} {x1 : Int32} (H : InvN h np n) (V : s.2.2.2.2.2.2.2 = true → LV h 0 il N) : ∀ (k fuel m : Nat) (g : zM) (L : List Nat), k + m = n → k < fuel → Fr h g → RM g s → L.length ≤ m → (∀ a, a ∈ L → a < n) → LM g L → ∃ g', f_X11_setList_7 fuel x1 (nI m) g = f_X11_setList_102 1000 x1 0 0 0 g' ∧ On WG g g' ∧ LM g' (fl (ltB h s) (wr h s N) k m L)
  | 0, fuel + 1, m, g, L, e, hf, F, R, hl, hn, K => by
    have n40 := H.n40
    refine ⟨g, ?_, On.rf, K⟩
    unfold f_X11_setList_7
    rw [(F.N H).mk13, if_pos (nI_le (by omega) (by omega))]
  | k + 1, fuel + 1, m, g, L, e, hf, F, R, hl, hn, K => by
    have n40 := H.n40
    have G := F.N H
    have hm : m < n := by omega
    have cl := mLet G hm R
    rw [ltB_fr F] at cl
    rw [fl]
    by_cases c : ltB h s m = true
    · rw [if_pos c]
      rw [c] at cl
      obtain ⟨g1, a1, a2, a3, a4, a5⟩ := sl_loop (x1 := x1) (N := N) H hm V (f_X11_setList_7 fuel) L 1000 g F R hn (by omega) (by omega) K.2
      obtain ⟨g', b1, b2, b3⟩ := sf_loop (x1 := x1) (N := N) H V k fuel (m + 1) g1 (insR (wr h s N) m L) (by omega) (by omega) (F.tr a2.frG) (R.onG a2) (by rw [insR_len]; omega) (fun a ha => by
        rcases (insR_mem L).mp ha with rfl | ha
        · exact hm
        · exact hn a ha) ⟨by rw [a5, K.1, nI_1, insR_len], a3⟩
      refine ⟨g', ?_, a2.tr b2, b3⟩
      unfold f_X11_setList_7
      rw [G.mk13, if_neg (nI_ge hm (by omega)), cl, Option.bind_some, if_neg (show ¬ b01 true = 0 by decide), K.1, a1]
      exact b1
    · rw [if_neg c]
      have c' : ltB h s m = false := by
        cases y : ltB h s m with
        | false => rfl
        | true => exact absurd y c
      rw [c'] at cl
      obtain ⟨g', b1, b2, b3⟩ := sf_loop (x1 := x1) (N := N) H V k fuel (m + 1) g L (by omega) (by omega) F R (by omega) hn K
      refine ⟨g', ?_, b2, b3⟩
      unfold f_X11_setList_7 f_X11_setList_89
      rw [G.mk13, if_neg (nI_ge hm (by omega)), cl, Option.bind_some, if_pos (show b01 false = 0 by decide), nI_1]
      exact b1
theorem bt_or1 {x : Int32} {w p : Nat} (hw : w < 32) (hp : p < 32) : bt (x ||| (1 <<< (nI w &&& 31))) p = (bt x p || decide (w = p)) := by
  rw [b_or, b_shl w hw 1 hp]
  congr 1
  by_cases e : w ≤ p
  · rw [b_1 _ (by omega)]
    by_cases y : w = p
    · simp [y]
    · simp [y, e]
      omega
  · simp [e]
    omega
theorem sk_loop {h : zM} {np n : Nat} {L : List Nat} {o0 : zM} (H : InvN h np n) (hn : ∀ a, a ∈ L → a < n) (h40 : L.length ≤ 40) (K : LM o0 L) : ∀ (k fuel : Nat) (g : zM) (x : Int32), k ≤ L.length → k < fuel → Fr h g → rI g 11 0 28 = nI L.length → Lf (fun i => rI g 45 0 i) nI (bst (pe h) (L.drop k)) → (∀ j, L.length - k ≤ j → rI g 45 0 j = rI o0 45 0 j) → (∀ p, p < 12 → bt x p = (st (pe h) (bst (pe h) (L.drop k)) p).isSome) → ∃ g', f_X11_setList_102 fuel 1 (nI (bst (pe h) (L.drop k)).length) x (nI (L.length - k)) g = some g' ∧ On WG g g' ∧ LM g' (bst (pe h) L)
  | 0, fuel + 1, g, x, hk, hf, F, hsz, A, C, D => by
    rw [List.drop_zero] at A D ⊢
    refine ⟨wI g 11 0 28 (nI (bst (pe h) L).length), ?_, On.rf.wI rfl, ⟨by rw [rI_wI, if_pos ⟨rfl, rfl, rfl⟩], A.congr (fun i _ => rI_wI_ne (by decide))⟩⟩
    unfold f_X11_setList_102 f_X11_setList_167
    rw [hsz, if_pos (nI_le (by omega) (by omega)), if_neg (by decide)]
  | k + 1, fuel + 1, g, x, hk, hf, F, hsz, A, C, D => by
    have G := F.N H
    have kl : k < L.length := by omega
    have ha : L[k] < n := hn _ (List.getElem_mem kl)
    have d := drop_s kl
    have i0 : L.length - (k + 1) = L.length - 1 - k := by omega
    have i1 : L.length - k = L.length - (k + 1) + 1 := by omega
    have w45 : rI g 45 0 (L.length - (k + 1)) = nI (L[k]) := by
      rw [C _ (Nat.le_refl _), i0]
      exact Lf.get K.2 kl
    obtain ⟨pa, pb⟩ := H.pe ha
    have pa' : rI g 2 (L[k]) 0 = nI (pe h (L[k])) := by
      rw [F.I rfl (by decide)]
      exact pa
    have P1 := mp1 G ha
    rw [pa'] at P1
    have bl := bst_len (p := pe h) (L.drop (k + 1))
    rw [List.length_drop] at bl
    have E : bst (pe h) (L.drop k) = if st (pe h) (bst (pe h) (L.drop (k + 1))) (pe h (L[k])) = none then L[k] :: bst (pe h) (L.drop (k + 1)) else bst (pe h) (L.drop (k + 1)) := by rw [d]; rfl
    have sea := D (pe h (L[k])) pb
    generalize hB : bst (pe h) (L.drop (k + 1)) = B0 at A D bl E sea
    generalize hi : L.length - (k + 1) = ii at *
    have n10 : ¬ (1 : Int32) = 0 := by decide
    by_cases c : st (pe h) B0 (pe h (L[k])) = none
    · rw [if_pos c] at E
      rw [c] at sea
      have b1 : ((x >>> (nI (pe h (L[k])) &&& 31)) &&& 1) = 0 := by
        rw [bit1 x (by omega), sea]
        rfl
      have o : On WG g (wI g 45 0 B0.length (nI (L[k]))) := On.rf.wI rfl
      have r45 : ∀ j, ¬ j = B0.length → rI (wI g 45 0 B0.length (nI (L[k]))) 45 0 j = rI g 45 0 j := fun j hj => rI_wI_nf (fun z => hj z.2.symm)
      obtain ⟨g', e1, e2, e3⟩ := sk_loop H hn h40 K k fuel (wI g 45 0 B0.length (nI (L[k]))) (x ||| (1 <<< (nI (pe h (L[k])) &&& 31))) (by omega) (by omega) (F.tr o.frG) (by rw [rI_wI_ne (by decide)]; exact hsz) (by
        rw [E]
        refine ⟨?_, A.congr (fun i hi => r45 i (by omega))⟩
        show rI _ 45 0 B0.length = _
        rw [rI_wI, if_pos ⟨rfl, rfl, rfl⟩]) (fun j hj => by
        rw [r45 j (by omega)]
        exact C j (by omega)) (fun p hp => by
        rw [E, bt_or1 (by omega) (by omega), D p hp, show st (pe h) (L[k] :: B0) p = if pe h (L[k]) = p then some B0.length else st (pe h) B0 p from rfl]
        by_cases y : pe h (L[k]) = p
        · rw [if_pos y]
          simp [y]
        · rw [if_neg y]
          simp [y])
      rw [E, i1] at e1
      refine ⟨g', ?_, o.tr e2, e3⟩
      unfold f_X11_setList_102 f_X11_setList_154
      rw [hsz, if_neg (nI_ge (show ii < L.length by omega) (by omega)), if_neg n10]
      simp -implicitDefEqProofs only [G.M.m29, ixOk_nI (show ii < 40 by omega) (by decide), ixOk_nI (show B0.length < 40 by omega) (by decide), nI_clamp (show ii < 2 ^ 31 by omega), nI_clamp (show B0.length < 2 ^ 31 by omega), w45, P1, Option.bind_some, decide_true, Bool.true_and, Bool.and_true, if_true, b1, not_true_eq_false, if_false, nI_1]
      exact e1
    · rw [if_neg c] at E
      obtain ⟨q, hq⟩ : ∃ q, st (pe h) B0 (pe h (L[k])) = some q := by
        cases y : st (pe h) B0 (pe h (L[k])) with
        | none => exact absurd y c
        | some q => exact ⟨q, rfl⟩
      rw [hq] at sea
      have b1 : ¬ ((x >>> (nI (pe h (L[k])) &&& 31)) &&& 1) = 0 := by
        rw [bit1 x (by omega), sea]
        show ¬ b01 true = 0
        decide
      obtain ⟨g', e1, e2, e3⟩ := sk_loop H hn h40 K k fuel g (x ||| (1 <<< (nI (pe h (L[k])) &&& 31))) (by omega) (by omega) F hsz (by rw [E]; exact A) (fun j hj => C j (by omega)) (fun p hp => by
        rw [E, bt_or1 (by omega) (by omega), D p hp]
        by_cases y : pe h (L[k]) = p
        · rw [← y, hq]
          simp
        · simp [y])
      rw [E, i1] at e1
      refine ⟨g', ?_, e2, e3⟩
      unfold f_X11_setList_102 f_X11_setList_154
      rw [hsz, if_neg (nI_ge (show ii < L.length by omega) (by omega)), if_neg n10]
      simp -implicitDefEqProofs only [G.M.m29, ixOk_nI (show ii < 40 by omega) (by decide), nI_clamp (show ii < 2 ^ 31 by omega), w45, P1, Option.bind_some, decide_true, Bool.true_and, Bool.and_true, if_true, b1, not_false_eq_true, nI_1]
      exact e1
theorem set_pre {h : zM} {np n il : Nat} {s : RS} {N : Nat → Int32} {x1 : Int32} (H : InvN h np n) (R : RM h s) (V : s.2.2.2.2.2.2.2 = true → LV h 0 il N) : ∃ g, f_X11_setList x1 h = f_X11_setList_102 1000 x1 0 0 0 g ∧ On WG h g ∧ LM g (LL h s N n) := by
  have n40 := H.n40
  have o : On WG h (wI h 11 0 28 0) := On.rf.wI rfl
  obtain ⟨g, a1, a2, a3⟩ := sf_loop (x1 := x1) (N := N) H V n 1000 0 (wI h 11 0 28 0) [] (by omega) (by omega) o.frG (R.onG o) (by simp) (fun _ z => by cases z) ⟨by rw [rI_wI, if_pos ⟨rfl, rfl, rfl⟩]; rfl, trivial⟩
  refine ⟨g, ?_, o.tr a2, a3⟩
  rw [nI_0] at a1
  exact a1
theorem set1 {h : zM} {np n il : Nat} {s : RS} {N : Nat → Int32} (H : InvN h np n) (R : RM h s) (V : s.2.2.2.2.2.2.2 = true → LV h 0 il N) : ∃ g, f_X11_setList 1 h = some g ∧ On WG h g ∧ LM g (bst (pe h) (LL h s N n)) := by
  have n40 := H.n40
  obtain ⟨g, a1, a2, a3⟩ := set_pre (x1 := 1) (N := N) H R V
  obtain ⟨l1, l2, -⟩ := LL_inv (h := h) (s := s) (N := N) (n := n)
  have dl : (LL h s N n).drop (LL h s N n).length = [] := List.drop_length
  obtain ⟨g', e1, e2, e3⟩ := sk_loop H l2 (by omega) a3 (LL h s N n).length 1000 g 0 (Nat.le_refl _) (by omega) a2.frG a3.1 (by rw [dl]; trivial) (fun j _ => rfl) (fun p _ => by rw [dl, b_0]; rfl)
  rw [dl, Nat.sub_self] at e1
  exact ⟨g', a1.trans e1, a2.tr e2, e3⟩
theorem set0 {h : zM} {np n il : Nat} {s : RS} {N : Nat → Int32} (H : InvN h np n) (R : RM h s) (V : s.2.2.2.2.2.2.2 = true → LV h 0 il N) : ∃ g, f_X11_setList 0 h = some g ∧ On WG h g ∧ LM g (LL h s N n) := by
  obtain ⟨g, a1, a2, a3⟩ := set_pre (x1 := 0) (N := N) H R V
  have o : On WG g (wI g 11 0 28 (rI g 11 0 28)) := On.rf.wI rfl
  refine ⟨wI g 11 0 28 (rI g 11 0 28), ?_, a2.tr o, ⟨by rw [rI_wI, if_pos ⟨rfl, rfl, rfl⟩]; exact a3.1, a3.2.congr (fun i _ => rI_wI_ne (by decide))⟩⟩
  rw [a1]
  have S : f_X11_setList_102 (999 + 1) 0 0 0 0 g = some (wI g 11 0 28 (rI g 11 0 28)) := by
    unfold f_X11_setList_102 f_X11_setList_167
    by_cases c : rI g 11 0 28 ≤ 0
    · rw [if_pos c, if_pos rfl]
    · rw [if_neg c, if_pos rfl, if_pos rfl]
  exact S
