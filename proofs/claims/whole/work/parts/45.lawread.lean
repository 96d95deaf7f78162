theorem Fr.on {a h h' : zM} {W : Nat → Nat → Nat → Bool} (F : Fr a h) (o : On W h h') (hw : ∀ c i f, rl c f = true → (c = 20 → i < cnM a 20) → W c i f = false) : Fr a h' := by
  have r : ∀ c i f, rR h' c i f = rR h c i f := o.R
  have e : ∀ c, cnM h' c = cnM h c := fun c => by
    unfold cnM
    rw [o.1]
  have s : slM h' = slM h := by
    unfold slM
    rw [o.1]
  obtain ⟨p1, p2, p3, p4, p5, p6, p7, p8⟩ := F
  exact ⟨fun c i f x y => (o.2 c i f (hw c i f x y)).trans (p1 c i f x y), fun c i f x y => (r c i f).trans (p2 c i f x y), by rw [e]; exact p3, by rw [e]; exact p4, by rw [e, e]; exact p5, by rw [e]; exact p6, by rw [e]; exact p7, by rw [s]; exact p8⟩
theorem Kp.on {a h h' : zM} {W : Nat → Nat → Nat → Bool} (K : Kp a h) (o : On W h h') (w1 : W 10 0 11 = false) (w2 : W 11 0 2 = false) (w3 : W 10 0 12 = false) (w4 : W 11 0 0 = false) (w5 : ∀ f, W 31 0 f = false) (w6 : ∀ f, W 32 0 f = false) : Kp a h' := by
  have l : ∀ c i f, rL h' c i f = rL h c i f := fun c i f => by
    unfold rL
    rw [o.1]
  obtain ⟨p1, p2, p3, p4, p5, p6, p7, p8, p9, p10⟩ := K
  exact ⟨(o.2 _ _ _ w1).trans p1, (o.2 _ _ _ w2).trans p2, (o.2 _ _ _ w3).trans p3, (o.2 _ _ _ w4).trans p4, fun f => (o.2 _ _ _ (w5 f)).trans (p5 f), fun f => (o.2 _ _ _ (w6 f)).trans (p6 f), (l _ _ _).trans p7, (l _ _ _).trans p8, (l _ _ _).trans p9, (l _ _ _).trans p10⟩
theorem On.nc {h h' : zM} {W : Nat → Nat → Nat → Bool} (o : On W h h') : ncM h' = ncM h := by
  unfold ncM
  rw [o.1]
theorem On.ns {h h' : zM} {W : Nat → Nat → Nat → Bool} (o : On W h h') : nsM h' = nsM h := by
  unfold nsM
  rw [o.1]
theorem On.cn {h h' : zM} {W : Nat → Nat → Nat → Bool} (o : On W h h') (c : Nat) : cnM h' c = cnM h c := by
  unfold cnM
  rw [o.1]
def WX (c i f : Nat) : Bool := (Nat.beq c 11 && (Nat.beq i 0 && (Nat.ble 17 f && Nat.ble f 25))) || Nat.beq c 42
theorem beqF {a b : Nat} (h : ¬ a = b) : Nat.beq a b = false := by
  cases e : Nat.beq a b with
  | false => rfl
  | true => exact absurd (Nat.eq_of_beq_eq_true e) h
theorem WX_rl (c i f : Nat) (e : rl c f = true) : WX c i f = false := by
  by_cases c11 : c = 11
  · subst c11
    have z : rl 11 f = memN [5, 11, 13] f := rfl
    rw [z] at e
    have q : f = 5 ∨ f = 11 ∨ f = 13 := by simpa [memN] using e
    have zz : ¬ (17 ≤ f) := by omega
    have z17 : Nat.ble 17 f = false := by
      cases y : Nat.ble 17 f with
      | false => rfl
      | true => exact absurd (Nat.le_of_ble_eq_true y) zz
    unfold WX
    rw [z17]
    simp
    rfl
  · by_cases c42 : c = 42
    · subst c42
      cases e
    · unfold WX
      rw [beqF c11, beqF c42]
      rfl
theorem W5_rl (x c i f : Nat) (e : rl c f = true) : W5 x c i f = false := by
  by_cases c5 : c = 5
  · subst c5
    cases e
  · unfold W5
    rw [beqF c5]
    rfl
theorem On.frM {h h' : zM} (o : On WX h h') : Fr h h' := Fr.rf.on o (fun c i f e _ => WX_rl c i f e)
theorem On.kpM {h h' : zM} (o : On WX h h') : Kp h h' := Kp.rf.on o rfl rfl rfl rfl (fun _ => rfl) (fun _ => rfl)
theorem Fr.on20 {a h h' : zM} {c i : Nat} (F : Fr a h) (o : On (W20 c i) h h') (hi : cnM a 20 ≤ i) : Fr a h' := F.on o (fun C I f e g => by
  unfold W20
  rw [W5_rl c C I f e]
  by_cases c20 : C = 20
  · have := g c20
    rw [beqF (show ¬ I = i by omega)]
    simp
  · rw [beqF c20]
    rfl)
theorem Kp.on20 {a h h' : zM} {c i : Nat} (F : Kp a h) (o : On (W20 c i) h h') : Kp a h' := F.on o rfl rfl rfl rfl (fun _ => rfl) (fun _ => rfl)
/-! a new reader, new LAWS -/
def rdN (h : zM) (j k : Nat) : zM := wI (wR (nwM h 5 3) 5 (cnM h 5) 0 (some (25, j))) 5 (cnM h 5) 1 (nI k)
theorem rdN_eq {h : zM} {j k : Nat} (hX : XS h) (hj : j ≤ 3) (hs : rI h 9 j 0 = nI k) : f_X5_init (some (5, cnM h 5)) (some (9, j)) (nwM h 5 3) = some (rdN h j k) := by
  have x := hX.2.2.2.2.2.2.2.2.2.2.2.1 j (by omega)
  have x' : rR (nwM h 5 3) 9 j 1 = some (25, j) := by
    rw [rR_nw_ne (by decide)]
    exact x
  have s' : rI (nwM h 5 3) 9 j 0 = nI k := by
    rw [rI_nw_ne (by decide)]
    exact hs
  unfold f_X5_init rdN
  simp -implicitDefEqProofs only [clR_s, ixR_s, memT1, x', s', decide_true, Bool.true_and, Bool.and_true, if_true, show Nat.blt 5 99 = true from rfl]
theorem rdN_fr {h : zM} {j k : Nat} : Fr h (rdN h j k) := ((Fr.rf.nw (Or.inl rfl)).wR rfl).wI rfl
theorem rdN_kp {h : zM} {j k : Nat} : Kp h (rdN h j k) := ((Kp.rf.nw (by decide)).wR).wI (by decide)
theorem rdN_rd {h : zM} {j k : Nat} {sg : Nat → Int32} (hk : k ≤ 40) (hg : ∀ i, i < 40 → rI h 25 j i = sg i) : RDR (rdN h j k) (cnM h 5) j k sg 0 := by
  refine ⟨?_, ?_, ?_, fun i hi => ?_, Nat.zero_le _, hk⟩
  · unfold rdN
    rw [rR_wI, rR_wR, if_pos ⟨rfl, rfl, rfl⟩]
  · unfold rdN
    rw [rI_wI, if_pos ⟨rfl, rfl, rfl⟩]
  · unfold rdN
    rw [rI_wI, if_neg (by omega), rI_wR, rI_nw, if_pos ⟨rfl, rfl⟩]
    rfl
  · unfold rdN
    rw [rI_wI_ne (by decide), rI_wR, rI_nw_ne (by decide)]
    exact hg i hi
def lwN (h : zM) : zM := wR (nwM (nwM h 1 1) 20 10) 1 (cnM h 1) 0 (some (20, cnM h 20))
theorem lwN_eq (h : zM) : f_X1_init (some (1, cnM h 1)) (nwM h 1 1) = some (lwN h) := by
  unfold f_X1_init f_X0_init lwN
  simp -implicitDefEqProofs only [clR_s, ixR_s, memT1, Bool.true_and, Bool.and_true, if_true, show Nat.blt 1 99 = true from rfl, Option.bind_some, cn_nw_ne (show (1 : Nat) ≠ 20 by decide)]
theorem lwN_fr {h : zM} : Fr h (lwN h) := Fr.rf.nwL
theorem lwN_kp {h : zM} : Kp h (lwN h) := ((Kp.rf.nw (by decide)).nw (by decide)).wR
theorem lwN_nb {h : zM} (e : cnM h 1 = cnM h 20) : NB (lwN h) (cnM h 1) (fun _ => 0) := by
  refine ⟨?_, fun k hk => ?_⟩
  · unfold lwN
    rw [rR_wR, if_pos ⟨rfl, rfl, rfl⟩, e]
  · unfold lwN
    rw [rI_wR, rI_nw, if_pos]
    rw [cn_nw_ne (by decide)]
    exact ⟨rfl, e⟩
theorem NB.fr {h h' : zM} {i : Nat} {N : Nat → Int32} (B : NB h i N) (F : Fr h h') (h1 : i < cnM h 1) (h2 : i < cnM h 20) : NB h' i N := ⟨by rw [F.2.1 1 i 0 rfl (fun _ => h1)]; exact B.1, fun k hk => by rw [F.1 20 i k rfl (fun _ => h2)]; exact B.2 k hk⟩
/-! the reference begins to read -/
def rs7 (h : zM) : zM := wI (wI (wI (wI (wI (wI (wI h 11 0 21 (-9999)) 11 0 22 (-9999)) 11 0 23 (-9999)) 11 0 24 0) 11 0 25 0) 11 0 19 0) 11 0 17 0
theorem rs_loop {x1 x2 : Int32} : ∀ (r fuel k : Nat) (h : zM), MS h → r + k = 10 → r < fuel → f_X11_reads_2 fuel x1 x2 (nI k) h = f_X11_reads_62 1000 x1 x2 (rs7 (fil h 42 0 k 10 0))
  | 0, fuel + 1, k, h, hM, e, hf => by
    have : k = 10 := by omega
    subst this
    unfold f_X11_reads_2
    rw [if_pos (by decide), fil_nil]
    rfl
  | r + 1, fuel + 1, k, h, hM, e, hf => by
    unfold f_X11_reads_2
    rw [if_neg (show ¬ (10 : Int32) ≤ nI k from nI_ge (b := 10) (by omega) (by decide))]
    simp only [hM.m20, ixOk_nI (show k < 10 by omega) (by decide), nI_clamp (show k < 2 ^ 31 by omega), decide_true, Bool.true_and, Bool.and_true, if_true, nI_1]
    rw [rs_loop r fuel (k + 1) (wI h 42 0 k 0) hM (by omega) (by omega), fil_step (by omega)]
def rst (h : zM) : zM := rs7 (fil h 42 0 0 10 0)
theorem reads_eq {x1 x2 : Int32} {h : zM} (hM : MS h) : f_X11_reads x1 x2 h = f_X11_reads_62 1000 x1 x2 (rst h) := by
  have := rs_loop (x1 := x1) (x2 := x2) 10 1000 0 h hM (by decide) (by decide)
  rw [nI_0] at this
  exact this
theorem fil_on (h : zM) : On WX h (fil h 42 0 0 10 0) := ⟨rfl, fun c i f e => by
  rw [rI_fil, if_neg]
  rintro ⟨rfl, -, -, -⟩
  cases i <;> cases e⟩
theorem rst_on (h : zM) : On WX h (rst h) := ((((((((fil_on h).wI rfl).wI rfl).wI rfl).wI rfl).wI rfl).wI rfl).wI rfl)
theorem rst_17 (h : zM) : rI (rst h) 11 0 17 = 0 := by
  unfold rst rs7
  rw [rI_wI, if_pos ⟨rfl, rfl, rfl⟩]
theorem rst_19 (h : zM) : rI (rst h) 11 0 19 = 0 := by
  unfold rst rs7
  rw [rI_wI_nf (by decide), rI_wI, if_pos ⟨rfl, rfl, rfl⟩]
theorem rst_25 (h : zM) : rI (rst h) 11 0 25 = 0 := by
  unfold rst rs7
  rw [rI_wI_nf (by decide), rI_wI_nf (by decide), rI_wI, if_pos ⟨rfl, rfl, rfl⟩]
theorem rst_24 (h : zM) : rI (rst h) 11 0 24 = 0 := by
  unfold rst rs7
  rw [rI_wI_nf (by decide), rI_wI_nf (by decide), rI_wI_nf (by decide), rI_wI, if_pos ⟨rfl, rfl, rfl⟩]
theorem rst_23 (h : zM) : rI (rst h) 11 0 23 = -9999 := by
  unfold rst rs7
  rw [rI_wI_nf (by decide), rI_wI_nf (by decide), rI_wI_nf (by decide), rI_wI_nf (by decide), rI_wI, if_pos ⟨rfl, rfl, rfl⟩]
theorem rst_22 (h : zM) : rI (rst h) 11 0 22 = -9999 := by
  unfold rst rs7
  rw [rI_wI_nf (by decide), rI_wI_nf (by decide), rI_wI_nf (by decide), rI_wI_nf (by decide), rI_wI_nf (by decide), rI_wI, if_pos ⟨rfl, rfl, rfl⟩]
theorem rst_21 (h : zM) : rI (rst h) 11 0 21 = -9999 := by
  unfold rst rs7
  rw [rI_wI_nf (by decide), rI_wI_nf (by decide), rI_wI_nf (by decide), rI_wI_nf (by decide), rI_wI_nf (by decide), rI_wI_nf (by decide), rI_wI, if_pos ⟨rfl, rfl, rfl⟩]
theorem rst_42 (h : zM) {k : Nat} (hk : k < 10) : rI (rst h) 42 0 k = 0 := by
  unfold rst rs7
  rw [rI_wI_ne (by decide), rI_wI_ne (by decide), rI_wI_ne (by decide), rI_wI_ne (by decide), rI_wI_ne (by decide), rI_wI_ne (by decide), rI_wI_ne (by decide), rI_fil, if_pos ⟨rfl, rfl, Nat.zero_le _, hk⟩]
/-- a text that is there, in both records -/
def TT (h : zM) (j k : Nat) (sg : Nat → Int32) : Prop := j ≤ 3 ∧ k ≤ 40 ∧ rI h 9 j 0 = nI k ∧ rI h 36 0 j = nI k ∧ (∀ i, i < 40 → rI h 25 j i = sg i) ∧ ∀ i, i < 40 → rI h 37 0 (40 * j + i) = sg i
theorem TT.fr {h h' : zM} {j k : Nat} {sg : Nat → Int32} (T : TT h j k sg) (F : Fr h h') : TT h' j k sg := by
  obtain ⟨a, b, c, d, e, g⟩ := T
  exact ⟨a, b, by rw [F.I rfl (by decide)]; exact c, by rw [F.I rfl (by decide)]; exact d, fun i hi => by rw [F.I rfl (by decide)]; exact e i hi, fun i hi => by rw [F.I rfl (by decide)]; exact g i hi⟩
theorem TT.tx {h h' : zM} {j k : Nat} {sg : Nat → Int32} (T : TT h j k sg) (hM : MS h) (o : On WX h h') (e : rI h' 11 0 17 = 0) : TXM h' j k sg 0 := ⟨o.MS hM, by rw [o.2 _ _ _ rfl]; exact T.2.2.2.1, fun i hi => by rw [o.2 _ _ _ rfl]; exact T.2.2.2.2.2 i hi, e, Nat.zero_le _, T.2.1, T.1⟩
theorem li_ip {sg : Nat → Int32} {n : Nat} (q : Nat) (s : Nat → Int32) (lt : q < n) (e : (li sg n q s).1 = true) : q < (li sg n q s).2.1 ∧ (li sg n q s).2.1 ≤ n := by
  have S : ∀ k, (liS sg n k (q + 1) s).2.1 = nE sg n (q + 1) := fun k => by
    unfold liS
    cases nO sg n (q + 1) <;> rfl
  have N1 := nE_le (sg := sg) (n := n) (q := q + 1) lt
  have P : ∀ k, q < (liP sg n k (q + 1) s).2.1 ∧ (liP sg n k (q + 1) s).2.1 ≤ n := fun k => by
    unfold liP
    by_cases a : nO sg n (q + 1) = true
    · rw [if_pos a]
      by_cases b : pas sg n 44 (nE sg n (q + 1)) = true
      · rw [if_pos b]
        have N2 := nE_le (sg := sg) (n := n) (q := nE sg n (q + 1) + 1) (pas_lt b).1
        by_cases c : nO sg n (nE sg n (q + 1) + 1) = true
        · rw [if_pos c]
          by_cases d : 1 ≤ nV sg n (nE sg n (q + 1) + 1)
          · rw [if_pos d]
            dsimp only
            omega
          · rw [if_neg d]
            dsimp only
            omega
        · rw [if_neg c]
          dsimp only
          omega
      · rw [if_neg b]
        dsimp only
        omega
    · rw [if_neg a]
      dsimp only
      omega
  unfold li at e ⊢
  by_cases c1 : sg q = 87
  · rw [if_pos c1]
    exact P 0
  · rw [if_neg c1] at e ⊢
    by_cases c2 : sg q = 72
    · rw [if_pos c2]
      exact P 2
    · rw [if_neg c2] at e ⊢
      by_cases c3 : sg q = 84
      · rw [if_pos c3, S]
        omega
      · rw [if_neg c3] at e ⊢
        by_cases c4 : sg q = 70
        · rw [if_pos c4, S]
          omega
        · rw [if_neg c4] at e ⊢
          by_cases c5 : sg q = 83
          · rw [if_pos c5]
            unfold liH
            by_cases a : shO sg n (q + 1) = true
            · rw [if_pos a]
              have lt2 := (of_decide_eq_true a).1
              by_cases b : pas sg n 58 (q + 1 + 1) = true
              · rw [if_pos b]
                have N2 := nE_le (sg := sg) (n := n) (q := q + 1 + 1 + 1) (pas_lt b).1
                by_cases c : nO sg n (q + 1 + 1 + 1) = true
                · rw [if_pos c]
                  dsimp only
                  omega
                · rw [if_neg c]
                  dsimp only
                  omega
              · rw [if_neg b]
                dsimp only
                omega
            · rw [if_neg a]
              dsimp only
              omega
          · rw [if_neg c5] at e
            cases e
/-- what the LAWS of a text come to -/
def rL0 (sg : Nat → Int32) (n : Nat) : Bool × Nat × Nat × (Nat → Int32) := pall sg n (li sg n) 41 0 0 (fun _ => 0)
theorem readL {h : zM} {c i j n : Nat} {sg : Nat → Int32} (H : RDR h c j n sg 0) (B : NB h i (fun _ => 0)) : ∃ h', f_X0_readAll (some (1, i)) (some (5, c)) h = some (if (rL0 sg n).1 = true then nI (rL0 sg n).2.1 else -9999, h') ∧ On (W20 c i) h h' ∧ RDR h' c j n sg (rL0 sg n).2.2.1 ∧ ((rL0 sg n).1 = true → NB h' i (rL0 sg n).2.2.2) := by
  have A := allX (sg := sg) (n := n) (c := c) (j := j) (it := li sg n) (x0 := some (1, i)) (W := W20 c i) (R := fun h s => NB h i s) rfl (fun a b o => o.w20 i) (fun a b s o r => NB.on r o) (fun q s lt e => (li_ip q s lt e).1) (fun h q s H lt B => by
    obtain ⟨h', e1, e2, e3, e4⟩ := item1 H lt B
    exact ⟨h', by rw [clR_s, if_pos rfl]; exact e1, e2, e3, e4⟩) 41 1000 0 0 (fun _ => 0) h H B (by decide) (Nat.zero_le _) (by decide)
  exact A
theorem W2_WX {C I F : Nat} (e : WX C I F = false) : W2 C I F = false := by
  have e' := (Bool.or_eq_false_iff.mp e).1
  unfold W2
  cases x : Nat.beq C 11 with
  | false => rfl
  | true =>
    rw [x] at e'
    cases y : Nat.beq I 0 with
    | false => rfl
    | true =>
      rw [y] at e'
      cases z : Nat.ble 17 F with
      | false => rfl
      | true =>
        rw [z] at e'
        have w : Nat.ble F 25 = false := e'
        cases v : Nat.ble F 18 with
        | false => rfl
        | true =>
          have := Nat.le_of_ble_eq_true v
          have w2 : Nat.ble F 25 = true := Nat.ble_eq_true_of_le (by omega)
          rw [w2] at w
          cases w
theorem mono2 (a b : zM) (o : On W2 a b) : On WX a b := o.mono (fun _ _ _ e => W2_WX e)
theorem monoL (a b : zM) (o : On WL a b) : On WX a b := o.mono (fun C I F e => by
  unfold WL
  rw [W2_WX e, (Bool.or_eq_false_iff.mp e).2]
  rfl)
theorem readLM {h : zM} {j n : Nat} {sg : Nat → Int32} (hM : MS h) (T : TT h j n sg) : ∃ h', f_X11_reads (nI j) 0 h = some (if (rL0 sg n).1 = true then -9999 else nI (rL0 sg n).2.2.1, h') ∧ On WX h h' ∧ rI h' 11 0 19 = nI (rL0 sg n).2.1 ∧ ((rL0 sg n).1 = true → NM2 h' (rL0 sg n).2.2.2) := by
  have hno : ∀ q (s : Nat → Int32), isL (sg q) = false → li sg n q s = (false, q, s) := fun q s e => by
    have e' : ¬ (sg q = 87 ∨ sg q = 72 ∨ sg q = 84 ∨ sg q = 70 ∨ sg q = 83) := of_decide_eq_false e
    unfold li
    rw [if_neg (fun z => e' (Or.inl z)), if_neg (fun z => e' (Or.inr (Or.inl z))), if_neg (fun z => e' (Or.inr (Or.inr (Or.inl z)))), if_neg (fun z => e' (Or.inr (Or.inr (Or.inr (Or.inl z))))), if_neg (fun z => e' (Or.inr (Or.inr (Or.inr (Or.inr z)))))]
  have hit : ∀ (h : zM) q (s : Nat → Int32), TXM h j n sg (q + 1) → NM2 h s → isL (sg q) = true → ∃ h', (if (0 : Int32) = 0 then f_X11_readsLaw (nI j) (sg q) h else f_X11_readsRule (nI j) (sg q) h) = some (b01 (li sg n q s).1, h') ∧ On WX h h' ∧ TXM h' j n sg (li sg n q s).2.1 ∧ rI h' 11 0 19 = rI h 11 0 19 ∧ ((li sg n q s).1 = true → NM2 h' (li sg n q s).2.2) := fun h q s H B l => by
    obtain ⟨h', e1, e2, e3, e4⟩ := mLaw H B l
    exact ⟨h', by rw [if_pos rfl]; exact e1, monoL _ _ e2, e3, e2.2 _ _ _ rfl, e4⟩
  obtain ⟨h', e1, e2, e3, e4⟩ := allM (sg := sg) (n := n) (j := j) (it := li sg n) (x := 0) (W := WX) (R := fun h s => NM2 h s) (ok := isL) (Or.inl rfl) rfl mono2 (fun _ => rfl) (fun _ => rfl) (fun a b s o r => NM2.on r o) (fun a s v r k hk => by rw [rI_wI_ne (by decide)]; exact r k hk) (fun q s lt e => li_ip q s lt e) (fun y h => let0 y h) hno hit 1000 41 0 0 (fun _ => 0) (rst h) (T.tx hM (rst_on h) (rst_17 h)) (fun k hk => rst_42 h hk) (rst_19 h) (by decide) (Nat.zero_le _) (by have := T.2.1; omega)
  refine ⟨h', ?_, (rst_on h).tr e2, e3, e4⟩
  rw [reads_eq hM]
  exact e1
