/-! what may change without the invariant noticing -/
def rl (c f : Nat) : Bool := bif memN [1, 4, 5, 7, 21, 22, 23, 31, 32, 35, 42, 45, 46] c then false else bif Nat.beq c 11 then memN [5, 11, 13] f else bif Nat.beq c 10 then memN [8, 9, 10] f else true
def rr (c : Nat) : Bool := !memN [5, 7, 20] c
def Fr (h h' : zM) : Prop := (∀ c i f, rl c f = true → (c = 20 → i < cnM h 20) → rI h' c i f = rI h c i f) ∧ (∀ c i f, rr c = true → (c = 1 → i < cnM h 1) → rR h' c i f = rR h c i f) ∧ cnM h' 2 = cnM h 2 ∧ cnM h' 3 = cnM h 3 ∧ (cnM h 1 = cnM h 20 → cnM h' 1 = cnM h' 20) ∧ cnM h 1 ≤ cnM h' 1 ∧ cnM h 20 ≤ cnM h' 20 ∧ slM h' = slM h
/-- asked, upper, lower, finding, findings stay too -/
def Kp (h h' : zM) : Prop := rI h' 10 0 11 = rI h 10 0 11 ∧ rI h' 11 0 2 = rI h 11 0 2 ∧ rI h' 10 0 12 = rI h 10 0 12 ∧ rI h' 11 0 0 = rI h 11 0 0 ∧ (∀ f, rI h' 31 0 f = rI h 31 0 f) ∧ (∀ f, rI h' 32 0 f = rI h 32 0 f) ∧ rL h' 10 0 13 = rL h 10 0 13 ∧ rL h' 10 0 14 = rL h 10 0 14 ∧ rL h' 11 0 3 = rL h 11 0 3 ∧ rL h' 11 0 4 = rL h 11 0 4
def InvN (h : zM) (np n : Nat) : Prop := XS h ∧ MS h ∧ RW h ∧ TW h ∧ TD h ∧ PL h np ∧ MK h np n ∧ LW h
theorem Inv.N {h : zM} {np n : Nat} (H : Inv h np n) : InvN h np n := by
  obtain ⟨hX, hM, hR, hT, hD, hA, hF, hF2, hP, hK, hL⟩ := H
  exact ⟨hX, hM, hR, hT, hD, hP, hK, hL⟩
theorem InvN.inv {h : zM} {np n : Nat} (H : InvN h np n) (hA : AS h) (hF : FR h) (hF2 : FD h) : Inv h np n := by
  obtain ⟨hX, hM, hR, hT, hD, hP, hK, hL⟩ := H
  exact ⟨hX, hM, hR, hT, hD, hA, hF, hF2, hP, hK, hL⟩
theorem Kp.AS {h h' : zM} (k : Kp h h') (H : AS h) : AS h' := H.of k.1 k.2.1
theorem Kp.FR {h h' : zM} (k : Kp h h') (H : FR h) : FR h' := H.of k.2.2.2.2.2.2.1 k.2.2.2.2.2.2.2.2.1 k.2.2.2.2.2.2.2.1 k.2.2.2.2.2.2.2.2.2
theorem Kp.FD {h h' : zM} (k : Kp h h') (H : FD h) : FD h' := H.of k.2.2.1 k.2.2.2.1 k.2.2.2.2.1 k.2.2.2.2.2.1
theorem Kp.rf {h : zM} : Kp h h := ⟨rfl, rfl, rfl, rfl, fun _ => rfl, fun _ => rfl, rfl, rfl, rfl, rfl⟩
theorem Kp.tr {a b c : zM} (p : Kp a b) (q : Kp b c) : Kp a c := by
  obtain ⟨p1, p2, p3, p4, p5, p6, p7, p8, p9, p10⟩ := p
  obtain ⟨q1, q2, q3, q4, q5, q6, q7, q8, q9, q10⟩ := q
  exact ⟨q1.trans p1, q2.trans p2, q3.trans p3, q4.trans p4, fun f => (q5 f).trans (p5 f), fun f => (q6 f).trans (p6 f), q7.trans p7, q8.trans p8, q9.trans p9, q10.trans p10⟩
theorem Fr.rf {h : zM} : Fr h h := ⟨fun _ _ _ _ _ => rfl, fun _ _ _ _ _ => rfl, rfl, rfl, fun e => e, Nat.le_refl _, Nat.le_refl _, rfl⟩
theorem Fr.tr {a b c : zM} (p : Fr a b) (q : Fr b c) : Fr a c := by
  obtain ⟨p1, p2, p3, p4, p5, p6, p7, p8⟩ := p
  obtain ⟨q1, q2, q3, q4, q5, q6, q7, q8⟩ := q
  refine ⟨fun c i f hc hi => (q1 c i f hc (fun e => ?_)).trans (p1 c i f hc hi), fun c i f hc hi => (q2 c i f hc (fun e => ?_)).trans (p2 c i f hc hi), q3.trans p3, q4.trans p4, fun e => q5 (p5 e), Nat.le_trans p6 q6, Nat.le_trans p7 q7, q8.trans p8⟩
  · have := hi e
    omega
  · have := hi e
    omega
theorem Fr.I {h h' : zM} (H : Fr h h') {c i f : Nat} (a : rl c f = true) (b : c ≠ 20) : rI h' c i f = rI h c i f := H.1 c i f a (fun e => absurd e b)
theorem Fr.R {h h' : zM} (H : Fr h h') {c i f : Nat} (a : rr c = true) (b : c ≠ 1) : rR h' c i f = rR h c i f := H.2.1 c i f a (fun e => absurd e b)
theorem Fr.XS {h h' : zM} (H : Fr h h') (x : XS h) : XS h' := by
  unfold _root_.Jvm.Pilot.CThinAirLaw_law_r6155_d9ef75.XS
  simp only [H.R (c := 10) rfl (by decide), H.R (c := 26) rfl (by decide), H.R (c := 6) rfl (by decide), H.R (c := 27) rfl (by decide), H.R (c := 9) rfl (by decide), H.R (c := 4) rfl (by decide)]
  exact x
theorem Fr.MS {h h' : zM} (H : Fr h h') (x : MS h) : MS h' := by
  unfold _root_.Jvm.Pilot.CThinAirLaw_law_r6155_d9ef75.MS
  simp only [H.R (c := 11) rfl (by decide)]
  exact x
theorem Fr.N {h h' : zM} {np n : Nat} (H : Fr h h') (x : InvN h np n) : InvN h' np n := by
  obtain ⟨hX, hM, hR, hT, hD, hP, hK, hL⟩ := x
  refine ⟨H.XS hX, H.MS hM, hR.of (fun _ => H.I rfl (by decide)) (fun _ => H.I rfl (by decide)) (fun _ _ => H.I rfl (by decide)) (fun _ => H.I rfl (by decide)), hT.of (fun _ => H.I rfl (by decide)) (fun _ => H.I rfl (by decide)) (fun _ _ => H.I rfl (by decide)) (fun _ => H.I rfl (by decide)), hD.of (H.I rfl (by decide)) (H.I rfl (by decide)), hP.of (H.I rfl (by decide)) (H.I rfl (by decide)) H.2.2.2.1 (fun _ => H.R rfl (by decide)) (fun _ _ _ => H.I rfl (by decide)) (fun _ => H.I rfl (by decide)), hK.of (H.I rfl (by decide)) (H.I rfl (by decide)) H.2.2.1 (fun _ => H.R rfl (by decide)) (fun _ _ _ => H.I rfl (by decide)) (fun _ _ => H.R rfl (by decide)) (fun _ => H.I rfl (by decide)) (fun _ => H.I rfl (by decide)) (fun _ => H.I rfl (by decide)), hL.of (H.2.2.2.2.1 hL.1) H.2.2.2.2.2.1 (fun _ => H.R rfl (by decide)) (fun i hi => H.2.1 1 i 0 rfl (fun _ => hi)) (fun i k hi => H.1 20 i k rfl (fun _ => by rw [← hL.1]; exact hi)) (fun _ => H.I rfl (by decide)) (fun _ => H.I rfl (by decide))⟩
theorem Fr.scr {h h' : zM} (H : Fr h h') : Scr h h' := ⟨H.2.2.2.2.2.2.2, fun _ => H.I rfl (by decide)⟩
theorem Fr.wI {a h : zM} (H : Fr a h) {c i f : Nat} {v : Int32} (hc : rl c f = false) : Fr a (wI h c i f v) := by
  refine ⟨fun c' i' f' e g => ?_, H.2⟩
  rw [← H.1 c' i' f' e g]
  apply rI_wI_nf
  rintro ⟨rfl, rfl⟩
  rw [hc] at e
  cases e
theorem Fr.wI20 {a h : zM} (H : Fr a h) {i f : Nat} {v : Int32} (hi : cnM a 20 ≤ i) : Fr a (_root_.Jvm.Pilot.CThinAirLaw_law_r6155_d9ef75.wI h 20 i f v) := by
  refine ⟨fun c' i' f' e g => ?_, H.2⟩
  rw [← H.1 c' i' f' e g, rI_wI, if_neg]
  rintro ⟨rfl, rfl, rfl⟩
  have := g rfl
  omega
theorem Fr.wL {a h : zM} (H : Fr a h) {c i f : Nat} {v : Int64} : Fr a (wL h c i f v) := H
theorem Fr.wR {a h : zM} (H : Fr a h) {c i f : Nat} {v : zR} (hc : rr c = false) : Fr a (wR h c i f v) := by
  refine ⟨H.1, fun c' i' f' e g => ?_, H.2.2⟩
  rw [← H.2.1 c' i' f' e g]
  apply rR_wR_ne
  rintro rfl
  rw [hc] at e
  cases e
theorem Fr.nw {a h : zM} (H : Fr a h) {c z : Nat} (hc : c = 5 ∨ c = 7) : Fr a (nwM h c z) := by
  have n1 : c ≠ 1 := by omega
  have n2 : c ≠ 2 := by omega
  have n3 : c ≠ 3 := by omega
  have n20 : c ≠ 20 := by omega
  obtain ⟨p1, p2, p3, p4, p5, p6, p7, p8⟩ := H
  refine ⟨fun c' i' f' e g => ?_, fun c' i' f' e g => ?_, by rw [cn_nw_ne n2]; exact p3, by rw [cn_nw_ne n3]; exact p4, by rw [cn_nw_ne n1, cn_nw_ne n20]; exact p5, by rw [cn_nw_ne n1]; exact p6, by rw [cn_nw_ne n20]; exact p7, p8⟩
  · rw [← p1 c' i' f' e g]
    apply rI_nw_ne
    rintro rfl
    rcases hc with rfl | rfl <;> cases e
  · rw [← p2 c' i' f' e g]
    apply rR_nw_ne
    rintro rfl
    rcases hc with rfl | rfl <;> cases e
/-- a new LAWS with its numbers -/
theorem Fr.nwL {a h : zM} (H : Fr a h) {v : zR} : Fr a (_root_.Jvm.Pilot.CThinAirLaw_law_r6155_d9ef75.wR (nwM (nwM h 1 1) 20 10) 1 (cnM h 1) 0 v) := by
  obtain ⟨p1, p2, p3, p4, p5, p6, p7, p8⟩ := H
  have c1 : cnM (_root_.Jvm.Pilot.CThinAirLaw_law_r6155_d9ef75.wR (nwM (nwM h 1 1) 20 10) 1 (cnM h 1) 0 v) 1 = cnM h 1 + 1 := rfl
  have c20 : cnM (_root_.Jvm.Pilot.CThinAirLaw_law_r6155_d9ef75.wR (nwM (nwM h 1 1) 20 10) 1 (cnM h 1) 0 v) 20 = cnM h 20 + 1 := rfl
  refine ⟨fun c' i' f' e g => ?_, fun c' i' f' e g => ?_, p3, p4, fun e => ?_, ?_, ?_, p8⟩
  · have n1 : 1 ≠ c' := by
      rintro rfl
      cases e
    rw [← p1 c' i' f' e g, rI_wR]
    by_cases h20 : c' = 20
    · subst h20
      have := g rfl
      rw [rI_nw_lt (show i' < cnM (nwM h 1 1) 20 by rw [cn_nw_ne (by decide)]; omega), rI_nw_ne (by decide)]
    · rw [rI_nw_ne (fun z => h20 z.symm), rI_nw_ne n1]
  · have n20 : 20 ≠ c' := by
      rintro rfl
      cases e
    rw [← p2 c' i' f' e g]
    by_cases h1 : c' = 1
    · subst h1
      have := g rfl
      have q : ¬ (1 = 1 ∧ i' = cnM h 1 ∧ f' = 0) := by omega
      rw [rR_wR, if_neg q, rR_nw_ne n20, rR_nw_lt (by omega)]
    · rw [rR_wR_ne (fun z => h1 z.symm), rR_nw_ne n20, rR_nw_ne (fun z => h1 z.symm)]
  · rw [c1, c20, p5 e]
  · omega
  · omega
theorem Kp.wI {a h : zM} (H : Kp a h) {c i f : Nat} {v : Int32} (hc : ¬ (c = 10 ∧ (f = 11 ∨ f = 12)) ∧ ¬ (c = 11 ∧ (f = 2 ∨ f = 0)) ∧ c ≠ 31 ∧ c ≠ 32) : Kp a (wI h c i f v) := by
  obtain ⟨p1, p2, p3, p4, p5, p6, p7⟩ := H
  obtain ⟨q1, q2, q3, q4⟩ := hc
  refine ⟨?_, ?_, ?_, ?_, fun f' => ?_, fun f' => ?_, p7⟩
  · rw [rI_wI_nf (fun z => q1 ⟨z.1, Or.inl z.2⟩)]; exact p1
  · rw [rI_wI_nf (fun z => q2 ⟨z.1, Or.inl z.2⟩)]; exact p2
  · rw [rI_wI_nf (fun z => q1 ⟨z.1, Or.inr z.2⟩)]; exact p3
  · rw [rI_wI_nf (fun z => q2 ⟨z.1, Or.inr z.2⟩)]; exact p4
  · rw [rI_wI_ne q3]; exact p5 f'
  · rw [rI_wI_ne q4]; exact p6 f'
theorem Kp.wR {a h : zM} (H : Kp a h) {c i f : Nat} {v : zR} : Kp a (wR h c i f v) := H
theorem Kp.wLh {a h : zM} (H : Kp a h) {v : Int64} : Kp a (wL h 11 0 31 v) := H
theorem Kp.nw {a h : zM} (H : Kp a h) {c z : Nat} (hc : c ≠ 10 ∧ c ≠ 11 ∧ c ≠ 31 ∧ c ≠ 32) : Kp a (nwM h c z) := by
  obtain ⟨p1, p2, p3, p4, p5, p6, p7, p8, p9, p10⟩ := H
  obtain ⟨q1, q2, q3, q4⟩ := hc
  exact ⟨(rI_nw_ne q1).trans p1, (rI_nw_ne q2).trans p2, (rI_nw_ne q1).trans p3, (rI_nw_ne q2).trans p4, fun f' => (rI_nw_ne q3).trans (p5 f'), fun f' => (rI_nw_ne q4).trans (p6 f'), (rL_nw_ne q1).trans p7, (rL_nw_ne q1).trans p8, (rL_nw_ne q2).trans p9, (rL_nw_ne q2).trans p10⟩
/-- both halves ran within the frame, and the rest of the invariant is told -/
theorem Okk.fr {h h1 h2 : zM} {fx fm : zM → Option (Int32 × zM)} {np n : Nat} {a : Int32} (hI : Inv h np n) (e1 : fx h = some (a, h1)) (e2 : fm h1 = some (a, h2)) (f1 : Fr h h1) (f2 : Fr h1 h2) (hA : AS h2) (hF : FR h2) (hF2 : FD h2) (nc : ncM h2 ≤ ncM h + 20) (ns : nsM h2 ≤ nsM h + 200) : Okk h fx fm := ⟨a, h1, h2, e1, e2, f1.scr, f1.scr.trans f2.scr, ⟨np, n, (f2.N (f1.N hI.N)).inv hA hF hF2⟩, nc, ns⟩
/-- nothing told -/
theorem Okk.qt {h h1 h2 : zM} {fx fm : zM → Option (Int32 × zM)} {np n : Nat} {a : Int32} (hI : Inv h np n) (e1 : fx h = some (a, h1)) (e2 : fm h1 = some (a, h2)) (f1 : Fr h h1) (k1 : Kp h h1) (f2 : Fr h1 h2) (k2 : Kp h1 h2) (nc : ncM h2 ≤ ncM h + 20) (ns : nsM h2 ≤ nsM h + 200) : Okk h fx fm := by
  obtain ⟨-, -, -, -, -, hA, hF, hF2, -⟩ := id hI
  have k := k1.tr k2
  exact Okk.fr hI e1 e2 f1 f2 (k.AS hA) (k.FR hF) (k.FD hF2) nc ns
theorem Fr.tellX {h h1 : zM} {v : Int32} (f : Fr h h1) : Fr h (_root_.Jvm.Pilot.CThinAirLaw_law_r6155_d9ef75.wI h1 10 0 11 v) := f.wI rfl
theorem Fr.tellM {h h1 : zM} {v : Int32} (f : Fr h h1) : Fr h (_root_.Jvm.Pilot.CThinAirLaw_law_r6155_d9ef75.wI h1 11 0 2 v) := f.wI rfl
theorem Fr.fndX {h h1 : zM} {f : Nat} (q : Fr h h1) : Fr h (fndX h1 f) := Fr.wI (Fr.wI q rfl) rfl
theorem Fr.fndM {h h1 : zM} {f : Nat} (q : Fr h h1) : Fr h (fndM h1 f) := Fr.wI (Fr.wI q rfl) rfl
/-- asked alone is told -/
theorem Okk.tl {h h1 h2 : zM} {fx fm : zM → Option (Int32 × zM)} {np n : Nat} {a v : Int32} (hI : Inv h np n) (e1 : fx h = some (a, wI h1 10 0 11 v)) (e2 : fm (wI h1 10 0 11 v) = some (a, wI h2 11 0 2 v)) (f1 : Fr h h1) (k1 : Kp h h1) (f2 : Fr (wI h1 10 0 11 v) h2) (k2 : Kp (wI h1 10 0 11 v) h2) (nc : ncM h2 ≤ ncM h + 20) (ns : nsM h2 ≤ nsM h + 200) : Okk h fx fm := by
  obtain ⟨-, -, -, -, -, hA, hF, hF2, -⟩ := id hI
  refine Okk.fr hI e1 e2 f1.tellX f2.tellM ?_ ?_ ?_ nc ns
  · show rI (wI h2 11 0 2 v) 10 0 11 = rI (wI h2 11 0 2 v) 11 0 2
    rw [rI_wI_ne (by decide), rI_wI, if_pos ⟨rfl, rfl, rfl⟩, k2.1, rI_wI, if_pos ⟨rfl, rfl, rfl⟩]
  · exact FR.wI (k2.FR (FR.wI (k1.FR hF)))
  · exact FD.wI (k2.FD (FD.wI (k1.FD hF2) (by decide))) (by decide)
/-- a finding -/
theorem Okk.fd {h h1 h2 : zM} {fx fm : zM → Option (Int32 × zM)} {np n f : Nat} (hI : Inv h np n) (e1 : fx h = some (-3, fndX h1 f)) (e2 : fm (fndX h1 f) = some (-3, fndM h2 f)) (f1 : Fr h h1) (k1 : Kp h h1) (f2 : Fr (fndX h1 f) h2) (k2 : Kp (fndX h1 f) h2) (nc : ncM h2 ≤ ncM h + 20) (ns : nsM h2 ≤ nsM h + 200) : Okk h fx fm := by
  obtain ⟨-, -, -, -, -, hA, hF, hF2, -⟩ := id hI
  have A := k1.AS hA
  have F := k1.FR hF
  have G := k1.FD hF2
  refine Okk.fr hI e1 e2 f1.fndX f2.fndM ?_ ?_ ?_ nc ns
  · exact AS.wI (AS.wI (k2.AS (AS.wI (AS.wI A (by decide)) (by simp))) (by decide)) (by simp)
  · exact FR.wI (FR.wI (k2.FR (FR.wI (FR.wI F))))
  · obtain ⟨p1, p2, p3, p4, p5, p6, p7⟩ := k2
    refine ⟨?_, fun k hk => ?_⟩
    · unfold _root_.Jvm.Pilot.CThinAirLaw_law_r6155_d9ef75.fndM
      rw [rI_wI_ne (by decide), rI_wI_ne (by decide), rI_wI_ne (by decide), p3]
      rfl
    · unfold _root_.Jvm.Pilot.CThinAirLaw_law_r6155_d9ef75.fndM
      rw [rI_wI_ne (by decide), rI_wI_ne (by decide), p5, rI_wI]
      have e : rI (fndX h1 f) 31 0 k = if k = f then rI h1 31 0 f + 1 else rI h1 31 0 k := by
        unfold _root_.Jvm.Pilot.CThinAirLaw_law_r6155_d9ef75.fndX
        rw [rI_wI]
        by_cases q : k = f
        · simp [q]
        · rw [if_neg (fun z => q z.2.2), if_neg q, rI_wI_ne (by decide)]
      have w : ∀ k, rI (wI h2 11 0 0 (nI f)) 32 0 k = rI h1 32 0 k := fun k => by
        rw [rI_wI_ne (by decide), p6]
        rfl
      rw [e, w, p6]
      by_cases q : k = f
      · have g := G.2 k hk
        subst q
        rw [if_pos rfl, if_pos ⟨rfl, rfl, rfl⟩, g]
        rfl
      · rw [if_neg q, if_neg (fun z => q z.2.2)]
        exact G.2 k hk
