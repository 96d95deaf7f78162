/-! the invariant between the two records, part by part -/
def sizR (h : zM) (cm cx r : Nat) : Prop := (rI h cm 0 r = -9999 ∧ rI h cx r 0 = -1) ∨ ∃ n, n ≤ 40 ∧ rI h cm 0 r = nI n ∧ rI h cx r 0 = nI n
def RW (h : zM) : Prop := ∀ r, r < 6 → sizR h 33 6 r ∧ ∀ i, i < 40 → rI h 24 r i = rI h 34 0 (40 * r + i)
def TW (h : zM) : Prop := ∀ r, r < 4 → sizR h 36 9 r ∧ ∀ i, i < 40 → rI h 25 r i = rI h 37 0 (40 * r + i)
def TD (h : zM) : Prop := ∃ d, d ≤ 9999 ∧ rI h 10 0 8 = nI d ∧ rI h 11 0 5 = nI d
def AS (h : zM) : Prop := rI h 10 0 11 = rI h 11 0 2
def FR (h : zM) : Prop := rL h 10 0 13 = rL h 11 0 3 ∧ rL h 10 0 14 = rL h 11 0 4
def FD (h : zM) : Prop := rI h 10 0 12 = rI h 11 0 0 ∧ ∀ f, f < 6 → rI h 31 0 f = rI h 32 0 f
def PLk (h : zM) (p : Nat) : Prop := (∀ f, f < 4 → rI h 3 p f = rI h 38 0 (4 * p + f)) ∧ (∃ a, a ≤ 40 ∧ rI h 3 p 0 = nI a) ∧ (-20 ≤ (rI h 3 p 1).toInt ∧ (rI h 3 p 1).toInt ≤ 50) ∧ (rI h 3 p 2 = 0 ∨ rI h 3 p 2 = 1) ∧ ∃ a, a ≤ 3 ∧ rI h 3 p 3 = nI a
def PL (h : zM) (np : Nat) : Prop := np ≤ 8 ∧ rI h 10 0 9 = nI np ∧ rI h 11 0 11 = nI np ∧ cnM h 3 = np ∧ (∀ p, p < np → rR h 28 0 p = some (3, p) ∧ PLk h p) ∧ ∀ p, np ≤ p → rR h 28 0 p = none
/-- what a MARK of each KIND holds -/
def KND (h : zM) (k : Nat) : Prop := (rI h 2 k 7 = 0 ∧ rI h 2 k 8 = 0 ∧ rI h 2 k 9 = 0) ∨ ((rI h 2 k 7 = 1 ∨ rI h 2 k 7 = 4) ∧ rI h 2 k 8 = rI h 40 0 k ∧ rI h 2 k 9 = rI h 40 0 k) ∨ ((rI h 2 k 7 = 2 ∨ rI h 2 k 7 = 3) ∧ rI h 2 k 8 = rI h 40 0 k ∧ rI h 2 k 9 = rI h 41 0 k) ∨ (rI h 2 k 7 = 5 ∧ rI h 2 k 8 = 0 ∧ rI h 2 k 9 = rI h 41 0 k)
def MKb (h : zM) (np k : Nat) : Prop := (∃ a, a ≤ 11 ∧ rI h 2 k 0 = nI a) ∧ (∃ p, p < np ∧ rI h 2 k 1 = nI p ∧ rR h 2 k 2 = some (3, p)) ∧ (∃ d, d ≤ 9999 ∧ rI h 2 k 3 = nI d) ∧ (∃ v, 1 ≤ v ∧ v ≤ 9999 ∧ rI h 2 k 4 = nI v) ∧ (rI h 2 k 5 = -9999 ∨ (-60 ≤ (rI h 2 k 5).toInt ∧ (rI h 2 k 5).toInt ≤ 60)) ∧ (∃ s, s ≤ 3 ∧ rI h 2 k 6 = nI s) ∧ (∃ v, v ≤ 999 ∧ rI h 2 k 8 = nI v)
def MKe (h : zM) (k : Nat) : Prop := rI h 39 0 (7 * k) = rI h 2 k 7 ∧ rI h 39 0 (7 * k + 1) = rI h 2 k 0 ∧ rI h 39 0 (7 * k + 2) = rI h 2 k 1 ∧ rI h 39 0 (7 * k + 3) = rI h 2 k 3 ∧ rI h 39 0 (7 * k + 4) = rI h 2 k 4 ∧ rI h 39 0 (7 * k + 5) = rI h 2 k 5 ∧ rI h 39 0 (7 * k + 6) = rI h 2 k 6
def MK (h : zM) (np n : Nat) : Prop := n ≤ 40 ∧ rI h 10 0 10 = nI n ∧ rI h 11 0 13 = nI n ∧ cnM h 2 = n ∧ (∀ k, k < n → rR h 29 0 k = some (2, k) ∧ KND h k ∧ MKb h np k ∧ MKe h k) ∧ ∀ k, n ≤ k → rR h 29 0 k = none
def LWb (h : zM) (l : Nat) : Prop := (∀ k, k < 10 → -99 ≤ (rI h 44 0 (10 * l + k)).toInt ∧ (rI h 44 0 (10 * l + k)).toInt ≤ 99) ∧ (∃ b, b ≤ 99 ∧ rI h 44 0 (10 * l + 1) = nI b) ∧ ∃ b, b ≤ 99 ∧ rI h 44 0 (10 * l + 3) = nI b
def LW (h : zM) : Prop := cnM h 1 = cnM h 20 ∧ ∀ l, l < 2 → (rR h 30 0 l = none ∧ rI h 43 0 l = 0) ∨ ∃ i, rR h 30 0 l = some (1, i) ∧ i < cnM h 1 ∧ rR h 1 i 0 = some (20, i) ∧ rI h 43 0 l = 1 ∧ LWb h l ∧ ∀ k, k < 10 → rI h 20 i k = rI h 44 0 (10 * l + k)
def Inv (h : zM) (np n : Nat) : Prop := XS h ∧ MS h ∧ RW h ∧ TW h ∧ TD h ∧ AS h ∧ FR h ∧ FD h ∧ PL h np ∧ MK h np n ∧ LW h
-- each part by the places it speaks of
theorem sizR.of {h h' : zM} {cm cx r : Nat} (H : sizR h cm cx r) (a : rI h' cm 0 r = rI h cm 0 r) (b : rI h' cx r 0 = rI h cx r 0) : sizR h' cm cx r := by
  unfold sizR
  rw [a, b]
  exact H
theorem RW.of {h h' : zM} (H : RW h) (a : ∀ r, rI h' 33 0 r = rI h 33 0 r) (b : ∀ r, rI h' 6 r 0 = rI h 6 r 0) (c : ∀ r i, rI h' 24 r i = rI h 24 r i) (d : ∀ k, rI h' 34 0 k = rI h 34 0 k) : RW h' := fun r hr => ⟨(H r hr).1.of (a r) (b r), fun i hi => by rw [c, d]; exact (H r hr).2 i hi⟩
theorem TW.of {h h' : zM} (H : TW h) (a : ∀ r, rI h' 36 0 r = rI h 36 0 r) (b : ∀ r, rI h' 9 r 0 = rI h 9 r 0) (c : ∀ r i, rI h' 25 r i = rI h 25 r i) (d : ∀ k, rI h' 37 0 k = rI h 37 0 k) : TW h' := fun r hr => ⟨(H r hr).1.of (a r) (b r), fun i hi => by rw [c, d]; exact (H r hr).2 i hi⟩
theorem TD.of {h h' : zM} (H : TD h) (a : rI h' 10 0 8 = rI h 10 0 8) (b : rI h' 11 0 5 = rI h 11 0 5) : TD h' := by
  unfold TD
  rw [a, b]
  exact H
theorem AS.of {h h' : zM} (H : AS h) (a : rI h' 10 0 11 = rI h 10 0 11) (b : rI h' 11 0 2 = rI h 11 0 2) : AS h' := by
  unfold AS
  rw [a, b]
  exact H
theorem FR.of {h h' : zM} (H : FR h) (a : rL h' 10 0 13 = rL h 10 0 13) (b : rL h' 11 0 3 = rL h 11 0 3) (c : rL h' 10 0 14 = rL h 10 0 14) (d : rL h' 11 0 4 = rL h 11 0 4) : FR h' := by
  unfold FR
  rw [a, b, c, d]
  exact H
theorem FD.of {h h' : zM} (H : FD h) (a : rI h' 10 0 12 = rI h 10 0 12) (b : rI h' 11 0 0 = rI h 11 0 0) (c : ∀ f, rI h' 31 0 f = rI h 31 0 f) (d : ∀ f, rI h' 32 0 f = rI h 32 0 f) : FD h' := by
  refine ⟨by rw [a, b]; exact H.1, fun f hf => by rw [c, d]; exact H.2 f hf⟩
theorem PLk.of {h h' : zM} {p : Nat} (H : PLk h p) (a : ∀ f, rI h' 3 p f = rI h 3 p f) (b : ∀ f, f < 4 → rI h' 38 0 (4 * p + f) = rI h 38 0 (4 * p + f)) : PLk h' p := by
  obtain ⟨h1, h2⟩ := H
  refine ⟨fun f hf => by rw [a, b f hf]; exact h1 f hf, ?_⟩
  rw [a, a, a, a]
  exact h2
theorem PL.of {h h' : zM} {np : Nat} (H : PL h np) (a : rI h' 10 0 9 = rI h 10 0 9) (b : rI h' 11 0 11 = rI h 11 0 11) (c : cnM h' 3 = cnM h 3) (d : ∀ p, rR h' 28 0 p = rR h 28 0 p) (e : ∀ p f, p < np → rI h' 3 p f = rI h 3 p f) (g : ∀ k, rI h' 38 0 k = rI h 38 0 k) : PL h' np := by
  obtain ⟨h1, h2, h3, h4, h5, h6⟩ := H
  exact ⟨h1, by rw [a]; exact h2, by rw [b]; exact h3, by rw [c]; exact h4, fun p hp => ⟨by rw [d]; exact (h5 p hp).1, (h5 p hp).2.of (fun f => e p f hp) (fun f _ => g _)⟩, fun p hp => by rw [d]; exact h6 p hp⟩
theorem MK1.of {h h' : zM} {np k : Nat} (H : KND h k ∧ MKb h np k ∧ MKe h k) (a : ∀ f, rI h' 2 k f = rI h 2 k f) (b : rR h' 2 k 2 = rR h 2 k 2) (c : rI h' 40 0 k = rI h 40 0 k) (d : rI h' 41 0 k = rI h 41 0 k) (e : ∀ f, f < 7 → rI h' 39 0 (7 * k + f) = rI h 39 0 (7 * k + f)) : KND h' k ∧ MKb h' np k ∧ MKe h' k := by
  obtain ⟨h1, h2, h3⟩ := H
  refine ⟨?_, ?_, ?_⟩
  · unfold KND
    simp only [a, c, d]
    exact h1
  · unfold MKb
    simp only [a, b]
    exact h2
  · unfold MKe
    rw [a, a, a, a, a, a, a, show 7 * k = 7 * k + 0 from rfl, e 0 (by omega), e 1 (by omega), e 2 (by omega), e 3 (by omega), e 4 (by omega), e 5 (by omega), e 6 (by omega)]
    exact h3
theorem MK.of {h h' : zM} {np n : Nat} (H : MK h np n) (a : rI h' 10 0 10 = rI h 10 0 10) (b : rI h' 11 0 13 = rI h 11 0 13) (c : cnM h' 2 = cnM h 2) (d : ∀ p, rR h' 29 0 p = rR h 29 0 p) (e : ∀ k f, k < n → rI h' 2 k f = rI h 2 k f) (e2 : ∀ k, k < n → rR h' 2 k 2 = rR h 2 k 2) (g : ∀ k, rI h' 39 0 k = rI h 39 0 k) (g1 : ∀ k, rI h' 40 0 k = rI h 40 0 k) (g2 : ∀ k, rI h' 41 0 k = rI h 41 0 k) : MK h' np n := by
  obtain ⟨h1, h2, h3, h4, h5, h6⟩ := H
  exact ⟨h1, by rw [a]; exact h2, by rw [b]; exact h3, by rw [c]; exact h4, fun k hk => ⟨by rw [d]; exact (h5 k hk).1, MK1.of (h5 k hk).2 (fun f => e k f hk) (e2 k hk) (g1 k) (g2 k) (fun f _ => g _)⟩, fun p hp => by rw [d]; exact h6 p hp⟩
theorem LW.of {h h' : zM} (H : LW h) (a : cnM h' 1 = cnM h' 20) (a2 : cnM h 1 ≤ cnM h' 1) (b : ∀ l, rR h' 30 0 l = rR h 30 0 l) (c : ∀ i, i < cnM h 1 → rR h' 1 i 0 = rR h 1 i 0) (d : ∀ i k, i < cnM h 1 → rI h' 20 i k = rI h 20 i k) (e : ∀ k, rI h' 43 0 k = rI h 43 0 k) (g : ∀ k, rI h' 44 0 k = rI h 44 0 k) : LW h' := by
  refine ⟨a, fun l hl => ?_⟩
  rcases H.2 l hl with ⟨h1, h2⟩ | ⟨i, h1, h2, h3, h4, h5, h6⟩
  · exact Or.inl ⟨by rw [b]; exact h1, by rw [e]; exact h2⟩
  · refine Or.inr ⟨i, by rw [b]; exact h1, by omega, by rw [c i h2]; exact h3, by rw [e]; exact h4, ?_, fun k hk => by rw [d i k h2, g]; exact h6 k hk⟩
    unfold LWb
    simp only [g]
    exact h5
