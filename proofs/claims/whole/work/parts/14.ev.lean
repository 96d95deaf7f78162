theorem zE_mono {mt : Nat → zMI} : ∀ (n m d f lab : Nat) (S : zS) (r : Option zV × zM), n ≤ m → zE mt n d f lab S = some r → zE mt m d f lab S = some r
  | 0, m, d, f, lab, S, r, h, e => by cases e
  | n + 1, 0, d, f, lab, S, r, h, e => by omega
  | n + 1, m + 1, d, f, lab, S, r, h, e => by
    have ih := zE_mono (mt := mt) n m
    have h : n ≤ m := by omega
    unfold zE at e ⊢
    cases hseg : (mt f).2.2.2.2 lab with
    | none => rw [hseg] at e; cases e
    | some lt =>
    obtain ⟨l0, t⟩ := lt
    rw [hseg] at e
    dsimp only at e ⊢
    cases hgd : (zrun l0 S).2.2.2 with
    | false => rw [hgd] at e; cases e
    | true =>
    rw [hgd, cond_true] at e
    rw [cond_true]
    match ht : t (zrun l0 S) with
    | .inl (lab', fl, S2) =>
      rw [ht] at e
      dsimp only at e ⊢
      cases hc : (S2.2.2.2 && (!fl || Nat.blt 0 d)) with
      | false => rw [hc] at e; cases e
      | true =>
      rw [hc, cond_true] at e
      rw [cond_true]
      exact ih d f lab' S2 r h e
    | .inr (.inl (v', h', g')) =>
      rw [ht] at e
      exact e
    | .inr (.inr (k, as, lab', S2)) =>
      rw [ht] at e
      dsimp only at e ⊢
      cases hc : (S2.2.2.2 && Nat.ble (zent1 as).length (mt k).2.2.1) with
      | false => rw [hc] at e; cases e
      | true =>
      rw [hc, cond_true] at e
      rw [cond_true]
      cases d with
      | zero => cases e
      | succ d' =>
      dsimp only at e ⊢
      cases hcall : zE mt n d' k 0 (zent (mt k).2.2.1 as, [], S2.2.2.1, true) with
      | none => rw [hcall] at e; cases e
      | some q =>
      rw [hcall] at e
      rw [ih d' k 0 _ q h hcall]
      exact ih (d' + 1) f lab' _ r h e
/-- comes back with that -/
def zEv (mt : Nat → zMI) (d f lab : Nat) (S : zS) (r : Option zV × zM) : Prop := ∃ n, zE mt n d f lab S = some r
section EV
variable {mt : Nat → zMI} {d f lab lab' : Nat} {S : zS} {r : Option zV × zM} {mi : zMI} {l : List (zS → zS)} {t : zS → zA} {fl : Bool} {L2 : List (Option zV)} {st2 : List zV} {h2 : zM} {g2 : Bool}
theorem zEv.loc (hmi : mt f = mi) (hseg : mi.2.2.2.2 lab = some (l, t)) (hg : (zrun l S).2.2.2 = true) (ht : t (zrun l S) = .inl (lab', fl, (L2, st2, h2, g2))) (hg2 : g2 = true) (hfl : fl = true → 1 ≤ d) (k : zEv mt d f lab' (L2, st2, h2, true) r) : zEv mt d f lab S r := by
  obtain ⟨n, hn⟩ := k
  refine ⟨n + 1, ?_⟩
  unfold zE
  rw [hmi, hseg]
  dsimp only
  rw [hg, cond_true, ht]
  dsimp only
  subst hg2
  have : (true && (!fl || Nat.blt 0 d)) = true := by
    cases fl with
    | false => rfl
    | true => simpa [Nat.blt] using hfl rfl
  rw [this, cond_true]
  exact hn
theorem zEv.iteT {c : Bool} {a b : Nat} (hmi : mt f = mi) (hseg : mi.2.2.2.2 lab = some (l, t)) (hg : (zrun l S).2.2.2 = true) (ht : t (zrun l S) = .inl (bif c then a else b, false, (L2, st2, h2, g2))) (hg2 : g2 = true) (hc : c = true) (k : zEv mt d f a (L2, st2, h2, true) r) : zEv mt d f lab S r := by
  subst hc
  exact zEv.loc hmi hseg hg ht hg2 (fun h => (nomatch h)) k
theorem zEv.iteF {c : Bool} {a b : Nat} (hmi : mt f = mi) (hseg : mi.2.2.2.2 lab = some (l, t)) (hg : (zrun l S).2.2.2 = true) (ht : t (zrun l S) = .inl (bif c then a else b, false, (L2, st2, h2, g2))) (hg2 : g2 = true) (hc : c = false) (k : zEv mt d f b (L2, st2, h2, true) r) : zEv mt d f lab S r := by
  subst hc
  exact zEv.loc hmi hseg hg ht hg2 (fun h => (nomatch h)) k
theorem zEv.sw {x : Nat} (hmi : mt f = mi) (hseg : mi.2.2.2.2 lab = some (l, t)) (hg : (zrun l S).2.2.2 = true) (ht : t (zrun l S) = .inl (x, false, (L2, st2, h2, g2))) (hg2 : g2 = true) (hc : x = lab') (k : zEv mt d f lab' (L2, st2, h2, true) r) : zEv mt d f lab S r := by
  subst hc
  exact zEv.loc hmi hseg hg ht hg2 (fun h => (nomatch h)) k
theorem zEv.ret {v : Option zV} {h : zM} {g : Bool} (hmi : mt f = mi) (hseg : mi.2.2.2.2 lab = some (l, t)) (hg : (zrun l S).2.2.2 = true) (ht : t (zrun l S) = .inr (.inl (v, h, g))) (hg2 : g = true) : zEv mt d f lab S (v, h) := by
  refine ⟨1, ?_⟩
  unfold zE
  rw [hmi, hseg]
  dsimp only
  rw [hg, cond_true, ht]
  dsimp only
  rw [hg2, cond_true]
theorem zEv.call {k0 k : Nat} {as : List zV} {v : Option zV} {h1 : zM} {mk : zMI} {st3 : List zV} (hmi : mt f = mi) (hseg : mi.2.2.2.2 lab = some (l, t)) (hg : (zrun l S).2.2.2 = true) (ht : t (zrun l S) = .inr (.inr (k0, as, lab', (L2, st2, h2, g2)))) (hg2 : g2 = true) (hk : k0 = k) (hmk : mt k = mk) (hle : Nat.ble (zent1 as).length mk.2.2.1 = true) (hd : 1 ≤ d)
    (k1 : zEv mt (d - 1) k 0 (zent mk.2.2.1 as, [], h2, true) (v, h1)) (hst : vpush v st2 = st3) (k2 : zEv mt d f lab' (L2, st3, h1, true) r) : zEv mt d f lab S r := by
  subst hk
  obtain ⟨n1, hn1⟩ := k1
  obtain ⟨n2, hn2⟩ := k2
  refine ⟨n1 + n2 + 1, ?_⟩
  unfold zE
  rw [hmi, hseg]
  dsimp only
  rw [hg, cond_true, ht]
  dsimp only
  subst hg2
  rw [hmk, hle, Bool.and_true, cond_true]
  obtain ⟨d', rfl⟩ : ∃ d', d = d' + 1 := ⟨d - 1, by omega⟩
  dsimp only
  have e1 := zE_mono _ (n1 + n2) _ _ _ _ _ (by omega) hn1
  rw [show d' + 1 - 1 = d' from rfl] at e1
  rw [e1]
  dsimp only
  rw [hst]
  exact zE_mono _ (n1 + n2) _ _ _ _ _ (by omega) hn2
end EV
theorem ifg {α : Type} {g : Bool} {A : Option α} {r : α} (h : (if g = true then A else none) = some r) : g = true ∧ A = some r := by
  cases g with
  | false => simp at h
  | true => simpa using h
theorem ifp {α : Type} {p : Prop} [Decidable p] {A : Option α} {r : α} (h : (if p then A else none) = some r) : p ∧ A = some r := by
  by_cases hp : p
  · rw [if_pos hp] at h
    exact ⟨hp, h⟩
  · rw [if_neg hp] at h
    cases h
theorem ifc {α : Type} {c : Prop} [Decidable c] {A B : Option α} {r : α} (h : (if c then A else B) = some r) : (c ∧ A = some r) ∨ (¬ c ∧ B = some r) := by
  by_cases hc : c
  · rw [if_pos hc] at h
    exact Or.inl ⟨hc, h⟩
  · rw [if_neg hc] at h
    exact Or.inr ⟨hc, h⟩
theorem bnd {α β : Type} {x : Option α} {g : α → Option β} {r : β} (h : x.bind g = some r) : ∃ q, x = some q ∧ g q = some r := by
  cases x with
  | none => cases h
  | some q => exact ⟨q, rfl, h⟩
theorem nnF {r : zR} (h : ¬ r = none) : Option.isNone r = false := by
  cases r with
  | none => exact absurd rfl h
  | some q => rfl
theorem nnT {r : zR} (h : r = none) : Option.isNone r = true := by rw [h]; rfl
theorem swOut {x : Int32} {n : Nat} {labs : List Nat} {a : Nat} (h31 : n < 2 ^ 31) (h : ∀ j, j < n → ¬ x = Int32.ofNat j) : swL 0 ((n : Int) - 1) labs a x = a := by
  unfold swL
  rw [if_pos]
  apply Decidable.byContradiction
  intro hc
  have h1 : ¬ x.toInt < 0 := fun q => hc (Or.inl q)
  have h2 : ¬ (n : Int) - 1 < x.toInt := fun q => hc (Or.inr q)
  refine h x.toInt.toNat (by omega) ?_
  apply Int32.toInt_inj.mp
  have := nI_toInt (n := x.toInt.toNat) (by omega)
  unfold nI at this
  rw [this]
  omega
