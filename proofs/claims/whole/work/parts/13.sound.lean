def zLG (own : String) (cc : ByteArray) (nL : Nat) (ini : Bool) : Nat → List (zS → zS) → Nat → Prop
  | pc, [], pcT => pc = pcT
  | pc, i :: l, pcT => ∃ len, zSG own cc nL ini pc len i ∧ zLG own cc nL ini (pc + len) l pcT
theorem zSt.trans {own : String} {cc : ByteArray} {nL : Nat} {ini : Bool} {a b c : Nat} {S S1 S2 : zS} (h1 : zSt own cc nL ini a b S S1) (h2 : zSt own cc nL ini b c S1 S2) (e1 : zEx S.2.2.1 S1.2.2.1) (e2 : zEx S1.2.2.1 S2.2.2.1) : zSt own cc nL ini a c S S2 := by
  intro G p l e R s m args below meth cc Q H locs cells slots ls hC hH hF hq hA r1 r2 k
  have n1 := e1.1
  have n2 := e2.1
  have n3 := e1.2.1
  have n4 := e2.2.1
  refine h1 G p l e R s m args below meth cc Q H locs cells slots ls hC hH hF hq (hA.of e2) (by omega) (by omega) fun H' locs' ls' hH' hF' hq' => ?_
  refine h2 G p l e R s m args below meth cc Q H' locs' _ _ ls' hC hH' hF' hq' hA (by omega) (by omega) fun H2 locs2 ls2 hH2 hF2 hq2 => ?_
  have := k H2 locs2 ls2 hH2 hF2 hq2
  have w1 : cells + (ncM S1.2.2.1 - ncM S.2.2.1) + (ncM S2.2.2.1 - ncM S1.2.2.1) = cells + (ncM S2.2.2.1 - ncM S.2.2.1) := by omega
  have w2 : slots + (nsM S1.2.2.1 - nsM S.2.2.1) + (nsM S2.2.2.1 - nsM S1.2.2.1) = slots + (nsM S2.2.2.1 - nsM S.2.2.1) := by omega
  rw [w1, w2]
  exact this
theorem zrun_ok {own : String} {cc : ByteArray} {nL : Nat} {ini : Bool} : ∀ (l : List (zS → zS)) (pc pcT : Nat) (S : zS), zLG own cc nL ini pc l pcT → (zrun l S).2.2.2 = true → S.2.2.2 = true ∧ zEx S.2.2.1 (zrun l S).2.2.1 ∧ zSt own cc nL ini pc pcT S (zrun l S)
  | [], pc, pcT, S, h, hg => by
    have e : pc = pcT := h
    subst e
    refine ⟨hg, zEx.rf, ?_⟩
    intro G p l e R s m args below meth cc Q H locs cells slots ls hC hH hF hq hA r1 r2 k
    have := k H locs ls hH hF hq
    simpa [zrun] using this
  | i :: l, pc, pcT, S, h, hg => by
    obtain ⟨len, h1, h2⟩ := h
    obtain ⟨g1, e1, s1⟩ := zrun_ok l _ _ (i S) h2 hg
    obtain ⟨g0, e0, s0⟩ := h1 S g1
    exact ⟨g0, e0.tr e1, s0.trans s1 e0 e1⟩
def rkd : Option FieldType → Nat
  | none => 0
  | some .int => 1
  | some .boolean => 2
  | some .long => 3
  | some (.object _) => 4
  | some (.array _) => 4
  | _ => 9
def zini (mi : zMI) : Bool := mi.1.name == "<init>"
def zMG (mt : Nat → zMI) (f : Nat) : Prop := ∀ lab l t, (mt f).2.2.2.2 lab = some (l, t) → ∃ pcT, zLG (mt f).1.cls (mt f).2.1 (mt f).2.2.1 (zini (mt f)) lab l pcT ∧ zTG mt (mt f).1.cls (mt f).2.1 (mt f).2.2.1 (zini (mt f)) (rkd (mt f).2.2.2.1) pcT t
theorem zLs_pad {ad : Nat → Nat → Nat} : ∀ (n : Nat) (l : List (Option zV)) (k : Nat), zLs ad k (zpad n l) = zLs ad k l
  | 0, l, k => by cases l <;> rfl
  | n + 1, [], k => by
    show zLs ad (k + 1) (zpad n []) = _
    rw [zLs_pad n [] (k + 1)]
    rfl
  | n + 1, none :: t, k => by
    show zLs ad (k + 1) (zpad n t) = zLs ad (k + 1) t
    exact zLs_pad n t (k + 1)
  | n + 1, some v :: t, k => by
    show (k, zTr ad v) :: zLs ad (k + 1) (zpad n t) = (k, zTr ad v) :: zLs ad (k + 1) t
    rw [zLs_pad n t (k + 1)]
theorem zLs_ent {ad : Nat → Nat → Nat} : ∀ (as : List zV) (k : Nat), zLs ad k (zent1 as) = lv_args k (as.map (zTr ad))
  | [], k => rfl
  | v :: t, k => by
    rcases v with x | x | x
    · show (k, _) :: zLs ad (k + 1) (zent1 t) = (k, _) :: lv_args (k + 1) _
      rw [zLs_ent t (k + 1)]
    · show (k, _) :: zLs ad (k + 2) (zent1 t) = (k, _) :: lv_args (k + 2) _
      rw [zLs_ent t (k + 2)]
    · cases x <;>
      · show (k, _) :: zLs ad (k + 1) (zent1 t) = (k, _) :: lv_args (k + 1) _
        rw [zLs_ent t (k + 1)]
theorem zent_len : ∀ (as : List zV) (ad : Nat → Nat → Nat), (lg_sl (as.map (zTr ad))).length = (zent1 as).length
  | [], ad => rfl
  | v :: t, ad => by
    have ih := zent_len t ad
    rcases v with x | x | x
    · simp [lg_sl, zent1, zTr, Value.category, isLg] at ih ⊢
      omega
    · simp [lg_sl, zent1, zTr, Value.category, isLg] at ih ⊢
      omega
    · cases x <;>
      · simp [lg_sl, zent1, zTr, Value.category, isLg] at ih ⊢
        omega
theorem zpad_len : ∀ (n : Nat) (l : List (Option zV)), l.length ≤ n → (zpad n l).length = n
  | 0, [], _ => rfl
  | n + 1, [], _ => by
    show (none :: zpad n []).length = n + 1
    rw [List.length_cons, zpad_len n [] (Nat.zero_le _)]
  | n + 1, a :: t, h => by
    show (a :: zpad n t).length = n + 1
    rw [List.length_cons, zpad_len n t (by simpa using h)]
theorem zent_mem {n : Nat} : ∀ {as : List zV} {v : zV}, some v ∈ zent n as → v ∈ as := by
  intro as v h
  obtain ⟨j, hj⟩ := mem_lget h
  have h1 : (0 + j, zTr (fun a b => a) v) ∈ zLs (fun a b => a) 0 (zent n as) := (zLs_mem _ _).mpr ⟨j, v, hj, rfl⟩
  have key : ∀ (as : List zV), some v ∈ zent1 as → v ∈ as := by
    intro as
    induction as with
    | nil => intro h; simp [zent1] at h
    | cons a t ih =>
      intro h
      unfold zent1 at h
      cases hl : isLg (some a) with
      | true =>
        rw [hl] at h
        simp only [cond_true, List.mem_cons, Option.some.injEq] at h
        rcases h with h | h | h
        · exact List.mem_cons.mpr (Or.inl h)
        · cases h
        · exact List.mem_cons.mpr (Or.inr (ih h))
      | false =>
        rw [hl] at h
        simp only [cond_false, List.mem_cons, Option.some.injEq] at h
        rcases h with h | h
        · exact List.mem_cons.mpr (Or.inl h)
        · exact List.mem_cons.mpr (Or.inr (ih h))
  have pad : ∀ (n : Nat) (l : List (Option zV)), some v ∈ zpad n l → some v ∈ l := by
    intro n
    induction n with
    | zero => intro l h; cases l <;> exact h
    | succ n ih =>
      intro l h
      cases l with
      | nil =>
        have h : some v ∈ none :: zpad n [] := h
        rcases List.mem_cons.mp h with h | h
        · cases h
        · exact ih [] h
      | cons a t =>
        have h : some v ∈ a :: zpad n t := h
        rcases List.mem_cons.mp h with h | h
        · exact List.mem_cons.mpr (Or.inl h)
        · exact List.mem_cons.mpr (Or.inr (ih t h))
  exact key as (pad n _ h)
theorem zentry {ad : Nat → Nat → Nat} {n : Nat} {as : List zV} {h : zM} {g : Bool} (hl : (zent1 as).length ≤ n) (hok : ∀ v, v ∈ as → zOk h v) : zFr ad n (zent n as, [], h, g) ((lg_sl (as.map (zTr ad)) ++ List.replicate (n - (lg_sl (as.map (zTr ad))).length) Slot.unset).toArray) := by
  have h1 := lv_entry (as.map (zTr ad)) (n := n) (by rw [zent_len]; exact hl)
  refine ⟨⟨h1.1, h1.2.1, fun q hq => h1.2.2 q ?_⟩, zpad_len n _ hl, fun v hv => hok v (zent_mem hv), fun v hv => (List.not_mem_nil hv).elim⟩
  rw [← zLs_ent]
  have hq : q ∈ zLs ad 0 (zpad n (zent1 as)) := hq
  rw [zLs_pad] at hq
  exact hq
theorem rkd_0 {r : Option FieldType} (h : rkd r = 0) : r = none := by
  cases r with
  | none => rfl
  | some t => cases t <;> simp [rkd] at h
theorem rkd_1 {r : Option FieldType} (h : rkd r = 1) : r = some .int := by
  cases r with
  | none => simp [rkd] at h
  | some t => cases t <;> simp [rkd] at h ⊢
theorem rkd_2 {r : Option FieldType} (h : rkd r = 2) : r = some .boolean := by
  cases r with
  | none => simp [rkd] at h
  | some t => cases t <;> simp [rkd] at h ⊢
theorem rkd_3 {r : Option FieldType} (h : rkd r = 3) : r = some .long := by
  cases r with
  | none => simp [rkd] at h
  | some t => cases t <;> simp [rkd] at h ⊢
theorem rkd_4 {r : Option FieldType} (h : rkd r = 4) : ∃ t, r = some t ∧ ((∃ n, t = .object n) ∨ ∃ u, t = .array u) := by
  cases r with
  | none => simp [rkd] at h
  | some t => cases t <;> simp [rkd] at h ⊢
/-- a run of the small machine is a run of the machine -/
def zRuns (mt : Nat → zMI) (d f lab : Nat) (S : zS) (v : Option zV) (hF : zM) : Prop :=
  zEx S.2.2.1 hF ∧ zRk (rkd (mt f).2.2.2.1) v ∧ ∀ (G : zG) (p : Program) (l : Launch) (e : Env) (R : Room) (s : State) (m : MethodId) (args : Array Value) (below : List Frame) (meth : Method) (c : Code) (Q : State → Prop) (H : Heap) (locs : List Loc) (cells slots : Nat) (ls : Array Slot),
    zCx G p s m args meth c (mt f).1.cls (mt f).2.1 (mt f).2.2.1 (zini (mt f)) → d ≤ R.frames → 38 * d ≤ R.locals → zHp G S.2.2.1 H → zFr (gad G) (mt f).2.2.1 S ls → (∀ q ∈ locs, gB G ≤ q.base) → zAg G hF → cells + (ncM hF - ncM S.2.2.1) ≤ R.cells → slots + (nsM hF - nsM S.2.2.1) ≤ R.slots →
    (∀ (pcR : Nat) (HR : Heap) (locsR : List Loc) (lsR : Array Slot) (cR sR : Nat), decode (mt f).2.1 pcR = .ok (rIn (rkd (mt f).2.2.2.1), 1) → zHp G hF HR → (∀ q ∈ locsR, gB G ≤ q.base) → (∀ x, v = some x → zOk hF x) → cR = cells + (ncM hF - ncM S.2.2.1) → sR = slots + (nsM hF - nsM S.2.2.1) → W p l e R s m args below meth c HR locsR cR sR Q (F0 m pcR lsR (v.map (zTr (gad G))).toList)) →
    W p l e R s m args below meth c H locs cells slots Q (F0 m lab ls (S.2.1.map (zTr (gad G))))
/-- a run from the entry gives the contract -/
theorem zRuns.met {mt : Nat → zMI} (hp : ∀ f, plainName (mt f).1.cls = true) {d f : Nat} {as : List zV} {h hF : zM} {v : Option zV} {G : zG} {l : Launch} (hl : (zent1 as).length ≤ (mt f).2.2.1) (hok : ∀ v, v ∈ as → zOk h v) (hA : zAg G hF) (hr : zRuns mt d f 0 (zent (mt f).2.2.1 as, [], h, true) v hF) : zMet G l (mt f) d as h v hF := by
  refine Met.ofW (cc := (mt f).2.1) (maxL := (mt f).2.2.1) (ret := (mt f).2.2.2.1) (hp f) rfl ?_
  intro p e s m args below meth c s₁ B hml hv
  obtain ⟨rfl, hH, hK⟩ := hv
  rw [lg_entry_eq]
  have hts := atoms_spec (ws := zws (mt f)) B.pre
  obtain ⟨-, hk, hw⟩ := hr
  have hC : zCx G p s m (as.map (zTr (gad G))).toArray meth c (mt f).1.cls (mt f).2.1 (mt f).2.2.1 (zini (mt f)) := ⟨B.exec, B.bytes, hml, findClass_of_methodNamed B.named, fun w hw => hts w (List.mem_cons_of_mem _ hw), B.notSynchronized, fun hi => ((name_of_methodNamed B.named B.method).1).trans (by simpa [zini] using hi), hK⟩
  refine hw G p l e _ s m _ below meth c _ s.heap [] 0 0 _ hC (Nat.le_refl d) (Nat.le_refl (38 * d)) hH (zentry hl hok) (fun q hq => (List.not_mem_nil hq).elim) hA (by show 0 + (ncM hF - ncM h) ≤ ncM hF - ncM h; omega) (by show 0 + (nsM hF - nsM h) ≤ nsM hF - nsM h; omega) fun pcR HR locsR lsR cR sR hd hHR hqR hvR e1 e2 => ?_
  have e1 : cR = ncM hF - ncM h := by rw [e1]; show 0 + (ncM hF - ncM h) = _; omega
  have e2 : sR = nsM hF - nsM h := by rw [e2]; show 0 + (nsM hF - nsM h) = _; omega
  subst e1; subst e2
  have hQ : ∀ t : State, t.heap = HR → s.WarmedH t.vm → zQc G v hF (as.map (zTr (gad G))).toArray s (.returned (v.map (zTr (gad G)))) t := fun t ht _ => ⟨rfl, by rw [ht]; exact hHR, hvR⟩
  have hlk := B.notSynchronized
  rcases hk with ⟨hk, rfl⟩ | ⟨hk, x, rfl⟩ | ⟨hk, x, rfl, hB⟩ | ⟨hk, x, rfl⟩ | ⟨hk, x, rfl⟩
  · rw [hk] at hd
    exact W.vret B.exec B.bytes (by rw [B.returns]; exact rkd_0 hk) hQ hqR hd
  · rw [hk] at hd
    exact W.iret B.exec B.bytes (by rw [B.returns]; exact rkd_1 hk) hQ hqR hd
  · rw [hk] at hd
    exact W.zret (ty := .boolean) B.exec B.bytes (by rw [B.returns]; exact rkd_2 hk) (nar_Z (ty := .boolean) rfl hB).1 hQ hqR hd
  · rw [hk] at hd
    exact W.lret B.exec B.bytes (by rw [B.returns]; exact rkd_3 hk) hQ hqR hd
  · rw [hk] at hd
    obtain ⟨t, ht, htt⟩ := rkd_4 hk
    exact W.aret (rt := t) B.exec B.bytes (by rw [B.returns]; exact ht) htt (by cases x with
      | none => exact Or.inl rfl
      | some q => exact Or.inr ⟨_, rfl⟩) hQ hqR hd
theorem zsound {mt : Nat → zMI} (hg : ∀ f, zMG mt f) (hp : ∀ f, plainName (mt f).1.cls = true) : ∀ (n d f lab : Nat) (S : zS) (v : Option zV) (hF : zM), zE mt n d f lab S = some (v, hF) → zRuns mt d f lab S v hF
  | 0, d, f, lab, S, v, hF, h => by cases h
  | n + 1, d, f, lab, S, v, hF, h => by
    have ih := zsound hg hp n
    unfold zE at h
    cases hseg : (mt f).2.2.2.2 lab with
    | none => rw [hseg] at h; cases h
    | some lt =>
    obtain ⟨l0, t⟩ := lt
    rw [hseg] at h
    dsimp only at h
    cases hgd : (zrun l0 S).2.2.2 with
    | false => rw [hgd] at h; cases h
    | true =>
    rw [hgd, cond_true] at h
    obtain ⟨pcT, hL, hT⟩ := hg f lab l0 t hseg
    obtain ⟨g0, ex1, st1⟩ := zrun_ok l0 _ _ S hL hgd
    obtain ⟨tl, tre, tc⟩ := hT (zrun l0 S)
    generalize zrun l0 S = S1 at *
    have n1 := ex1.1
    have n3 := ex1.2.1
    match ht : t S1 with
    | .inl (lab', fl, S2) =>
      rw [ht] at h
      dsimp only at h
      cases hc : (S2.2.2.2 && (!fl || Nat.blt 0 d)) with
      | false => rw [hc] at h; cases h
      | true =>
      rw [hc, cond_true] at h
      obtain ⟨hg2, hfl⟩ := and2 hc
      obtain ⟨-, sm, stT⟩ := tl lab' fl S2 ht hg2
      obtain ⟨ex2, hk, hw⟩ := ih d f lab' S2 v hF h
      have hn2 : ncM S2.2.2.1 = ncM S1.2.2.1 := sm.2.2.1
      have hs2 : nsM S2.2.2.1 = nsM S1.2.2.1 := sm.2.2.2.1
      have n2 := ex2.1
      have n4 := ex2.2.1
      refine ⟨ex1.tr (sm.ex.tr ex2), hk, ?_⟩
      intro G p l e R s m args below meth c Q H locs cells slots ls hC hR1 hR2 hH hF' hq hA r1 r2 hret
      refine st1 G p l e R s m args below meth c Q H locs cells slots ls hC hH hF' hq (hA.of (sm.ex.tr ex2)) (by omega) (by omega) fun H1 locs1 ls1 hH1 hF1 hq1 => ?_
      refine stT G p l e R s m args below meth c Q H1 locs1 _ _ ls1 (fun e => ?_) (by omega) (by omega) hC hH1 hF1 hq1 fun H2 locs2 ls2 hH2 hF2 hq2 => ?_
      · subst e
        have hd : 0 < d := by simpa using hfl
        exact ⟨by omega, by omega⟩
      · refine hw G p l e R s m args below meth c Q H2 locs2 _ _ ls2 hC hR1 hR2 hH2 hF2 hq2 hA (by omega) (by omega) fun pcR HR locsR lsR cR sR hd hHR hqR hvR e1 e2 => ?_
        exact hret pcR HR locsR lsR cR sR hd hHR hqR hvR (by omega) (by omega)
    | .inr (.inl (v', h', g')) =>
      rw [ht] at h
      dsimp only at h
      cases g' with
      | false => cases h
      | true =>
      rw [cond_true] at h
      cases h
      obtain ⟨-, e1, e2, hd, hk⟩ := tre v hF true ht rfl
      subst e1
      refine ⟨ex1, hk, ?_⟩
      intro G p l e R s m args below meth c Q H locs cells slots ls hC hR1 hR2 hH hF' hq hA r1 r2 hret
      refine st1 G p l e R s m args below meth c Q H locs cells slots ls hC hH hF' hq hA r1 r2 fun H1 locs1 ls1 hH1 hF1 hq1 => ?_
      have := hret pcT H1 locs1 ls1 _ _ hd hH1 hq1 (fun x hx => hF1.2.2.2 x (by rw [e2, hx]; exact List.mem_singleton.mpr rfl)) rfl rfl
      rw [e2]
      cases v <;> exact this
    | .inr (.inr (k, as, lab', S2)) =>
      rw [ht] at h
      dsimp only at h
      cases hc : (S2.2.2.2 && Nat.ble (zent1 as).length (mt k).2.2.1) with
      | false => rw [hc] at h; cases h
      | true =>
      rw [hc, cond_true] at h
      obtain ⟨hg2, hle⟩ := and2 hc
      have hle := Nat.le_of_ble_eq_true hle
      cases d with
      | zero => cases h
      | succ d' =>
      dsimp only at h
      cases hcall : zE mt n d' k 0 (zent (mt k).2.2.1 as, [], S2.2.2.1, true) with
      | none => rw [hcall] at h; cases h
      | some q =>
      obtain ⟨v1, h1⟩ := q
      rw [hcall] at h
      dsimp only at h
      obtain ⟨-, eL, eM, hoks, stC⟩ := tc k as lab' S2 ht hg2
      have r1c := ih d' k 0 _ v1 h1 hcall
      obtain ⟨ex2, hk, hw⟩ := ih (d' + 1) f lab' _ v hF h
      rw [eM] at r1c
      have exc : zEx S1.2.2.1 h1 := r1c.1
      have n2 : ncM h1 ≤ ncM hF := ex2.1
      have n4 : nsM h1 ≤ nsM hF := ex2.2.1
      have n5 := exc.1
      have n6 := exc.2.1
      have ex2' : zEx h1 hF := ex2
      refine ⟨ex1.tr (exc.tr ex2'), hk, ?_⟩
      intro G p l e R s m args below meth c Q H locs cells slots ls hC hR1 hR2 hH hF' hq hA rr1 rr2 hret
      refine st1 G p l e R s m args below meth c Q H locs cells slots ls hC hH hF' hq (hA.of (exc.tr ex2')) (by omega) (by omega) fun H1 locs1 ls1 hH1 hF1 hq1 => ?_
      have hoks1 := hoks S1.2.2.1 hF1.2.2.2
      have hM : zMet G l (mt k) d' as S1.2.2.1 v1 h1 := zRuns.met hp hle hoks1.1 (hA.of ex2') r1c
      refine stC G p l e R s m args below meth c Q H1 locs1 _ _ ls1 d' v1 h1 (by omega) (by omega) (by omega) (by omega) hC hH1 hF1 hq1 hM fun H2 locs2 hH2 hq2 hv2 => ?_
      have okx : ∀ v, zOk S1.2.2.1 v → zOk h1 v := fun v hv => by
        rcases v with x | x | x
        · exact trivial
        · exact trivial
        · cases x with
          | none => exact trivial
          | some q => exact (exc.2.2.2 q.1 q.2 hv).1
      have hF2 : zFr (gad G) (mt f).2.2.1 (S2.1, vpush v1 S2.2.1, h1, true) ls1 := by
        refine ⟨by rw [eL]; exact hF1.1, by rw [eL]; exact hF1.2.1, fun v hv => okx v (hF1.2.2.1 v (by rw [eL] at hv; exact hv)), fun v hv => ?_⟩
        cases v1 with
        | none => exact okx v (hoks1.2 v hv)
        | some x =>
          rcases List.mem_cons.mp hv with rfl | hv
          · exact hv2 _ rfl
          · exact okx v (hoks1.2 v hv)
      refine hw G p l e R s m args below meth c Q H2 locs2 _ _ ls1 hC hR1 hR2 hH2 hF2 hq2 hA (by show _ + (ncM hF - ncM h1) ≤ _; omega) (by show _ + (nsM hF - nsM h1) ≤ _; omega) fun pcR HR locsR lsR cR sR hd hHR hqR hvR e1 e2 => ?_
      refine hret pcR HR locsR lsR cR sR hd hHR hqR hvR ?_ ?_
      · have : cR = _ + (ncM hF - ncM h1) := e1
        omega
      · have : sR = _ + (nsM hF - nsM h1) := e2
        omega
