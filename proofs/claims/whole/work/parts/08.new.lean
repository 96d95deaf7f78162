theorem cn_nw (h : zM) (c z c' : Nat) : cnM (nwM h c z) c' = if c' = c then cnM h c + 1 else cnM h c' := rfl
theorem ao_nw (h : zM) (c z c' i' : Nat) : aoM (nwM h c z) c' i' = if c' = c ∧ i' = cnM h c then ncM h else aoM h c' i' := rfl
theorem rI_nw (h : zM) (c z c' i' f : Nat) : rI (nwM h c z) c' i' f = if c' = c ∧ i' = cnM h c then 0 else rI h c' i' f := rfl
theorem rL_nw (h : zM) (c z c' i' f : Nat) : rL (nwM h c z) c' i' f = if c' = c ∧ i' = cnM h c then 0 else rL h c' i' f := rfl
theorem rR_nw (h : zM) (c z c' i' f : Nat) : rR (nwM h c z) c' i' f = if c' = c ∧ i' = cnM h c then none else rR h c' i' f := rfl
theorem cn_nw_lt {h : zM} {c z c' i' : Nat} (hi : i' < cnM (nwM h c z) c') : (i' < cnM h c' ∧ ¬ (c' = c ∧ i' = cnM h c)) ∨ (c' = c ∧ i' = cnM h c) := by
  rw [cn_nw] at hi
  by_cases e : c' = c
  · rw [if_pos e] at hi
    subst e
    by_cases e2 : i' = cnM h c'
    · exact Or.inr ⟨rfl, e2⟩
    · exact Or.inl ⟨by omega, fun q => e2 q.2⟩
  · rw [if_neg e] at hi
    exact Or.inl ⟨hi, fun q => e q.1⟩
theorem cn_nw_le {h : zM} {c z c' i' : Nat} (hi : i' < cnM h c') : i' < cnM (nwM h c z) c' := by
  rw [cn_nw]
  split
  · rename_i e
    subst e
    omega
  · exact hi
theorem zEx.nw {h : zM} {c z : Nat} : zEx h (nwM h c z) := by
  refine ⟨Nat.le_succ _, Nat.le_add_right _ _, rfl, fun c' i' hi => ⟨cn_nw_le hi, ?_⟩⟩
  rw [ao_nw, if_neg]
  rintro ⟨rfl, rfl⟩
  omega
theorem zOk.nw {h : zM} {c z : Nat} {v : zV} (hv : zOk h v) : zOk (nwM h c z) v := by
  rcases v with x | x | x
  · exact hv
  · exact hv
  · cases x with
    | none => exact hv
    | some q => exact cn_nw_le (z := z) hv
theorem zHp.new {G : zG} {h : zM} {H H1 : Heap} {c z : Nat} (hh : zHp G h H) (hA : zAg G (nwM h c z)) (hc : c ≠ 19) (z1 : H1.size = H.size + 1) (o1 : ∀ q, q < H.size → H1[q]? = H[q]?)
    (ho : ∀ r, zcl[c]? = some r → t_OB H.size ((gD G).1 c) r.2.2 ((gD G).2 c) H1 (fun k => zTr (gad G) (fvl (nwM h c z) c (cnM h c) k)))
    (ha : akd c ≠ 0 → H1[H.size]? = some (arrV (gA G (akd c)) (aln c) (fun j => zTr (gad G) (avl (nwM h c z) c (cnM h c) j)))) : zHp G (nwM h c z) H1 ∧ gad G c (cnM h c) = H.size := by
  have hn : gad G c (cnM h c) = H.size := by
    rw [hA c (cnM h c) (by rw [cn_nw, if_pos rfl]; omega) hc, ao_nw, if_pos ⟨rfl, rfl⟩, hh.1]
  obtain ⟨b1, b2, ⟨b3, b4⟩, ⟨s1, s2, s3, s4, s5⟩, b6, b7, b8⟩ := hh
  have hB : gB G ≤ H.size := by omega
  have hlt : ∀ c' i', i' < cnM h c' → c' ≠ 19 → gad G c' i' < H.size := fun c' i' hi hc' => by
    have := b3 c' i' hi hc'
    omega
  refine ⟨⟨?_, fun q hq => ?_, ⟨fun c' i' hi hc' => ?_, fun c' i' c2 i2 hi hi2 hc' hc2 e => ?_⟩, ⟨?_, s2, s3, s4, fun j hj => ?_⟩, fun c' i' hi r hr => ?_, fun c' i' hi hk => ?_, fun c' i' f hi => ?_⟩, hn⟩
  · rw [z1, b1]
    rfl
  · rw [o1 q (by omega)]
    exact b2 q hq
  · refine ⟨hA c' i' hi hc', ?_⟩
    show aoM (nwM h c z) c' i' < ncM h + 1
    rw [ao_nw]
    rcases cn_nw_lt hi with ⟨h1, h2⟩ | h2
    · rw [if_neg h2]
      have := (b3 c' i' h1 hc').2
      omega
    · rw [if_pos h2]
      omega
  · rw [ao_nw, ao_nw] at e
    rcases cn_nw_lt hi with ⟨h1, h2⟩ | h2 <;> rcases cn_nw_lt hi2 with ⟨h3, h4⟩ | h4
    · rw [if_neg h2, if_neg h4] at e
      exact b4 c' i' c2 i2 h1 h3 hc' hc2 e
    · rw [if_neg h2, if_pos h4] at e
      have := (b3 c' i' h1 hc').2
      omega
    · rw [if_pos h2, if_neg h4] at e
      have := (b3 c2 i2 h3 hc2).2
      omega
    · exact ⟨h2.1.trans h4.1.symm, by rw [h2.2, h4.2]⟩
  · rw [cn_nw, if_neg (Ne.symm hc)]
    exact s1
  · rw [rI_nw, if_neg (fun q => hc q.1.symm)]
    exact s5 j hj
  · rcases cn_nw_lt hi with ⟨h1, h2⟩ | ⟨rfl, rfl⟩
    · have hc' : c' ≠ 19 := by have := zcl_lt hr; omega
      refine ((b6 c' i' h1 r hr).kept (o1 _ (hlt c' i' h1 hc'))).to (fun k _ => ?_)
      unfold fvl
      rw [rI_nw, rL_nw, rR_nw, if_neg h2, if_neg h2, if_neg h2]
    · rw [hn]
      exact ho r hr
  · rcases cn_nw_lt hi with ⟨h1, h2⟩ | ⟨rfl, rfl⟩
    · have hc' : c' ≠ 19 := fun q => hk (by rw [q]; rfl)
      rw [o1 _ (hlt c' i' h1 hc'), b7 c' i' h1 hk]
      congr 2
      funext j
      unfold avl
      rw [rI_nw, rR_nw, if_neg h2, if_neg h2]
    · rw [hn]
      exact ha hk
  · rcases cn_nw_lt hi with ⟨h1, h2⟩ | h2
    · rw [rR_nw, if_neg h2]
      exact zOk.nw (b8 c' i' f h1)
    · rw [rR_nw, if_pos h2]
      trivial
/-- what a made cell holds at first -/
theorem fvl_new {h : zM} {c z k : Nat} {ad : Nat → Nat → Nat} (hk : kdF (fty c k) ≠ 0) : zTr ad (fvl (nwM h c z) c (cnM h c) k) = defaultValue (fty c k) := by
  unfold fvl
  rw [rI_nw, rL_nw, rR_nw, if_pos ⟨rfl, rfl⟩, if_pos ⟨rfl, rfl⟩, if_pos ⟨rfl, rfl⟩]
  revert hk
  cases fty c k <;> simp [kdF, zTr, defaultValue]
theorem avl_new {h : zM} {c z k : Nat} {ad : Nat → Nat → Nat} : zTr ad (avl (nwM h c z) c (cnM h c) k) = if akd c < 4 then .int 0 else .null := by
  have a1 : rI (nwM h c z) c (cnM h c) k = 0 := by rw [rI_nw, if_pos ⟨rfl, rfl⟩]
  have a2 : rR (nwM h c z) c (cnM h c) k = none := by rw [rR_nw, if_pos ⟨rfl, rfl⟩]
  unfold avl
  rw [a1, a2]
  split <;> rfl
theorem zkd0 : ∀ (c : Nat) (r : vw_C), zcl[c]? = some r → ∀ k, k < r.2.2 → kdF (fty c k) ≠ 0 := by
  intro c r h
  match c, h with
  | 0, h => cases h; decide
  | 1, h => cases h; decide
  | 2, h => cases h; decide
  | 3, h => cases h; decide
  | 4, h => cases h; decide
  | 5, h => cases h; decide
  | 6, h => cases h; decide
  | 7, h => cases h; decide
  | 8, h => cases h; decide
  | 9, h => cases h; decide
  | 10, h => cases h; decide
  | 11, h => cases h; decide
  | n + 12, h => simp [zcl] at h
theorem zFr.nw {ad : Nat → Nat → Nat} {nL : Nat} {L : List (Option zV)} {st st' : List zV} {h : zM} {c z : Nat} {g g' : Bool} {ls : Array Slot} (hF : zFr ad nL (L, st, h, g) ls) (hs : ∀ v, v ∈ st' → zOk h v) : zFr ad nL (L, vR (some (c, cnM h c)) :: st', nwM h c z, g') ls :=
  ⟨hF.1, hF.2.1, fun v hv => zOk.nw (hF.2.2.1 v hv), okc (show cnM h c < cnM (nwM h c z) c by rw [cn_nw, if_pos rfl]; omega) (fun v hv => zOk.nw (hs v hv))⟩
section NEW
variable {own : String} {cc : ByteArray} {nL : Nat} {ini : Bool} {pc : Nat}
theorem sg_new {idx c0 z : Nat} {r : vw_C} (hr : zcl[c0]? = some r) (hz : r.2.2 = z) (hcl : Cond.classLink own idx r.1 ∈ tb) (hinst : Cond.instantiable r.1 z ∈ tb) (hini : Cond.initialized r.1 ∈ tb) (hd : decode cc pc = .ok (.new idx, 3)) : zSG own cc nL ini pc 3 (iNew c0 z) := by
  rintro ⟨L, st, h, g⟩ hg
  refine ⟨hg, zEx.nw, ?_⟩
  intro G p l e R s m args below meth c Q H locs cells slots ls hC hH hF hq hA h1 h2 k
  have hc12 := zcl_lt hr
  have e1 : ncM (nwM h c0 z) - ncM h = 1 := by show ncM h + 1 - ncM h = 1; omega
  have e2 : nsM (nwM h c0 z) - nsM h = z := by show nsM h + z - nsM h = z; omega
  dsimp only [iNew] at hA h1 h2 k ⊢
  rw [e1] at h1
  rw [e2] at h2
  simp only [e1, e2] at k
  obtain ⟨hx, hb, hml, hown, hts, hlk, hin, hK⟩ := id hC
  have hKn := hK.1.1 c0 r hr
  subst hz
  refine W.newcK hx hb hown (hts _ hcl) (hts _ hinst) (hts _ hini) rfl hd h1 h2 hKn.2.1 rfl fun H1 kC hkC e1 z1 o1 => ?_
  obtain ⟨hws, hnm, hty⟩ := zck c0 r hr
  have hnew := zHp.new (z := r.2.2) hH hA (by omega) z1 o1 (fun r' hr' => by
    rw [hr] at hr'
    cases hr'
    exact (u_born (fty c0) hts hws hKn hkC e1 hty).to (fun j hj => (fvl_new (zkd0 c0 r hr j hj)).symm)) (fun hz => absurd (akd_obj hc12) hz)
  have := k H1 locs ls hnew.1 (hF.nw hF.2.2.2) hq
  rw [List.map_cons, show zTr (gad G) (vR (some (c0, cnM h c0))) = .ref (gad G c0 (cnM h c0)) from rfl, hnew.2] at this
  exact this
theorem ofNat_nn {n : Nat} (h : n < 2 ^ 31) : ¬ Int32.ofNat n < 0 ∧ (Int32.ofNat n).toNatClampNeg = n := ⟨nI_pos h, nI_clamp h⟩
theorem sg_newarray {c0 k0 : Nat} {at0 : ArrayType} (hk : akd c0 = k0) (hk3 : k0 < 4) (hk1 : 1 ≤ k0) (hty : newarray.typeOf at0 = aty k0) (hln : aln c0 < 10000) (harr : Cond.arrayClass (newarray.typeOf at0) ∈ tb) (hd : decode cc pc = .ok (.newarray at0, 2)) : zSG own cc nL ini pc 2 (iNA c0) := by
  rintro ⟨L, st, h, g⟩ hg
  rcases st with _ | ⟨(n | _ | _), st⟩ <;> try (exact (nomatch (show false = true from hg)); done)
  obtain ⟨hn, hg⟩ := and2 (show (decide (n = Int32.ofNat (aln c0)) && g) = true from hg)
  have hn : n = Int32.ofNat (aln c0) := of_decide_eq_true hn
  refine ⟨hg, zEx.nw, ?_⟩
  intro G p l e R s m args below meth c Q H locs cells slots ls hC hH hF hq hA h1 h2 k
  have e1 : ncM (nwM h c0 (aln c0)) - ncM h = 1 := by show ncM h + 1 - ncM h = 1; omega
  have e2 : nsM (nwM h c0 (aln c0)) - nsM h = aln c0 := by show nsM h + aln c0 - nsM h = aln c0; omega
  dsimp only [iNA] at hA h1 h2 k ⊢
  rw [e1] at h1
  rw [e2] at h2
  simp only [e1, e2] at k
  obtain ⟨hx, hb, hml, hown, hts, hlk, hin, hK⟩ := id hC
  obtain ⟨n1, n2⟩ := ofNat_nn (n := aln c0) (by omega)
  have hc12 : 12 ≤ c0 := by
    apply Decidable.byContradiction
    intro q
    rw [akd_obj (by omega)] at hk
    omega
  have hc19 : c0 ≠ 19 := fun q => by rw [q, akd19] at hk; omega
  subst hn
  have hcb : componentBytes (newarray.typeOf at0) ≤ 8 := by rw [hty]; rcases (show k0 = 1 ∨ k0 = 2 ∨ k0 = 3 by omega) with rfl | rfl | rfl <;> decide
  refine va_newaK hx hb (hts _ harr) rfl hd rfl n1 n2 (Nat.le_trans (Nat.mul_le_mul (Nat.le_of_lt hln) hcb) (by decide)) h1 h2 rfl fun H1 cA e1 z1 o1 hAr hNm => ?_
  have hcA : cA = gA G k0 := by
    have h9 := (zarr hK (k := k0) hk1 (by omega)).2
    have h8 : s.vm.findClass ("[" ++ (aty k0).toString) = some (gA G k0) := by
      rcases (show k0 = 1 ∨ k0 = 2 ∨ k0 = 3 by omega) with rfl | rfl | rfl <;> exact h9
    have h7 : s.vm.findClass ("[" ++ (newarray.typeOf at0).toString) = some cA := hNm
    rw [hty, h8] at h7
    exact (Option.some.inj h7).symm
  have hdv : defaultValue (newarray.typeOf at0) = .int 0 := by rw [hty]; rcases (show k0 = 1 ∨ k0 = 2 ∨ k0 = 3 by omega) with rfl | rfl | rfl <;> rfl
  have hnew := zHp.new (z := aln c0) hH hA hc19 z1 o1 (fun r' hr' => (zcl_none hc12 hr').elim) (fun hz => by
    rw [hk, ← hcA, e1, hdv]
    congr 2
    funext j
    rw [avl_new, if_pos (by rw [hk]; exact hk3)])
  have := k H1 locs ls hnew.1 (hF.nw (okt hF.2.2.2)) hq
  rw [List.map_cons, show zTr (gad G) (vR (some (c0, cnM h c0))) = .ref (gad G c0 (cnM h c0)) from rfl, hnew.2] at this
  exact this
theorem sg_anewarray {c0 k0 idx : Nat} {C : String} (hk : akd c0 = k0) (hk4 : 4 ≤ k0) (hk8 : k0 ≤ 8) (hty : aty k0 = .object C) (hln : aln c0 < 10000) (hao : C ∈ zAOl) (hcl : Cond.classLink own idx C ∈ tb) (hd : decode cc pc = .ok (.anewarray idx, 3)) : zSG own cc nL ini pc 3 (iNA c0) := by
  rintro ⟨L, st, h, g⟩ hg
  rcases st with _ | ⟨(n | _ | _), st⟩ <;> try (exact (nomatch (show false = true from hg)); done)
  obtain ⟨hn, hg⟩ := and2 (show (decide (n = Int32.ofNat (aln c0)) && g) = true from hg)
  have hn : n = Int32.ofNat (aln c0) := of_decide_eq_true hn
  refine ⟨hg, zEx.nw, ?_⟩
  intro G p l e R s m args below meth c Q H locs cells slots ls hC hH hF hq hA h1 h2 k
  have e1 : ncM (nwM h c0 (aln c0)) - ncM h = 1 := by show ncM h + 1 - ncM h = 1; omega
  have e2 : nsM (nwM h c0 (aln c0)) - nsM h = aln c0 := by show nsM h + aln c0 - nsM h = aln c0; omega
  dsimp only [iNA] at hA h1 h2 k ⊢
  rw [e1] at h1
  rw [e2] at h2
  simp only [e1, e2] at k
  obtain ⟨hx, hb, hml, hown, hts, hlk, hin, hK⟩ := id hC
  obtain ⟨n1, n2⟩ := ofNat_nn (n := aln c0) (by omega)
  have hc12 : 12 ≤ c0 := by
    apply Decidable.byContradiction
    intro q
    rw [akd_obj (by omega)] at hk
    omega
  have hc19 : c0 ≠ 19 := fun q => by rw [q, akd19] at hk; omega
  subst hn
  refine W.anew hx hb hown (hts _ hcl) (va_AO.use (hK.2.1 C hao)) rfl hd rfl n1 (by rw [n2]; omega) h1 (by rw [n2]; exact h2) fun cA kA comp f1 f2 f3 f4 => ?_
  rw [n2]
  generalize hH1 : H.push ({ cls := cA, slots := Array.replicate (aln c0) .null, vm := .none } : Cell) = H1
  have z1 : H1.size = H.size + 1 := by rw [← hH1, Array.size_push]
  have e1 : H1[H.size]? = some (arrV cA (aln c0) (fun _ => .null)) := by rw [← hH1, Array.getElem?_push_size, ← arrV_new]
  have o1 : ∀ q : Nat, q < H.size → H1[q]? = H[q]? := fun q hq => by rw [← hH1, Array.getElem?_push, if_neg (Nat.ne_of_lt hq)]
  have hcA : cA = gA G k0 := by
    have h9 := (zarr hK (k := k0) (by omega) hk8).2
    rw [hty] at h9
    obtain ⟨_, _, -, -, -, h8⟩ := h9
    exact Option.some.inj (f1.symm.trans h8)
  have hnew := zHp.new (z := aln c0) hH hA hc19 z1 o1 (fun r' hr' => (zcl_none hc12 hr').elim) (fun hz => by
    rw [hk, ← hcA, e1]
    congr 2
    funext j
    rw [avl_new, if_neg (by rw [hk]; omega)])
  have := k H1 locs ls hnew.1 (hF.nw (okt hF.2.2.2)) hq
  rw [List.map_cons, show zTr (gad G) (vR (some (c0, cnM h c0))) = .ref (gad G c0 (cnM h c0)) from rfl, hnew.2] at this
  exact this
/-- a store into an array: what the memory is behind it -/
theorem zHp.put {G : zG} {h h' : zM} {H H' : Heap} {c i x : Nat} {v : zV} (hh : zHp G h H) (sm : zSm h h') (hi : i < cnM h c) (hk : akd c ≠ 0) (e1 : H'[gad G c i]? = some ((arrV (gA G (akd c)) (aln c) (fun j => zTr (gad G) (avl h c i j))).setSlot x (zTr (gad G) v))) (z : H'.size = H.size) (oq : ∀ q, q ≠ gad G c i → H'[q]? = H[q]?)
    (hf : ∀ c' i' k, c' < 12 → fvl h' c' i' k = fvl h c' i' k) (hav : ∀ c' i' k, avl h' c' i' k = if c' = c ∧ i' = i ∧ k = x then v else avl h c' i' k) (hsc : c ≠ 19 → ∀ j, rI h' 19 0 j = rI h 19 0 j)
    (hv : ∀ c' i' f, i' < cnM h c' → zOk h (vR (rR h' c' i' f))) : zHp G h' H' := by
  have hc19 : c ≠ 19 := fun q => hk (by rw [q]; rfl)
  have hc12 : 12 ≤ c := by
    apply Decidable.byContradiction
    intro q
    exact hk (akd_obj (by omega))
  obtain ⟨b1, b2, b3, b4, b6, b7, b8⟩ := id hh
  obtain ⟨s1, s2, s3, s4, s5⟩ := b4
  have hge := hh.ge hi hc19
  refine ⟨by rw [z, b1, sm.2.2.1], fun q hq => ?_, ?_, ⟨by rw [sm.1]; exact s1, s2, s3, by rw [sm.2.2.2.2]; exact s4, fun j hj => by rw [hsc hc19 j]; exact s5 j hj⟩, fun c' i' hi' r hr => ?_, fun c' i' hi' hk' => ?_, fun c' i' f hi' => ?_⟩
  · rw [oq q (by omega)]
    exact b2 q hq
  · unfold zOrd
    rw [sm.1, sm.2.1, sm.2.2.1]
    exact b3
  · rw [sm.1] at hi'
    have hc' := zcl_lt hr
    exact ((b6 c' i' hi' r hr).kept (oq _ (hh.ne hi hi' hc19 (by omega) (Or.inl (by omega))))).to (fun k _ => by rw [hf c' i' k hc'])
  · rw [sm.1] at hi'
    by_cases e : c' = c ∧ i' = i
    · obtain ⟨rfl, rfl⟩ := e
      rw [e1, arrV_store]
      congr 2
      funext j
      rw [hav]
      unfold updV
      by_cases hj : j = x
      · simp [hj]
      · simp [hj]
    · have e : c' ≠ c ∨ i' ≠ i := by
        by_cases e1 : c' = c
        · exact Or.inr (fun e2 => e ⟨e1, e2⟩)
        · exact Or.inl e1
      have hc' : c' ≠ 19 := fun q => hk' (by rw [q]; rfl)
      rw [oq _ (hh.ne hi hi' hc19 hc' e), b7 c' i' hi' hk']
      congr 2
      funext j
      rw [hav, if_neg (not3 e)]
  · rw [sm.1] at hi'
    exact sm.ok.mpr (hv c' i' f hi')
theorem avl_wI {h : zM} {c i x : Nat} {v : Int32} (hk : akd c < 4) (c' i' k : Nat) : avl (wI h c i x v) c' i' k = if c' = c ∧ i' = i ∧ k = x then vI v else avl h c' i' k := by
  by_cases e : c' = c ∧ i' = i ∧ k = x
  · obtain ⟨rfl, rfl, rfl⟩ := e
    rw [avl_I hk, rI_wI]
    simp
  · rw [if_neg e]
    unfold avl
    rw [rI_wI, if_neg e]
    rfl
theorem avl_wR {h : zM} {c i x : Nat} {v : zR} (hk : ¬ akd c < 4) (c' i' k : Nat) : avl (wR h c i x v) c' i' k = if c' = c ∧ i' = i ∧ k = x then vR v else avl h c' i' k := by
  by_cases e : c' = c ∧ i' = i ∧ k = x
  · obtain ⟨rfl, rfl, rfl⟩ := e
    rw [avl_R hk, rR_wR]
    simp
  · rw [if_neg e]
    unfold avl
    rw [rR_wR, if_neg e]
    rfl
theorem lc1 {B a k : Nat} {locs : List Loc} (h : ∀ q ∈ locs, B ≤ q.base) (ha : B ≤ a) : ∀ q ∈ locs ++ [⟨a, k⟩], B ≤ q.base := by
  intro q hq
  rcases List.mem_append.mp hq with h1 | h1
  · exact h q h1
  · rw [List.mem_singleton.mp h1]
    exact ha
theorem sg_iastore (hd : decode cc pc = .ok (.iastore, 1)) : zSG own cc nL ini pc 1 iWI := by
  rintro ⟨L, st, h, g⟩ hg
  rcases st with _ | ⟨(v | _ | _), st⟩ <;> try (exact (nomatch (show false = true from hg)); done)
  rcases st with _ | ⟨(i | _ | _), st⟩ <;> try (exact (nomatch (show false = true from hg)); done)
  rcases st with _ | ⟨(_ | _ | r), st⟩ <;> try (exact (nomatch (show false = true from hg)); done)
  obtain ⟨hm, hg⟩ := and2 (show (Nat.beq (akd (clR r)) 1 && (ixOk (aln (clR r)) i && g)) = true from hg)
  obtain ⟨hx, hg⟩ := and2 hg
  refine ⟨hg, zSm.wI.ex, ?_⟩
  obtain ⟨q, rfl, hk, h19, h12⟩ := akZ hm (by decide)
  have hin := ixOk_in hx
  refine zSt.sm (h' := wI h q.1 q.2 i.toNatClampNeg v) zSm.wI (fun h => okt (okt (okt h))) fun G p l e R s m args below meth c Q H locs cells slots ls hC hH hF hq k => ?_
  have hi := okh (okt (okt hF.2.2.2))
  have hcell := hH.2.2.2.2.2.1 q.1 q.2 hi (by rw [hk]; decide)
  refine W.iast hC.1 hC.2.1 hcell (by rw [hk]; exact (zarr hC.2.2.2.2.2.2.2 (k := 1) (by decide) (by decide)).1 _ _) (fun z => by cases z) (by rw [arrV_size]; exact hin) rfl rfl hd fun H' e1 z oq => ?_
  exact k H' _ (hH.put (v := vI v) zSm.wI hi (by rw [hk]; decide) e1 z oq (fun c' i' x hc => by unfold fvl; rw [rI_wI, if_neg (not3 (Or.inl (by omega)))]; rfl) (avl_wI (by rw [hk]; decide)) (fun h9 j => by rw [rI_wI, if_neg (not3 (Or.inl (Ne.symm h9)))]) (fun c' i' f hi => hH.2.2.2.2.2.2 c' i' f hi)) (lc1 hq (hH.ge hi h19))
theorem sg_bastore (hd : decode cc pc = .ok (.bastore, 1)) : zSG own cc nL ini pc 1 iWB := by
  rintro ⟨L, st, h, g⟩ hg
  rcases st with _ | ⟨(v | _ | _), st⟩ <;> try (exact (nomatch (show false = true from hg)); done)
  rcases st with _ | ⟨(i | _ | _), st⟩ <;> try (exact (nomatch (show false = true from hg)); done)
  rcases st with _ | ⟨(_ | _ | r), st⟩ <;> try (exact (nomatch (show false = true from hg)); done)
  obtain ⟨hm, hg⟩ := and2 (show (Nat.beq (akd (clR r)) 2 && (ixOk (aln (clR r)) i && g)) = true from hg)
  obtain ⟨hx, hg⟩ := and2 hg
  refine ⟨hg, zSm.wI.ex, ?_⟩
  obtain ⟨q, rfl, hk, h19, h12⟩ := akZ hm (by decide)
  have hin := ixOk_in hx
  refine zSt.sm (h' := wI h q.1 q.2 i.toNatClampNeg v.toInt8.toInt32) zSm.wI (fun h => okt (okt (okt h))) fun G p l e R s m args below meth c Q H locs cells slots ls hC hH hF hq k => ?_
  have hi := okh (okt (okt hF.2.2.2))
  have hcell := hH.2.2.2.2.2.1 q.1 q.2 hi (by rw [hk]; decide)
  refine W.bast hC.1 hC.2.1 hcell (by rw [hk]; exact (zarr hC.2.2.2.2.2.2.2 (k := 2) (by decide) (by decide)).1 _ _) (fun z => by cases z) (by rw [arrV_size]; exact hin) rfl rfl hd fun H' e1 z oq => ?_
  have en : narrow .byte (.int v) = .int v.toInt8.toInt32 := by rw [← vp_nar_byte]; rfl
  rw [en] at e1
  exact k H' _ (hH.put (v := vI v.toInt8.toInt32) zSm.wI hi (by rw [hk]; decide) e1 z oq (fun c' i' x hc => by unfold fvl; rw [rI_wI, if_neg (not3 (Or.inl (by omega)))]; rfl) (avl_wI (by rw [hk]; decide)) (fun h9 j => by rw [rI_wI, if_neg (not3 (Or.inl (Ne.symm h9)))]) (fun c' i' f hi => hH.2.2.2.2.2.2 c' i' f hi)) (lc1 hq (hH.ge hi h19))
theorem sg_zastore (hd : decode cc pc = .ok (.bastore, 1)) : zSG own cc nL ini pc 1 iWZ := by
  rintro ⟨L, st, h, g⟩ hg
  rcases st with _ | ⟨(v | _ | _), st⟩ <;> try (exact (nomatch (show false = true from hg)); done)
  rcases st with _ | ⟨(i | _ | _), st⟩ <;> try (exact (nomatch (show false = true from hg)); done)
  rcases st with _ | ⟨(_ | _ | r), st⟩ <;> try (exact (nomatch (show false = true from hg)); done)
  obtain ⟨hm, hg⟩ := and2 (show (Nat.beq (akd (clR r)) 3 && (ixOk (aln (clR r)) i && (isB v && g))) = true from hg)
  obtain ⟨hx, hg⟩ := and2 hg
  obtain ⟨hB, hg⟩ := and2 hg
  refine ⟨hg, zSm.wI.ex, ?_⟩
  obtain ⟨q, rfl, hk, h19, h12⟩ := akZ hm (by decide)
  have hin := ixOk_in hx
  refine zSt.sm (h' := wI h q.1 q.2 i.toNatClampNeg v) zSm.wI (fun h => okt (okt (okt h))) fun G p l e R s m args below meth c Q H locs cells slots ls hC hH hF hq k => ?_
  have hi := okh (okt (okt hF.2.2.2))
  have hcell := hH.2.2.2.2.2.1 q.1 q.2 hi (by rw [hk]; decide)
  refine W.zast hC.1 hC.2.1 hcell (by rw [hk]; exact (zarr hC.2.2.2.2.2.2.2 (k := 3) (by decide) (by decide)).1 _ _) (fun z => by cases z) (by rw [arrV_size]; exact hin) rfl rfl hd fun H' e1 z oq => ?_
  rw [(nar_Z (ty := .boolean) rfl hB).1] at e1
  exact k H' _ (hH.put (v := vI v) zSm.wI hi (by rw [hk]; decide) e1 z oq (fun c' i' x hc => by unfold fvl; rw [rI_wI, if_neg (not3 (Or.inl (by omega)))]; rfl) (avl_wI (by rw [hk]; decide)) (fun h9 j => by rw [rI_wI, if_neg (not3 (Or.inl (Ne.symm h9)))]) (fun c' i' f hi => hH.2.2.2.2.2.2 c' i' f hi)) (lc1 hq (hH.ge hi h19))
theorem sg_aastore {n c0 : Nat} {r0 : vw_C} (h1 : 4 ≤ n) (h2 : n ≤ 8) (hr0 : zcl[c0]? = some r0) (hty : aty n = .object r0.1) (hd : decode cc pc = .ok (.aastore, 1)) : zSG own cc nL ini pc 1 (iWR n c0) := by
  rintro ⟨L, st, h, g⟩ hg
  rcases st with _ | ⟨(_ | _ | v), st⟩ <;> try (exact (nomatch (show false = true from hg)); done)
  rcases st with _ | ⟨(i | _ | _), st⟩ <;> try (exact (nomatch (show false = true from hg)); done)
  rcases st with _ | ⟨(_ | _ | r), st⟩ <;> try (exact (nomatch (show false = true from hg)); done)
  obtain ⟨hm, hg⟩ := and2 (show (Nat.beq (akd (clR r)) n && (Nat.beq (clR v) c0 && (ixOk (aln (clR r)) i && g))) = true from hg)
  obtain ⟨hcv, hg⟩ := and2 hg
  obtain ⟨hx, hg⟩ := and2 hg
  refine ⟨hg, zSm.wR.ex, ?_⟩
  obtain ⟨q, rfl, hk, h19, h12⟩ := akZ hm (by omega)
  have hcv := Nat.eq_of_beq_eq_true hcv
  have hc0 := zcl_lt hr0
  cases v with
  | none => exact absurd hcv (by intro e; rw [← e] at hc0; exact absurd hc0 (by decide))
  | some w =>
  have hcv : w.1 = c0 := hcv
  have hin := ixOk_in hx
  have hlt : i.toNatClampNeg < aln q.1 := Nat.not_le.mp fun z => hin (Or.inr z)
  have h0 : ¬ i < 0 := fun z => hin (Or.inl z)
  refine zSt.sm (h' := wR h q.1 q.2 i.toNatClampNeg (some w)) zSm.wR (fun h => okt (okt (okt h))) fun G p l e R s m args below meth c Q H locs cells slots ls hC hH hF hq k => ?_
  have hi := okh (okt (okt hF.2.2.2))
  have hw : w.2 < cnM h w.1 := okh hF.2.2.2
  rw [hcv] at hw
  have hK := hC.2.2.2.2.2.2.2
  have hcell := hH.2.2.2.2.2.1 q.1 q.2 hi (by rw [hk]; omega)
  obtain ⟨cellV, g1, g2, g3, -⟩ := hH.2.2.2.2.1 c0 w.2 hw r0 hr0
  have hcls := (hK.1.1 c0 r0 hr0).2
  have hRA := (zarr hK (k := n) (by omega) h2).2
  rw [hty] at hRA
  obtain ⟨kA, comp, k1, k2, k3, -⟩ := hRA
  have hcomp : comp = (gD G).1 c0 := Option.some.inj (k3.symm.trans hcls.1)
  subst hcomp
  obtain ⟨kC, hkC, -⟩ := id hcls.2
  show W p l e R s m args below meth c H locs cells slots Q (F0 m pc ls (.ref (gad G w.1 w.2) :: .int i :: .ref (gad G q.1 q.2) :: st.map (zTr (gad G))))
  rw [hcv]
  refine W.aast hC.1 hC.2.1 hcell (fun z h => by cases h) (fun h => by cases h) (by rw [hk]; exact k1) k2 rfl hkC ⟨h0, by rw [arrV_size]; exact hlt⟩ g1 (fun z h => by rw [g3] at h; cases h) (by rw [g2]; exact hkC) (by rw [g2]; exact va_assign hcls) rfl rfl hd fun H' e1 z oq => ?_
  have e1 : H'[gad G q.1 q.2]? = some ((arrV (gA G (akd q.1)) (aln q.1) (fun j => zTr (gad G) (avl h q.1 q.2 j))).setSlot i.toNatClampNeg (zTr (gad G) (vR (some w)))) := by rw [e1, show zTr (gad G) (vR (some w)) = .ref (gad G w.1 w.2) from rfl, hcv]
  refine k H' _ (hH.put (v := vR (some w)) zSm.wR hi (by rw [hk]; omega) e1 z oq (fun c' i' x hc => by unfold fvl; rw [rR_wR, if_neg (not3 (Or.inl (by omega)))]; rfl) (avl_wR (by rw [hk]; omega)) (fun h9 j => rfl) (fun c' i' f hi => ?_)) (lc1 hq (hH.ge hi h19))
  rw [rR_wR]
  split
  · exact okh hF.2.2.2
  · exact hH.2.2.2.2.2.2 c' i' f hi
end NEW
