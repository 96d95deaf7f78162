section COPY
variable {mt : Nat → zMI} {own : String} {cc : ByteArray} {nL : Nat} {ini : Bool} {kd pc : Nat}
theorem rI_cp (h : zM) (c i sp c2 i2 dp n c' i' f' : Nat) : rI (cpM h c i sp c2 i2 dp n) c' i' f' = if c' = c2 ∧ i' = i2 ∧ dp ≤ f' ∧ f' < dp + n then rI h c i (sp + (f' - dp)) else rI h c' i' f' := rfl
theorem zcopy {G : zG} {p : Program} {l : Launch} {e : Env} {R : Room} {s : State} {m : MethodId} {args : Array Value} {below : List Frame} {meth : Method} {c : Code} {Q : State → Prop} {H : Heap} {locs : List Loc} {cells slots : Nat} {ls : Array Slot} {h : zM} {rest : List Value} {idx : Nat}
    (hC : zCx G p s m args meth c own cc nL ini) (hH : zHp G h H) (hml : c.maxLocals = ls.size) (hlink : Cond.methodLink own idx arraycopyName ∈ tb) (hnat : Cond.native arraycopyName ∈ tb) (hstat : Cond.static arraycopyName ∈ tb) (hini : Cond.initialized "java/lang/System" ∈ tb)
    {c0 i0 c1 i1 : Nat} (hk0 : akd c0 = 1) (hk1 : akd c1 = 1) (hi0 : i0 < cnM h c0) (hi1 : i1 < cnM h c1) {sp dp n : Int32} (h1 : ¬ sp < 0) (h2 : ¬ dp < 0) (h3 : ¬ n < 0) (h4 : sp.toNatClampNeg + n.toNatClampNeg ≤ aln c0) (h5 : dp.toNatClampNeg + n.toNatClampNeg ≤ aln c1)
    (hframes : 1 ≤ R.frames) (hlocals : (rest.map fun v => v.category).sum + 18 ≤ R.locals) (hd : decode cc pc = .ok (.invokestatic idx, 3)) (hq : ∀ q ∈ locs, gB G ≤ q.base)
    (kk : ∀ (H1 : Heap) (locs1 : List Loc), zHp G (cpM h c0 i0 sp.toNatClampNeg c1 i1 dp.toNatClampNeg n.toNatClampNeg) H1 → (∀ q ∈ locs1, gB G ≤ q.base) → W p l e R s m args below meth c H1 locs1 cells slots Q (F0 m (pc + 3) ls rest)) : W p l e R s m args below meth c H locs cells slots Q (F0 m pc ls (.int n :: .int dp :: .ref (gad G c1 i1) :: .int sp :: .ref (gad G c0 i0) :: rest)) := by
  have nn : ∀ z : Int32, ¬ z < 0 → z.toInt = (z.toNatClampNeg : Int) := by
    intro z hz
    have hz0 : (0 : Int) ≤ z.toInt := by
      have := Int32.not_lt.mp hz
      simpa using Int32.le_iff_toInt_le.mp this
    show z.toInt = ((z.toInt.toNat : Nat) : Int)
    omega
  obtain ⟨hx, hb, hml0, hown, hts, hlk, hin, hK⟩ := id hC
  have ar : ∀ c i, akd c = 1 → i < cnM h c → H[gad G c i]? = some (arrV (gA G 1) (aln c) (fun j => .int (rI h c i j))) := by
    intro c i hk hi
    have := hH.2.2.2.2.2.1 c i hi (by rw [hk]; decide)
    rw [hk] at this
    rw [this]
    congr 2
    funext j
    rw [avl_I (by rw [hk]; decide)]
    rfl
  intro T hT X
  have hc0 := ar c0 i0 hk0 hi0
  have hc1 := ar c1 i1 hk1 hi1
  obtain ⟨-, k0, hk0', cm0, hkk0⟩ := (zarr hK (k := 1) (by decide) (by decide)).1 (aln c0) (fun j => .int (rI h c0 i0 j))
  obtain ⟨-, k1, hk1', cm1, hkk1⟩ := (zarr hK (k := 1) (by decide) (by decide)).1 (aln c1) (fun j => .int (rI h c1 i1 j))
  obtain ⟨vm', X', step⟩ := X.arraycopy hx hown (hts _ hlink) (hts _ hnat) (hts _ hstat) (hts _ hini) (src := gad G c0 i0) (dst := gad G c1 i1) (cs := arrV (gA G 1) (aln c0) (fun j => .int (rI h c0 i0 j))) (cd := arrV (gA G 1) (aln c1) (fun j => .int (rI h c1 i1 j))) (srcPos := sp) (destPos := dp) (n := n) (by rw [hT]; exact hc0) (by rw [hT]; exact hc1)
    (fun _ h => by cases h) (fun _ h => by cases h) (fun h => by cases h) (fun h => by cases h) hk0' hk1' hkk0 hkk1 (by simp [aty, refKind]) h1 h2 h3
    (by rw [nn sp h1, nn n h3, arrV_size]; omega)
    (by rw [nn dp h2, nn n h3, arrV_size]; omega)
    (fun vm₁ _ i hi => by
      have e : (arrV (gA G 1) (aln c0) (fun j => Value.int (rI h c0 i0 j))).slots.getD (sp.toNatClampNeg + i) .null = .int (rI h c0 i0 (sp.toNatClampNeg + i)) := by
        rw [Array.getD_eq_getD_getElem?, arrV_read _ _ (by omega)]
        rfl
      refine ⟨?_, ?_⟩
      · rw [e]
        rfl
      · rw [e]
        exact trivial)
    (g := F0 m pc ls (.int n :: .int dp :: .ref (gad G c1 i1) :: .int sp :: .ref (gad G c0 i0) :: rest)) rfl (by rw [hml]) (rest := rest) rfl (by rw [hb]; exact hd) hframes (by show 2 * 0 + _ + (nativeFrameWords "java/lang/System" "arraycopy" 5 + 11) ≤ _; rw [show nativeFrameWords "java/lang/System" "arraycopy" 5 = 7 from by decide]; omega)
  have e1 : copied (arrV (gA G 1) (aln c0) (fun j => .int (rI h c0 i0 j))) (arrV (gA G 1) (aln c1) (fun j => .int (rI h c1 i1 j))) sp dp n = arrV (gA G 1) (aln c1) (fun j => .int (va_cpy (rI h c0 i0) (rI h c1 i1) sp.toNatClampNeg dp.toNatClampNeg n.toNatClampNeg j)) := va_copied (fun z => .int z) _ _ _ _ h4
  rw [e1] at X' step
  have hl : gad G c1 i1 < H.size := (Array.getElem?_eq_some_iff.mp hc1).1
  generalize hcell : arrV (gA G 1) (aln c1) (fun j => Value.int (va_cpy (rI h c0 i0) (rI h c1 i1) sp.toNatClampNeg dp.toNatClampNeg n.toNatClampNeg j)) = cell at X' step
  have hheap : ((T.setVm vm').setCell (gad G c1 i1) cell).heap = H.setIfInBounds (gad G c1 i1) cell := by rw [← hT]; rfl
  have oq : ∀ q : Nat, q ≠ gad G c1 i1 → (H.setIfInBounds (gad G c1 i1) cell)[q]? = H[q]? := fun q hq => by simp [Array.getElem?_setIfInBounds, Ne.symm hq]
  have h19 : c1 ≠ 19 := fun q => by rw [q, akd19] at hk1; cases hk1
  have h12 : 12 ≤ c1 := by
    apply Decidable.byContradiction
    intro q
    rw [akd_obj (by omega)] at hk1
    cases hk1
  obtain ⟨t, a1, b1⟩ := kk _ _ (hH.upd (c := c1) (i := i1) zSm.cp hi1 h19 (by simp) oq (fun c' i' k hn => by
      unfold fvl
      rw [rI_cp, if_neg (fun q => hn.elim (fun z => z q.1) (fun z => z q.2.1))]
      rfl) (fun c' i' k hn => by
      have e9 : rI (cpM h c0 i0 sp.toNatClampNeg c1 i1 dp.toNatClampNeg n.toNatClampNeg) c' i' k = rI h c' i' k := by rw [rI_cp, if_neg (fun q => hn.elim (fun z => z q.1) (fun z => z q.2.1))]
      unfold avl
      rw [e9]
      rfl) (fun j => by rw [rI_cp, if_neg (fun q => h19 q.1.symm)]) (fun c' i' f hi => hH.2.2.2.2.2.2 c' i' f hi) (fun r hr => (zcl_none h12 hr).elim) (fun hz => by
      rw [show (H.setIfInBounds (gad G c1 i1) cell)[gad G c1 i1]? = some cell by simp [Array.getElem?_setIfInBounds, hl], ← hcell, hk1]
      congr 2
      funext j
      rw [avl_I (by rw [hk1]; decide), rI_cp]
      unfold va_cpy
      by_cases hj : dp.toNatClampNeg ≤ j ∧ j < dp.toNatClampNeg + n.toNatClampNeg
      · rw [if_pos hj, if_pos ⟨rfl, rfl, hj⟩]
        rfl
      · rw [if_neg hj, if_neg (fun q => hj q.2.2)]
        rfl)) (fun q hq' => by
      rcases List.mem_append.mp hq' with h | h
      · exact hq q h
      · obtain ⟨z, -, hz⟩ := List.mem_map.mp h
        rw [← hz]
        exact hH.ge hi1 h19) _ hheap X'
  exact ⟨t, step t a1, b1⟩
theorem tg_copy {a idx : Nat} (hlink : Cond.methodLink own idx arraycopyName ∈ tb) (hnat : Cond.native arraycopyName ∈ tb) (hstat : Cond.static arraycopyName ∈ tb) (hini : Cond.initialized "java/lang/System" ∈ tb) (hd : decode cc pc = .ok (.invokestatic idx, 3)) (ha : pc + 3 = a) : zTG mt own cc nL ini kd pc (tCp a) := by
  subst ha
  refine zTG.loc fun S => ?_
  obtain ⟨L, st, h, g⟩ := S
  rcases st with _ | ⟨(n | _ | _), st⟩ <;> try (exact ⟨_, _, _, rfl, fun hg => (nomatch (show false = true from hg))⟩; done)
  rcases st with _ | ⟨(dp | _ | _), st⟩ <;> try (exact ⟨_, _, _, rfl, fun hg => (nomatch (show false = true from hg))⟩; done)
  rcases st with _ | ⟨(_ | _ | r2), st⟩ <;> try (exact ⟨_, _, _, rfl, fun hg => (nomatch (show false = true from hg))⟩; done)
  rcases st with _ | ⟨(sp | _ | _), st⟩ <;> try (exact ⟨_, _, _, rfl, fun hg => (nomatch (show false = true from hg))⟩; done)
  rcases st with _ | ⟨(_ | _ | r), st⟩ <;> try (exact ⟨_, _, _, rfl, fun hg => (nomatch (show false = true from hg))⟩; done)
  refine ⟨_, _, _, rfl, fun hg => ?_⟩
  obtain ⟨g1, hg⟩ := and2 (show (Nat.beq (akd (clR r)) 1 && (Nat.beq (akd (clR r2)) 1 && (!decide (n < 0) && (!decide (sp < 0) && (!decide (dp < 0) && (decide (sp.toNatClampNeg + n.toNatClampNeg ≤ aln (clR r)) && (decide (dp.toNatClampNeg + n.toNatClampNeg ≤ aln (clR r2)) && (Nat.ble (ctS st) 8 && g)))))))) = true from hg)
  obtain ⟨g2, hg⟩ := and2 hg
  obtain ⟨g3, hg⟩ := and2 hg
  obtain ⟨g4, hg⟩ := and2 hg
  obtain ⟨g5, hg⟩ := and2 hg
  obtain ⟨g6, hg⟩ := and2 hg
  obtain ⟨g7, hg⟩ := and2 hg
  obtain ⟨g8, hgF⟩ := and2 hg
  obtain ⟨q, rfl, hk, -, -⟩ := akZ g1 (by decide)
  obtain ⟨q2, rfl, hk2, -, -⟩ := akZ g2 (by decide)
  refine ⟨hgF, zSm.cp, ?_⟩
  intro G p l e R s m args below meth c Q H locs cells slots ls hfl h1 h2 hC hH hF hq k
  have h8 := Nat.le_of_ble_eq_true g8
  have h38 := (hfl rfl).2
  have hct := ctS_cat (ad := gad G) st
  refine zcopy hC hH (by rw [hC.2.2.1]; exact hF.1.1.symm) hlink hnat hstat hini hk hk2 (okh (okt (okt (okt (okt hF.2.2.2))))) (okh (okt (okt hF.2.2.2))) (by simpa using g4) (by simpa using g5) (by simpa using g3) (of_decide_eq_true g6) (of_decide_eq_true g7) (hfl rfl).1 (by omega) hd hq fun H1 locs1 hH1 hq1 => ?_
  exact k H1 locs1 ls hH1 ⟨hF.1, hF.2.1, fun v hv => (zSm.cp).ok.mpr (hF.2.2.1 v hv), fun v hv => (zSm.cp).ok.mpr ((okt (okt (okt (okt (okt hF.2.2.2))))) v hv)⟩ hq1
theorem tg_ret (hk : kd ≤ 4) (hd : decode cc pc = .ok (rIn kd, 1)) : zTG mt own cc nL ini kd pc (tRe kd) := by
  intro S
  obtain ⟨L, st, h, g⟩ := S
  refine ⟨fun lab fl S' q => ?_, fun v h' g' q hg => ?_, fun k as lab S' q => ?_⟩
  · unfold tRe at q; dsimp only at q
    split at q <;> cases q
  · unfold tRe at q; dsimp only at q
    split at q <;> cases q
    · exact ⟨hg, rfl, rfl, hd, Or.inl ⟨rfl, rfl⟩⟩
    · exact ⟨hg, rfl, rfl, hd, Or.inr (Or.inl ⟨rfl, _, rfl⟩)⟩
    · exact ⟨(and2 hg).2, rfl, rfl, hd, Or.inr (Or.inr (Or.inl ⟨rfl, _, rfl, (and2 hg).1⟩))⟩
    · exact ⟨hg, rfl, rfl, hd, Or.inr (Or.inr (Or.inr (Or.inl ⟨rfl, _, rfl⟩)))⟩
    · exact ⟨hg, rfl, rfl, hd, Or.inr (Or.inr (Or.inr (Or.inr ⟨rfl, _, rfl⟩)))⟩
    · cases hg
  · unfold tRe at q; dsimp only at q
    split at q <;> cases q
end COPY
