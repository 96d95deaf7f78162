theorem zSt.sm {own : String} {cc : ByteArray} {nL : Nat} {ini : Bool} {pc pc' : Nat} {L : List (Option zV)} {st st' : List zV} {h h' : zM} {g g' : Bool} (sm : zSm h h') (hs : (∀ v, v ∈ st → zOk h v) → ∀ v, v ∈ st' → zOk h v)
    (hw : ∀ (G : zG) (p : Program) (l : Launch) (e : Env) (R : Room) (s : State) (m : MethodId) (args : Array Value) (below : List Frame) (meth : Method) (c : Code) (Q : State → Prop) (H : Heap) (locs : List Loc) (cells slots : Nat) (ls : Array Slot),
      zCx G p s m args meth c own cc nL ini → zHp G h H → zFr (gad G) nL (L, st, h, g) ls → (∀ q ∈ locs, gB G ≤ q.base) →
      (∀ (H' : Heap) (locs' : List Loc), zHp G h' H' → (∀ q ∈ locs', gB G ≤ q.base) → W p l e R s m args below meth c H' locs' cells slots Q (F0 m pc' ls (st'.map (zTr (gad G))))) →
      W p l e R s m args below meth c H locs cells slots Q (F0 m pc ls (st.map (zTr (gad G))))) :
    zSt own cc nL ini pc pc' (L, st, h, g) (L, st', h', g') := by
  intro G p l e R s m args below meth c Q H locs cells slots ls hC hH hF hq hA h1 h2 k
  refine hw G p l e R s m args below meth c Q H locs cells slots ls hC hH hF hq fun H' locs' hH' hq' => ?_
  have hn : ncM h' = ncM h := sm.2.2.1
  have hn2 : nsM h' = nsM h := sm.2.2.2.1
  have := k H' locs' ls hH' ⟨hF.1, hF.2.1, fun v hv => sm.ok.mpr (hF.2.2.1 v hv), fun v hv => sm.ok.mpr (hs hF.2.2.2 v hv)⟩ hq'
  simpa [hn, hn2] using this
theorem memZ {own : String} {idx : Nat} {cs : List Nat} {j kd : Nat} {fin dc : Bool} (hfl : zFl own idx cs j kd fin dc) {r : zR} (hm : memN cs (clR r) = true) : ∃ q, r = some q ∧ memN cs q.1 = true ∧ kdF (fty q.1 j) = kd ∧ q.1 < 12 := by
  obtain ⟨ref, name, desc, hl, hall⟩ := hfl
  obtain ⟨r', hr, -, -, -, -, -, -, hk⟩ := hall _ hm
  have := zcl_lt hr
  cases r with
  | none => simp [clR] at this
  | some q => exact ⟨q, rfl, hm, hk, this⟩
theorem akZ {k : Nat} {r : zR} (h : Nat.beq (akd (clR r)) k = true) (hk : k ≠ 0) : ∃ q, r = some q ∧ akd q.1 = k ∧ q.1 ≠ 19 ∧ 12 ≤ q.1 := by
  have h := Nat.eq_of_beq_eq_true h
  cases r with
  | none => exact absurd h.symm hk
  | some q =>
    refine ⟨q, rfl, h, fun e => ?_, ?_⟩
    · rw [show clR (some q) = q.1 from rfl, e] at h
      exact hk h.symm
    · apply Decidable.byContradiction
      intro hn
      rw [show clR (some q) = q.1 from rfl, akd_obj (by omega)] at h
      exact hk h.symm
theorem ixOk_in {n : Nat} {i : Int32} (h : ixOk n i = true) : vp_in i n := by
  obtain ⟨h1, h2⟩ := and2 h
  have h1 : ¬ i < 0 := by simpa using h1
  have h2 : i.toNatClampNeg < n := by simpa using h2
  exact fun q => q.elim h1 (fun q => absurd h2 (Nat.not_lt.mpr q))
theorem rI_wI (h : zM) (c i f : Nat) (v : Int32) (c' i' f' : Nat) : rI (wI h c i f v) c' i' f' = if c' = c ∧ i' = i ∧ f' = f then v else rI h c' i' f' := rfl
theorem rL_wL (h : zM) (c i f : Nat) (v : Int64) (c' i' f' : Nat) : rL (wL h c i f v) c' i' f' = if c' = c ∧ i' = i ∧ f' = f then v else rL h c' i' f' := rfl
theorem rR_wR (h : zM) (c i f : Nat) (v : zR) (c' i' f' : Nat) : rR (wR h c i f v) c' i' f' = if c' = c ∧ i' = i ∧ f' = f then v else rR h c' i' f' := rfl
theorem not3 {c' c i' i x j : Nat} (hn : c' ≠ c ∨ i' ≠ i) : ¬ (c' = c ∧ i' = i ∧ x = j) := by
  rintro ⟨a, b, -⟩
  exact hn.elim (fun h => h a) (fun h => h b)
section HEAP
variable {own : String} {cc : ByteArray} {nL : Nat} {ini : Bool} {pc : Nat}
theorem sg_gI {idx : Nat} {cs : List Nat} {j kd : Nat} {fin dc : Bool} (hfl : zFl own idx cs j kd fin dc) (hk : kd = 1 ∨ kd = 3) (hd : decode cc pc = .ok (.getfield idx, 3)) : zSG own cc nL ini pc 3 (iGI cs j) := by
  rintro ⟨L, st, h, g⟩ hg
  rcases st with _ | ⟨(_ | _ | r), st⟩ <;> try (exact (nomatch (show false = true from hg)); done)
  obtain ⟨hm, hg⟩ := and2 (show (memN cs (clR r) && g) = true from hg)
  refine ⟨hg, zEx.rf, ?_⟩
  obtain ⟨q, rfl, hm, hkd, -⟩ := memZ hfl hm
  refine zSt.pure fun G p l e R s m args below meth c Q H locs cells slots ls hC hH hF hq k => ?_
  refine zget hC hH hfl hm (okh hF.2.2.2) hd ?_
  rw [fvl_I (by rw [hkd]; exact hk)]
  exact k ls (hF.stk (okc trivial (okt hF.2.2.2)))
theorem sg_gL {idx : Nat} {cs : List Nat} {j : Nat} {fin dc : Bool} (hfl : zFl own idx cs j 5 fin dc) (hd : decode cc pc = .ok (.getfield idx, 3)) : zSG own cc nL ini pc 3 (iGL cs j) := by
  rintro ⟨L, st, h, g⟩ hg
  rcases st with _ | ⟨(_ | _ | r), st⟩ <;> try (exact (nomatch (show false = true from hg)); done)
  obtain ⟨hm, hg⟩ := and2 (show (memN cs (clR r) && g) = true from hg)
  refine ⟨hg, zEx.rf, ?_⟩
  obtain ⟨q, rfl, hm, hkd, -⟩ := memZ hfl hm
  refine zSt.pure fun G p l e R s m args below meth c Q H locs cells slots ls hC hH hF hq k => ?_
  refine zget hC hH hfl hm (okh hF.2.2.2) hd ?_
  rw [fvl_L hkd]
  exact k ls (hF.stk (okc trivial (okt hF.2.2.2)))
theorem sg_gR {idx : Nat} {cs : List Nat} {j : Nat} {fin dc : Bool} (hfl : zFl own idx cs j 4 fin dc) (hd : decode cc pc = .ok (.getfield idx, 3)) : zSG own cc nL ini pc 3 (iGR cs j) := by
  rintro ⟨L, st, h, g⟩ hg
  rcases st with _ | ⟨(_ | _ | r), st⟩ <;> try (exact (nomatch (show false = true from hg)); done)
  obtain ⟨hm, hg⟩ := and2 (show (memN cs (clR r) && g) = true from hg)
  refine ⟨hg, zEx.rf, ?_⟩
  obtain ⟨q, rfl, hm, hkd, -⟩ := memZ hfl hm
  refine zSt.pure fun G p l e R s m args below meth c Q H locs cells slots ls hC hH hF hq k => ?_
  have hok := hH.2.2.2.2.2.2 q.1 q.2 j (okh hF.2.2.2)
  refine zget hC hH hfl hm (okh hF.2.2.2) hd ?_
  rw [fvl_R hkd]
  exact k ls (hF.stk (okc hok (okt hF.2.2.2)))
theorem sg_gS {idx : Nat} {cs : List Nat} {j : Nat} {fin dc : Bool} {f : Nat → zR} (hfl : zFl own idx cs j 4 fin dc) (hd : decode cc pc = .ok (.getfield idx, 3)) : zSG own cc nL ini pc 3 (iGS cs j f) := by
  rintro ⟨L, st, h, g⟩ hg
  rcases st with _ | ⟨(_ | _ | r), st⟩ <;> try (exact (nomatch (show false = true from hg)); done)
  obtain ⟨hm, hg⟩ := and2 (show (memN cs (clR r) && (decide (rR h (clR r) (ixR r) j = f (ixR r)) && g)) = true from hg)
  obtain ⟨he, hg⟩ := and2 hg
  refine ⟨hg, zEx.rf, ?_⟩
  obtain ⟨q, rfl, hm, hkd, -⟩ := memZ hfl hm
  have he : rR h q.1 q.2 j = f q.2 := of_decide_eq_true he
  refine zSt.pure fun G p l e R s m args below meth c Q H locs cells slots ls hC hH hF hq k => ?_
  have hok := hH.2.2.2.2.2.2 q.1 q.2 j (okh hF.2.2.2)
  rw [he] at hok
  refine zget hC hH hfl hm (okh hF.2.2.2) hd ?_
  rw [fvl_R hkd, he]
  exact k ls (hF.stk (okc hok (okt hF.2.2.2)))
theorem fvl_wI {h : zM} {c i j : Nat} {v : Int32} (hk : kdF (fty c j) = 1 ∨ kdF (fty c j) = 3) (c' i' x : Nat) : fvl (wI h c i j v) c' i' x = if c' = c ∧ i' = i ∧ x = j then vI v else fvl h c' i' x := by
  by_cases e : c' = c ∧ i' = i ∧ x = j
  · obtain ⟨rfl, rfl, rfl⟩ := e
    rw [fvl_I hk, rI_wI]
    simp
  · rw [if_neg e]
    unfold fvl
    rw [rI_wI, if_neg e]
    rfl
theorem fvl_wL {h : zM} {c i j : Nat} {v : Int64} (hk : kdF (fty c j) = 5) (c' i' x : Nat) : fvl (wL h c i j v) c' i' x = if c' = c ∧ i' = i ∧ x = j then vL v else fvl h c' i' x := by
  by_cases e : c' = c ∧ i' = i ∧ x = j
  · obtain ⟨rfl, rfl, rfl⟩ := e
    rw [fvl_L hk, rL_wL]
    simp
  · rw [if_neg e]
    unfold fvl
    rw [rL_wL, if_neg e]
    rfl
theorem fvl_wR {h : zM} {c i j : Nat} {v : zR} (hk : kdF (fty c j) = 4) (c' i' x : Nat) : fvl (wR h c i j v) c' i' x = if c' = c ∧ i' = i ∧ x = j then vR v else fvl h c' i' x := by
  by_cases e : c' = c ∧ i' = i ∧ x = j
  · obtain ⟨rfl, rfl, rfl⟩ := e
    rw [fvl_R hk, rR_wR]
    simp
  · rw [if_neg e]
    unfold fvl
    rw [rR_wR, if_neg e]
    rfl
theorem nar_I {ty : FieldType} (h : kdF ty = 1) (x : Int32) : narrow ty (.int x) = .int x ∧ fits ty (.int x) = true := by
  cases ty <;> simp [kdF] at h
  exact ⟨rfl, rfl⟩
theorem nar_Z {ty : FieldType} (h : kdF ty = 3) {x : Int32} (hx : isB x = true) : narrow ty (.int x) = .int x ∧ fits ty (.int x) = true := by
  cases ty <;> simp [kdF] at h
  have hx : x = 0 ∨ x = 1 := by simpa [isB] using hx
  rcases hx with rfl | rfl <;> exact ⟨rfl, rfl⟩
theorem nar_L {ty : FieldType} (h : kdF ty = 5) (x : Int64) : narrow ty (.long x) = .long x ∧ fits ty (.long x) = true := by
  cases ty <;> simp [kdF] at h
  exact ⟨rfl, rfl⟩
theorem nar_R {ty : FieldType} (h : kdF ty = 4) (ad : Nat → Nat → Nat) (x : zR) : narrow ty (zTr ad (vR x)) = zTr ad (vR x) ∧ fits ty (zTr ad (vR x)) = true := by
  cases ty <;> simp [kdF] at h <;> cases x <;> exact ⟨rfl, rfl⟩
theorem sg_pI {idx : Nat} {cs : List Nat} {j : Nat} {fin dc : Bool} (hfl : zFl own idx cs j 1 fin dc) (hfin : fin = true → dc = true ∧ ini = true) (hd : decode cc pc = .ok (.putfield idx, 3)) : zSG own cc nL ini pc 3 (iPI cs j) := by
  rintro ⟨L, st, h, g⟩ hg
  rcases st with _ | ⟨(v | _ | _), st⟩ <;> try (exact (nomatch (show false = true from hg)); done)
  rcases st with _ | ⟨(_ | _ | r), st⟩ <;> try (exact (nomatch (show false = true from hg)); done)
  obtain ⟨hm, hg⟩ := and2 (show (memN cs (clR r) && g) = true from hg)
  refine ⟨hg, zSm.wI.ex, ?_⟩
  obtain ⟨q, rfl, hm, hkd, h12⟩ := memZ hfl hm
  refine zSt.sm zSm.wI (fun h => okt (okt h)) fun G p l e R s m args below meth c Q H locs cells slots ls hC hH hF hq k => ?_
  exact zput (v := vI v) hC hH hfl hfin hm (okh (okt hF.2.2.2)) hd (fun h => (nar_I h v).1) (fun h => (nar_I h v).2) zSm.wI (fun h => fvl_wI (Or.inl h)) (fun c' i' x hn => by unfold avl; rw [rI_wI, if_neg (not3 hn)]; rfl) (fun h19 x => by rw [rI_wI, if_neg (not3 (Or.inl (Ne.symm h19)))]) (fun c' i' f hi => hH.2.2.2.2.2.2 c' i' f hi) k hq
theorem sg_pZ {idx : Nat} {cs : List Nat} {j : Nat} {fin dc : Bool} (hfl : zFl own idx cs j 3 fin dc) (hfin : fin = true → dc = true ∧ ini = true) (hd : decode cc pc = .ok (.putfield idx, 3)) : zSG own cc nL ini pc 3 (iPZ cs j) := by
  rintro ⟨L, st, h, g⟩ hg
  rcases st with _ | ⟨(v | _ | _), st⟩ <;> try (exact (nomatch (show false = true from hg)); done)
  rcases st with _ | ⟨(_ | _ | r), st⟩ <;> try (exact (nomatch (show false = true from hg)); done)
  obtain ⟨hm, hg⟩ := and2 (show (memN cs (clR r) && (isB v && g)) = true from hg)
  obtain ⟨hB, hg⟩ := and2 hg
  refine ⟨hg, zSm.wI.ex, ?_⟩
  obtain ⟨q, rfl, hm, hkd, h12⟩ := memZ hfl hm
  refine zSt.sm zSm.wI (fun h => okt (okt h)) fun G p l e R s m args below meth c Q H locs cells slots ls hC hH hF hq k => ?_
  exact zput (v := vI v) hC hH hfl hfin hm (okh (okt hF.2.2.2)) hd (fun h => (nar_Z h hB).1) (fun h => (nar_Z h hB).2) zSm.wI (fun h => fvl_wI (Or.inr h)) (fun c' i' x hn => by unfold avl; rw [rI_wI, if_neg (not3 hn)]; rfl) (fun h19 x => by rw [rI_wI, if_neg (not3 (Or.inl (Ne.symm h19)))]) (fun c' i' f hi => hH.2.2.2.2.2.2 c' i' f hi) k hq
theorem sg_pL {idx : Nat} {cs : List Nat} {j : Nat} {fin dc : Bool} (hfl : zFl own idx cs j 5 fin dc) (hfin : fin = true → dc = true ∧ ini = true) (hd : decode cc pc = .ok (.putfield idx, 3)) : zSG own cc nL ini pc 3 (iPL cs j) := by
  rintro ⟨L, st, h, g⟩ hg
  rcases st with _ | ⟨(_ | v | _), st⟩ <;> try (exact (nomatch (show false = true from hg)); done)
  rcases st with _ | ⟨(_ | _ | r), st⟩ <;> try (exact (nomatch (show false = true from hg)); done)
  obtain ⟨hm, hg⟩ := and2 (show (memN cs (clR r) && g) = true from hg)
  refine ⟨hg, zSm.wL.ex, ?_⟩
  obtain ⟨q, rfl, hm, hkd, h12⟩ := memZ hfl hm
  refine zSt.sm zSm.wL (fun h => okt (okt h)) fun G p l e R s m args below meth c Q H locs cells slots ls hC hH hF hq k => ?_
  exact zput (v := vL v) hC hH hfl hfin hm (okh (okt hF.2.2.2)) hd (fun h => (nar_L h v).1) (fun h => (nar_L h v).2) zSm.wL (fun h => fvl_wL h) (fun c' i' x hn => rfl) (fun h19 x => rfl) (fun c' i' f hi => hH.2.2.2.2.2.2 c' i' f hi) k hq
theorem sg_pR {idx : Nat} {cs : List Nat} {j : Nat} {fin dc : Bool} (hfl : zFl own idx cs j 4 fin dc) (hfin : fin = true → dc = true ∧ ini = true) (hd : decode cc pc = .ok (.putfield idx, 3)) : zSG own cc nL ini pc 3 (iPR cs j) := by
  rintro ⟨L, st, h, g⟩ hg
  rcases st with _ | ⟨(_ | _ | v), st⟩ <;> try (exact (nomatch (show false = true from hg)); done)
  rcases st with _ | ⟨(_ | _ | r), st⟩ <;> try (exact (nomatch (show false = true from hg)); done)
  obtain ⟨hm, hg⟩ := and2 (show (memN cs (clR r) && g) = true from hg)
  refine ⟨hg, zSm.wR.ex, ?_⟩
  obtain ⟨q, rfl, hm, hkd, h12⟩ := memZ hfl hm
  refine zSt.sm zSm.wR (fun h => okt (okt h)) fun G p l e R s m args below meth c Q H locs cells slots ls hC hH hF hq k => ?_
  refine zput (v := vR v) hC hH hfl hfin hm (okh (okt hF.2.2.2)) hd (fun h => (nar_R h _ v).1) (fun h => (nar_R h _ v).2) zSm.wR (fun h => fvl_wR h) (fun c' i' x hn => by unfold avl; rw [rR_wR, if_neg (not3 hn)]; rfl) (fun h19 x => rfl) (fun c' i' f hi => ?_) k hq
  rw [rR_wR]
  split
  · exact okh hF.2.2.2
  · exact hH.2.2.2.2.2.2 c' i' f hi
end HEAP
