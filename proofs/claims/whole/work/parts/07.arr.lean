theorem zcl_none {c : Nat} (h : 12 ≤ c) {r : vw_C} : zcl[c]? = some r → False := fun e => by have := zcl_lt e; omega
theorem avl_I {h : zM} {c i j : Nat} (hk : akd c < 4) : avl h c i j = vI (rI h c i j) := by unfold avl; rw [if_pos hk]
theorem avl_R {h : zM} {c i j : Nat} (hk : ¬ akd c < 4) : avl h c i j = vR (rR h c i j) := by unfold avl; rw [if_neg hk]
theorem zarr {G : zG} {s : State} (hK : zKN G s) {k : Nat} (h1 : 1 ≤ k) (h2 : k ≤ 8) : ArrOfT s (gA G k) (aty k) ∧ va_RA s (gA G k) (aty k) := by
  have := hK.1.2 (k - 1) (gA G k, aty k)
  refine this ?_
  rcases (show k = 1 ∨ k = 2 ∨ k = 3 ∨ k = 4 ∨ k = 5 ∨ k = 6 ∨ k = 7 ∨ k = 8 by omega) with rfl | rfl | rfl | rfl | rfl | rfl | rfl | rfl <;> rfl
section ARR
variable {own : String} {cc : ByteArray} {nL : Nat} {ini : Bool} {pc : Nat}
theorem sg_iaload (hd : decode cc pc = .ok (.iaload, 1)) : zSG own cc nL ini pc 1 iAI := by
  rintro ⟨L, st, h, g⟩ hg
  rcases st with _ | ⟨(i | _ | _), st⟩ <;> try (exact (nomatch (show false = true from hg)); done)
  rcases st with _ | ⟨(_ | _ | r), st⟩ <;> try (exact (nomatch (show false = true from hg)); done)
  obtain ⟨hm, hg⟩ := and2 (show (Nat.beq (akd (clR r)) 1 && (ixOk (aln (clR r)) i && g)) = true from hg)
  obtain ⟨hx, hg⟩ := and2 hg
  refine ⟨hg, zEx.rf, ?_⟩
  obtain ⟨q, rfl, hk, -, -⟩ := akZ hm (by decide)
  have hin := ixOk_in hx
  have hlt : i.toNatClampNeg < aln q.1 := Nat.not_le.mp fun z => hin (Or.inr z)
  refine zSt.pure fun G p l e R s m args below meth c Q H locs cells slots ls hC hH hF hq k => ?_
  have hcell := hH.2.2.2.2.2.1 q.1 q.2 (okh (okt hF.2.2.2)) (by rw [hk]; decide)
  rw [hk] at hcell
  refine W.iald (v := zTr (gad G) (avl h q.1 q.2 i.toNatClampNeg)) hC.1 hC.2.1 hcell ((zarr hC.2.2.2.2.2.2.2 (k := 1) (by decide) (by decide)).1 _ _) (fun z => by cases z) (by rw [arrV_size]; exact hin) (by rw [arrV_read _ _ hlt]) rfl rfl hd ?_
  rw [avl_I (by rw [hk]; decide)]
  exact k ls (hF.stk (okc trivial (okt (okt hF.2.2.2))))
theorem sg_baload (hd : decode cc pc = .ok (.baload, 1)) : zSG own cc nL ini pc 1 (iAB 2) := by
  rintro ⟨L, st, h, g⟩ hg
  rcases st with _ | ⟨(i | _ | _), st⟩ <;> try (exact (nomatch (show false = true from hg)); done)
  rcases st with _ | ⟨(_ | _ | r), st⟩ <;> try (exact (nomatch (show false = true from hg)); done)
  obtain ⟨hm, hg⟩ := and2 (show (Nat.beq (akd (clR r)) 2 && (ixOk (aln (clR r)) i && g)) = true from hg)
  obtain ⟨hx, hg⟩ := and2 hg
  refine ⟨hg, zEx.rf, ?_⟩
  obtain ⟨q, rfl, hk, -, -⟩ := akZ hm (by decide)
  have hin := ixOk_in hx
  have hlt : i.toNatClampNeg < aln q.1 := Nat.not_le.mp fun z => hin (Or.inr z)
  refine zSt.pure fun G p l e R s m args below meth c Q H locs cells slots ls hC hH hF hq k => ?_
  have hcell := hH.2.2.2.2.2.1 q.1 q.2 (okh (okt hF.2.2.2)) (by rw [hk]; decide)
  rw [hk] at hcell
  refine W.bald (v := zTr (gad G) (avl h q.1 q.2 i.toNatClampNeg)) hC.1 hC.2.1 hcell ((zarr hC.2.2.2.2.2.2.2 (k := 2) (by decide) (by decide)).1 _ _) (fun z => by cases z) (by rw [arrV_size]; exact hin) (by rw [arrV_read _ _ hlt]) rfl rfl hd ?_
  rw [avl_I (by rw [hk]; decide)]
  exact k ls (hF.stk (okc trivial (okt (okt hF.2.2.2))))
theorem sg_zaload (hd : decode cc pc = .ok (.baload, 1)) : zSG own cc nL ini pc 1 (iAB 3) := by
  rintro ⟨L, st, h, g⟩ hg
  rcases st with _ | ⟨(i | _ | _), st⟩ <;> try (exact (nomatch (show false = true from hg)); done)
  rcases st with _ | ⟨(_ | _ | r), st⟩ <;> try (exact (nomatch (show false = true from hg)); done)
  obtain ⟨hm, hg⟩ := and2 (show (Nat.beq (akd (clR r)) 3 && (ixOk (aln (clR r)) i && g)) = true from hg)
  obtain ⟨hx, hg⟩ := and2 hg
  refine ⟨hg, zEx.rf, ?_⟩
  obtain ⟨q, rfl, hk, -, -⟩ := akZ hm (by decide)
  have hin := ixOk_in hx
  have hlt : i.toNatClampNeg < aln q.1 := Nat.not_le.mp fun z => hin (Or.inr z)
  refine zSt.pure fun G p l e R s m args below meth c Q H locs cells slots ls hC hH hF hq k => ?_
  have hcell := hH.2.2.2.2.2.1 q.1 q.2 (okh (okt hF.2.2.2)) (by rw [hk]; decide)
  rw [hk] at hcell
  refine W.zald (v := zTr (gad G) (avl h q.1 q.2 i.toNatClampNeg)) hC.1 hC.2.1 hcell ((zarr hC.2.2.2.2.2.2.2 (k := 3) (by decide) (by decide)).1 _ _) (fun z => by cases z) (by rw [arrV_size]; exact hin) (by rw [arrV_read _ _ hlt]) rfl rfl hd ?_
  rw [avl_I (by rw [hk]; decide)]
  exact k ls (hF.stk (okc trivial (okt (okt hF.2.2.2))))
theorem aty_ref {k : Nat} (h1 : 4 ≤ k) (h2 : k ≤ 8) : (aty k).isReference = true := by
  have : ∀ k, k ≤ 8 → 4 ≤ k → (aty k).isReference = true := by decide
  exact this k h2 h1
theorem sg_aaload {ks : List Nat} (hks : ∀ k, memN ks k = true → 4 ≤ k ∧ k ≤ 8) (hd : decode cc pc = .ok (.aaload, 1)) : zSG own cc nL ini pc 1 (iAR ks) := by
  rintro ⟨L, st, h, g⟩ hg
  rcases st with _ | ⟨(i | _ | _), st⟩ <;> try (exact (nomatch (show false = true from hg)); done)
  rcases st with _ | ⟨(_ | _ | r), st⟩ <;> try (exact (nomatch (show false = true from hg)); done)
  obtain ⟨hm, hg⟩ := and2 (show (memN ks (akd (clR r)) && (ixOk (aln (clR r)) i && g)) = true from hg)
  obtain ⟨hx, hg⟩ := and2 hg
  refine ⟨hg, zEx.rf, ?_⟩
  obtain ⟨h1, h2⟩ := hks _ hm
  obtain ⟨q, rfl, hk, -, -⟩ := akZ (k := akd (clR r)) (by exact Nat.beq_refl _) (by omega)
  generalize hn : akd (clR (some q)) = n at *
  have hin := ixOk_in hx
  have hlt : i.toNatClampNeg < aln q.1 := Nat.not_le.mp fun z => hin (Or.inr z)
  refine zSt.pure fun G p l e R s m args below meth c Q H locs cells slots ls hC hH hF hq k => ?_
  have hok := hH.2.2.2.2.2.2 q.1 q.2 i.toNatClampNeg (okh (okt hF.2.2.2))
  have hcell := hH.2.2.2.2.2.1 q.1 q.2 (okh (okt hF.2.2.2)) (by rw [hk]; omega)
  rw [hk] at hcell
  refine W.aald (v := zTr (gad G) (avl h q.1 q.2 i.toNatClampNeg)) (ty := aty n) hC.1 hC.2.1 hcell ((zarr hC.2.2.2.2.2.2.2 (k := n) (by omega) h2).1 _ _) (aty_ref h1 h2) (fun z => by cases z) (by rw [arrV_size]; exact hin) (by rw [arrV_read _ _ hlt]) rfl rfl hd ?_
  rw [avl_R (by rw [hk]; omega)]
  exact k ls (hF.stk (okc hok (okt (okt hF.2.2.2))))
theorem sg_aaloadF {n : Nat} {f : Nat → zR} (h1 : 4 ≤ n) (h2 : n ≤ 8) (hd : decode cc pc = .ok (.aaload, 1)) : zSG own cc nL ini pc 1 (iAF n f) := by
  rintro ⟨L, st, h, g⟩ hg
  rcases st with _ | ⟨(i | _ | _), st⟩ <;> try (exact (nomatch (show false = true from hg)); done)
  rcases st with _ | ⟨(_ | _ | r), st⟩ <;> try (exact (nomatch (show false = true from hg)); done)
  obtain ⟨hm, hg⟩ := and2 (show (Nat.beq (akd (clR r)) n && (ixOk (aln (clR r)) i && (decide (rR h (clR r) (ixR r) i.toNatClampNeg = f i.toNatClampNeg) && g))) = true from hg)
  obtain ⟨hx, hg⟩ := and2 hg
  obtain ⟨he, hg⟩ := and2 hg
  refine ⟨hg, zEx.rf, ?_⟩
  obtain ⟨q, rfl, hk, -, -⟩ := akZ hm (by omega)
  have he : rR h q.1 q.2 i.toNatClampNeg = f i.toNatClampNeg := of_decide_eq_true he
  have hin := ixOk_in hx
  have hlt : i.toNatClampNeg < aln q.1 := Nat.not_le.mp fun z => hin (Or.inr z)
  refine zSt.pure fun G p l e R s m args below meth c Q H locs cells slots ls hC hH hF hq k => ?_
  have hok := hH.2.2.2.2.2.2 q.1 q.2 i.toNatClampNeg (okh (okt hF.2.2.2))
  rw [he] at hok
  have hcell := hH.2.2.2.2.2.1 q.1 q.2 (okh (okt hF.2.2.2)) (by rw [hk]; omega)
  rw [hk] at hcell
  refine W.aald (v := zTr (gad G) (avl h q.1 q.2 i.toNatClampNeg)) (ty := aty n) hC.1 hC.2.1 hcell ((zarr hC.2.2.2.2.2.2.2 (k := n) (by omega) h2).1 _ _) (aty_ref h1 h2) (fun z => by cases z) (by rw [arrV_size]; exact hin) (by rw [arrV_read _ _ hlt]) rfl rfl hd ?_
  rw [avl_R (by rw [hk]; omega), he]
  exact k ls (hF.stk (okc hok (okt (okt hF.2.2.2))))
theorem sg_script (hd : decode cc pc = .ok (.iaload, 1)) : zSG own cc nL ini pc 1 iAS := by
  rintro ⟨L, st, h, g⟩ hg
  rcases st with _ | ⟨(i | _ | _), st⟩ <;> try (exact (nomatch (show false = true from hg)); done)
  rcases st with _ | ⟨(_ | _ | r), st⟩ <;> try (exact (nomatch (show false = true from hg)); done)
  obtain ⟨hm, hg⟩ := and2 (show (Nat.beq (clR r) 19 && (ixOk (slM h) i && g)) = true from hg)
  obtain ⟨hx, hg⟩ := and2 hg
  refine ⟨hg, zEx.rf, ?_⟩
  have hm := Nat.eq_of_beq_eq_true hm
  have hin := ixOk_in hx
  cases r with
  | none => exact absurd hm (by decide)
  | some q =>
  obtain ⟨q1, q2⟩ := q
  have hm : q1 = 19 := hm
  subst hm
  refine zSt.pure fun G p l e R s m args below meth c Q H locs cells slots ls hC hH hF hq k => ?_
  obtain ⟨s1, s2, s3, s4, s5⟩ := hH.2.2.2.1
  have h0 : q2 < cnM h 19 := okh (okt hF.2.2.2)
  have h0 : q2 = 0 := by omega
  subst h0
  obtain ⟨scr, c1, c2, c3, c4, c5, c6⟩ := hC.2.2.2.2.2.2.2.2.2.2
  rw [s4] at hin
  have hlt : i.toNatClampNeg < gLn G := Nat.not_le.mp fun z => hin (Or.inr z)
  have e9 : zTr (gad G) (vR (some (19, 0))) = .ref (gsb G) := by rw [← s2]; rfl
  show W p l e R s m args below meth c H locs cells slots Q (F0 m pc ls (.int i :: zTr (gad G) (vR (some (19, 0))) :: st.map (zTr (gad G))))
  rw [e9]
  refine W.iald (v := .int (gxs G i.toNatClampNeg)) hC.1 hC.2.1 (by rw [hH.2.1 _ s3]; exact c1) c2 c3 (by rw [c4]; exact hin) (c6 _ hlt) rfl rfl hd ?_
  have := k ls (hF.stk (okc trivial (okt (okt hF.2.2.2))))
  rw [show (rI h (clR (some (19, 0))) (ixR (some (19, 0))) i.toNatClampNeg) = gxs G i.toNatClampNeg from s5 _ hlt] at this
  exact this
theorem sg_alen {ks : List Nat} (hks : ∀ k, memN ks k = true → 1 ≤ k ∧ k ≤ 8) (hd : decode cc pc = .ok (.arraylength, 1)) : zSG own cc nL ini pc 1 (iLen ks) := by
  rintro ⟨L, st, h, g⟩ hg
  rcases st with _ | ⟨(_ | _ | r), st⟩ <;> try (exact (nomatch (show false = true from hg)); done)
  obtain ⟨hm, hg⟩ := and2 (show (memN ks (akd (clR r)) && g) = true from hg)
  refine ⟨hg, zEx.rf, ?_⟩
  obtain ⟨h1, h2⟩ := hks _ hm
  obtain ⟨q, rfl, hk, -, -⟩ := akZ (k := akd (clR r)) (by exact Nat.beq_refl _) (by omega)
  generalize hn : akd (clR (some q)) = n at *
  refine zSt.pure fun G p l e R s m args below meth c Q H locs cells slots ls hC hH hF hq k => ?_
  have hcell := hH.2.2.2.2.2.1 q.1 q.2 (okh hF.2.2.2) (by rw [hk]; omega)
  rw [hk] at hcell
  exact W.alen (n := Int32.ofNat (aln q.1)) (ty := aty n) hC.1 hC.2.1 hcell ((zarr hC.2.2.2.2.2.2.2 (k := n) h1 h2).1 _ _) (by rw [arrV_size]) rfl rfl hd (k ls (hF.stk (okc trivial (okt hF.2.2.2))))
theorem sg_slen (hd : decode cc pc = .ok (.arraylength, 1)) : zSG own cc nL ini pc 1 iLenS := by
  rintro ⟨L, st, h, g⟩ hg
  rcases st with _ | ⟨(_ | _ | r), st⟩ <;> try (exact (nomatch (show false = true from hg)); done)
  obtain ⟨hm, hg⟩ := and2 (show (Nat.beq (clR r) 19 && g) = true from hg)
  refine ⟨hg, zEx.rf, ?_⟩
  have hm := Nat.eq_of_beq_eq_true hm
  cases r with
  | none => exact absurd hm (by decide)
  | some q =>
  obtain ⟨q1, q2⟩ := q
  have hm : q1 = 19 := hm
  subst hm
  refine zSt.pure fun G p l e R s m args below meth c Q H locs cells slots ls hC hH hF hq k => ?_
  obtain ⟨s1, s2, s3, s4, s5⟩ := hH.2.2.2.1
  have h0 : q2 < cnM h 19 := okh hF.2.2.2
  have h0 : q2 = 0 := by omega
  subst h0
  obtain ⟨scr, c1, c2, c3, c4, c5, c6⟩ := hC.2.2.2.2.2.2.2.2.2.2
  have e9 : zTr (gad G) (vR (some (19, 0))) = .ref (gsb G) := by rw [← s2]; rfl
  show W p l e R s m args below meth c H locs cells slots Q (F0 m pc ls (zTr (gad G) (vR (some (19, 0))) :: st.map (zTr (gad G))))
  rw [e9]
  exact W.alen (n := Int32.ofNat (slM h)) (ty := .int) hC.1 hC.2.1 (by rw [hH.2.1 _ s3]; exact c1) c2 (by rw [c4, s4]) rfl rfl hd (k ls (hF.stk (okc trivial (okt hF.2.2.2))))
end ARR
