theorem okc {h : zM} {v : zV} {st : List zV} (a : zOk h v) (b : ∀ w, w ∈ st → zOk h w) : ∀ w, w ∈ v :: st → zOk h w := by
  intro w hw
  rcases List.mem_cons.mp hw with rfl | hw
  · exact a
  · exact b w hw
theorem okt {h : zM} {v : zV} {st : List zV} (b : ∀ w, w ∈ v :: st → zOk h w) : ∀ w, w ∈ st → zOk h w := fun w hw => b w (List.mem_cons_of_mem _ hw)
theorem okh {h : zM} {v : zV} {st : List zV} (b : ∀ w, w ∈ v :: st → zOk h w) : zOk h v := b v List.mem_cons_self
theorem and2 {a b : Bool} (h : (a && b) = true) : a = true ∧ b = true := by simpa using h
section PURE
variable {own : String} {cc : ByteArray} {nL : Nat} {ini : Bool} {pc : Nat}
theorem sg_iconst {n : Int} {v : Int32} (hd : decode cc pc = .ok (.iconst n, 1)) (hv : Int32.ofInt n = v) : zSG own cc nL ini pc 1 (iCon (vI v)) := by
  rintro ⟨L, st, h, g⟩ hg
  refine ⟨hg, zEx.rf, ?_⟩
  exact zSt.pure fun G p l e R s m args below meth c Q H locs cells slots ls hC hH hF hq k => lv_iconst hC.1 hC.2.1 hd hv (k ls (hF.stk (okc trivial hF.2.2.2)))
theorem sg_bipush {n : Int} {v : Int32} (hd : decode cc pc = .ok (.bipush n, 2)) (hv : (Int8.ofInt n).toInt32 = v) : zSG own cc nL ini pc 2 (iCon (vI v)) := by
  rintro ⟨L, st, h, g⟩ hg
  refine ⟨hg, zEx.rf, ?_⟩
  exact zSt.pure fun G p l e R s m args below meth c Q H locs cells slots ls hC hH hF hq k => lv_bipush hC.1 hC.2.1 hd hv (k ls (hF.stk (okc trivial hF.2.2.2)))
theorem sg_sipush {n : Int} {v : Int32} (hd : decode cc pc = .ok (.sipush n, 3)) (hv : (Int16.ofInt n).toInt32 = v) : zSG own cc nL ini pc 3 (iCon (vI v)) := by
  rintro ⟨L, st, h, g⟩ hg
  refine ⟨hg, zEx.rf, ?_⟩
  exact zSt.pure fun G p l e R s m args below meth c Q H locs cells slots ls hC hH hF hq k => lv_sipush hC.1 hC.2.1 hd hv (k ls (hF.stk (okc trivial hF.2.2.2)))
theorem sg_lconst {n : Fin 2} {v : Int64} (hd : decode cc pc = .ok (.lconst n, 1)) (hv : Int64.ofNat (n : Nat) = v) : zSG own cc nL ini pc 1 (iCon (vL v)) := by
  rintro ⟨L, st, h, g⟩ hg
  refine ⟨hg, zEx.rf, ?_⟩
  exact zSt.pure fun G p l e R s m args below meth c Q H locs cells slots ls hC hH hF hq k => lv_lconst hC.1 hC.2.1 hd hv (k ls (hF.stk (okc trivial hF.2.2.2)))
theorem sg_ldcw {x : Nat} {v : Int32} (hd : decode cc pc = .ok (.ldc_w x, 3)) (hv : Cond.constant own x v ∈ tb) : zSG own cc nL ini pc 3 (iCon (vI v)) := by
  rintro ⟨L, st, h, g⟩ hg
  refine ⟨hg, zEx.rf, ?_⟩
  exact zSt.pure fun G p l e R s m args below meth c Q H locs cells slots ls hC hH hF hq k => lv_ldcw hC.1 hC.2.1 hC.2.2.2.1 (hC.2.2.2.2.1 _ hv) hd (k ls (hF.stk (okc trivial hF.2.2.2)))
theorem sg_ldc {x : Nat} {v : Int32} (hd : decode cc pc = .ok (.ldc x, 2)) (hv : Cond.constant own x v ∈ tb) : zSG own cc nL ini pc 2 (iCon (vI v)) := by
  rintro ⟨L, st, h, g⟩ hg
  refine ⟨hg, zEx.rf, ?_⟩
  exact zSt.pure fun G p l e R s m args below meth c Q H locs cells slots ls hC hH hF hq k => lv_ldc hC.1 hC.2.1 hC.2.2.2.1 (hC.2.2.2.2.1 _ hv) hd (k ls (hF.stk (okc trivial hF.2.2.2)))
theorem sg_ldc2 {x : Nat} {v : Int64} (hd : decode cc pc = .ok (.ldc2_w x, 3)) (hv : Cond.constantLong own x v ∈ tb) : zSG own cc nL ini pc 3 (iCon (vL v)) := by
  rintro ⟨L, st, h, g⟩ hg
  refine ⟨hg, zEx.rf, ?_⟩
  exact zSt.pure fun G p l e R s m args below meth c Q H locs cells slots ls hC hH hF hq k => lv_ldc2 hC.1 hC.2.1 hC.2.2.2.1 (hC.2.2.2.2.1 _ hv) hd (k ls (hF.stk (okc trivial hF.2.2.2)))
theorem sg_null (hd : decode cc pc = .ok (.aconst_null, 1)) : zSG own cc nL ini pc 1 (iCon (vR none)) := by
  rintro ⟨L, st, h, g⟩ hg
  refine ⟨hg, zEx.rf, ?_⟩
  exact zSt.pure fun G p l e R s m args below meth c Q H locs cells slots ls hC hH hF hq k => lv_null hC.1 hC.2.1 hd (k ls (hF.stk (okc trivial hF.2.2.2)))
theorem sg_iload_n {q : Fin 4} {i : Nat} (hd : decode cc pc = .ok (.iload_n q, 1)) (hi : (q : Nat) = i) : zSG own cc nL ini pc 1 (iLI i) := by
  rintro ⟨L, st, h, g⟩ hg
  unfold iLI at hg ⊢
  dsimp only at hg ⊢
  split at hg <;> try (exact (nomatch (show false = true from hg)))
  rename_i v hv
  refine ⟨hg, zEx.rf, ?_⟩
  exact zSt.pure fun G p l e R s m args below meth c Q H locs cells slots ls hC hH hF hq k => lv_iload_n hC.1 hC.2.1 hd hi (hF.at hv) (k ls (hF.stk (okc trivial hF.2.2.2)))
theorem sg_iload {i : Nat} (hd : decode cc pc = .ok (.iload i, 2)) : zSG own cc nL ini pc 2 (iLI i) := by
  rintro ⟨L, st, h, g⟩ hg
  unfold iLI at hg ⊢
  dsimp only at hg ⊢
  split at hg <;> try (exact (nomatch (show false = true from hg)))
  rename_i v hv
  refine ⟨hg, zEx.rf, ?_⟩
  exact zSt.pure fun G p l e R s m args below meth c Q H locs cells slots ls hC hH hF hq k => lv_iload hC.1 hC.2.1 hd (hF.at hv) (k ls (hF.stk (okc trivial hF.2.2.2)))
theorem sg_lload_n {q : Fin 4} {i : Nat} (hd : decode cc pc = .ok (.lload_n q, 1)) (hi : (q : Nat) = i) : zSG own cc nL ini pc 1 (iLL i) := by
  rintro ⟨L, st, h, g⟩ hg
  unfold iLL at hg ⊢
  dsimp only at hg ⊢
  split at hg <;> try (exact (nomatch (show false = true from hg)))
  rename_i v hv
  refine ⟨hg, zEx.rf, ?_⟩
  exact zSt.pure fun G p l e R s m args below meth c Q H locs cells slots ls hC hH hF hq k => lv_lload_n hC.1 hC.2.1 hd hi (hF.at hv) (k ls (hF.stk (okc trivial hF.2.2.2)))
theorem sg_lload {i : Nat} (hd : decode cc pc = .ok (.lload i, 2)) : zSG own cc nL ini pc 2 (iLL i) := by
  rintro ⟨L, st, h, g⟩ hg
  unfold iLL at hg ⊢
  dsimp only at hg ⊢
  split at hg <;> try (exact (nomatch (show false = true from hg)))
  rename_i v hv
  refine ⟨hg, zEx.rf, ?_⟩
  exact zSt.pure fun G p l e R s m args below meth c Q H locs cells slots ls hC hH hF hq k => lv_lload hC.1 hC.2.1 hd (hF.at hv) (k ls (hF.stk (okc trivial hF.2.2.2)))
theorem sg_aload_n {q : Fin 4} {i : Nat} (hd : decode cc pc = .ok (.aload_n q, 1)) (hi : (q : Nat) = i) : zSG own cc nL ini pc 1 (iLA i) := by
  rintro ⟨L, st, h, g⟩ hg
  unfold iLA at hg ⊢
  dsimp only at hg ⊢
  split at hg <;> try (exact (nomatch (show false = true from hg)))
  rename_i v hv
  refine ⟨hg, zEx.rf, ?_⟩
  refine zSt.pure fun G p l e R s m args below meth c Q H locs cells slots ls hC hH hF hq k => ?_
  have hv9 := hF.2.2.1 _ (lget_mem hv)
  have hat := hF.at hv
  cases v with
  | none => exact lv_aload_nN hC.1 hC.2.1 hd hi hat (k ls (hF.stk (okc hv9 hF.2.2.2)))
  | some q => exact lv_aload_n hC.1 hC.2.1 hd hi hat (k ls (hF.stk (okc hv9 hF.2.2.2)))
theorem sg_aload {i : Nat} (hd : decode cc pc = .ok (.aload i, 2)) : zSG own cc nL ini pc 2 (iLA i) := by
  rintro ⟨L, st, h, g⟩ hg
  unfold iLA at hg ⊢
  dsimp only at hg ⊢
  split at hg <;> try (exact (nomatch (show false = true from hg)))
  rename_i v hv
  refine ⟨hg, zEx.rf, ?_⟩
  refine zSt.pure fun G p l e R s m args below meth c Q H locs cells slots ls hC hH hF hq k => ?_
  have hv9 := hF.2.2.1 _ (lget_mem hv)
  have hat := hF.at hv
  cases v with
  | none => exact lv_aloadN hC.1 hC.2.1 hd hat (k ls (hF.stk (okc hv9 hF.2.2.2)))
  | some q => exact lv_aload hC.1 hC.2.1 hd hat (k ls (hF.stk (okc hv9 hF.2.2.2)))
theorem sg_istore_n {q : Fin 4} {i : Nat} (hd : decode cc pc = .ok (.istore_n q, 1)) (hi : (q : Nat) = i) : zSG own cc nL ini pc 1 (iSI i) := by
  rintro ⟨L, st, h, g⟩ hg
  rcases st with _ | ⟨(v | _ | _), st⟩ <;> try (exact (nomatch (show false = true from hg)); done)
  obtain ⟨hb, hg⟩ := and2 (show (Nat.blt (i) L.length && g) = true from hg)
  refine ⟨hg, zEx.rf, ?_⟩
  refine zSt.pure fun G p l e R s m args below meth c Q H locs cells slots ls hC hH hF hq k => ?_
  have hn : i < nL := by rw [← hF.2.1]; exact Nat.le_of_ble_eq_true hb
  exact lv_istore_n hC.1 hC.2.1 hd hi hF.1 hn rfl (fun ls2 hl2 => k ls2 (hF.put1 (v := vI v) trivial (okt hF.2.2.2) hl2))
theorem sg_istore {i : Nat} (hd : decode cc pc = .ok (.istore i, 2)) : zSG own cc nL ini pc 2 (iSI i) := by
  rintro ⟨L, st, h, g⟩ hg
  rcases st with _ | ⟨(v | _ | _), st⟩ <;> try (exact (nomatch (show false = true from hg)); done)
  obtain ⟨hb, hg⟩ := and2 (show (Nat.blt (i) L.length && g) = true from hg)
  refine ⟨hg, zEx.rf, ?_⟩
  refine zSt.pure fun G p l e R s m args below meth c Q H locs cells slots ls hC hH hF hq k => ?_
  have hn : i < nL := by rw [← hF.2.1]; exact Nat.le_of_ble_eq_true hb
  exact lv_istore hC.1 hC.2.1 hd hF.1 hn rfl (fun ls2 hl2 => k ls2 (hF.put1 (v := vI v) trivial (okt hF.2.2.2) hl2))
theorem sg_astore_n {q : Fin 4} {i : Nat} (hd : decode cc pc = .ok (.astore_n q, 1)) (hi : (q : Nat) = i) : zSG own cc nL ini pc 1 (iSA i) := by
  rintro ⟨L, st, h, g⟩ hg
  rcases st with _ | ⟨(_ | _ | v), st⟩ <;> try (exact (nomatch (show false = true from hg)); done)
  obtain ⟨hb, hg⟩ := and2 (show (Nat.blt (i) L.length && g) = true from hg)
  refine ⟨hg, zEx.rf, ?_⟩
  refine zSt.pure fun G p l e R s m args below meth c Q H locs cells slots ls hC hH hF hq k => ?_
  have hn : i < nL := by rw [← hF.2.1]; exact Nat.le_of_ble_eq_true hb
  have hv9 := okh hF.2.2.2
  cases v with
  | none => exact lv_astore_nN hC.1 hC.2.1 hd hi hF.1 hn rfl (fun ls2 hl2 => k ls2 (hF.put1 hv9 (okt hF.2.2.2) hl2))
  | some q => exact lv_astore_n hC.1 hC.2.1 hd hi hF.1 hn rfl (fun ls2 hl2 => k ls2 (hF.put1 hv9 (okt hF.2.2.2) hl2))
theorem sg_astore {i : Nat} (hd : decode cc pc = .ok (.astore i, 2)) : zSG own cc nL ini pc 2 (iSA i) := by
  rintro ⟨L, st, h, g⟩ hg
  rcases st with _ | ⟨(_ | _ | v), st⟩ <;> try (exact (nomatch (show false = true from hg)); done)
  obtain ⟨hb, hg⟩ := and2 (show (Nat.blt (i) L.length && g) = true from hg)
  refine ⟨hg, zEx.rf, ?_⟩
  refine zSt.pure fun G p l e R s m args below meth c Q H locs cells slots ls hC hH hF hq k => ?_
  have hn : i < nL := by rw [← hF.2.1]; exact Nat.le_of_ble_eq_true hb
  have hv9 := okh hF.2.2.2
  cases v with
  | none => exact lv_astoreN hC.1 hC.2.1 hd hF.1 hn rfl (fun ls2 hl2 => k ls2 (hF.put1 hv9 (okt hF.2.2.2) hl2))
  | some q => exact lv_astore hC.1 hC.2.1 hd hF.1 hn rfl (fun ls2 hl2 => k ls2 (hF.put1 hv9 (okt hF.2.2.2) hl2))
theorem sg_lstore_n {q : Fin 4} {i : Nat} (hd : decode cc pc = .ok (.lstore_n q, 1)) (hi : (q : Nat) = i) : zSG own cc nL ini pc 1 (iSL i) := by
  rintro ⟨L, st, h, g⟩ hg
  rcases st with _ | ⟨(_ | v | _), st⟩ <;> try (exact (nomatch (show false = true from hg)); done)
  obtain ⟨hb, hg⟩ := and2 (show (Nat.blt (i + 1) L.length && g) = true from hg)
  refine ⟨hg, zEx.rf, ?_⟩
  refine zSt.pure fun G p l e R s m args below meth c Q H locs cells slots ls hC hH hF hq k => ?_
  have hn : i + 1 < nL := by rw [← hF.2.1]; exact Nat.le_of_ble_eq_true hb
  exact lv_lstore_n hC.1 hC.2.1 hd hi hF.1 hn rfl (fun ls2 hl2 => k ls2 (hF.put2 (v := vL v) trivial (okt hF.2.2.2) hl2))
theorem sg_lstore {i : Nat} (hd : decode cc pc = .ok (.lstore i, 2)) : zSG own cc nL ini pc 2 (iSL i) := by
  rintro ⟨L, st, h, g⟩ hg
  rcases st with _ | ⟨(_ | v | _), st⟩ <;> try (exact (nomatch (show false = true from hg)); done)
  obtain ⟨hb, hg⟩ := and2 (show (Nat.blt (i + 1) L.length && g) = true from hg)
  refine ⟨hg, zEx.rf, ?_⟩
  refine zSt.pure fun G p l e R s m args below meth c Q H locs cells slots ls hC hH hF hq k => ?_
  have hn : i + 1 < nL := by rw [← hF.2.1]; exact Nat.le_of_ble_eq_true hb
  exact lv_lstore hC.1 hC.2.1 hd hF.1 hn rfl (fun ls2 hl2 => k ls2 (hF.put2 (v := vL v) trivial (okt hF.2.2.2) hl2))
theorem sg_istore_nK {q : Fin 4} {i : Nat} (hi1 : 1 ≤ i) (hd : decode cc pc = .ok (.istore_n q, 1)) (hi : (q : Nat) = i) : zSG own cc nL ini pc 1 (iSIk i) := by
  rintro ⟨L, st, h, g⟩ hg
  rcases st with _ | ⟨(v | _ | _), st⟩ <;> try (exact (nomatch (show false = true from hg)); done)
  obtain ⟨hb, hg⟩ := and2 (show (Nat.blt (i) L.length && g) = true from hg)
  refine ⟨hg, zEx.rf, ?_⟩
  refine zSt.pure fun G p l e R s m args below meth c Q H locs cells slots ls hC hH hF hq k => ?_
  have hn : i < nL := by rw [← hF.2.1]; exact Nat.le_of_ble_eq_true hb
  exact lv_istore_n hC.1 hC.2.1 hd hi hF.1 hn rfl (fun ls2 hl2 => k ls2 (hF.putK hi1 (v := vI v) trivial (okt hF.2.2.2) hl2))
theorem sg_istoreK {i : Nat} (hi1 : 1 ≤ i) (hd : decode cc pc = .ok (.istore i, 2)) : zSG own cc nL ini pc 2 (iSIk i) := by
  rintro ⟨L, st, h, g⟩ hg
  rcases st with _ | ⟨(v | _ | _), st⟩ <;> try (exact (nomatch (show false = true from hg)); done)
  obtain ⟨hb, hg⟩ := and2 (show (Nat.blt (i) L.length && g) = true from hg)
  refine ⟨hg, zEx.rf, ?_⟩
  refine zSt.pure fun G p l e R s m args below meth c Q H locs cells slots ls hC hH hF hq k => ?_
  have hn : i < nL := by rw [← hF.2.1]; exact Nat.le_of_ble_eq_true hb
  exact lv_istore hC.1 hC.2.1 hd hF.1 hn rfl (fun ls2 hl2 => k ls2 (hF.putK hi1 (v := vI v) trivial (okt hF.2.2.2) hl2))
theorem sg_astore_nK {q : Fin 4} {i : Nat} (hi1 : 1 ≤ i) (hd : decode cc pc = .ok (.astore_n q, 1)) (hi : (q : Nat) = i) : zSG own cc nL ini pc 1 (iSAk i) := by
  rintro ⟨L, st, h, g⟩ hg
  rcases st with _ | ⟨(_ | _ | v), st⟩ <;> try (exact (nomatch (show false = true from hg)); done)
  obtain ⟨hb, hg⟩ := and2 (show (Nat.blt (i) L.length && g) = true from hg)
  refine ⟨hg, zEx.rf, ?_⟩
  refine zSt.pure fun G p l e R s m args below meth c Q H locs cells slots ls hC hH hF hq k => ?_
  have hn : i < nL := by rw [← hF.2.1]; exact Nat.le_of_ble_eq_true hb
  have hv9 := okh hF.2.2.2
  cases v with
  | none => exact lv_astore_nN hC.1 hC.2.1 hd hi hF.1 hn rfl (fun ls2 hl2 => k ls2 (hF.putK hi1 hv9 (okt hF.2.2.2) hl2))
  | some q => exact lv_astore_n hC.1 hC.2.1 hd hi hF.1 hn rfl (fun ls2 hl2 => k ls2 (hF.putK hi1 hv9 (okt hF.2.2.2) hl2))
theorem sg_astoreK {i : Nat} (hi1 : 1 ≤ i) (hd : decode cc pc = .ok (.astore i, 2)) : zSG own cc nL ini pc 2 (iSAk i) := by
  rintro ⟨L, st, h, g⟩ hg
  rcases st with _ | ⟨(_ | _ | v), st⟩ <;> try (exact (nomatch (show false = true from hg)); done)
  obtain ⟨hb, hg⟩ := and2 (show (Nat.blt (i) L.length && g) = true from hg)
  refine ⟨hg, zEx.rf, ?_⟩
  refine zSt.pure fun G p l e R s m args below meth c Q H locs cells slots ls hC hH hF hq k => ?_
  have hn : i < nL := by rw [← hF.2.1]; exact Nat.le_of_ble_eq_true hb
  have hv9 := okh hF.2.2.2
  cases v with
  | none => exact lv_astoreN hC.1 hC.2.1 hd hF.1 hn rfl (fun ls2 hl2 => k ls2 (hF.putK hi1 hv9 (okt hF.2.2.2) hl2))
  | some q => exact lv_astore hC.1 hC.2.1 hd hF.1 hn rfl (fun ls2 hl2 => k ls2 (hF.putK hi1 hv9 (okt hF.2.2.2) hl2))
theorem sg_lstore_nK {q : Fin 4} {i : Nat} (hi1 : 1 ≤ i) (hd : decode cc pc = .ok (.lstore_n q, 1)) (hi : (q : Nat) = i) : zSG own cc nL ini pc 1 (iSLk i) := by
  rintro ⟨L, st, h, g⟩ hg
  rcases st with _ | ⟨(_ | v | _), st⟩ <;> try (exact (nomatch (show false = true from hg)); done)
  obtain ⟨hb, hg⟩ := and2 (show (Nat.blt (i + 1) L.length && g) = true from hg)
  refine ⟨hg, zEx.rf, ?_⟩
  refine zSt.pure fun G p l e R s m args below meth c Q H locs cells slots ls hC hH hF hq k => ?_
  have hn : i + 1 < nL := by rw [← hF.2.1]; exact Nat.le_of_ble_eq_true hb
  exact lv_lstore_n hC.1 hC.2.1 hd hi hF.1 hn rfl (fun ls2 hl2 => k ls2 (hF.put2K hi1 (v := vL v) trivial (okt hF.2.2.2) hl2))
theorem sg_lstoreK {i : Nat} (hi1 : 1 ≤ i) (hd : decode cc pc = .ok (.lstore i, 2)) : zSG own cc nL ini pc 2 (iSLk i) := by
  rintro ⟨L, st, h, g⟩ hg
  rcases st with _ | ⟨(_ | v | _), st⟩ <;> try (exact (nomatch (show false = true from hg)); done)
  obtain ⟨hb, hg⟩ := and2 (show (Nat.blt (i + 1) L.length && g) = true from hg)
  refine ⟨hg, zEx.rf, ?_⟩
  refine zSt.pure fun G p l e R s m args below meth c Q H locs cells slots ls hC hH hF hq k => ?_
  have hn : i + 1 < nL := by rw [← hF.2.1]; exact Nat.le_of_ble_eq_true hb
  exact lv_lstore hC.1 hC.2.1 hd hF.1 hn rfl (fun ls2 hl2 => k ls2 (hF.put2K hi1 (v := vL v) trivial (okt hF.2.2.2) hl2))
theorem sg_iincK {i : Nat} {n : Int} {w : Int32} (hi1 : 1 ≤ i) (hd : decode cc pc = .ok (.iinc i n, 3)) (hw : Int32.ofInt n = w) : zSG own cc nL ini pc 3 (iInk i w) := by
  rintro ⟨L, st, h, g⟩ hg
  unfold iInk at hg ⊢
  dsimp only at hg ⊢
  split at hg <;> try (exact (nomatch (show false = true from hg)))
  rename_i v hv
  refine ⟨hg, zEx.rf, ?_⟩
  refine zSt.pure fun G p l e R s m args below meth c Q H locs cells slots ls hC hH hF hq k => ?_
  have hat := hF.at hv
  have hn : i < nL := by rw [← hF.1.1]; exact lv_lt hat
  obtain ⟨j, hj⟩ := List.getElem?_of_mem ((zLs_mem (ad := gad G) (q := (i, Value.int v)) L 0).mpr ⟨i, vI v, hv, by simp [zTr]⟩)
  exact lv_iinc (v := v + w) hC.1 hC.2.1 hd hF.1 hj (by rw [hw]) hn rfl (fun ls2 hl2 => k ls2 (hF.putK hi1 (v := vI (v + w)) trivial hF.2.2.2 hl2))
theorem sg_iinc {i : Nat} {n : Int} {w : Int32} (hd : decode cc pc = .ok (.iinc i n, 3)) (hw : Int32.ofInt n = w) : zSG own cc nL ini pc 3 (iInc i w) := by
  rintro ⟨L, st, h, g⟩ hg
  unfold iInc at hg ⊢
  dsimp only at hg ⊢
  split at hg <;> try (exact (nomatch (show false = true from hg)))
  rename_i v hv
  refine ⟨hg, zEx.rf, ?_⟩
  refine zSt.pure fun G p l e R s m args below meth c Q H locs cells slots ls hC hH hF hq k => ?_
  have hat := hF.at hv
  have hn : i < nL := by rw [← hF.1.1]; exact lv_lt hat
  obtain ⟨j, hj⟩ := List.getElem?_of_mem ((zLs_mem (ad := gad G) (q := (i, Value.int v)) L 0).mpr ⟨i, vI v, hv, by simp [zTr]⟩)
  exact lv_iinc (v := v + w) hC.1 hC.2.1 hd hF.1 hj (by rw [hw]) hn rfl (fun ls2 hl2 => k ls2 (hF.put1 (v := vI (v + w)) trivial hF.2.2.2 hl2))
theorem sg_iadd (hd : decode cc pc = .ok (.iadd, 1)) : zSG own cc nL ini pc 1 (iBin (fun x y => x + y)) := by
  rintro ⟨L, st, h, g⟩ hg
  rcases st with _ | ⟨(y | _ | _), st⟩ <;> try (exact (nomatch (show false = true from hg)); done)
  rcases st with _ | ⟨(x | _ | _), st⟩ <;> try (exact (nomatch (show false = true from hg)); done)
  refine ⟨hg, zEx.rf, ?_⟩
  exact zSt.pure fun G p l e R s m args below meth c Q H locs cells slots ls hC hH hF hq k => lv_iadd hC.1 hC.2.1 hd (k ls (hF.stk (okc trivial (okt (okt hF.2.2.2)))))
theorem sg_isub (hd : decode cc pc = .ok (.isub, 1)) : zSG own cc nL ini pc 1 (iBin (fun x y => x - y)) := by
  rintro ⟨L, st, h, g⟩ hg
  rcases st with _ | ⟨(y | _ | _), st⟩ <;> try (exact (nomatch (show false = true from hg)); done)
  rcases st with _ | ⟨(x | _ | _), st⟩ <;> try (exact (nomatch (show false = true from hg)); done)
  refine ⟨hg, zEx.rf, ?_⟩
  exact zSt.pure fun G p l e R s m args below meth c Q H locs cells slots ls hC hH hF hq k => lv_isub hC.1 hC.2.1 hd (k ls (hF.stk (okc trivial (okt (okt hF.2.2.2)))))
theorem sg_imul (hd : decode cc pc = .ok (.imul, 1)) : zSG own cc nL ini pc 1 (iBin (fun x y => x * y)) := by
  rintro ⟨L, st, h, g⟩ hg
  rcases st with _ | ⟨(y | _ | _), st⟩ <;> try (exact (nomatch (show false = true from hg)); done)
  rcases st with _ | ⟨(x | _ | _), st⟩ <;> try (exact (nomatch (show false = true from hg)); done)
  refine ⟨hg, zEx.rf, ?_⟩
  exact zSt.pure fun G p l e R s m args below meth c Q H locs cells slots ls hC hH hF hq k => lv_imul hC.1 hC.2.1 hd (k ls (hF.stk (okc trivial (okt (okt hF.2.2.2)))))
theorem sg_iand (hd : decode cc pc = .ok (.iand, 1)) : zSG own cc nL ini pc 1 (iBin (fun x y => x &&& y)) := by
  rintro ⟨L, st, h, g⟩ hg
  rcases st with _ | ⟨(y | _ | _), st⟩ <;> try (exact (nomatch (show false = true from hg)); done)
  rcases st with _ | ⟨(x | _ | _), st⟩ <;> try (exact (nomatch (show false = true from hg)); done)
  refine ⟨hg, zEx.rf, ?_⟩
  exact zSt.pure fun G p l e R s m args below meth c Q H locs cells slots ls hC hH hF hq k => lv_iand hC.1 hC.2.1 hd (k ls (hF.stk (okc trivial (okt (okt hF.2.2.2)))))
theorem sg_ior (hd : decode cc pc = .ok (.ior, 1)) : zSG own cc nL ini pc 1 (iBin (fun x y => x ||| y)) := by
  rintro ⟨L, st, h, g⟩ hg
  rcases st with _ | ⟨(y | _ | _), st⟩ <;> try (exact (nomatch (show false = true from hg)); done)
  rcases st with _ | ⟨(x | _ | _), st⟩ <;> try (exact (nomatch (show false = true from hg)); done)
  refine ⟨hg, zEx.rf, ?_⟩
  exact zSt.pure fun G p l e R s m args below meth c Q H locs cells slots ls hC hH hF hq k => lv_ior hC.1 hC.2.1 hd (k ls (hF.stk (okc trivial (okt (okt hF.2.2.2)))))
theorem sg_ixor (hd : decode cc pc = .ok (.ixor, 1)) : zSG own cc nL ini pc 1 (iBin (fun x y => x ^^^ y)) := by
  rintro ⟨L, st, h, g⟩ hg
  rcases st with _ | ⟨(y | _ | _), st⟩ <;> try (exact (nomatch (show false = true from hg)); done)
  rcases st with _ | ⟨(x | _ | _), st⟩ <;> try (exact (nomatch (show false = true from hg)); done)
  refine ⟨hg, zEx.rf, ?_⟩
  exact zSt.pure fun G p l e R s m args below meth c Q H locs cells slots ls hC hH hF hq k => lv_ixor hC.1 hC.2.1 hd (k ls (hF.stk (okc trivial (okt (okt hF.2.2.2)))))
theorem sg_ishl (hd : decode cc pc = .ok (.ishl, 1)) : zSG own cc nL ini pc 1 (iBin (fun x y => x <<< (y &&& 31))) := by
  rintro ⟨L, st, h, g⟩ hg
  rcases st with _ | ⟨(y | _ | _), st⟩ <;> try (exact (nomatch (show false = true from hg)); done)
  rcases st with _ | ⟨(x | _ | _), st⟩ <;> try (exact (nomatch (show false = true from hg)); done)
  refine ⟨hg, zEx.rf, ?_⟩
  exact zSt.pure fun G p l e R s m args below meth c Q H locs cells slots ls hC hH hF hq k => lv_ishl hC.1 hC.2.1 hd (k ls (hF.stk (okc trivial (okt (okt hF.2.2.2)))))
theorem sg_ishr (hd : decode cc pc = .ok (.ishr, 1)) : zSG own cc nL ini pc 1 (iBin (fun x y => x >>> (y &&& 31))) := by
  rintro ⟨L, st, h, g⟩ hg
  rcases st with _ | ⟨(y | _ | _), st⟩ <;> try (exact (nomatch (show false = true from hg)); done)
  rcases st with _ | ⟨(x | _ | _), st⟩ <;> try (exact (nomatch (show false = true from hg)); done)
  refine ⟨hg, zEx.rf, ?_⟩
  exact zSt.pure fun G p l e R s m args below meth c Q H locs cells slots ls hC hH hF hq k => lv_ishr hC.1 hC.2.1 hd (k ls (hF.stk (okc trivial (okt (okt hF.2.2.2)))))
theorem sg_iushr (hd : decode cc pc = .ok (.iushr, 1)) : zSG own cc nL ini pc 1 (iBin (fun x y => (x.toUInt32 >>> (y.toUInt32 &&& Int32.toUInt32 31)).toInt32)) := by
  rintro ⟨L, st, h, g⟩ hg
  rcases st with _ | ⟨(y | _ | _), st⟩ <;> try (exact (nomatch (show false = true from hg)); done)
  rcases st with _ | ⟨(x | _ | _), st⟩ <;> try (exact (nomatch (show false = true from hg)); done)
  refine ⟨hg, zEx.rf, ?_⟩
  exact zSt.pure fun G p l e R s m args below meth c Q H locs cells slots ls hC hH hF hq k => lv_iushr hC.1 hC.2.1 hd rfl (k ls (hF.stk (okc trivial (okt (okt hF.2.2.2)))))
theorem sg_idiv (hd : decode cc pc = .ok (.idiv, 1)) : zSG own cc nL ini pc 1 (iBin0 (fun x y => x / y)) := by
  rintro ⟨L, st, h, g⟩ hg
  rcases st with _ | ⟨(y | _ | _), st⟩ <;> try (exact (nomatch (show false = true from hg)); done)
  rcases st with _ | ⟨(x | _ | _), st⟩ <;> try (exact (nomatch (show false = true from hg)); done)
  obtain ⟨hy, hg⟩ := and2 (show (!decide (y = 0) && g) = true from hg)
  refine ⟨hg, zEx.rf, ?_⟩
  exact zSt.pure fun G p l e R s m args below meth c Q H locs cells slots ls hC hH hF hq k => lv_idiv hC.1 hC.2.1 hd (by simpa using hy) (k ls (hF.stk (okc trivial (okt (okt hF.2.2.2)))))
theorem sg_irem (hd : decode cc pc = .ok (.irem, 1)) : zSG own cc nL ini pc 1 (iBin0 (fun x y => x - x / y * y)) := by
  rintro ⟨L, st, h, g⟩ hg
  rcases st with _ | ⟨(y | _ | _), st⟩ <;> try (exact (nomatch (show false = true from hg)); done)
  rcases st with _ | ⟨(x | _ | _), st⟩ <;> try (exact (nomatch (show false = true from hg)); done)
  obtain ⟨hy, hg⟩ := and2 (show (!decide (y = 0) && g) = true from hg)
  refine ⟨hg, zEx.rf, ?_⟩
  exact zSt.pure fun G p l e R s m args below meth c Q H locs cells slots ls hC hH hF hq k => lv_irem hC.1 hC.2.1 hd (by simpa using hy) (k ls (hF.stk (okc trivial (okt (okt hF.2.2.2)))))
theorem sg_ladd (hd : decode cc pc = .ok (.ladd, 1)) : zSG own cc nL ini pc 1 (lBin (fun x y => x + y)) := by
  rintro ⟨L, st, h, g⟩ hg
  rcases st with _ | ⟨(_ | y | _), st⟩ <;> try (exact (nomatch (show false = true from hg)); done)
  rcases st with _ | ⟨(_ | x | _), st⟩ <;> try (exact (nomatch (show false = true from hg)); done)
  refine ⟨hg, zEx.rf, ?_⟩
  exact zSt.pure fun G p l e R s m args below meth c Q H locs cells slots ls hC hH hF hq k => lv_ladd hC.1 hC.2.1 hd (k ls (hF.stk (okc trivial (okt (okt hF.2.2.2)))))
theorem sg_lsub (hd : decode cc pc = .ok (.lsub, 1)) : zSG own cc nL ini pc 1 (lBin (fun x y => x - y)) := by
  rintro ⟨L, st, h, g⟩ hg
  rcases st with _ | ⟨(_ | y | _), st⟩ <;> try (exact (nomatch (show false = true from hg)); done)
  rcases st with _ | ⟨(_ | x | _), st⟩ <;> try (exact (nomatch (show false = true from hg)); done)
  refine ⟨hg, zEx.rf, ?_⟩
  exact zSt.pure fun G p l e R s m args below meth c Q H locs cells slots ls hC hH hF hq k => lv_lsub hC.1 hC.2.1 hd (k ls (hF.stk (okc trivial (okt (okt hF.2.2.2)))))
theorem sg_lmul (hd : decode cc pc = .ok (.lmul, 1)) : zSG own cc nL ini pc 1 (lBin (fun x y => x * y)) := by
  rintro ⟨L, st, h, g⟩ hg
  rcases st with _ | ⟨(_ | y | _), st⟩ <;> try (exact (nomatch (show false = true from hg)); done)
  rcases st with _ | ⟨(_ | x | _), st⟩ <;> try (exact (nomatch (show false = true from hg)); done)
  refine ⟨hg, zEx.rf, ?_⟩
  exact zSt.pure fun G p l e R s m args below meth c Q H locs cells slots ls hC hH hF hq k => lv_lmul hC.1 hC.2.1 hd (k ls (hF.stk (okc trivial (okt (okt hF.2.2.2)))))
theorem sg_ldiv (hd : decode cc pc = .ok (.ldiv, 1)) : zSG own cc nL ini pc 1 (lBin0 (fun x y => x / y)) := by
  rintro ⟨L, st, h, g⟩ hg
  rcases st with _ | ⟨(_ | y | _), st⟩ <;> try (exact (nomatch (show false = true from hg)); done)
  rcases st with _ | ⟨(_ | x | _), st⟩ <;> try (exact (nomatch (show false = true from hg)); done)
  obtain ⟨hy, hg⟩ := and2 (show (!decide (y = 0) && g) = true from hg)
  refine ⟨hg, zEx.rf, ?_⟩
  exact zSt.pure fun G p l e R s m args below meth c Q H locs cells slots ls hC hH hF hq k => lv_ldiv hC.1 hC.2.1 hd (by simpa using hy) (k ls (hF.stk (okc trivial (okt (okt hF.2.2.2)))))
theorem sg_lrem (hd : decode cc pc = .ok (.lrem, 1)) : zSG own cc nL ini pc 1 (lBin0 (fun x y => x - x / y * y)) := by
  rintro ⟨L, st, h, g⟩ hg
  rcases st with _ | ⟨(_ | y | _), st⟩ <;> try (exact (nomatch (show false = true from hg)); done)
  rcases st with _ | ⟨(_ | x | _), st⟩ <;> try (exact (nomatch (show false = true from hg)); done)
  obtain ⟨hy, hg⟩ := and2 (show (!decide (y = 0) && g) = true from hg)
  refine ⟨hg, zEx.rf, ?_⟩
  exact zSt.pure fun G p l e R s m args below meth c Q H locs cells slots ls hC hH hF hq k => lv_lrem hC.1 hC.2.1 hd (by simpa using hy) (k ls (hF.stk (okc trivial (okt (okt hF.2.2.2)))))
theorem sg_lcmp (hd : decode cc pc = .ok (.lcmp, 1)) : zSG own cc nL ini pc 1 (iCmp) := by
  rintro ⟨L, st, h, g⟩ hg
  rcases st with _ | ⟨(_ | y | _), st⟩ <;> try (exact (nomatch (show false = true from hg)); done)
  rcases st with _ | ⟨(_ | x | _), st⟩ <;> try (exact (nomatch (show false = true from hg)); done)
  refine ⟨hg, zEx.rf, ?_⟩
  exact zSt.pure fun G p l e R s m args below meth c Q H locs cells slots ls hC hH hF hq k => W.lcmp hC.1 hC.2.1 hd (k ls (hF.stk (okc trivial (okt (okt hF.2.2.2)))))
theorem sg_ineg (hd : decode cc pc = .ok (.ineg, 1)) : zSG own cc nL ini pc 1 (iUn (fun x => -x)) := by
  rintro ⟨L, st, h, g⟩ hg
  rcases st with _ | ⟨(x | _ | _), st⟩ <;> try (exact (nomatch (show false = true from hg)); done)
  refine ⟨hg, zEx.rf, ?_⟩
  exact zSt.pure fun G p l e R s m args below meth c Q H locs cells slots ls hC hH hF hq k => lv_ineg hC.1 hC.2.1 hd (k ls (hF.stk (okc trivial (okt hF.2.2.2))))
theorem sg_i2b (hd : decode cc pc = .ok (.i2b, 1)) : zSG own cc nL ini pc 1 (iUn (fun x => x.toInt8.toInt32)) := by
  rintro ⟨L, st, h, g⟩ hg
  rcases st with _ | ⟨(x | _ | _), st⟩ <;> try (exact (nomatch (show false = true from hg)); done)
  refine ⟨hg, zEx.rf, ?_⟩
  exact zSt.pure fun G p l e R s m args below meth c Q H locs cells slots ls hC hH hF hq k => lv_i2b hC.1 hC.2.1 hd rfl (k ls (hF.stk (okc trivial (okt hF.2.2.2))))
theorem sg_lneg (hd : decode cc pc = .ok (.lneg, 1)) : zSG own cc nL ini pc 1 (lUn (fun x => -x)) := by
  rintro ⟨L, st, h, g⟩ hg
  rcases st with _ | ⟨(_ | x | _), st⟩ <;> try (exact (nomatch (show false = true from hg)); done)
  refine ⟨hg, zEx.rf, ?_⟩
  exact zSt.pure fun G p l e R s m args below meth c Q H locs cells slots ls hC hH hF hq k => lv_lneg hC.1 hC.2.1 hd (k ls (hF.stk (okc trivial (okt hF.2.2.2))))
theorem sg_i2l (hd : decode cc pc = .ok (.i2l, 1)) : zSG own cc nL ini pc 1 (iI2L) := by
  rintro ⟨L, st, h, g⟩ hg
  rcases st with _ | ⟨(x | _ | _), st⟩ <;> try (exact (nomatch (show false = true from hg)); done)
  refine ⟨hg, zEx.rf, ?_⟩
  exact zSt.pure fun G p l e R s m args below meth c Q H locs cells slots ls hC hH hF hq k => lv_i2l hC.1 hC.2.1 hd rfl (k ls (hF.stk (okc trivial (okt hF.2.2.2))))
theorem sg_l2i (hd : decode cc pc = .ok (.l2i, 1)) : zSG own cc nL ini pc 1 (iL2I) := by
  rintro ⟨L, st, h, g⟩ hg
  rcases st with _ | ⟨(_ | x | _), st⟩ <;> try (exact (nomatch (show false = true from hg)); done)
  refine ⟨hg, zEx.rf, ?_⟩
  exact zSt.pure fun G p l e R s m args below meth c Q H locs cells slots ls hC hH hF hq k => lv_l2i hC.1 hC.2.1 hd rfl (k ls (hF.stk (okc trivial (okt hF.2.2.2))))
theorem sg_dup (hd : decode cc pc = .ok (.dup, 1)) : zSG own cc nL ini pc 1 (iDup) := by
  rintro ⟨L, st, h, g⟩ hg
  rcases st with _ | ⟨a, st⟩ <;> try (exact (nomatch (show false = true from hg)); done)
  obtain ⟨ha, hg⟩ := and2 (show (!isLg (some a) && g) = true from hg)
  refine ⟨hg, zEx.rf, ?_⟩
  exact zSt.pure fun G p l e R s m args below meth c Q H locs cells slots ls hC hH hF hq k => lv_dup hC.1 hC.2.1 hd (zTr_cat1 (by simpa using ha)) (k ls (hF.stk (okc (okh hF.2.2.2) hF.2.2.2)))
theorem sg_pop (hd : decode cc pc = .ok (.pop, 1)) : zSG own cc nL ini pc 1 (iPop) := by
  rintro ⟨L, st, h, g⟩ hg
  rcases st with _ | ⟨a, st⟩ <;> try (exact (nomatch (show false = true from hg)); done)
  obtain ⟨ha, hg⟩ := and2 (show (!isLg (some a) && g) = true from hg)
  refine ⟨hg, zEx.rf, ?_⟩
  exact zSt.pure fun G p l e R s m args below meth c Q H locs cells slots ls hC hH hF hq k => lv_pop hC.1 hC.2.1 hd (zTr_cat1 (by simpa using ha)) (k ls (hF.stk (okt hF.2.2.2)))
theorem sg_dup2 (hd : decode cc pc = .ok (.dup2, 1)) : zSG own cc nL ini pc 1 (iDup2) := by
  rintro ⟨L, st, h, g⟩ hg
  rcases st with _ | ⟨a, st⟩ <;> try (exact (nomatch (show false = true from hg)); done)
  rcases st with _ | ⟨b, st⟩ <;> try (exact (nomatch (show false = true from hg)); done)
  obtain ⟨ha, hg⟩ := and2 (show (!isLg (some a) && (!isLg (some b) && g)) = true from hg)
  obtain ⟨hb, hg⟩ := and2 hg
  refine ⟨hg, zEx.rf, ?_⟩
  exact zSt.pure fun G p l e R s m args below meth c Q H locs cells slots ls hC hH hF hq k => lv_dup2_11 hC.1 hC.2.1 hd (zTr_cat1 (by simpa using ha)) (zTr_cat1 (by simpa using hb)) (k ls (hF.stk (okc (okh hF.2.2.2) (okc (okh (okt hF.2.2.2)) hF.2.2.2))))
end PURE
