def kdF : FieldType → Nat
  | .int => 1
  | .boolean => 3
  | .long => 5
  | .object _ => 4
  | .array _ => 4
  | _ => 0
/-- a field's link: which classes' objects have it, its number there, its kind; final; declared by the class that asks -/
def zFl (own : String) (idx : Nat) (cs : List Nat) (j kd : Nat) (fin dc : Bool) : Prop :=
  ∃ ref name desc : String, Cond.fieldLink own idx ref name desc ∈ tb ∧ ∀ c, memN cs c = true → ∃ r : vw_C, zcl[c]? = some r ∧ j < r.2.2 ∧ (r.2.1 j).2.1 = name ∧ (r.2.1 j).2.2.1 = desc ∧ ((r.2.1 j).1 = ref ∨ Cond.sameField ref (r.2.1 j).1 name desc ∈ tb) ∧ (r.2.1 j).2.2.2 = fin ∧ (dc = true → (r.2.1 j).1 = own) ∧ kdF (fty c j) = kd
theorem memN1 {a c : Nat} (h : memN [a] c = true) : c = a := by simpa [memN] using h
theorem memN2 {a b c : Nat} (h : memN [a, b] c = true) : c = a ∨ c = b := by simpa [memN] using h
theorem zcl_lt {c : Nat} {r : vw_C} (h : zcl[c]? = some r) : c < 12 := (List.getElem?_eq_some_iff.mp h).1
theorem akd_obj {k : Nat} (h : k < 12) : akd k = 0 := by
  have : ∀ k, k < 12 → akd k = 0 := by decide
  exact this k h
theorem akd19 : akd 19 = 0 := rfl
theorem akd99 : akd 99 = 0 := rfl
def zSm (h h' : zM) : Prop := cnM h' = cnM h ∧ aoM h' = aoM h ∧ ncM h' = ncM h ∧ nsM h' = nsM h ∧ slM h' = slM h
theorem zSm.ex {h h' : zM} (a : zSm h h') : zEx h h' := ⟨by rw [a.2.2.1]; exact Nat.le_refl _, by rw [a.2.2.2.1]; exact Nat.le_refl _, a.2.2.2.2, fun c i hi => ⟨by rw [a.1]; exact hi, by rw [a.2.1]⟩⟩
theorem zSm.ok {h h' : zM} (a : zSm h h') {v : zV} : zOk h' v ↔ zOk h v := by
  rcases v with x | x | x
  · exact Iff.rfl
  · exact Iff.rfl
  · cases x with
    | none => exact Iff.rfl
    | some p => show p.2 < cnM h' p.1 ↔ p.2 < cnM h p.1; rw [a.1]
theorem zSm.wI {h : zM} {c i f : Nat} {v : Int32} : zSm h (wI h c i f v) := ⟨rfl, rfl, rfl, rfl, rfl⟩
theorem zSm.wL {h : zM} {c i f : Nat} {v : Int64} : zSm h (wL h c i f v) := ⟨rfl, rfl, rfl, rfl, rfl⟩
theorem zSm.wR {h : zM} {c i f : Nat} {v : zR} : zSm h (wR h c i f v) := ⟨rfl, rfl, rfl, rfl, rfl⟩
theorem zSm.cp {h : zM} {c i f c2 i2 f2 n : Nat} : zSm h (cpM h c i f c2 i2 f2 n) := ⟨rfl, rfl, rfl, rfl, rfl⟩
theorem zHp.ne {G : zG} {h : zM} {H : Heap} (hh : zHp G h H) {c i c' i' : Nat} (hi : i < cnM h c) (hi' : i' < cnM h c') (hc : c ≠ 19) (hc' : c' ≠ 19) (hn : c' ≠ c ∨ i' ≠ i) : gad G c' i' ≠ gad G c i := by
  intro e
  rw [(hh.2.2.1.1 c' i' hi' hc').1, (hh.2.2.1.1 c i hi hc).1] at e
  obtain ⟨h1, h2⟩ := hh.2.2.1.2 c' i' c i hi' hi hc' hc (by omega)
  rcases hn with hn | hn
  · exact hn h1
  · exact hn h2
theorem zHp.ge {G : zG} {h : zM} {H : Heap} (hh : zHp G h H) {c i : Nat} (hi : i < cnM h c) (hc : c ≠ 19) : gB G ≤ gad G c i := by
  rw [(hh.2.2.1.1 c i hi hc).1]
  omega
theorem zHp.upd {G : zG} {h h' : zM} {H H' : Heap} {c i : Nat} (hh : zHp G h H) (sm : zSm h h') (hi : i < cnM h c) (hc : c ≠ 19) (z : H'.size = H.size) (oq : ∀ q, q ≠ gad G c i → H'[q]? = H[q]?)
    (hf : ∀ c' i' k, c' ≠ c ∨ i' ≠ i → fvl h' c' i' k = fvl h c' i' k) (hav : ∀ c' i' k, c' ≠ c ∨ i' ≠ i → avl h' c' i' k = avl h c' i' k) (hsc : ∀ j, rI h' 19 0 j = rI h 19 0 j)
    (hv : ∀ c' i' f, i' < cnM h c' → zOk h (vR (rR h' c' i' f)))
    (ho : ∀ r, zcl[c]? = some r → t_OB (gad G c i) ((gD G).1 c) r.2.2 ((gD G).2 c) H' (fun k => zTr (gad G) (fvl h' c i k)))
    (ha : akd c ≠ 0 → H'[gad G c i]? = some (arrV (gA G (akd c)) (aln c) (fun j => zTr (gad G) (avl h' c i j)))) : zHp G h' H' := by
  have hge := hh.ge hi hc
  refine ⟨by rw [z, hh.1, sm.2.2.1], fun q hq => ?_, ?_, ?_, fun c' i' hi' r hr => ?_, fun c' i' hi' hk => ?_, fun c' i' f hi' => ?_⟩
  · rw [oq q (by omega)]
    exact hh.2.1 q hq
  · unfold zOrd
    rw [sm.1, sm.2.1, sm.2.2.1]
    exact hh.2.2.1
  · obtain ⟨s1, s2, s3, s4, s5⟩ := hh.2.2.2.1
    exact ⟨by rw [sm.1]; exact s1, s2, s3, by rw [sm.2.2.2.2]; exact s4, fun j hj => by rw [hsc j]; exact s5 j hj⟩
  · rw [sm.1] at hi'
    by_cases e : c' = c ∧ i' = i
    · obtain ⟨rfl, rfl⟩ := e
      exact ho r hr
    · have e : c' ≠ c ∨ i' ≠ i := by
        by_cases e1 : c' = c
        · exact Or.inr (fun e2 => e ⟨e1, e2⟩)
        · exact Or.inl e1
      have hc' : c' ≠ 19 := by have := zcl_lt hr; omega
      exact ((hh.2.2.2.2.1 c' i' hi' r hr).kept (oq _ (hh.ne hi hi' hc hc' e))).to (fun k _ => by rw [hf c' i' k e])
  · rw [sm.1] at hi'
    by_cases e : c' = c ∧ i' = i
    · obtain ⟨rfl, rfl⟩ := e
      exact ha hk
    · have e : c' ≠ c ∨ i' ≠ i := by
        by_cases e1 : c' = c
        · exact Or.inr (fun e2 => e ⟨e1, e2⟩)
        · exact Or.inl e1
      have hc' : c' ≠ 19 := fun q => hk (by rw [q]; rfl)
      rw [oq _ (hh.ne hi hi' hc hc' e), hh.2.2.2.2.2.1 c' i' hi' hk]
      congr 2
      funext j
      rw [hav c' i' j e]
  · rw [sm.1] at hi'
    exact sm.ok.mpr (hv c' i' f hi')
theorem fvl_I {h : zM} {c i k : Nat} (hk : kdF (fty c k) = 1 ∨ kdF (fty c k) = 3) : fvl h c i k = vI (rI h c i k) := by
  unfold fvl
  revert hk
  cases fty c k <;> simp [kdF]
theorem fvl_L {h : zM} {c i k : Nat} (hk : kdF (fty c k) = 5) : fvl h c i k = vL (rL h c i k) := by
  unfold fvl
  revert hk
  cases fty c k <;> simp [kdF]
theorem fvl_R {h : zM} {c i k : Nat} (hk : kdF (fty c k) = 4) : fvl h c i k = vR (rR h c i k) := by
  unfold fvl
  revert hk
  cases fty c k <;> simp [kdF]
section MEM
variable {own : String} {cc : ByteArray} {nL : Nat} {ini : Bool} {pc : Nat} {G : zG} {p : Program} {l : Launch} {e : Env} {R : Room} {s : State} {m : MethodId} {args : Array Value} {below : List Frame} {meth : Method} {c : Code} {Q : State → Prop} {H : Heap} {locs : List Loc} {cells slots : Nat} {ls : Array Slot} {h h' : zM} {rest : List Value}
theorem zget (hC : zCx G p s m args meth c own cc nL ini) (hH : zHp G h H) {idx : Nat} {cs : List Nat} {j kd : Nat} {fin dc : Bool} (hfl : zFl own idx cs j kd fin dc) {k i : Nat} (hm : memN cs k = true) (hi : i < cnM h k) (hd : decode cc pc = .ok (.getfield idx, 3))
    (kk : W p l e R s m args below meth c H locs cells slots Q (F0 m (pc + 3) ls (zTr (gad G) (fvl h k i j) :: rest))) : W p l e R s m args below meth c H locs cells slots Q (F0 m pc ls (.ref (gad G k i) :: rest)) := by
  obtain ⟨ref, name, desc, hl, hall⟩ := hfl
  obtain ⟨r, hr, hj, hn, hds, hsm, -, -, -⟩ := hall k hm
  obtain ⟨hx, hb, hml, hown, hts, hlk, hin, hK⟩ := hC
  obtain ⟨cell, q1, q2, q3, q4⟩ := hH.2.2.2.2.1 k i hi r hr
  obtain ⟨hS, hfc, kC, hkC, hkind⟩ := hK.1.1 k r hr
  obtain ⟨cf, kf, fi, f, hfi, hsl⟩ := hS j hj
  have hws := (zck k r hr).1
  subst hn; subst hds
  have hsame : s.fieldFound? ref (r.2.1 j).2.1 (r.2.1 j).2.2.1 = some (cf, kf, fi, f) := by
    rcases hsm with e | e
    · rw [← e]; exact hfi
    · exact u_same (hts _ e) _ hfi
  exact W.getf hx hb hown (hts _ hl) hsame (u_facts hfc hkC (u_lays hts hws hj) hfi).1 q1 (by rw [q3]; exact fun h => by cases h) (by rw [hsl]; exact q4 j hj) rfl rfl hd kk
theorem zput (hC : zCx G p s m args meth c own cc nL ini) (hH : zHp G h H) {idx : Nat} {cs : List Nat} {j kd : Nat} {fin dc : Bool} (hfl : zFl own idx cs j kd fin dc) (hfin : fin = true → dc = true ∧ ini = true) {k i : Nat} (hm : memN cs k = true) (hi : i < cnM h k) (hd : decode cc pc = .ok (.putfield idx, 3)) {v : zV}
    (hnar : kdF (fty k j) = kd → narrow (fty k j) (zTr (gad G) v) = zTr (gad G) v) (hfit : kdF (fty k j) = kd → fits (fty k j) (zTr (gad G) v) = true) (sm : zSm h h')
    (hf : kdF (fty k j) = kd → ∀ c' i' x, fvl h' c' i' x = if c' = k ∧ i' = i ∧ x = j then v else fvl h c' i' x) (hav : ∀ c' i' x, c' ≠ k ∨ i' ≠ i → avl h' c' i' x = avl h c' i' x) (hsc : k ≠ 19 → ∀ x, rI h' 19 0 x = rI h 19 0 x)
    (hv : ∀ c' i' f, i' < cnM h c' → zOk h (vR (rR h' c' i' f)))
    (kk : ∀ (H' : Heap) (locs' : List Loc), zHp G h' H' → (∀ q ∈ locs', gB G ≤ q.base) → W p l e R s m args below meth c H' locs' cells slots Q (F0 m (pc + 3) ls rest)) (hq : ∀ q ∈ locs, gB G ≤ q.base) : W p l e R s m args below meth c H locs cells slots Q (F0 m pc ls (zTr (gad G) v :: .ref (gad G k i) :: rest)) := by
  obtain ⟨ref, name, desc, hl, hall⟩ := hfl
  obtain ⟨r, hr, hj, hn, hds, hsm, hfn, hdc, hkd⟩ := hall k hm
  obtain ⟨hx, hb, hml, hown, hts, hlk, hin, hK⟩ := hC
  have hk12 : k < 12 := zcl_lt hr
  have hOB := hH.2.2.2.2.1 k i hi r hr
  obtain ⟨cell, q1, q2, q3, q4⟩ := hOB
  obtain ⟨hS, hfc, kC, hkC, hkind⟩ := hK.1.1 k r hr
  obtain ⟨cf, kf, fi, f, hfi, hsl⟩ := hS j hj
  obtain ⟨hws, hnm, hty⟩ := zck k r hr
  have hap : ∀ x y, x < r.2.2 → y < r.2.2 → x ≠ y → ((gD G).2 k) x ≠ ((gD G).2 k) y := va_apart (own := own) hts hws (fty k) hty hnm hK.1 hr
  have hlay := hts _ (hws _ (u_in_lay hj))
  have hd0 := hty j hj
  have hst := (u_facts hfc hkC (u_lays hts hws hj) hfi).1
  have hne := hnar hkd
  have hfe := hfit hkd
  have hfe2 := hf hkd
  subst hn; subst hds
  have hsame : s.fieldFound? ref (r.2.1 j).2.1 (r.2.1 j).2.2.1 = some (cf, kf, fi, f) := by
    rcases hsm with e | e
    · rw [← e]; exact hfi
    · exact u_same (hts _ e) _ hfi
  have fin2 : ∀ H' : Heap, H'[gad G k i]? = some (cell.setSlot f.slot (zTr (gad G) v)) → H'.size = H.size → (∀ q, q ≠ gad G k i → H'[q]? = H[q]?) → W p l e R s m args below meth c H' (locs ++ [⟨gad G k i, f.slot⟩]) cells slots Q (F0 m (pc + 3) ls rest) := by
    intro H' e1 e2 e3
    rw [hsl] at e1 ⊢
    refine kk H' _ (hH.upd sm hi (by omega) e2 e3 (fun c' i' x hn => ?_) (fun c' i' x hn => ?_) (hsc (by omega)) hv (fun r' hr' => ?_) (fun hz => ?_)) ?_
    · rw [hfe2, if_neg]
      rintro ⟨a1, a2, -⟩
      rcases hn with hn | hn
      · exact hn a1
      · exact hn a2
    · exact hav c' i' x hn
    · rw [hr] at hr'
      cases hr'
      refine t_OB.to (V := updV (fun x => zTr (gad G) (fvl h k i x)) j (zTr (gad G) v)) ⟨_, e1, q2, q3, t_set q4 hap hj _⟩ (fun x hx => ?_)
      unfold updV
      rw [hfe2]
      by_cases hxj : x = j
      · simp [hxj]
      · simp [hxj]
    · exact absurd (akd_obj hk12) hz
    · intro q hq'
      rcases List.mem_append.mp hq' with h1 | h1
      · exact hq q h1
      · rw [List.mem_singleton.mp h1]
        exact hH.ge hi (by omega)
  unfold u_lay at hlay
  cases hfb : fin with
  | false =>
    rw [hfb] at hfn
    rw [if_neg (by rw [hfn]; decide)] at hlay
    have h6 := u_store hfc hkC hkind hlay hfi hd0 hne hfe
    exact W.putK hx hb (f := f) ⟨hown, hts _ hl, ⟨_, _, _, hsame⟩, hst⟩ (by rw [q2]; exact h6) q1 q3 (by rw [hsl]; exact k2_hasslot (q4 j hj)) rfl rfl hd fin2
  | true =>
    obtain ⟨hdc1, hini⟩ := hfin hfb
    rw [hfb] at hfn
    rw [if_pos hfn] at hlay
    have hdecl := hdc hdc1
    have hcf : m.cls = cf := by
      obtain ⟨_, _, c', _, _, _, -, -, hf', -, -, -, hown2, -⟩ := Cond.laysFinal_spec hlay
      have e1 : c' = cf := by have := hfi.symm.trans hf'; simp at this; exact this.1.symm
      rw [hdecl] at hown2
      rw [← e1]; exact Option.some.inj (hown.symm.trans hown2)
    have h6 := u_fits hfc hkC hkind (Or.inr hlay) hfi hd0 hne hfe
    exact W.putFinK hx hb hown (hts _ hl) hsame hst hcf (hin hini) (by rw [q2]; exact h6) q1 q3 (by rw [hsl]; exact k2_hasslot (q4 j hj)) rfl rfl hd fin2
end MEM
