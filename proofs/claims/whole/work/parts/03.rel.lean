/-! ===== the small machine beside the machine ===== -/
def zTr (ad : Nat → Nat → Nat) : zV → Value
  | .inl x => .int x
  | .inr (.inl x) => .long x
  | .inr (.inr none) => .null
  | .inr (.inr (some p)) => .ref (ad p.1 p.2)
def zLs (ad : Nat → Nat → Nat) : Nat → List (Option zV) → List (Nat × Value)
  | _, [] => []
  | k, none :: t => zLs ad (k + 1) t
  | k, some v :: t => (k, zTr ad v) :: zLs ad (k + 1) t
theorem zLs_mem {ad : Nat → Nat → Nat} {q : Nat × Value} : ∀ (ls : List (Option zV)) (k : Nat), q ∈ zLs ad k ls ↔ ∃ (j : Nat) (w : zV), lget ls j = some w ∧ q = (k + j, zTr ad w)
  | [], k => by simp [zLs, lget]
  | a :: t, k => by
    have ih := zLs_mem (ad := ad) (q := q) t (k + 1)
    constructor
    · intro h
      cases a with
      | none =>
        obtain ⟨j, w, h1, h2⟩ := ih.mp h
        exact ⟨j + 1, w, h1, by rw [h2]; congr 1; omega⟩
      | some v =>
        rcases List.mem_cons.mp h with h | h
        · exact ⟨0, v, rfl, h⟩
        · obtain ⟨j, w, h1, h2⟩ := ih.mp h
          exact ⟨j + 1, w, h1, by rw [h2]; congr 1; omega⟩
    · rintro ⟨j, w, h1, h2⟩
      cases j with
      | zero =>
        have e : a = some w := h1
        subst e
        exact List.mem_cons.mpr (Or.inl h2)
      | succ j =>
        have h3 : q ∈ zLs ad (k + 1) t := ih.mpr ⟨j, w, h1, by rw [h2]; congr 1; omega⟩
        cases a with
        | none => exact h3
        | some v => exact List.mem_cons.mpr (Or.inr h3)
theorem lget_mem : ∀ {ls : List (Option zV)} {j : Nat} {w : zV}, lget ls j = some w → some w ∈ ls
  | [], _, _, h => by simp [lget] at h
  | a :: t, 0, w, h => by rw [show a = some w from h]; exact List.mem_cons_self
  | a :: t, j + 1, w, h => List.mem_cons_of_mem _ (lget_mem (ls := t) (j := j) h)
theorem mem_lget : ∀ {ls : List (Option zV)} {w : zV}, some w ∈ ls → ∃ j, lget ls j = some w
  | a :: t, w, h => by
    rcases List.mem_cons.mp h with h | h
    · exact ⟨0, h.symm⟩
    · obtain ⟨j, hj⟩ := mem_lget h
      exact ⟨j + 1, hj⟩
theorem lset_len : ∀ (ls : List (Option zV)) (i : Nat) (v : Option zV), (lset ls i v).length = ls.length
  | [], _, _ => rfl
  | _ :: _, 0, _ => rfl
  | _ :: t, i + 1, v => by simp [lset, lset_len t i v]
theorem lget_lset : ∀ {ls : List (Option zV)} {i j : Nat} {v : Option zV} {w : zV}, lget (lset ls i v) j = some w → (j = i ∧ v = some w) ∨ (j ≠ i ∧ lget ls j = some w)
  | [], i, j, v, w, h => by simp [lset, lget] at h
  | a :: t, 0, 0, v, w, h => Or.inl ⟨rfl, h⟩
  | a :: t, 0, j + 1, v, w, h => Or.inr ⟨by omega, h⟩
  | a :: t, i + 1, 0, v, w, h => Or.inr ⟨by omega, h⟩
  | a :: t, i + 1, j + 1, v, w, h => by
    rcases lget_lset (ls := t) (i := i) (j := j) h with ⟨h1, h2⟩ | ⟨h1, h2⟩
    · exact Or.inl ⟨by omega, h2⟩
    · exact Or.inr ⟨by omega, h2⟩
theorem lput1_len (ls : List (Option zV)) (i : Nat) (v : zV) : (lput1 ls i v).length = ls.length := by
  unfold lput1
  split
  · exact lset_len _ _ _
  · rw [lset_len]
    split
    · exact lset_len _ _ _
    · rfl
theorem lget_lput1 {ls : List (Option zV)} {i j : Nat} {v w : zV} (h : lget (lput1 ls i v) j = some w) : (j = i ∧ w = v) ∨ (j ≠ i ∧ lget ls j = some w ∧ ¬ (j + 1 = i ∧ isLg (some w) = true)) := by
  unfold lput1 at h
  split at h
  · rcases lget_lset h with ⟨h1, h2⟩ | ⟨h1, h2⟩
    · exact Or.inl ⟨h1, (Option.some.inj h2).symm⟩
    · exact Or.inr ⟨h1, h2, by omega⟩
  · rename_i k
    rcases lget_lset h with ⟨h1, h2⟩ | ⟨h1, h2⟩
    · exact Or.inl ⟨h1, (Option.some.inj h2).symm⟩
    · split at h2
      · rcases lget_lset h2 with ⟨h3, h4⟩ | ⟨h3, h4⟩
        · cases h4
        · exact Or.inr ⟨h1, h4, by omega⟩
      · rename_i hn
        refine Or.inr ⟨h1, h2, fun q => hn ?_⟩
        have e : j = k := by omega
        rw [← e, h2]
        exact q.2
theorem lput2_len (ls : List (Option zV)) (i : Nat) (v : zV) : (lput2 ls i v).length = ls.length := by
  unfold lput2
  rw [lset_len, lput1_len]
theorem lget_lput2 {ls : List (Option zV)} {i j : Nat} {v w : zV} (h : lget (lput2 ls i v) j = some w) : (j = i ∧ w = v) ∨ (j ≠ i ∧ j ≠ i + 1 ∧ lget ls j = some w ∧ ¬ (j + 1 = i ∧ isLg (some w) = true)) := by
  unfold lput2 at h
  rcases lget_lset h with ⟨h1, h2⟩ | ⟨h1, h2⟩
  · cases h2
  · rcases lget_lput1 h2 with h3 | ⟨h3, h4, h5⟩
    · exact Or.inl h3
    · exact Or.inr ⟨h3, h1, h4, h5⟩
theorem zTr_cat (ad : Nat → Nat → Nat) (w : zV) : ((zTr ad w).category == 2) = isLg (some w) := by
  rcases w with x | x | x
  · rfl
  · rfl
  · cases x <;> rfl
theorem zTr_cat1 {ad : Nat → Nat → Nat} {w : zV} (h : isLg (some w) = false) : (zTr ad w).category = 1 := by
  rcases w with x | x | x
  · rfl
  · cases h
  · cases x <;> rfl
/-- what an object's field, an array's place holds -/
def fvl (h : zM) (c i k : Nat) : zV := match fty c k with
  | .long => vL (rL h c i k)
  | .object _ => vR (rR h c i k)
  | .array _ => vR (rR h c i k)
  | _ => vI (rI h c i k)
def avl (h : zM) (c i j : Nat) : zV := if akd c < 4 then vI (rI h c i j) else vR (rR h c i j)
def zOk (h : zM) : zV → Prop
  | .inr (.inr (some p)) => p.2 < cnM h p.1
  | _ => True
/-- class numbers and slots, array classes, the first new address, the heap at the law's entry, addresses, the script's address, its contents, its length -/
abbrev zG : Type := va_G × (Nat → ClassId) × Nat × Heap × (Nat → Nat → Nat) × Nat × (Nat → Int32) × Nat
abbrev gD (G : zG) : va_G := G.1
abbrev gA (G : zG) : Nat → ClassId := G.2.1
abbrev gB (G : zG) : Nat := G.2.2.1
abbrev gH (G : zG) : Heap := G.2.2.2.1
abbrev gad (G : zG) : Nat → Nat → Nat := G.2.2.2.2.1
abbrev gsb (G : zG) : Nat := G.2.2.2.2.2.1
abbrev gxs (G : zG) : Nat → Int32 := G.2.2.2.2.2.2.1
abbrev gLn (G : zG) : Nat := G.2.2.2.2.2.2.2
def zOrd (G : zG) (h : zM) : Prop := (∀ c i, i < cnM h c → c ≠ 19 → gad G c i = gB G + aoM h c i ∧ aoM h c i < ncM h) ∧ (∀ c i c' i', i < cnM h c → i' < cnM h c' → c ≠ 19 → c' ≠ 19 → aoM h c i = aoM h c' i' → c = c' ∧ i = i')
def zScr (G : zG) (h : zM) : Prop := cnM h 19 = 1 ∧ gad G 19 0 = gsb G ∧ gsb G < gB G ∧ slM h = gLn G ∧ ∀ j, j < gLn G → rI h 19 0 j = gxs G j
def zHp (G : zG) (h : zM) (H : Heap) : Prop :=
  H.size = gB G + ncM h ∧ (∀ q, q < gB G → H[q]? = (gH G)[q]?) ∧ zOrd G h ∧ zScr G h
  ∧ (∀ c i, i < cnM h c → ∀ r, zcl[c]? = some r → t_OB (gad G c i) ((gD G).1 c) r.2.2 ((gD G).2 c) H (fun k => zTr (gad G) (fvl h c i k)))
  ∧ (∀ c i, i < cnM h c → akd c ≠ 0 → H[gad G c i]? = some (arrV (gA G (akd c)) (aln c) (fun j => zTr (gad G) (avl h c i j))))
  ∧ (∀ c i f, i < cnM h c → zOk h (vR (rR h c i f)))
def ztys (dA : Nat → ClassId) : List (ClassId × FieldType) := [(dA 1, aty 1), (dA 2, aty 2), (dA 3, aty 3), (dA 4, aty 4), (dA 5, aty 5), (dA 6, aty 6), (dA 7, aty 7), (dA 8, aty 8)]
def zKN (G : zG) (s : State) : Prop := va_K (gD G) zcl (ztys (gA G)) s ∧ (∀ C ∈ zAOl, va_AO C s) ∧ (∀ w ∈ zNl, va_Nw w s)
  ∧ ∃ scr : Cell, (gH G)[gsb G]? = some scr ∧ s.isArrayOf scr .int ∧ scr.vm ≠ .unknown ∧ scr.slots.size = gLn G ∧ gLn G < 2 ^ 31 ∧ ∀ j, j < gLn G → scr.slots[j]? = some (.int (gxs G j))
def zCx (G : zG) (p : Program) (s : State) (m : MethodId) (args : Array Value) (meth : Method) (c : Code) (own : String) (cc : ByteArray) (nL : Nat) (ini : Bool) : Prop :=
  p.tables.exec = Jvm.exec ∧ c.code = cc ∧ c.maxLocals = nL ∧ s.vm.findClass own = some m.cls ∧ (∀ w ∈ tb, w.before args s = true) ∧ meth.locks = false ∧ (ini = true → meth.name = "<init>") ∧ zKN G s
def zFr (ad : Nat → Nat → Nat) (nL : Nat) (S : zS) (ls : Array Slot) : Prop := lv_has ls nL (zLs ad 0 S.1) ∧ S.1.length = nL ∧ (∀ v, some v ∈ S.1 → zOk S.2.2.1 v) ∧ (∀ v, v ∈ S.2.1 → zOk S.2.2.1 v)
def zEx (h h' : zM) : Prop := ncM h ≤ ncM h' ∧ nsM h ≤ nsM h' ∧ slM h' = slM h ∧ ∀ c i, i < cnM h c → i < cnM h' c ∧ aoM h' c i = aoM h c i
def zAg (G : zG) (h : zM) : Prop := ∀ c i, i < cnM h c → c ≠ 19 → gad G c i = gB G + aoM h c i
theorem zEx.rf {h : zM} : zEx h h := ⟨Nat.le_refl _, Nat.le_refl _, rfl, fun _ _ hi => ⟨hi, rfl⟩⟩
theorem zEx.tr {h1 h2 h3 : zM} (a : zEx h1 h2) (b : zEx h2 h3) : zEx h1 h3 := ⟨Nat.le_trans a.1 b.1, Nat.le_trans a.2.1 b.2.1, b.2.2.1.trans a.2.2.1, fun c i hi => ⟨(b.2.2.2 c i (a.2.2.2 c i hi).1).1, ((b.2.2.2 c i (a.2.2.2 c i hi).1).2).trans (a.2.2.2 c i hi).2⟩⟩
theorem zAg.of {G : zG} {h h' : zM} (a : zAg G h') (e : zEx h h') : zAg G h := fun c i hi hc => by rw [a c i (e.2.2.2 c i hi).1 hc, (e.2.2.2 c i hi).2]
/-- a step of the machine for a step of the small one -/
def zSt (own : String) (cc : ByteArray) (nL : Nat) (ini : Bool) (pc pc' : Nat) (S S' : zS) : Prop :=
  ∀ (G : zG) (p : Program) (l : Launch) (e : Env) (R : Room) (s : State) (m : MethodId) (args : Array Value) (below : List Frame) (meth : Method) (c : Code) (Q : State → Prop) (H : Heap) (locs : List Loc) (cells slots : Nat) (ls : Array Slot),
    zCx G p s m args meth c own cc nL ini → zHp G S.2.2.1 H → zFr (gad G) nL S ls → (∀ q ∈ locs, gB G ≤ q.base) → zAg G S'.2.2.1 → cells + (ncM S'.2.2.1 - ncM S.2.2.1) ≤ R.cells → slots + (nsM S'.2.2.1 - nsM S.2.2.1) ≤ R.slots →
    (∀ (H' : Heap) (locs' : List Loc) (ls' : Array Slot), zHp G S'.2.2.1 H' → zFr (gad G) nL S' ls' → (∀ q ∈ locs', gB G ≤ q.base) → W p l e R s m args below meth c H' locs' (cells + (ncM S'.2.2.1 - ncM S.2.2.1)) (slots + (nsM S'.2.2.1 - nsM S.2.2.1)) Q (F0 m pc' ls' (S'.2.1.map (zTr (gad G))))) →
    W p l e R s m args below meth c H locs cells slots Q (F0 m pc ls (S.2.1.map (zTr (gad G))))
def zSG (own : String) (cc : ByteArray) (nL : Nat) (ini : Bool) (pc len : Nat) (f : zS → zS) : Prop :=
  ∀ S : zS, (f S).2.2.2 = true → S.2.2.2 = true ∧ zEx S.2.2.1 (f S).2.2.1 ∧ zSt own cc nL ini pc (pc + len) S (f S)
/-- a step that leaves the memory as it is -/
theorem zSt.pure {own : String} {cc : ByteArray} {nL : Nat} {ini : Bool} {pc pc' : Nat} {L L' : List (Option zV)} {st st' : List zV} {h : zM} {g g' : Bool}
    (hw : ∀ (G : zG) (p : Program) (l : Launch) (e : Env) (R : Room) (s : State) (m : MethodId) (args : Array Value) (below : List Frame) (meth : Method) (c : Code) (Q : State → Prop) (H : Heap) (locs : List Loc) (cells slots : Nat) (ls : Array Slot),
      zCx G p s m args meth c own cc nL ini → zHp G h H → zFr (gad G) nL (L, st, h, g) ls → (∀ q ∈ locs, gB G ≤ q.base) →
      (∀ ls' : Array Slot, zFr (gad G) nL (L', st', h, g') ls' → W p l e R s m args below meth c H locs cells slots Q (F0 m pc' ls' (st'.map (zTr (gad G))))) →
      W p l e R s m args below meth c H locs cells slots Q (F0 m pc ls (st.map (zTr (gad G))))) :
    zSt own cc nL ini pc pc' (L, st, h, g) (L', st', h, g') := by
  intro G p l e R s m args below meth c Q H locs cells slots ls hC hH hF hq hA h1 h2 k
  refine hw G p l e R s m args below meth c Q H locs cells slots ls hC hH hF hq fun ls' hF' => ?_
  have := k H locs ls' hH hF' hq
  simpa using this
theorem zFr.stk {ad : Nat → Nat → Nat} {nL : Nat} {L : List (Option zV)} {st st' : List zV} {h : zM} {g g' : Bool} {ls : Array Slot} (hF : zFr ad nL (L, st, h, g) ls) (hs : ∀ v, v ∈ st' → zOk h v) : zFr ad nL (L, st', h, g') ls := ⟨hF.1, hF.2.1, hF.2.2.1, hs⟩
theorem zFr.at {ad : Nat → Nat → Nat} {nL : Nat} {S : zS} {ls : Array Slot} {i : Nat} {v : zV} (hF : zFr ad nL S ls) (hl : lget S.1 i = some v) : ls[i]? = some (.val (zTr ad v)) := hF.1.2.2 (i, zTr ad v) ((zLs_mem _ _).mpr ⟨i, v, hl, by simp⟩)
theorem zFr.put1 {ad : Nat → Nat → Nat} {nL i : Nat} {L : List (Option zV)} {st st' : List zV} {h : zM} {g g' : Bool} {ls ls' : Array Slot} {v : zV} (hF : zFr ad nL (L, st, h, g) ls) (hv : zOk h v) (hs : ∀ v, v ∈ st' → zOk h v)
    (hl : lv_has ls' nL ((i, zTr ad v) :: (zLs ad 0 L).filter (fun q => !(q.1 == i) && !(q.1 + 1 == i && q.2.category == 2)))) : zFr ad nL (lput1 L i v, st', h, g') ls' := by
  refine ⟨⟨hl.1, hl.2.1, fun q hq => ?_⟩, (lput1_len _ _ _).trans hF.2.1, fun w hw => ?_, hs⟩
  · obtain ⟨j, w, h1, rfl⟩ := (zLs_mem _ _).mp hq
    refine hl.2.2 _ ?_
    rcases lget_lput1 h1 with ⟨h2, h3⟩ | ⟨h2, h3, h4⟩
    · subst h2; subst h3
      exact List.mem_cons.mpr (Or.inl (by simp))
    · refine List.mem_cons.mpr (Or.inr (List.mem_filter.mpr ⟨(zLs_mem _ _).mpr ⟨j, w, h3, rfl⟩, ?_⟩))
      simp only [Nat.zero_add, zTr_cat, Bool.and_eq_true, Bool.not_eq_true', beq_eq_false_iff_ne, ne_eq, Bool.and_eq_false_imp, beq_iff_eq]
      exact ⟨h2, fun h5 => by
        cases hh : isLg (some w) with
        | false => rfl
        | true => exact absurd ⟨h5, hh⟩ h4⟩
  · obtain ⟨j, hj⟩ := mem_lget hw
    rcases lget_lput1 hj with ⟨-, h3⟩ | ⟨-, h3, -⟩
    · rw [h3]; exact hv
    · exact hF.2.2.1 w (lget_mem h3)
theorem zFr.put2 {ad : Nat → Nat → Nat} {nL i : Nat} {L : List (Option zV)} {st st' : List zV} {h : zM} {g g' : Bool} {ls ls' : Array Slot} {v : zV} (hF : zFr ad nL (L, st, h, g) ls) (hv : zOk h v) (hs : ∀ v, v ∈ st' → zOk h v)
    (hl : lv_has ls' nL ((i, zTr ad v) :: (zLs ad 0 L).filter (fun q => !(q.1 == i) && (!(q.1 == i + 1) && !(q.1 + 1 == i && q.2.category == 2))))) : zFr ad nL (lput2 L i v, st', h, g') ls' := by
  refine ⟨⟨hl.1, hl.2.1, fun q hq => ?_⟩, (lput2_len _ _ _).trans hF.2.1, fun w hw => ?_, hs⟩
  · obtain ⟨j, w, h1, rfl⟩ := (zLs_mem _ _).mp hq
    refine hl.2.2 _ ?_
    rcases lget_lput2 h1 with ⟨h2, h3⟩ | ⟨h2, h6, h3, h4⟩
    · subst h2; subst h3
      exact List.mem_cons.mpr (Or.inl (by simp))
    · refine List.mem_cons.mpr (Or.inr (List.mem_filter.mpr ⟨(zLs_mem _ _).mpr ⟨j, w, h3, rfl⟩, ?_⟩))
      simp only [Nat.zero_add, zTr_cat, Bool.and_eq_true, Bool.not_eq_true', beq_eq_false_iff_ne, ne_eq, Bool.and_eq_false_imp, beq_iff_eq]
      exact ⟨h2, h6, fun h5 => by
        cases hh : isLg (some w) with
        | false => rfl
        | true => exact absurd ⟨h5, hh⟩ h4⟩
  · obtain ⟨j, hj⟩ := mem_lget hw
    rcases lget_lput2 hj with ⟨-, h3⟩ | ⟨-, -, h3, -⟩
    · rw [h3]; exact hv
    · exact hF.2.2.1 w (lget_mem h3)
theorem lputK_len (ls : List (Option zV)) (i : Nat) (v : zV) : (lputK ls i v).length = ls.length := by
  unfold lputK
  rw [lset_len, lset_len]
theorem lput2K_len (ls : List (Option zV)) (i : Nat) (v : zV) : (lput2K ls i v).length = ls.length := by
  unfold lput2K
  rw [lset_len, lputK_len]
theorem lget_lputK {ls : List (Option zV)} {i j : Nat} {v w : zV} (h1 : 1 ≤ i) (h : lget (lputK ls i v) j = some w) : (j = i ∧ w = v) ∨ (j ≠ i ∧ lget ls j = some w ∧ ¬ (j + 1 = i ∧ isLg (some w) = true)) := by
  unfold lputK at h
  rcases lget_lset h with ⟨h2, h3⟩ | ⟨h2, h3⟩
  · exact Or.inl ⟨h2, (Option.some.inj h3).symm⟩
  · rcases lget_lset h3 with ⟨h4, h5⟩ | ⟨h4, h5⟩
    · cases h5
    · exact Or.inr ⟨h2, h5, by omega⟩
theorem lget_lput2K {ls : List (Option zV)} {i j : Nat} {v w : zV} (h1 : 1 ≤ i) (h : lget (lput2K ls i v) j = some w) : (j = i ∧ w = v) ∨ (j ≠ i ∧ j ≠ i + 1 ∧ lget ls j = some w ∧ ¬ (j + 1 = i ∧ isLg (some w) = true)) := by
  unfold lput2K at h
  rcases lget_lset h with ⟨h2, h3⟩ | ⟨h2, h3⟩
  · cases h3
  · rcases lget_lputK h1 h3 with h3 | ⟨h3, h4, h5⟩
    · exact Or.inl h3
    · exact Or.inr ⟨h3, h2, h4, h5⟩
theorem zFr.putK {ad : Nat → Nat → Nat} {nL i : Nat} (hi1 : 1 ≤ i) {L : List (Option zV)} {st st' : List zV} {h : zM} {g g' : Bool} {ls ls' : Array Slot} {v : zV} (hF : zFr ad nL (L, st, h, g) ls) (hv : zOk h v) (hs : ∀ v, v ∈ st' → zOk h v)
    (hl : lv_has ls' nL ((i, zTr ad v) :: (zLs ad 0 L).filter (fun q => !(q.1 == i) && !(q.1 + 1 == i && q.2.category == 2)))) : zFr ad nL (lputK L i v, st', h, g') ls' := by
  refine ⟨⟨hl.1, hl.2.1, fun q hq => ?_⟩, (lputK_len _ _ _).trans hF.2.1, fun w hw => ?_, hs⟩
  · obtain ⟨j, w, h1, rfl⟩ := (zLs_mem _ _).mp hq
    refine hl.2.2 _ ?_
    rcases lget_lputK hi1 h1 with ⟨h2, h3⟩ | ⟨h2, h3, h4⟩
    · subst h2; subst h3
      exact List.mem_cons.mpr (Or.inl (by simp))
    · refine List.mem_cons.mpr (Or.inr (List.mem_filter.mpr ⟨(zLs_mem _ _).mpr ⟨j, w, h3, rfl⟩, ?_⟩))
      simp only [Nat.zero_add, zTr_cat, Bool.and_eq_true, Bool.not_eq_true', beq_eq_false_iff_ne, ne_eq, Bool.and_eq_false_imp, beq_iff_eq]
      exact ⟨h2, fun h5 => by
        cases hh : isLg (some w) with
        | false => rfl
        | true => exact absurd ⟨h5, hh⟩ h4⟩
  · obtain ⟨j, hj⟩ := mem_lget hw
    rcases lget_lputK hi1 hj with ⟨-, h3⟩ | ⟨-, h3, -⟩
    · rw [h3]; exact hv
    · exact hF.2.2.1 w (lget_mem h3)
theorem zFr.put2K {ad : Nat → Nat → Nat} {nL i : Nat} (hi1 : 1 ≤ i) {L : List (Option zV)} {st st' : List zV} {h : zM} {g g' : Bool} {ls ls' : Array Slot} {v : zV} (hF : zFr ad nL (L, st, h, g) ls) (hv : zOk h v) (hs : ∀ v, v ∈ st' → zOk h v)
    (hl : lv_has ls' nL ((i, zTr ad v) :: (zLs ad 0 L).filter (fun q => !(q.1 == i) && (!(q.1 == i + 1) && !(q.1 + 1 == i && q.2.category == 2))))) : zFr ad nL (lput2K L i v, st', h, g') ls' := by
  refine ⟨⟨hl.1, hl.2.1, fun q hq => ?_⟩, (lput2K_len _ _ _).trans hF.2.1, fun w hw => ?_, hs⟩
  · obtain ⟨j, w, h1, rfl⟩ := (zLs_mem _ _).mp hq
    refine hl.2.2 _ ?_
    rcases lget_lput2K hi1 h1 with ⟨h2, h3⟩ | ⟨h2, h6, h3, h4⟩
    · subst h2; subst h3
      exact List.mem_cons.mpr (Or.inl (by simp))
    · refine List.mem_cons.mpr (Or.inr (List.mem_filter.mpr ⟨(zLs_mem _ _).mpr ⟨j, w, h3, rfl⟩, ?_⟩))
      simp only [Nat.zero_add, zTr_cat, Bool.and_eq_true, Bool.not_eq_true', beq_eq_false_iff_ne, ne_eq, Bool.and_eq_false_imp, beq_iff_eq]
      exact ⟨h2, h6, fun h5 => by
        cases hh : isLg (some w) with
        | false => rfl
        | true => exact absurd ⟨h5, hh⟩ h4⟩
  · obtain ⟨j, hj⟩ := mem_lget hw
    rcases lget_lput2K hi1 hj with ⟨-, h3⟩ | ⟨-, -, h3, -⟩
    · rw [h3]; exact hv
    · exact hF.2.2.1 w (lget_mem h3)
