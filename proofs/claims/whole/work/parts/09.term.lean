/-- as zSt, but a depth of one may be wanted -/
def zStT (own : String) (cc : ByteArray) (nL : Nat) (ini : Bool) (pc pc' : Nat) (fl : Bool) (S S' : zS) : Prop :=
  ∀ (G : zG) (p : Program) (l : Launch) (e : Env) (R : Room) (s : State) (m : MethodId) (args : Array Value) (below : List Frame) (meth : Method) (c : Code) (Q : State → Prop) (H : Heap) (locs : List Loc) (cells slots : Nat) (ls : Array Slot),
    (fl = true → 1 ≤ R.frames ∧ 38 ≤ R.locals) → cells ≤ R.cells → slots ≤ R.slots →
    zCx G p s m args meth c own cc nL ini → zHp G S.2.2.1 H → zFr (gad G) nL S ls → (∀ q ∈ locs, gB G ≤ q.base) →
    (∀ (H' : Heap) (locs' : List Loc) (ls' : Array Slot), zHp G S'.2.2.1 H' → zFr (gad G) nL S' ls' → (∀ q ∈ locs', gB G ≤ q.base) → W p l e R s m args below meth c H' locs' cells slots Q (F0 m pc' ls' (S'.2.1.map (zTr (gad G))))) →
    W p l e R s m args below meth c H locs cells slots Q (F0 m pc ls (S.2.1.map (zTr (gad G))))
def zPc (G : zG) (as : List zV) (h : zM) : Array Value → State → Prop := fun v U => v = (as.map (zTr (gad G))).toArray ∧ zHp G h U.heap ∧ zKN G U
def zQc (G : zG) (v : Option zV) (h : zM) : Array Value → State → Outcome → State → Prop := fun _ _ o t => o = .returned (v.map (zTr (gad G))) ∧ zHp G h t.heap ∧ ∀ x, v = some x → zOk h x
def zws (mi : zMI) : List Cond := Cond.code mi.1 mi.2.1 mi.2.2.1 mi.2.2.2.1 :: tb
def zrm (d mc ms : Nat) : Room := { frames := d, cells := mc, slots := ms, locals := 38 * d }
/-- the method's contract at these arguments, from this memory to that one -/
def zMet (G : zG) (l : Launch) (mi : zMI) (d : Nat) (as : List zV) (h : zM) (v : Option zV) (h' : zM) : Prop :=
  Met l mi.1 (zws mi) (zrm d (ncM h' - ncM h) (nsM h' - nsM h)) (zPc G as h) (zQc G v h') (ncM h' - ncM h) (nsM h' - nsM h) (fun q => gB G ≤ q)
/-- a call's step: over the callee's contract -/
def zStC (own : String) (cc : ByteArray) (nL : Nat) (ini : Bool) (mi : zMI) (pc pc' : Nat) (as : List zV) (S S' : zS) : Prop :=
  ∀ (G : zG) (p : Program) (l : Launch) (e : Env) (R : Room) (s : State) (m : MethodId) (args : Array Value) (below : List Frame) (meth : Method) (c : Code) (Q : State → Prop) (H : Heap) (locs : List Loc) (cells slots : Nat) (ls : Array Slot) (d : Nat) (v : Option zV) (h' : zM),
    d + 1 ≤ R.frames → 38 * (d + 1) ≤ R.locals → cells + (ncM h' - ncM S.2.2.1) ≤ R.cells → slots + (nsM h' - nsM S.2.2.1) ≤ R.slots →
    zCx G p s m args meth c own cc nL ini → zHp G S.2.2.1 H → zFr (gad G) nL S ls → (∀ q ∈ locs, gB G ≤ q.base) → zMet G l mi d as S.2.2.1 v h' →
    (∀ (H' : Heap) (locs' : List Loc), zHp G h' H' → (∀ q ∈ locs', gB G ≤ q.base) → (∀ x, v = some x → zOk h' x) → W p l e R s m args below meth c H' locs' (cells + (ncM h' - ncM S.2.2.1)) (slots + (nsM h' - nsM S.2.2.1)) Q (F0 m pc' ls ((vpush v S'.2.1).map (zTr (gad G))))) →
    W p l e R s m args below meth c H locs cells slots Q (F0 m pc ls (S.2.1.map (zTr (gad G))))
def zRk (kd : Nat) (v : Option zV) : Prop := (kd = 0 ∧ v = none) ∨ (kd = 1 ∧ ∃ x, v = some (vI x)) ∨ (kd = 2 ∧ ∃ x, v = some (vI x) ∧ isB x = true) ∨ (kd = 3 ∧ ∃ x, v = some (vL x)) ∨ (kd = 4 ∧ ∃ x, v = some (vR x))
def rIn (kd : Nat) : Instr := match kd with
  | 0 => .return_
  | 1 => .ireturn
  | 2 => .ireturn
  | 3 => .lreturn
  | _ => .areturn
/-- the end of a stretch is sound -/
def zTG (mt : Nat → zMI) (own : String) (cc : ByteArray) (nL : Nat) (ini : Bool) (kd pc : Nat) (t : zS → zA) : Prop :=
  ∀ S : zS,
    (∀ lab fl S', t S = .inl (lab, fl, S') → S'.2.2.2 = true → S.2.2.2 = true ∧ zSm S.2.2.1 S'.2.2.1 ∧ zStT own cc nL ini pc lab fl S S')
  ∧ (∀ v h g, t S = .inr (.inl (v, h, g)) → g = true → S.2.2.2 = true ∧ h = S.2.2.1 ∧ S.2.1 = v.toList ∧ decode cc pc = .ok (rIn kd, 1) ∧ zRk kd v)
  ∧ (∀ k as lab S', t S = .inr (.inr (k, as, lab, S')) → S'.2.2.2 = true → S.2.2.2 = true ∧ S'.1 = S.1 ∧ S'.2.2.1 = S.2.2.1 ∧ (∀ h, (∀ v, v ∈ S.2.1 → zOk h v) → (∀ v, v ∈ as → zOk h v) ∧ ∀ v, v ∈ S'.2.1 → zOk h v) ∧ zStC own cc nL ini (mt k) pc lab as S S')
theorem zTG.loc {mt : Nat → zMI} {own : String} {cc : ByteArray} {nL : Nat} {ini : Bool} {kd pc : Nat} {t : zS → zA}
    (h : ∀ S : zS, ∃ lab fl S', t S = .inl (lab, fl, S') ∧ (S'.2.2.2 = true → S.2.2.2 = true ∧ zSm S.2.2.1 S'.2.2.1 ∧ zStT own cc nL ini pc lab fl S S')) : zTG mt own cc nL ini kd pc t := by
  intro S
  obtain ⟨lab, fl, S', e, h⟩ := h S
  refine ⟨fun a b c q => ?_, fun a b c q => ?_, fun a b c d q => ?_⟩
  · rw [e] at q
    cases q
    exact h
  · rw [e] at q
    cases q
  · rw [e] at q
    cases q
theorem zSm.rf {h : zM} : zSm h h := ⟨rfl, rfl, rfl, rfl, rfl⟩
theorem zStT.pure {own : String} {cc : ByteArray} {nL : Nat} {ini : Bool} {pc pc' : Nat} {fl : Bool} {L : List (Option zV)} {st st' : List zV} {h : zM} {g g' : Bool} (hs : (∀ v, v ∈ st → zOk h v) → ∀ v, v ∈ st' → zOk h v)
    (hw : ∀ (G : zG) (p : Program) (l : Launch) (e : Env) (R : Room) (s : State) (m : MethodId) (args : Array Value) (below : List Frame) (meth : Method) (c : Code) (Q : State → Prop) (H : Heap) (locs : List Loc) (cells slots : Nat) (ls : Array Slot),
      (fl = true → 1 ≤ R.frames ∧ 38 ≤ R.locals) → cells ≤ R.cells → slots ≤ R.slots → zCx G p s m args meth c own cc nL ini → zHp G h H → zFr (gad G) nL (L, st, h, g) ls →
      W p l e R s m args below meth c H locs cells slots Q (F0 m pc' ls (st'.map (zTr (gad G)))) →
      W p l e R s m args below meth c H locs cells slots Q (F0 m pc ls (st.map (zTr (gad G))))) :
    zStT own cc nL ini pc pc' fl (L, st, h, g) (L, st', h, g') := fun G p l e R s m args below meth c Q H locs cells slots ls hfl h1 h2 hC hH hF hq k =>
  hw G p l e R s m args below meth c Q H locs cells slots ls hfl h1 h2 hC hH hF (k H locs ls hH ⟨hF.1, hF.2.1, hF.2.2.1, hs hF.2.2.2⟩ hq)
section TERM
variable {mt : Nat → zMI} {own : String} {cc : ByteArray} {nL : Nat} {ini : Bool} {kd pc : Nat}
theorem tg_fall {a : Nat} (ha : pc = a) : zTG mt own cc nL ini kd pc (tGo a) := by
  subst ha
  refine zTG.loc fun S => ⟨_, _, _, rfl, fun hg => ⟨hg, zSm.rf, ?_⟩⟩
  intro G p l e R s m args below meth c Q H locs cells slots ls hfl h1 h2 hC hH hF hq k
  exact k H locs ls hH hF hq
theorem tg_goto {a : Nat} {off : Int} (hd : decode cc pc = .ok (.goto off, 3)) (ht : (pc : Int) + off = (a : Int)) : zTG mt own cc nL ini kd pc (tGo a) := by
  refine zTG.loc fun S => ⟨_, _, _, rfl, fun hg => ⟨hg, zSm.rf, ?_⟩⟩
  intro G p l e R s m args below meth c Q H locs cells slots ls hfl h1 h2 hC hH hF hq k
  exact lv_goto hC.1 hC.2.1 hd ht (k H locs ls hH hF hq)
theorem tg_if_eq {a b : Nat} {off : Int} (hd : decode cc pc = .ok (.ifCond .eq off, 3)) (ht : (pc : Int) + off = (a : Int)) (hb : pc + 3 = b) : zTG mt own cc nL ini kd pc (tIf (fun x => decide (x = 0)) a b) := by
  subst hb
  refine zTG.loc fun S => ?_
  obtain ⟨L, st, h, g⟩ := S
  rcases st with _ | ⟨(x | _ | _), st⟩ <;> try (exact ⟨_, _, _, rfl, fun hg => (nomatch (show false = true from hg))⟩; done)
  refine ⟨_, _, _, rfl, fun hg => ⟨hg, zSm.rf, zStT.pure okt fun G p l e R s m args below meth c Q H locs cells slots ls hfl h1 h2 hC hH hF k => ?_⟩⟩
  refine lv_if_eq hC.1 hC.2.1 hd ht (fun hx => ?_) (fun hx => ?_)
  · simpa [hx] using k
  · simpa [hx] using k
theorem tg_icmp_eq {a b : Nat} {off : Int} (hd : decode cc pc = .ok (.if_icmp .eq off, 3)) (ht : (pc : Int) + off = (a : Int)) (hb : pc + 3 = b) : zTG mt own cc nL ini kd pc (tCm (fun x y => decide (x = y)) a b) := by
  subst hb
  refine zTG.loc fun S => ?_
  obtain ⟨L, st, h, g⟩ := S
  rcases st with _ | ⟨(y | _ | _), st⟩ <;> try (exact ⟨_, _, _, rfl, fun hg => (nomatch (show false = true from hg))⟩; done)
  rcases st with _ | ⟨(x | _ | _), st⟩ <;> try (exact ⟨_, _, _, rfl, fun hg => (nomatch (show false = true from hg))⟩; done)
  refine ⟨_, _, _, rfl, fun hg => ⟨hg, zSm.rf, zStT.pure (fun h => okt (okt h)) fun G p l e R s m args below meth c Q H locs cells slots ls hfl h1 h2 hC hH hF k => ?_⟩⟩
  refine lv_icmp_eq hC.1 hC.2.1 hd ht (fun hx => ?_) (fun hx => ?_)
  · simpa [hx] using k
  · simpa [hx] using k
theorem tg_if_ne {a b : Nat} {off : Int} (hd : decode cc pc = .ok (.ifCond .ne off, 3)) (ht : (pc : Int) + off = (a : Int)) (hb : pc + 3 = b) : zTG mt own cc nL ini kd pc (tIf (fun x => decide (¬ x = 0)) a b) := by
  subst hb
  refine zTG.loc fun S => ?_
  obtain ⟨L, st, h, g⟩ := S
  rcases st with _ | ⟨(x | _ | _), st⟩ <;> try (exact ⟨_, _, _, rfl, fun hg => (nomatch (show false = true from hg))⟩; done)
  refine ⟨_, _, _, rfl, fun hg => ⟨hg, zSm.rf, zStT.pure okt fun G p l e R s m args below meth c Q H locs cells slots ls hfl h1 h2 hC hH hF k => ?_⟩⟩
  refine lv_if_ne hC.1 hC.2.1 hd ht (fun hx => ?_) (fun hx => ?_)
  · simpa [hx] using k
  · simpa [hx] using k
theorem tg_icmp_ne {a b : Nat} {off : Int} (hd : decode cc pc = .ok (.if_icmp .ne off, 3)) (ht : (pc : Int) + off = (a : Int)) (hb : pc + 3 = b) : zTG mt own cc nL ini kd pc (tCm (fun x y => decide (¬ x = y)) a b) := by
  subst hb
  refine zTG.loc fun S => ?_
  obtain ⟨L, st, h, g⟩ := S
  rcases st with _ | ⟨(y | _ | _), st⟩ <;> try (exact ⟨_, _, _, rfl, fun hg => (nomatch (show false = true from hg))⟩; done)
  rcases st with _ | ⟨(x | _ | _), st⟩ <;> try (exact ⟨_, _, _, rfl, fun hg => (nomatch (show false = true from hg))⟩; done)
  refine ⟨_, _, _, rfl, fun hg => ⟨hg, zSm.rf, zStT.pure (fun h => okt (okt h)) fun G p l e R s m args below meth c Q H locs cells slots ls hfl h1 h2 hC hH hF k => ?_⟩⟩
  refine lv_icmp_ne hC.1 hC.2.1 hd ht (fun hx => ?_) (fun hx => ?_)
  · simpa [hx] using k
  · simpa [hx] using k
theorem tg_if_lt {a b : Nat} {off : Int} (hd : decode cc pc = .ok (.ifCond .lt off, 3)) (ht : (pc : Int) + off = (a : Int)) (hb : pc + 3 = b) : zTG mt own cc nL ini kd pc (tIf (fun x => decide (x < 0)) a b) := by
  subst hb
  refine zTG.loc fun S => ?_
  obtain ⟨L, st, h, g⟩ := S
  rcases st with _ | ⟨(x | _ | _), st⟩ <;> try (exact ⟨_, _, _, rfl, fun hg => (nomatch (show false = true from hg))⟩; done)
  refine ⟨_, _, _, rfl, fun hg => ⟨hg, zSm.rf, zStT.pure okt fun G p l e R s m args below meth c Q H locs cells slots ls hfl h1 h2 hC hH hF k => ?_⟩⟩
  refine lv_if_lt hC.1 hC.2.1 hd ht (fun hx => ?_) (fun hx => ?_)
  · simpa [hx] using k
  · simpa [hx] using k
theorem tg_icmp_lt {a b : Nat} {off : Int} (hd : decode cc pc = .ok (.if_icmp .lt off, 3)) (ht : (pc : Int) + off = (a : Int)) (hb : pc + 3 = b) : zTG mt own cc nL ini kd pc (tCm (fun x y => decide (x < y)) a b) := by
  subst hb
  refine zTG.loc fun S => ?_
  obtain ⟨L, st, h, g⟩ := S
  rcases st with _ | ⟨(y | _ | _), st⟩ <;> try (exact ⟨_, _, _, rfl, fun hg => (nomatch (show false = true from hg))⟩; done)
  rcases st with _ | ⟨(x | _ | _), st⟩ <;> try (exact ⟨_, _, _, rfl, fun hg => (nomatch (show false = true from hg))⟩; done)
  refine ⟨_, _, _, rfl, fun hg => ⟨hg, zSm.rf, zStT.pure (fun h => okt (okt h)) fun G p l e R s m args below meth c Q H locs cells slots ls hfl h1 h2 hC hH hF k => ?_⟩⟩
  refine lv_icmp_lt hC.1 hC.2.1 hd ht (fun hx => ?_) (fun hx => ?_)
  · simpa [hx] using k
  · simpa [hx] using k
theorem tg_if_ge {a b : Nat} {off : Int} (hd : decode cc pc = .ok (.ifCond .ge off, 3)) (ht : (pc : Int) + off = (a : Int)) (hb : pc + 3 = b) : zTG mt own cc nL ini kd pc (tIf (fun x => decide (0 ≤ x)) a b) := by
  subst hb
  refine zTG.loc fun S => ?_
  obtain ⟨L, st, h, g⟩ := S
  rcases st with _ | ⟨(x | _ | _), st⟩ <;> try (exact ⟨_, _, _, rfl, fun hg => (nomatch (show false = true from hg))⟩; done)
  refine ⟨_, _, _, rfl, fun hg => ⟨hg, zSm.rf, zStT.pure okt fun G p l e R s m args below meth c Q H locs cells slots ls hfl h1 h2 hC hH hF k => ?_⟩⟩
  refine lv_if_ge hC.1 hC.2.1 hd ht (fun hx => ?_) (fun hx => ?_)
  · simpa [hx] using k
  · simpa [hx] using k
theorem tg_icmp_ge {a b : Nat} {off : Int} (hd : decode cc pc = .ok (.if_icmp .ge off, 3)) (ht : (pc : Int) + off = (a : Int)) (hb : pc + 3 = b) : zTG mt own cc nL ini kd pc (tCm (fun x y => decide (y ≤ x)) a b) := by
  subst hb
  refine zTG.loc fun S => ?_
  obtain ⟨L, st, h, g⟩ := S
  rcases st with _ | ⟨(y | _ | _), st⟩ <;> try (exact ⟨_, _, _, rfl, fun hg => (nomatch (show false = true from hg))⟩; done)
  rcases st with _ | ⟨(x | _ | _), st⟩ <;> try (exact ⟨_, _, _, rfl, fun hg => (nomatch (show false = true from hg))⟩; done)
  refine ⟨_, _, _, rfl, fun hg => ⟨hg, zSm.rf, zStT.pure (fun h => okt (okt h)) fun G p l e R s m args below meth c Q H locs cells slots ls hfl h1 h2 hC hH hF k => ?_⟩⟩
  refine lv_icmp_ge hC.1 hC.2.1 hd ht (fun hx => ?_) (fun hx => ?_)
  · simpa [hx] using k
  · simpa [hx] using k
theorem tg_if_gt {a b : Nat} {off : Int} (hd : decode cc pc = .ok (.ifCond .gt off, 3)) (ht : (pc : Int) + off = (a : Int)) (hb : pc + 3 = b) : zTG mt own cc nL ini kd pc (tIf (fun x => decide (0 < x)) a b) := by
  subst hb
  refine zTG.loc fun S => ?_
  obtain ⟨L, st, h, g⟩ := S
  rcases st with _ | ⟨(x | _ | _), st⟩ <;> try (exact ⟨_, _, _, rfl, fun hg => (nomatch (show false = true from hg))⟩; done)
  refine ⟨_, _, _, rfl, fun hg => ⟨hg, zSm.rf, zStT.pure okt fun G p l e R s m args below meth c Q H locs cells slots ls hfl h1 h2 hC hH hF k => ?_⟩⟩
  refine lv_if_gt hC.1 hC.2.1 hd ht (fun hx => ?_) (fun hx => ?_)
  · simpa [hx] using k
  · simpa [hx] using k
theorem tg_icmp_gt {a b : Nat} {off : Int} (hd : decode cc pc = .ok (.if_icmp .gt off, 3)) (ht : (pc : Int) + off = (a : Int)) (hb : pc + 3 = b) : zTG mt own cc nL ini kd pc (tCm (fun x y => decide (y < x)) a b) := by
  subst hb
  refine zTG.loc fun S => ?_
  obtain ⟨L, st, h, g⟩ := S
  rcases st with _ | ⟨(y | _ | _), st⟩ <;> try (exact ⟨_, _, _, rfl, fun hg => (nomatch (show false = true from hg))⟩; done)
  rcases st with _ | ⟨(x | _ | _), st⟩ <;> try (exact ⟨_, _, _, rfl, fun hg => (nomatch (show false = true from hg))⟩; done)
  refine ⟨_, _, _, rfl, fun hg => ⟨hg, zSm.rf, zStT.pure (fun h => okt (okt h)) fun G p l e R s m args below meth c Q H locs cells slots ls hfl h1 h2 hC hH hF k => ?_⟩⟩
  refine lv_icmp_gt hC.1 hC.2.1 hd ht (fun hx => ?_) (fun hx => ?_)
  · simpa [hx] using k
  · simpa [hx] using k
theorem tg_if_le {a b : Nat} {off : Int} (hd : decode cc pc = .ok (.ifCond .le off, 3)) (ht : (pc : Int) + off = (a : Int)) (hb : pc + 3 = b) : zTG mt own cc nL ini kd pc (tIf (fun x => decide (x ≤ 0)) a b) := by
  subst hb
  refine zTG.loc fun S => ?_
  obtain ⟨L, st, h, g⟩ := S
  rcases st with _ | ⟨(x | _ | _), st⟩ <;> try (exact ⟨_, _, _, rfl, fun hg => (nomatch (show false = true from hg))⟩; done)
  refine ⟨_, _, _, rfl, fun hg => ⟨hg, zSm.rf, zStT.pure okt fun G p l e R s m args below meth c Q H locs cells slots ls hfl h1 h2 hC hH hF k => ?_⟩⟩
  refine lv_if_le hC.1 hC.2.1 hd ht (fun hx => ?_) (fun hx => ?_)
  · simpa [hx] using k
  · simpa [hx] using k
theorem tg_icmp_le {a b : Nat} {off : Int} (hd : decode cc pc = .ok (.if_icmp .le off, 3)) (ht : (pc : Int) + off = (a : Int)) (hb : pc + 3 = b) : zTG mt own cc nL ini kd pc (tCm (fun x y => decide (x ≤ y)) a b) := by
  subst hb
  refine zTG.loc fun S => ?_
  obtain ⟨L, st, h, g⟩ := S
  rcases st with _ | ⟨(y | _ | _), st⟩ <;> try (exact ⟨_, _, _, rfl, fun hg => (nomatch (show false = true from hg))⟩; done)
  rcases st with _ | ⟨(x | _ | _), st⟩ <;> try (exact ⟨_, _, _, rfl, fun hg => (nomatch (show false = true from hg))⟩; done)
  refine ⟨_, _, _, rfl, fun hg => ⟨hg, zSm.rf, zStT.pure (fun h => okt (okt h)) fun G p l e R s m args below meth c Q H locs cells slots ls hfl h1 h2 hC hH hF k => ?_⟩⟩
  refine lv_icmp_le hC.1 hC.2.1 hd ht (fun hx => ?_) (fun hx => ?_)
  · simpa [hx] using k
  · simpa [hx] using k
theorem tg_ifnull {a b : Nat} {off : Int} (hd : decode cc pc = .ok (.ifnull off, 3)) (ht : (pc : Int) + off = (a : Int)) (hb : pc + 3 = b) : zTG mt own cc nL ini kd pc (tNu a b) := by
  subst hb
  refine zTG.loc fun S => ?_
  obtain ⟨L, st, h, g⟩ := S
  rcases st with _ | ⟨(_ | _ | r), st⟩ <;> try (exact ⟨_, _, _, rfl, fun hg => (nomatch (show false = true from hg))⟩; done)
  refine ⟨_, _, _, rfl, fun hg => ⟨hg, zSm.rf, zStT.pure okt fun G p l e R s m args below meth c Q H locs cells slots ls hfl h1 h2 hC hH hF k => ?_⟩⟩
  cases r with
  | none => exact lv_ifnullN hC.1 hC.2.1 hd ht k
  | some q => exact lv_ifnull hC.1 hC.2.1 hd k
theorem tg_ifnonnull {a b : Nat} {off : Int} (hd : decode cc pc = .ok (.ifnonnull off, 3)) (ht : (pc : Int) + off = (b : Int)) (ha : pc + 3 = a) : zTG mt own cc nL ini kd pc (tNu a b) := by
  subst ha
  refine zTG.loc fun S => ?_
  obtain ⟨L, st, h, g⟩ := S
  rcases st with _ | ⟨(_ | _ | r), st⟩ <;> try (exact ⟨_, _, _, rfl, fun hg => (nomatch (show false = true from hg))⟩; done)
  refine ⟨_, _, _, rfl, fun hg => ⟨hg, zSm.rf, zStT.pure okt fun G p l e R s m args below meth c Q H locs cells slots ls hfl h1 h2 hC hH hF k => ?_⟩⟩
  cases r with
  | none => exact lv_ifnonnullN hC.1 hC.2.1 hd k
  | some q => exact lv_ifnonnull hC.1 hC.2.1 hd ht k
theorem tg_switch {lo hi dflt : Int} {offs : Array Int} {len a : Nat} {labs : List Nat} (hd : decode cc pc = .ok (.tableswitch dflt lo hi offs, len)) (ht : (pc : Int) + dflt = (a : Int)) (hl : offs.toList.map (fun o => (pc : Int) + o) = labs.map (fun n : Nat => (n : Int))) (hn : (labs.length : Int) = hi - lo + 1) : zTG mt own cc nL ini kd pc (tSw lo hi labs a) := by
  refine zTG.loc fun S => ?_
  obtain ⟨L, st, h, g⟩ := S
  rcases st with _ | ⟨(x | _ | _), st⟩ <;> try (exact ⟨_, _, _, rfl, fun hg => (nomatch (show false = true from hg))⟩; done)
  refine ⟨_, _, _, rfl, fun hg => ⟨hg, zSm.rf, zStT.pure okt fun G p l e R s m args below meth c Q H locs cells slots ls hfl h1 h2 hC hH hF k => ?_⟩⟩
  unfold swL at k
  by_cases hx : x.toInt < lo ∨ hi < x.toInt
  · rw [if_pos hx] at k
    exact lv_tableOut hC.1 hC.2.1 hd hx ht k
  · rw [if_neg hx] at k
    have hlt : (x.toInt - lo).toNat < labs.length := by omega
    have hsz : offs.toList.length = labs.length := by
      have := congrArg List.length hl
      simpa using this
    have e1 : (offs.toList.map (fun o => (pc : Int) + o))[(x.toInt - lo).toNat]? = (labs.map (fun n : Nat => (n : Int)))[(x.toInt - lo).toNat]? := by rw [hl]
    obtain ⟨o, ho⟩ : ∃ o, offs.toList[(x.toInt - lo).toNat]? = some o := ⟨_, List.getElem?_eq_getElem (by rw [hsz]; exact hlt)⟩
    rw [List.getElem?_map, List.getElem?_map, ho, List.getElem?_eq_getElem hlt] at e1
    refine lv_tableIn hC.1 hC.2.1 hd (fun q => hx (Or.inl q)) (fun q => hx (Or.inr q)) (by rw [← Array.getElem?_toList]; exact ho) (Option.some.inj e1) ?_
    rw [List.getD_eq_getElem?_getD, List.getElem?_eq_getElem hlt] at k
    exact k
theorem ctS_cat {ad : Nat → Nat → Nat} : ∀ (st : List zV), ((st.map (zTr ad)).map fun v => v.category).sum = ctS st
  | [] => rfl
  | v :: t => by
    simp only [List.map_cons, List.sum_cons, ctS]
    rw [ctS_cat t]
    congr 1
    rcases v with x | x | x
    · rfl
    · rfl
    · cases x <;> rfl
theorem tg_objinit {a idx : Nat} (hl : Cond.methodLink own idx objectInit ∈ tb) (hi : Cond.instanceMethod objectInit ∈ tb) (hc : Cond.code objectInit ⟨#[0xb1]⟩ 1 none ∈ tb) (hd : decode cc pc = .ok (.invokespecial idx, 3)) (ha : pc + 3 = a) : zTG mt own cc nL ini kd pc (tOi a) := by
  subst ha
  refine zTG.loc fun S => ?_
  obtain ⟨L, st, h, g⟩ := S
  rcases st with _ | ⟨(_ | _ | r), st⟩ <;> try (exact ⟨_, _, _, rfl, fun hg => (nomatch (show false = true from hg))⟩; done)
  refine ⟨_, _, _, rfl, fun hg => ?_⟩
  obtain ⟨hr, hg⟩ := and2 (show (Nat.blt (clR r) 99 && (Nat.ble (ctS st) 8 && g)) = true from hg)
  obtain ⟨h8, hg⟩ := and2 hg
  refine ⟨hg, zSm.rf, zStT.pure okt fun G p l e R s m args below meth c Q H locs cells slots ls hfl h1 h2 hC hH hF k => ?_⟩
  cases r with
  | none => exact absurd hr (by decide)
  | some q =>
  have h8 := Nat.le_of_ble_eq_true h8
  refine W.objInit hC.1 hC.2.1 hC.2.2.2.1 (hC.2.2.2.2.1 _ hl) (hC.2.2.2.2.1 _ hi) (hC.2.2.2.2.1 _ hc) rfl (by rw [hC.2.2.1]; exact hF.1.1) rfl hd (hfl rfl).1 ?_ k
  have h38 := (hfl rfl).2
  have := ctS_cat (ad := gad G) st
  show 2 * 0 + ((st.map (zTr (gad G))).map fun v => v.category).sum + 12 ≤ R.locals
  omega
theorem tg_max {a idx : Nat} (hl : Cond.methodLink own idx Lib.Math.max.name ∈ tb) (hst : Cond.static Lib.Math.max.name ∈ tb) (hi : Cond.initialized "java/lang/Math" ∈ tb) (hc : Cond.code Lib.Math.max.name Lib.Math.max.code 2 (some .int) ∈ tb) (hd : decode cc pc = .ok (.invokestatic idx, 3)) (ha : pc + 3 = a) : zTG mt own cc nL ini kd pc (tM2 (fun x y => if x < y then y else x) a) := by
  subst ha
  refine zTG.loc fun S => ?_
  obtain ⟨L, st, h, g⟩ := S
  rcases st with _ | ⟨(y | _ | _), st⟩ <;> try (exact ⟨_, _, _, rfl, fun hg => (nomatch (show false = true from hg))⟩; done)
  rcases st with _ | ⟨(x | _ | _), st⟩ <;> try (exact ⟨_, _, _, rfl, fun hg => (nomatch (show false = true from hg))⟩; done)
  refine ⟨_, _, _, rfl, fun hg => ?_⟩
  obtain ⟨h8, hg⟩ := and2 (show (Nat.ble (ctS st) 8 && g) = true from hg)
  refine ⟨hg, zSm.rf, zStT.pure (fun h => okc trivial (okt (okt h))) fun G p l e R s m args below meth c Q H locs cells slots ls hfl h1 h2 hC hH hF k => ?_⟩
  have h8 := Nat.le_of_ble_eq_true h8
  have h38 := (hfl rfl).2
  have hct := ctS_cat (ad := gad G) st
  exact va_mmax hC.1 hC.2.1 (by rw [hC.2.2.1]; exact hF.1.1.symm) hC.2.2.2.1 (hC.2.2.2.2.1 _ hl) (hC.2.2.2.2.1 _ hst) (hC.2.2.2.2.1 _ hi) (hC.2.2.2.2.1 _ hc) (hfl rfl).1 (by omega) h1 h2 hd k
theorem tg_min {a idx : Nat} (hl : Cond.methodLink own idx Lib.Math.min.name ∈ tb) (hst : Cond.static Lib.Math.min.name ∈ tb) (hi : Cond.initialized "java/lang/Math" ∈ tb) (hc : Cond.code Lib.Math.min.name Lib.Math.min.code 2 (some .int) ∈ tb) (hd : decode cc pc = .ok (.invokestatic idx, 3)) (ha : pc + 3 = a) : zTG mt own cc nL ini kd pc (tM2 (fun x y => if y < x then y else x) a) := by
  subst ha
  refine zTG.loc fun S => ?_
  obtain ⟨L, st, h, g⟩ := S
  rcases st with _ | ⟨(y | _ | _), st⟩ <;> try (exact ⟨_, _, _, rfl, fun hg => (nomatch (show false = true from hg))⟩; done)
  rcases st with _ | ⟨(x | _ | _), st⟩ <;> try (exact ⟨_, _, _, rfl, fun hg => (nomatch (show false = true from hg))⟩; done)
  refine ⟨_, _, _, rfl, fun hg => ?_⟩
  obtain ⟨h8, hg⟩ := and2 (show (Nat.ble (ctS st) 8 && g) = true from hg)
  refine ⟨hg, zSm.rf, zStT.pure (fun h => okc trivial (okt (okt h))) fun G p l e R s m args below meth c Q H locs cells slots ls hfl h1 h2 hC hH hF k => ?_⟩
  have h8 := Nat.le_of_ble_eq_true h8
  have h38 := (hfl rfl).2
  have hct := ctS_cat (ad := gad G) st
  exact va_mmin hC.1 hC.2.1 (by rw [hC.2.2.1]; exact hF.1.1.symm) hC.2.2.2.1 (hC.2.2.2.2.1 _ hl) (hC.2.2.2.2.1 _ hst) (hC.2.2.2.2.1 _ hi) (hC.2.2.2.2.1 _ hc) (hfl rfl).1 (by omega) h1 h2 hd k
theorem tg_abs {a idx : Nat} (hl : Cond.methodLink own idx Lib.Math.abs.name ∈ tb) (hst : Cond.static Lib.Math.abs.name ∈ tb) (hi : Cond.initialized "java/lang/Math" ∈ tb) (hc : Cond.code Lib.Math.abs.name Lib.Math.abs.code 1 (some .int) ∈ tb) (hd : decode cc pc = .ok (.invokestatic idx, 3)) (ha : pc + 3 = a) : zTG mt own cc nL ini kd pc (tM1 (fun x => if 0 ≤ x then x else 0 - x) a) := by
  subst ha
  refine zTG.loc fun S => ?_
  obtain ⟨L, st, h, g⟩ := S
  rcases st with _ | ⟨(x | _ | _), st⟩ <;> try (exact ⟨_, _, _, rfl, fun hg => (nomatch (show false = true from hg))⟩; done)
  refine ⟨_, _, _, rfl, fun hg => ?_⟩
  obtain ⟨h8, hg⟩ := and2 (show (Nat.ble (ctS st) 8 && g) = true from hg)
  refine ⟨hg, zSm.rf, zStT.pure (fun h => okc trivial (okt h)) fun G p l e R s m args below meth c Q H locs cells slots ls hfl h1 h2 hC hH hF k => ?_⟩
  have h8 := Nat.le_of_ble_eq_true h8
  have h38 := (hfl rfl).2
  have hct := ctS_cat (ad := gad G) st
  exact va_mabs hC.1 hC.2.1 (by rw [hC.2.2.1]; exact hF.1.1.symm) hC.2.2.2.1 (hC.2.2.2.2.1 _ hl) (hC.2.2.2.2.1 _ hst) (hC.2.2.2.2.1 _ hi) (hC.2.2.2.2.1 _ hc) (hfl rfl).1 (by omega) h1 h2 hd k
theorem tg_absl {a idx : Nat} (hl : Cond.methodLink own idx Lib.MathLoose.abs_long.x ∈ tb) (hst : Cond.static Lib.MathLoose.abs_long.x ∈ tb) (hi : Cond.initialized "java/lang/Math" ∈ tb) (hc : Cond.code Lib.MathLoose.abs_long.x Lib.MathLoose.abs_long.code 2 (some .long) ∈ tb) (hd : decode cc pc = .ok (.invokestatic idx, 3)) (ha : pc + 3 = a) : zTG mt own cc nL ini kd pc (tML (fun x => if 0 < x then x else -x) a) := by
  subst ha
  refine zTG.loc fun S => ?_
  obtain ⟨L, st, h, g⟩ := S
  rcases st with _ | ⟨(_ | x | _), st⟩ <;> try (exact ⟨_, _, _, rfl, fun hg => (nomatch (show false = true from hg))⟩; done)
  refine ⟨_, _, _, rfl, fun hg => ?_⟩
  obtain ⟨h8, hg⟩ := and2 (show (Nat.ble (ctS st) 8 && g) = true from hg)
  refine ⟨hg, zSm.rf, zStT.pure (fun h => okc trivial (okt h)) fun G p l e R s m args below meth c Q H locs cells slots ls hfl h1 h2 hC hH hF k => ?_⟩
  have h8 := Nat.le_of_ble_eq_true h8
  have h38 := (hfl rfl).2
  have hct := ctS_cat (ad := gad G) st
  exact va_mabs_long hC.1 hC.2.1 (by rw [hC.2.2.1]; exact hF.1.1.symm) hC.2.2.2.1 (hC.2.2.2.2.1 _ hl) (hC.2.2.2.2.1 _ hst) (hC.2.2.2.2.1 _ hi) (hC.2.2.2.2.1 _ hc) (hfl rfl).1 (by omega) h1 h2 hd k
end TERM
