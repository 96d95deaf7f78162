theorem zKN.warm {G : zG} {s U : State} (hW : s.WarmedH U.vm) (h : zKN G s) : zKN G U := by
  obtain ⟨h1, h2, h3, scr, h4, h5, h6⟩ := h
  refine ⟨va_K.moved hW.alike h1, fun C hC => (h2 C hC).moved hW.alike, fun w hw => ?_, scr, h4, State.isArrayOf_alike hW.alike h5, h6⟩
  have h9 := h3 w hw
  have hk : (∃ a i x b, w = .methodLinkNest a i x b) ∨ ∃ x, w = .declares x := zNl_k w hw
  rcases hk with ⟨a, i, x, b, rfl⟩ | ⟨x, rfl⟩
  · exact va_Nw.warmM hW h9
  · exact va_Nw.warmD hW h9
theorem zKN.blind {G : zG} {U : State} (g : JFrame) (mk : MethodId) (a : Array Value) (h : zKN G U) : zKN G (U.calling g mk a) := by
  obtain ⟨h1, h2, h3, scr, h4, h5, h6⟩ := h
  refine ⟨va_K.moved (u := U) (U := U.calling g mk a) (Vm.Alike.refl U.vm) h1, fun C hC => va_AO.moved (u := U) (U := U.calling g mk a) (Vm.Alike.refl U.vm) (h2 C hC), fun w hw => ?_, scr, h4, State.isArrayOf_alike (Vm.Alike.refl U.vm) h5, h6⟩
  have hk : (∃ a i x b, w = .methodLinkNest a i x b) ∨ ∃ x, w = .declares x := zNl_k w hw
  rcases hk with ⟨a, i, x, b, rfl⟩ | ⟨x, rfl⟩
  · exact va_Nw.same rfl (u := U) rfl (h3 _ hw)
  · exact va_Nw.same rfl (u := U) rfl (h3 _ hw)
theorem zPc.blind {G : zG} {as : List zV} {h : zM} : FrameBlind (zPc G as h) := fun a U g mk q => ⟨q.1, q.2.1, q.2.2.blind g mk a⟩
section GO
variable {own : String} {cc : ByteArray} {nL : Nat} {ini : Bool} {pc : Nat} {G : zG} {p : Program} {l : Launch} {e : Env} {R : Room} {s : State} {m : MethodId} {args : Array Value} {below : List Frame} {meth : Method} {c : Code} {Q : State → Prop} {H : Heap} {locs : List Loc} {cells slots mc ms : Nat} {ls : Array Slot} {rest : List Value}
theorem zgo {as : Array Value} {v : Option zV} {h' : zM} {st0 : List Value} (hr : va_Run p l e R s m args below meth c H locs cells slots mc ms (F0 m pc ls st0) rest (zQc G v h' as) (fun q => gB G ≤ q)) (hq : ∀ q ∈ locs, gB G ≤ q.base)
    (kk : ∀ (H' : Heap) (locs' : List Loc), zHp G h' H' → (∀ q ∈ locs', gB G ≤ q.base) → (∀ x, v = some x → zOk h' x) → W p l e R s m args below meth c H' locs' (cells + mc) (slots + ms) Q (F0 m (pc + 3) ls ((v.map (zTr (gad G))).toList ++ rest))) : W p l e R s m args below meth c H locs cells slots Q (F0 m pc ls st0) := by
  intro T hT X
  obtain ⟨v', st₀, t, T', L, h0, X', hL, e1, e2, hQ, st⟩ := hr T hT X
  obtain ⟨q1, q2, q3⟩ := hQ
  cases q1
  obtain ⟨t2, a1, b1⟩ := kk T'.heap (locs ++ L) (by rw [e1]; exact q2) (fun q hq' => by
    rcases List.mem_append.mp hq' with h | h
    · exact hq q h
    · exact hL q h) q3 T' rfl X'
  exact ⟨t2, st t2 a1, b1⟩
end GO
theorem vpush_map {ad : Nat → Nat → Nat} (v : Option zV) (st : List zV) : (vpush v st).map (zTr ad) = (v.map (zTr ad)).toList ++ st.map (zTr ad) := by cases v <;> rfl
theorem stk_spec : ∀ (n : Nat) (st acc as st' : List zV), stk n st acc = some (as, st') → ∃ xs, xs.length = n ∧ st = xs ++ st' ∧ as = xs.reverse ++ acc
  | 0, st, acc, as, st', h => by
    cases h
    exact ⟨[], rfl, rfl, rfl⟩
  | n + 1, [], acc, as, st', h => by cases h
  | n + 1, a :: st, acc, as, st', h => by
    obtain ⟨xs, h1, h2, h3⟩ := stk_spec n st (a :: acc) as st' h
    exact ⟨a :: xs, by simp [h1], by simp [h2], by simp [h3]⟩
/-- what the tables know of a method that is called -/
def zMk (mi : zMI) : Prop := Cond.code mi.1 mi.2.1 mi.2.2.1 mi.2.2.2.1 ∈ tb ∧ plainName mi.1.cls = true ∧ mi.2.2.1 ≤ 19 ∧ Cond.initialized mi.1.cls ∈ tb ∧ (mi.1.cls ≠ "java/lang/invoke/MethodHandle" ∧ mi.1.cls ≠ "java/lang/invoke/VarHandle")
abbrev zPn (y : MethodName) (n : Nat) : Prop := (parseMethodDescriptor y.desc).map (fun d => d.parameters.length) = some n
theorem zPn.sp {y : MethodName} {n : Nat} (h : zPn y n) : ∀ sig, parseMethodDescriptor y.desc = some sig → n = sig.parameters.length := by
  intro sig h1
  unfold zPn at h
  rw [h1] at h
  exact (Option.some.inj h).symm
section CALLS
variable {mt : Nat → zMI} {own : String} {cc : ByteArray} {nL : Nat} {ini : Bool} {kd pc : Nat}
theorem zTG.call {t : zS → zA} (h : ∀ S : zS, (∃ S', t S = .inl (0, false, S') ∧ S'.2.2.2 = false) ∨ ∃ k as lab S', t S = .inr (.inr (k, as, lab, S')) ∧ (S'.2.2.2 = true → S.2.2.2 = true ∧ S'.1 = S.1 ∧ S'.2.2.1 = S.2.2.1 ∧ (∀ h, (∀ v, v ∈ S.2.1 → zOk h v) → (∀ v, v ∈ as → zOk h v) ∧ ∀ v, v ∈ S'.2.1 → zOk h v) ∧ zStC own cc nL ini (mt k) pc lab as S S')) : zTG mt own cc nL ini kd pc t := by
  intro S
  rcases h S with ⟨S', e, hf⟩ | ⟨k, as, lab, S', e, h⟩
  · refine ⟨fun a b c q hg => ?_, fun a b c q => ?_, fun a b c d q => ?_⟩
    · rw [e] at q
      cases q
      rw [hf] at hg
      cases hg
    · rw [e] at q
      cases q
    · rw [e] at q
      cases q
  · refine ⟨fun a b c q => ?_, fun a b c q => ?_, fun a b c d q => ?_⟩
    · rw [e] at q
      cases q
    · rw [e] at q
      cases q
    · rw [e] at q
      cases q
      exact h
theorem zroom {mi : zMI} {R : Room} {d mc ms : Nat} (hm : mi.2.2.1 ≤ 19) (h1 : d + 1 ≤ R.frames) (h2 : 38 * (d + 1) ≤ R.locals) : (zrm d mc ms).frames + 1 ≤ R.frames ∧ 8 + (mi.2.2.1 + 11) + (zrm d mc ms).locals ≤ R.locals := ⟨h1, by show 8 + (mi.2.2.1 + 11) + 38 * d ≤ R.locals; omega⟩
theorem zwsG {mi : zMI} (h : zMk mi) : GoodIn tb (zws mi) := tb_in (fun w hw => (List.mem_cons.mp hw).elim (fun e => by rw [e]; exact h.1) id)
/-- a static method -/
theorem tg_static {n k a idx : Nat} {mi : zMI} (hmi : mt k = mi) (hk : zMk mi) (hn : zPn mi.1 n) (hst : Cond.static mi.1 ∈ tb) (hl : Cond.methodLink own idx mi.1 ∈ tb) (hd : decode cc pc = .ok (.invokestatic idx, 3)) (ha : pc + 3 = a) : zTG mt own cc nL ini kd pc (tCs n k a) := by
  subst ha
  refine zTG.call fun S => ?_
  obtain ⟨L, st, h, g⟩ := S
  unfold tCs
  dsimp only
  cases hs : stk n st [] with
  | none => exact Or.inl ⟨_, rfl, rfl⟩
  | some q =>
  obtain ⟨as, st'⟩ := q
  refine Or.inr ⟨_, _, _, _, rfl, fun hg => ?_⟩
  obtain ⟨h8, hg⟩ := and2 (show (Nat.ble (ctS st') 8 && g) = true from hg)
  have h8 := Nat.le_of_ble_eq_true h8
  obtain ⟨xs, x1, x2, x3⟩ := stk_spec _ _ _ _ _ hs
  rw [List.append_nil] at x3
  refine ⟨hg, rfl, rfl, fun h hok => ⟨fun v hv => hok v ?_, fun v hv => hok v ?_⟩, ?_⟩
  · rw [x2]
    exact List.mem_append_left _ (by rw [x3] at hv; exact List.mem_reverse.mp hv)
  · rw [x2]
    exact List.mem_append_right _ hv
  rw [hmi]
  intro G p l e R s m args below meth c Q H locs cells slots ls d v h' f1 f2 f3 f4 hC hH hF hq hM kk
  have hct := ctS_cat (ad := gad G) st'
  obtain ⟨hx, hb, hml, hown, hts, hlk, hin, hK⟩ := id hC
  refine zgo (va_runS (As := as.map (zTr (gad G))) (rest := st'.map (zTr (gad G))) (n := n) ⟨hx, hb, hml, hown, hts⟩ hM (va_cwS n hts (tb_in ?_) rfl rfl rfl ⟨hk.2.2.2.2.1, hk.2.2.2.2.2, hn⟩ (zroom hk.2.2.1 f1 f2)) ⟨zPc.blind, fun U hU hW => ⟨rfl, by rw [hU]; exact hH, hK.warm hW⟩⟩ rfl (by rw [List.length_map, x3, List.length_reverse, x1]) hF.1.1 ?_ (lv_room (by omega)) hd ⟨f3, f4⟩) hq (fun H' locs' hH' hq' hv' => ?_)
  · intro w hw
    rcases List.mem_append.mp hw with hw | hw
    · simp only [List.mem_cons, List.not_mem_nil, or_false] at hw
      rcases hw with rfl | rfl | rfl
      · exact hl
      · exact hst
      · exact hk.2.2.2.1
    · exact (zwsG hk w hw).1
  · show st.map (zTr (gad G)) = _
    rw [x2, x3, List.map_append, List.map_reverse, List.reverse_reverse]
  · rw [← vpush_map]
    exact kk H' locs' hH' hq' hv'
end CALLS
