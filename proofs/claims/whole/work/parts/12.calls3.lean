section CALLV
variable {mt : Nat → zMI} {own : String} {cc : ByteArray} {nL : Nat} {ini : Bool} {kd pc : Nat}
theorem zTG.cv {n a : Nat} {cs : List Nat} {sel : Nat → Nat} (hcs : ∀ c, memN cs c = true → c < 12)
    (h : ∀ (L : List (Option zV)) (xs : List zV) (q : Nat × Nat) (st : List zV) (h : zM) (g g' : Bool), xs.length = n → memN cs q.1 = true → ctS st ≤ 8 → zStC own cc nL ini (mt (sel q.1)) pc a (vR (some q) :: xs.reverse) (L, xs ++ vR (some q) :: st, h, g) (L, st, h, g')) : zTG mt own cc nL ini kd pc (tCv n cs sel a) := by
  refine zTG.call fun S => ?_
  obtain ⟨L, st, hh, g⟩ := S
  unfold tCv
  dsimp only
  cases hs : stk n st [] with
  | none => exact Or.inl ⟨_, rfl, rfl⟩
  | some q =>
  obtain ⟨as, st'⟩ := q
  obtain ⟨xs, x1, x2, x3⟩ := stk_spec _ _ _ _ _ hs
  rw [List.append_nil] at x3
  rcases st' with _ | ⟨(_ | _ | r), st'⟩ <;> try (exact Or.inl ⟨_, rfl, rfl⟩; done)
  refine Or.inr ⟨_, _, _, _, rfl, fun hg => ?_⟩
  obtain ⟨hm, hg⟩ := and2 (show (memN cs (clR r) && (Nat.ble (ctS st') 8 && g)) = true from hg)
  obtain ⟨h8, hg⟩ := and2 hg
  have h8 := Nat.le_of_ble_eq_true h8
  refine ⟨hg, rfl, rfl, fun h hok => ⟨fun v hv => hok v ?_, fun v hv => hok v ?_⟩, ?_⟩
  · rw [x2]
    rcases List.mem_cons.mp hv with rfl | hv
    · exact List.mem_append_right _ List.mem_cons_self
    · exact List.mem_append_left _ (by rw [x3] at hv; exact List.mem_reverse.mp hv)
  · rw [x2]
    exact List.mem_append_right _ (List.mem_cons_of_mem _ hv)
  · cases r with
    | none => exact absurd (hcs _ hm) (by decide)
    | some q =>
      have := h L xs q st' hh g (memN cs (clR (some q)) && (Nat.ble (ctS st') 8 && g)) x1 hm h8
      rw [x2, x3]
      exact this
theorem zrecv {G : zG} {s : State} {h : zM} {H : Heap} (hH : zHp G h H) (hK : zKN G s) {c i : Nat} {r : vw_C} (hr : zcl[c]? = some r) (hi : i < cnM h c) : ∃ cellB : Cell, H[gad G c i]? = some cellB ∧ cellB.vm.isStatics = false ∧ s.vm.findClass r.1 = some cellB.cls := by
  obtain ⟨cell, q1, q2, q3, -⟩ := hH.2.2.2.2.1 c i hi r hr
  exact ⟨cell, q1, by rw [q3]; rfl, by rw [q2]; exact (hK.1.1 c r hr).2.1⟩
theorem in_wsV {idx : Nat} {C : String} {y : MethodName} {ws : List Cond} (h1 : Cond.methodLink own idx y ∈ tb) (h2 : Cond.instanceMethod y ∈ tb) (h3 : Cond.selects C y y ∈ tb) (h4 : Cond.initialized C ∈ tb) (h5 : ∀ w ∈ ws, w ∈ tb) : ∀ w ∈ wsV own idx C y ws, w ∈ tb := by
  intro w hw
  rcases List.mem_append.mp hw with hw | hw
  · simp only [List.mem_cons, List.not_mem_nil, or_false] at hw
    rcases hw with rfl | rfl | rfl | rfl
    · exact h1
    · exact h2
    · exact h3
    · exact h4
  · exact h5 w hw
theorem zmem {h : zM} {xs st : List zV} {q : Nat × Nat} (hok : ∀ v, v ∈ xs ++ vR (some q) :: st → zOk h v) : q.2 < cnM h q.1 := hok (vR (some q)) (List.mem_append_right _ List.mem_cons_self)
/-- an object's own method -/
theorem tg_virt {n k a idx c0 : Nat} {mi : zMI} {r : vw_C} (hmi : mt k = mi) (hk : zMk mi) (hr : zcl[c0]? = some r) (hy : mi.1.cls = r.1) (hn : zPn mi.1 n) (hin : Cond.instanceMethod mi.1 ∈ tb) (hse : Cond.selects mi.1.cls mi.1 mi.1 ∈ tb) (hl : Cond.methodLink own idx mi.1 ∈ tb) (hd : decode cc pc = .ok (.invokevirtual idx, 3)) (ha : pc + 3 = a) : zTG mt own cc nL ini kd pc (tCv n [c0] (fun _ => k) a) := by
  subst ha
  refine zTG.cv (fun c hc => by rw [memN1 hc]; exact zcl_lt hr) fun L xs q st h g g' x1 hm h8 => ?_
  have hq0 := memN1 hm
  rw [hmi]
  intro G p l e R s m args below meth c Q H locs cells slots ls d v h' f1 f2 f3 f4 hC hH hF hq hM kk
  have hct := ctS_cat (ad := gad G) st
  obtain ⟨hx, hb, hml, hown, hts, hlk, hin', hK⟩ := id hC
  have hi := zmem hF.2.2.2
  rw [hq0] at hi
  refine zgo (va_runV (C := mi.1.cls) (b := gad G q.1 q.2) (As := xs.reverse.map (zTr (gad G))) (rest := st.map (zTr (gad G))) (n := n) ⟨hx, hb, hml, hown, hts⟩ hM (cwV n hts (tb_in (in_wsV hl hin hse hk.2.2.2.1 (fun w hw => (zwsG hk w hw).1))) rfl rfl rfl ⟨rfl, hk.2.2.2.2.1, hk.2.2.2.2.2, hn⟩ (zroom hk.2.2.1 f1 f2)) ⟨zPc.blind, by rw [hy, hq0]; exact zrecv hH hK hr hi, fun U hU hW => ⟨rfl, by rw [hU]; exact hH, hK.warm hW⟩⟩ rfl (by rw [List.length_map, List.length_reverse, x1]) hF.1.1 ?_ (lv_room (by omega)) hd ⟨f3, f4⟩) hq (fun H' locs' hH' hq' hv' => ?_)
  · show (xs ++ vR (some q) :: st).map (zTr (gad G)) = _
    rw [List.map_append, List.map_reverse, List.reverse_reverse]
    rfl
  · rw [← vpush_map]
    exact kk H' locs' hH' hq' hv'
/-- a constructor -/
theorem tg_ctor {n k a idx c0 : Nat} {mi : zMI} (hmi : mt k = mi) (hk : zMk mi) (hc0 : c0 < 12) (hret : mi.2.2.2.1 = none) (hn : zPn mi.1 n) (hy1 : mi.1.name = "<init>") (hin : Cond.instanceMethod mi.1 ∈ tb) (hl : Cond.methodLink own idx mi.1 ∈ tb) (hd : decode cc pc = .ok (.invokespecial idx, 3)) (ha : pc + 3 = a) : zTG mt own cc nL ini kd pc (tCv n [c0] (fun _ => k) a) := by
  subst ha
  refine zTG.cv (fun c hc => by rw [memN1 hc]; exact hc0) fun L xs q st h g g' x1 hm h8 => ?_
  rw [hmi]
  intro G p l e R s m args below meth c Q H locs cells slots ls d v h' f1 f2 f3 f4 hC hH hF hq hM kk
  have hct := ctS_cat (ad := gad G) st
  obtain ⟨hx, hb, hml, hown, hts, hlk, hin', hK⟩ := id hC
  refine zgo (va_runI (b := gad G q.1 q.2) (As := xs.reverse.map (zTr (gad G))) (rest := st.map (zTr (gad G))) (n := n) (bytes := mi.2.1) (maxL := mi.2.2.1) ⟨hx, hb, hml, hown, hts⟩ hM (cwI (ws' := tb) n hts (zwsG hk) (by rw [← hret]; rfl) rfl rfl (hts _ hk.2.2.2.1) (hts _ hl) (hts _ hin) hy1 ⟨hk.2.2.2.2.1, hk.2.2.2.2.2, hn⟩ (zroom hk.2.2.1 f1 f2)) ⟨zPc.blind, fun U hU hW => ⟨rfl, by rw [hU]; exact hH, hK.warm hW⟩⟩ rfl (by rw [List.length_map, List.length_reverse, x1]) hF.1.1 ?_ (lv_room (by omega)) hd ⟨f3, f4⟩) hq (fun H' locs' hH' hq' hv' => ?_)
  · show (xs ++ vR (some q) :: st).map (zTr (gad G)) = _
    rw [List.map_append, List.map_reverse, List.reverse_reverse]
    rfl
  · rw [← vpush_map]
    exact kk H' locs' hH' hq' hv'
/-- a nest mate's private constructor; the object's class may be a subclass -/
theorem tg_ctorN {n k a idx : Nat} {cs : List Nat} {mi : zMI} {host : String} (hmi : mt k = mi) (hk : zMk mi) (hc0 : ∀ c, memN cs c = true → c < 12) (hret : mi.2.2.2.1 = none) (hn : zPn mi.1 n) (hy1 : mi.1.name = "<init>") (hin : Cond.instanceMethod mi.1 ∈ tb) (hl : Cond.methodLinkNest own idx mi.1 host ∈ zNl) (hd : decode cc pc = .ok (.invokespecial idx, 3)) (ha : pc + 3 = a) : zTG mt own cc nL ini kd pc (tCv n cs (fun _ => k) a) := by
  subst ha
  refine zTG.cv hc0 fun L xs q st h g g' x1 hm h8 => ?_
  rw [hmi]
  intro G p l e R s m args below meth c Q H locs cells slots ls d v h' f1 f2 f3 f4 hC hH hF hq hM kk
  have hct := ctS_cat (ad := gad G) st
  obtain ⟨hx, hb, hml, hown, hts, hlk, hin', hK⟩ := id hC
  refine zgo (va_runIN (host := host) (b := gad G q.1 q.2) (As := xs.reverse.map (zTr (gad G))) (rest := st.map (zTr (gad G))) (n := n) (bytes := mi.2.1) (maxL := mi.2.2.1) ⟨hx, hb, hml, hown, hts⟩ hM ⟨va_cnB (ws' := tb) n hts (zwsG hk) (by rw [← hret]; rfl) rfl rfl (hK.2.2.1 _ hl) (hts _ hk.2.2.2.1) ⟨hk.2.2.2.2.1, hk.2.2.2.2.2, hn⟩ (zroom hk.2.2.1 f1 f2), hy1, hts _ hin⟩ ⟨zPc.blind, fun U hU hW => ⟨rfl, by rw [hU]; exact hH, hK.warm hW⟩⟩ rfl (by rw [List.length_map, List.length_reverse, x1]) hF.1.1 ?_ (lv_room (by omega)) hd ⟨f3, f4⟩) hq (fun H' locs' hH' hq' hv' => ?_)
  · show (xs ++ vR (some q) :: st).map (zTr (gad G)) = _
    rw [List.map_append, List.map_reverse, List.reverse_reverse]
    rfl
  · rw [← vpush_map]
    exact kk H' locs' hH' hq' hv'
/-- a method that its class inherits, or overrides -/
theorem tg_virtU {n a idx : Nat} {cs : List Nat} {sel : Nat → Nat} {x : MethodName} {owner : String} (hn : zPn x n) (hl : Cond.methodLink own idx x ∈ tb) (hsa : Cond.sameMethod x.cls owner x.name x.desc ∈ tb) (how : owner ≠ "java/lang/invoke/MethodHandle" ∧ owner ≠ "java/lang/invoke/VarHandle")
    (hdec : (∃ b m0 r0, Cond.code ⟨owner, x.name, x.desc⟩ b m0 r0 ∈ tb ∧ Cond.instanceMethod ⟨owner, x.name, x.desc⟩ ∈ tb) ∨ Cond.declares ⟨owner, x.name, x.desc⟩ ∈ zNl)
    (hall : ∀ c, memN cs c = true → ∃ (mi : zMI) (r : vw_C), mt (sel c) = mi ∧ zcl[c]? = some r ∧ zMk mi ∧ Cond.selects r.1 x mi.1 ∈ tb ∧ Cond.instanceMethod mi.1 ∈ tb) (hd : decode cc pc = .ok (.invokevirtual idx, 3)) (ha : pc + 3 = a) : zTG mt own cc nL ini kd pc (tCv n cs sel a) := by
  subst ha
  refine zTG.cv (fun c hc => by obtain ⟨_, r, -, hr, -⟩ := hall c hc; exact zcl_lt hr) fun L xs q st h g g' x1 hm h8 => ?_
  obtain ⟨mi, r, hmi, hr, hk, hse, hin⟩ := hall _ hm
  rw [hmi]
  intro G p l e R s m args below meth c Q H locs cells slots ls d v h' f1 f2 f3 f4 hC hH hF hq hM kk
  have hct := ctS_cat (ad := gad G) st
  obtain ⟨hx, hb, hml, hown, hts, hlk, hin', hK⟩ := id hC
  have hi := zmem hF.2.2.2
  have hD : va_Decl s ⟨owner, x.name, x.desc⟩ := by
    rcases hdec with ⟨b, m0, r0, d1, d2⟩ | hd1
    · exact va_Decl.of (hts _ d2) (hts _ d1)
    · exact va_Decl.abs (hK.2.2.1 _ hd1)
  have hR := zroom (mc := ncM h' - ncM h) (ms := nsM h' - nsM h) hk.2.2.1 f1 f2
  refine zgo (va_runU (x := x) (owner := owner) (C := r.1) (b := gad G q.1 q.2) (As := xs.reverse.map (zTr (gad G))) (rest := st.map (zTr (gad G))) (n := n) (bytes := mi.2.1) (maxL := mi.2.2.1) (ret := mi.2.2.2.1) ⟨hx, hb, hml, hown, hts⟩ hM ⟨⟨rfl, rfl, hR.1, hR.2, pay_in hts (zwsG hk), List.mem_cons_self⟩, hts _ hk.1, hts _ hk.2.2.2.1, how, hn.sp, hts _ hl, hts _ hsa, hD, hts _ hse, hts _ hin⟩ ⟨zPc.blind, zrecv hH hK hr hi, fun U hU hW => ⟨rfl, by rw [hU]; exact hH, hK.warm hW⟩⟩ rfl (by rw [List.length_map, List.length_reverse, x1]) hF.1.1 ?_ (lv_room (by omega)) hd ⟨f3, f4⟩) hq (fun H' locs' hH' hq' hv' => ?_)
  · show (xs ++ vR (some q) :: st).map (zTr (gad G)) = _
    rw [List.map_append, List.map_reverse, List.reverse_reverse]
    rfl
  · rw [← vpush_map]
    exact kk H' locs' hH' hq' hv'
/-- a nest mate's private static method -/
theorem tg_staticN {n k a idx : Nat} {mi : zMI} {host : String} (hmi : mt k = mi) (hk : zMk mi) (hn : zPn mi.1 n) (hst : Cond.static mi.1 ∈ tb) (hl : Cond.methodLinkNest own idx mi.1 host ∈ zNl) (hd : decode cc pc = .ok (.invokestatic idx, 3)) (ha : pc + 3 = a) : zTG mt own cc nL ini kd pc (tCs n k a) := by
  subst ha
  refine zTG.call fun S => ?_
  obtain ⟨L, st, h, g⟩ := S
  unfold tCs
  dsimp only
  cases hs : stk n st [] with
  | none => exact Or.inl ⟨_, rfl, rfl⟩
  | some q =>
  obtain ⟨as, st'⟩ := q
  refine Or.inr ⟨_, _, _, _, rfl, fun hg => ?_⟩
  obtain ⟨h8, hg⟩ := and2 (show (Nat.ble (ctS st') 8 && g) = true from hg)
  have h8 := Nat.le_of_ble_eq_true h8
  obtain ⟨xs, x1, x2, x3⟩ := stk_spec _ _ _ _ _ hs
  rw [List.append_nil] at x3
  refine ⟨hg, rfl, rfl, fun h hok => ⟨fun v hv => hok v ?_, fun v hv => hok v ?_⟩, ?_⟩
  · rw [x2]
    exact List.mem_append_left _ (by rw [x3] at hv; exact List.mem_reverse.mp hv)
  · rw [x2]
    exact List.mem_append_right _ hv
  rw [hmi]
  intro G p l e R s m args below meth c Q H locs cells slots ls d v h' f1 f2 f3 f4 hC hH hF hq hM kk
  have hct := ctS_cat (ad := gad G) st'
  obtain ⟨hx, hb, hml, hown, hts, hlk, hin, hK⟩ := id hC
  refine zgo (va_runSN (host := host) (As := as.map (zTr (gad G))) (rest := st'.map (zTr (gad G))) (n := n) (bytes := mi.2.1) (maxL := mi.2.2.1) (ret := mi.2.2.2.1) ⟨hx, hb, hml, hown, hts⟩ hM ⟨va_cnB (ws' := tb) n hts (zwsG hk) rfl rfl rfl (hK.2.2.1 _ hl) (hts _ hk.2.2.2.1) ⟨hk.2.2.2.2.1, hk.2.2.2.2.2, hn⟩ (zroom hk.2.2.1 f1 f2), hts _ hst, trivial⟩ ⟨zPc.blind, fun U hU hW => ⟨rfl, by rw [hU]; exact hH, hK.warm hW⟩⟩ rfl (by rw [List.length_map, x3, List.length_reverse, x1]) hF.1.1 ?_ (lv_room (by omega)) hd ⟨f3, f4⟩) hq (fun H' locs' hH' hq' hv' => ?_)
  · show st.map (zTr (gad G)) = _
    rw [x2, x3, List.map_append, List.map_reverse, List.reverse_reverse]
  · rw [← vpush_map]
    exact kk H' locs' hH' hq' hv'
end CALLV
