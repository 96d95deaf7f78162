/-! THE CLAIM OUT OF ONE WALK OF THE LAW'S BODY. Your part is whole_start (and what it stands on); all else here is the same for every law, but numbers. -/
def R_law : String := "ThinAirLaw"
def lw_P (b : Addr) (xs : List Int32) (args : Array Value) (s : State) : Prop := args = #[.ref b] ∧ s.IntsAt b xs ∧ xs.length ≤ 3072 ∧ (Jvm.Cond.and given_1 narrow_1).before args s = true
def lw_Q (_ : Array Value) (s : State) (o : Outcome) (t : State) : Prop := o = .returned (some (.int 1)) ∧ Framed s o t [] room_1.cells room_1.slots
def lw_Z (below : List Frame) (a : Array Value) (s : State) : State → Prop := fun t => ∃ o, t.status = .running ∧ Ended t below o ∧ lw_Q a s o t
/-- the law's own end, with 1 on the stack, nothing written that was there before, its room as the claim has it -/
theorem lw_ret {p : Program} {l : Launch} {e : Env} {s : State} {m : MethodId} {below : List Frame} {meth : Method} {c : Code} {b : Nat} (hx : p.tables.exec = Jvm.exec) (hb : c.code = code) (hr : meth.sig.returnType = ret) (hlocks : meth.locks = false) {pc : Nat} {H : Heap} {ls : Array Slot} (hdg : decode code pc = .ok (.ireturn, 1)) : W p l e room_1 s m #[Value.ref b] below meth c H [] room_1.cells room_1.slots (lw_Z below #[Value.ref b] s) (F0 m pc ls [.int 1]) := by
  intro T hT X
  obtain ⟨fs, hret, hrun, hended, hW, hframe⟩ := X.leave (v := some (.int 1)) (hlocks := hlocks) (fun h => by rw [hr] at h; cases h)
  have hmeth' : T.vm.method? m = some meth := X.method'
  refine ⟨T.setFrames fs, ?_, .returned (some (.int 1)), hrun, hended, rfl, ⟨_, rfl⟩, hW, hframe⟩
  jvm_step X.here [X.here.top, hx, hb, hdg, hmeth', hr, ret, narrow_b1]
  (try refine ⟨rfl, ?_⟩); (try refine ⟨rfl, ?_⟩)
  first | (intro acts; rw [hret _ acts rfl rfl rfl]) | rw [hret _ _ rfl rfl rfl]
  exact Steps.refl _
/-- what holds at the law's entry: the machine, the code, the tables' words (any of lw_tbl by 'hts w (by decide +kernel)'), the script of L ints xs at the cell b, what the Statement gives of the start (any of its parts by flat_of_before) -/
def lw_At (p : Program) (s : State) (m : MethodId) (meth : Method) (c : Code) (b L : Nat) (xs : Nat → Int32) : Prop :=
  p.tables.exec = Jvm.exec ∧ c.code = code ∧ meth.sig.returnType = ret ∧ c.maxLocals = 4 ∧ s.vm.findClass R_law = some m.cls ∧ (∀ w ∈ lw_tbl, w.before #[Value.ref b] s = true) ∧ va_X b L xs s s.heap ∧ b < s.heap.size ∧ meth.locks = false ∧ (Jvm.Cond.and given_1 narrow_1).before #[Value.ref b] s = true
theorem zarrP {s : State} {args : Array Value} {ty : FieldType} (hn : ∀ C, ty ≠ .object C) (h : (Cond.arrayClass ty).before args s = true) : ∃ cA, ArrOfT s cA ty ∧ va_RA s cA ty := by
  obtain ⟨cA, kA, comp, h1, h2, h3⟩ := Cond.arrayClass_spec h
  refine ⟨cA, fun n z => ⟨(fun k h => by cases h), kA, h2, comp, h3⟩, ?_⟩
  cases ty with
  | object C => exact absurd rfl (hn C)
  | _ => exact h1
theorem zarrO {s : State} {args : Array Value} {C : String} (h : (Cond.arrayOver (.object C)).before args s = true) : ∃ cA, ArrOfT s cA (.object C) ∧ va_RA s cA (.object C) := by
  obtain ⟨comp, c, k, h1, h2, h3, h4, h5⟩ := Cond.arrayOver_spec h
  exact ⟨c, fun n z => ⟨(fun k h => by cases h), k, h3, comp, h4⟩, k, comp, h3, h4, h1, h5⟩
set_option maxHeartbeats 4000000 in
set_option maxRecDepth 100000 in
theorem zkn {s : State} {args : Array Value} (hts : ∀ w ∈ lw_tbl, w.before args s = true) {b L : Nat} {xs : Nat → Int32} (hX : va_X b L xs s s.heap) (hL : L ≤ 3072) : ∃ (D : va_G) (dA : Nat → ClassId), ∀ (B : Nat) (ad : Nat → Nat → Nat), zKN (D, dA, B, s.heap, ad, b, xs, L) s := by
  have htb : ∀ w ∈ tb, w.before args s = true := fun w hw => hts w (tb_lw hw)
  obtain ⟨c1, s1, k1⟩ := u_known (C := "ThinAir$Laws") (T := zF1) (N := 1) (n := 1) htb zw1 (htb _ tc_3_0)
  obtain ⟨c2, s2, k2⟩ := u_known (C := "ThinAir$Mark") (T := zF2) (N := 10) (n := 10) htb zw2 (htb _ tc_2_46)
  obtain ⟨c3, s3, k3⟩ := u_known (C := "ThinAir$Place") (T := zF3) (N := 4) (n := 4) htb zw3 (htb _ tc_2_5)
  obtain ⟨c4, s4, k4⟩ := u_known (C := "ThinAir$Ranking") (T := zF4) (N := 4) (n := 4) htb zw4 (htb _ tc_1_72)
  obtain ⟨c5, s5, k5⟩ := u_known (C := "ThinAir$Reader") (T := zF5) (N := 3) (n := 3) htb zw5 (htb _ tc_2_163)
  obtain ⟨c6, s6, k6⟩ := u_known (C := "ThinAir$Row") (T := zF6) (N := 2) (n := 2) htb zw6 (htb _ tc_1_27)
  obtain ⟨c7, s7, k7⟩ := u_known (C := "ThinAir$Rules") (T := zF7) (N := 9) (n := 9) htb zw7 (htb _ tc_2_180)
  obtain ⟨c9, s9, k9⟩ := u_known (C := "ThinAir$Text") (T := zF9) (N := 2) (n := 2) htb zw9 (htb _ tc_1_52)
  obtain ⟨c10, s10, k10⟩ := u_known (C := "ThinAir") (T := zF10) (N := 15) (n := 15) htb zw10 (htb _ tc_1_18)
  obtain ⟨c11, s11, k11⟩ := u_known (C := "ThinAirModel") (T := zF11) (N := 32) (n := 32) htb zw11 (htb _ tc_4_84)
  obtain ⟨a1, r1⟩ := zarrP (s := s) (args := args) (fun C h => by cases h) (htb _ tc_1_49)
  obtain ⟨a2, r2⟩ := zarrP (s := s) (args := args) (fun C h => by cases h) (htb _ tc_1_64)
  obtain ⟨a3, r3⟩ := zarrP (s := s) (args := args) (fun C h => by cases h) (htb _ tc_4_186)
  obtain ⟨a4, r4⟩ := zarrO (s := s) (args := args) (C := "ThinAir$Row") (hts _ (List.mem_append_right _ (in_t1 (List.mem_of_getElem? (i := 26) rfl))))
  obtain ⟨a5, r5⟩ := zarrO (s := s) (args := args) (C := "ThinAir$Text") (hts _ (List.mem_append_right _ (in_t1 (List.mem_of_getElem? (i := 51) rfl))))
  obtain ⟨a6, r6⟩ := zarrO (s := s) (args := args) (C := "ThinAir$Place") (hts _ (List.mem_append_right _ (in_t1 (List.mem_of_getElem? (i := 66) rfl))))
  obtain ⟨a7, r7⟩ := zarrO (s := s) (args := args) (C := "ThinAir$Mark") (hts _ (List.mem_append_right _ (in_t1 (List.mem_of_getElem? (i := 68) rfl))))
  obtain ⟨a8, r8⟩ := zarrO (s := s) (args := args) (C := "ThinAir$Laws") (hts _ (List.mem_append_right _ (in_t1 (List.mem_of_getElem? (i := 70) rfl))))
  refine ⟨(fun k => match k with | 0 => c1 | 1 => c1 | 2 => c2 | 3 => c3 | 4 => c4 | 5 => c5 | 6 => c6 | 7 => c7 | 8 => c6 | 9 => c9 | 10 => c10 | _ => c11, fun k => match k with | 0 => s1 | 1 => s1 | 2 => s2 | 3 => s3 | 4 => s4 | 5 => s5 | 6 => s6 | 7 => s7 | 8 => s6 | 9 => s9 | 10 => s10 | _ => s11), fun k => match k with | 1 => a1 | 2 => a2 | 3 => a3 | 4 => a4 | 5 => a5 | 6 => a6 | 7 => a7 | _ => a8, fun B ad => ⟨⟨fun c q h => ?_, fun k q h => ?_⟩, ?_, ?_, ?_⟩⟩
  · match c, h with
    | 0, h => cases h; exact k1
    | 1, h => cases h; exact k1
    | 2, h => cases h; exact k2
    | 3, h => cases h; exact k3
    | 4, h => cases h; exact k4
    | 5, h => cases h; exact k5
    | 6, h => cases h; exact k6
    | 7, h => cases h; exact k7
    | 8, h => cases h; exact k6
    | 9, h => cases h; exact k9
    | 10, h => cases h; exact k10
    | 11, h => cases h; exact k11
    | n + 12, h => simp [zcl] at h
  · match k, h with
    | 0, h => cases h; exact r1
    | 1, h => cases h; exact r2
    | 2, h => cases h; exact r3
    | 3, h => cases h; exact r4
    | 4, h => cases h; exact r5
    | 5, h => cases h; exact r6
    | 6, h => cases h; exact r7
    | 7, h => cases h; exact r8
    | n + 8, h => simp [ztys] at h
  · exact List.forall_mem_cons.mpr ⟨va_AO.of (hts _ (List.mem_append_right _ (in_t1 (List.mem_of_getElem? (i := 26) rfl)))), List.forall_mem_cons.mpr ⟨va_AO.of (hts _ (List.mem_append_right _ (in_t1 (List.mem_of_getElem? (i := 51) rfl)))), List.forall_mem_cons.mpr ⟨va_AO.of (hts _ (List.mem_append_right _ (in_t1 (List.mem_of_getElem? (i := 66) rfl)))), List.forall_mem_cons.mpr ⟨va_AO.of (hts _ (List.mem_append_right _ (in_t1 (List.mem_of_getElem? (i := 68) rfl)))), List.forall_mem_cons.mpr ⟨va_AO.of (hts _ (List.mem_append_right _ (in_t1 (List.mem_of_getElem? (i := 70) rfl)))), fun _ h => absurd h List.not_mem_nil⟩⟩⟩⟩⟩
  · exact List.forall_mem_cons.mpr ⟨va_Nw.of rfl (hts _ (List.mem_append_right _ (in_t1 (List.mem_of_getElem? (i := 28) rfl)))), List.forall_mem_cons.mpr ⟨va_Nw.of rfl (hts _ (List.mem_append_right _ (in_t1 (List.mem_of_getElem? (i := 31) rfl)))), List.forall_mem_cons.mpr ⟨va_Nw.of rfl (hts _ (List.mem_append_right _ (in_t1 (List.mem_of_getElem? (i := 53) rfl)))), List.forall_mem_cons.mpr ⟨va_Nw.of rfl (hts _ (List.mem_append_right _ (in_t1 (List.mem_of_getElem? (i := 56) rfl)))), List.forall_mem_cons.mpr ⟨va_Nw.of rfl (hts _ (List.mem_append_right _ (in_t1 (List.mem_of_getElem? (i := 73) rfl)))), List.forall_mem_cons.mpr ⟨va_Nw.of rfl (hts _ (List.mem_append_right _ (in_t1 (List.mem_of_getElem? (i := 168) rfl)))), List.forall_mem_cons.mpr ⟨va_Nw.of rfl (hts _ (List.mem_append_right _ (in_t1 (List.mem_of_getElem? (i := 174) rfl)))), List.forall_mem_cons.mpr ⟨va_Nw.of rfl (hts _ (List.mem_append_right _ (in_t1 (List.mem_of_getElem? (i := 192) rfl)))), List.forall_mem_cons.mpr ⟨va_Nw.of rfl (hts _ (List.mem_append_right _ (in_t2 (List.mem_of_getElem? (i := 181) rfl)))), List.forall_mem_cons.mpr ⟨va_Nw.of rfl (hts _ (List.mem_append_right _ (in_t2 (List.mem_of_getElem? (i := 184) rfl)))), List.forall_mem_cons.mpr ⟨va_Nw.of rfl (hts _ (List.mem_append_right _ (in_t2 (List.mem_of_getElem? (i := 219) rfl)))), List.forall_mem_cons.mpr ⟨va_Nw.of rfl (hts _ (List.mem_append_right _ (in_t2 (List.mem_of_getElem? (i := 228) rfl)))), List.forall_mem_cons.mpr ⟨va_Nw.of rfl (hts _ (List.mem_append_right _ (in_t3 (List.mem_of_getElem? (i := 51) rfl)))), List.forall_mem_cons.mpr ⟨va_Nw.of rfl (hts _ (List.mem_append_right _ (in_t3 (List.mem_of_getElem? (i := 56) rfl)))), List.forall_mem_cons.mpr ⟨va_Nw.of rfl (hts _ (List.mem_append_right _ (in_t3 (List.mem_of_getElem? (i := 59) rfl)))), List.forall_mem_cons.mpr ⟨va_Nw.of rfl (hts _ (List.mem_append_right _ (in_t4 (List.mem_of_getElem? (i := 67) rfl)))), List.forall_mem_cons.mpr ⟨va_Nw.of rfl (hts _ (List.mem_append_right _ (in_t4 (List.mem_of_getElem? (i := 73) rfl)))), fun _ h => absurd h List.not_mem_nil⟩⟩⟩⟩⟩⟩⟩⟩⟩⟩⟩⟩⟩⟩⟩⟩⟩
  · obtain ⟨scr, h1, h2, h3, h4, h5⟩ := hX
    exact ⟨scr, h1, h2, h3, h4, by show L < 2 ^ 31; omega, h5⟩
theorem hm0_hp {G : zG} {H : Heap} {b L : Nat} {xs : Nat → Int32} (h1 : gB G = H.size) (h2 : gH G = H) (h3 : gsb G = b) (h4 : gad G 19 0 = b) (h5 : b < H.size) (h6 : gLn G = L) (h7 : gxs G = xs) : zHp G (hm0 xs L) H := by
  have hz : ∀ c i, i < cnM (hm0 xs L) c → c = 19 := by
    intro c i h
    apply Decidable.byContradiction
    intro q
    have : cnM (hm0 xs L) c = 0 := if_neg q
    omega
  refine ⟨by rw [h1]; rfl, fun q _ => by rw [h2], ⟨fun c i h hc => absurd (hz c i h) hc, fun c i c' i' h _ hc => absurd (hz c i h) hc⟩, ⟨rfl, by rw [h4, h3], by rw [h3, h1]; exact h5, by rw [h6]; rfl, fun j _ => by rw [h7]; rfl⟩, fun c i h r hr => ?_, fun c i h hk => ?_, fun c i f h => trivial⟩
  · have := hz c i h
    subst this
    exact absurd (zcl_lt hr) (by decide)
  · have := hz c i h
    subst this
    exact absurd akd19 hk
set_option maxHeartbeats 4000000 in
set_option maxRecDepth 100000 in
theorem whole_start {p : Program} {e : Env} {s : State} {m : MethodId} {below : List Frame} {meth : Method} {c : Code} (l : Launch) {b L : Nat} {xs : Nat → Int32} (hL : L ≤ 3072) (C0 : lw_At p s m meth c b L xs) : W p l e room_1 s m #[Value.ref b] below meth c s.heap [] 0 0 (lw_Z below #[Value.ref b] s) (entryFrame m ([Value.ref b] : List Value).toArray 4) := by
  obtain ⟨hx, hb, hr, hml, hown, hts, hX, hbl, hlocks, hgv⟩ := id C0
  obtain ⟨hF, hok, hcells0, hslots0⟩ := law_low xs hL
  have hcells : ncM hF ≤ room_1.cells := Nat.le_trans hcells0 (by decide)
  have hslots : nsM hF ≤ room_1.slots := Nat.le_trans hslots0 (by decide)
  obtain ⟨n, hn⟩ := ev_L_law (d := 11) (by omega) (w1 := none) (w2 := none) (w3 := none) hok
  have hrun := zsound zmt_good zmt_plain n 11 216 0 _ _ _ hn
  rw [lg_entry_eq]
  obtain ⟨D, dA, hKN⟩ := zkn hts hX hL
  have hK := hKN s.heap.size (fun c i => if c = 19 then b else s.heap.size + aoM hF c i)
  generalize hG : ((D, dA, s.heap.size, s.heap, (fun c i => if c = 19 then b else s.heap.size + aoM hF c i), b, xs, L) : zG) = G at hK
  have gB' : gB G = s.heap.size := by rw [← hG]
  have gad' : ∀ c i, gad G c i = if c = 19 then b else s.heap.size + aoM hF c i := by intro c i; rw [← hG]
  have hHp : zHp G (hm0 xs L) s.heap := hm0_hp gB' (by rw [← hG]) (by rw [← hG]) (by rw [gad', if_pos rfl]) hbl (by rw [← hG]) (by rw [← hG])
  have hCx : zCx G p s m #[Value.ref b] meth c (zmt 216).1.cls (zmt 216).2.1 (zmt 216).2.2.1 (zini (zmt 216)) := ⟨hx, hb, hml, hown, fun w hw => hts w (tb_lw hw), hlocks, fun h => absurd h (by decide +kernel), hK⟩
  have hent := zentry (ad := gad G) (n := 4) (as := [vR (some (19, 0))]) (h := hm0 xs L) (g := true) (by decide) (fun v hv => by
    rw [List.mem_singleton.mp hv]
    exact (by decide : (0 : Nat) < 1))
  have e0 : ([vR (some (19, 0))] : List zV).map (zTr (gad G)) = [Value.ref b] := by
    show [Value.ref (gad G 19 0)] = _
    rw [gad', if_pos rfl]
  rw [e0] at hent
  have hA : zAg G hF := fun c i _ hc => by rw [gad', if_neg hc, gB']
  have h0c : ncM (hm0 xs L) = 0 := rfl
  have h0s : nsM (hm0 xs L) = 0 := rfl
  refine hrun.2.2 G p l e room_1 s m #[Value.ref b] below meth c _ s.heap [] 0 0 _ hCx (by decide) (by decide) hHp hent (fun q hq => (List.not_mem_nil hq).elim) hA (by show 0 + (ncM hF - ncM (hm0 xs L)) ≤ room_1.cells; omega) (by show 0 + (nsM hF - nsM (hm0 xs L)) ≤ room_1.slots; omega) fun pcR HR locsR lsR cR sR hd hHR hqR hvR e1 e2 => ?_
  refine va_forget (fun q hq => by rw [← gB']; exact hqR q hq) ?_
  have e1 : cR = 0 + (ncM hF - ncM (hm0 xs L)) := e1
  have e2 : sR = 0 + (nsM hF - nsM (hm0 xs L)) := e2
  refine W.widen (k := room_1.cells) (n := room_1.slots) (by omega) (by omega) ?_
  exact lw_ret hx hb hr hlocks hd
set_option maxHeartbeats 4000000 in
theorem lw_walk (l : Launch) (b : Addr) (xs : List Int32) : MetFree l x (headSpec (Jvm.Cond.code x code maxLocals ret :: tables_1) room_1) (lw_P b xs) (fun _ _ _ _ _ => True) lw_Q := by
  refine MetFree.of_bodyS (code := code) (maxLocals := maxLocals) (ret := ret) (by decide) ?_ ?_
  · intro args s m h hn
    obtain ⟨meth, c, h1, h2, h3, h4, h5, h6, -, -⟩ := Cond.code_spec hn (atoms_spec (ws := Jvm.Cond.code x code maxLocals ret :: tables_1) h _ List.mem_cons_self)
    exact ⟨meth, c, h1, h2, h3, h4, h5, h6⟩
  · intro p e s m args below meth c s₁ B hml0 hP _
    obtain ⟨rfl, hx, hbd, hgv⟩ := hP
    obtain ⟨scr, harrAt, hlist, hof, hsmall⟩ := hx
    obtain ⟨hcb, hkn, -, -⟩ := State.arrayAt?_spec harrAt
    have hown : s.vm.findClass R_law = some m.cls := findClass_of_methodNamed B.named
    have hts0 : ∀ c ∈ (Jvm.Cond.code x code maxLocals ret :: tables_1), c.before #[Value.ref b] s = true := atoms_spec (ws := Jvm.Cond.code x code maxLocals ret :: tables_1) B.pre
    have hts : ∀ w ∈ lw_tbl, w.before #[Value.ref b] s = true := k2_hts_sels lw_privs (fun w hw => hts0 w (List.mem_cons_of_mem _ hw)) lw_privs_ok
    have hml : c.maxLocals = 4 := B.maxLocals_eq (hts0 _ List.mem_cons_self)
    have X₀ : Stand p l e room_1 s m #[Value.ref b] below meth c s₁ [] 0 0 := Stand.of_body B
    have hh0 : s₁.heap = s.heap := by rw [B.state]; rfl
    have hsz : scr.slots.size = xs.length := by rw [← Array.length_toList, hlist, List.length_map]
    have hval : ∀ j : Nat, j < xs.length → scr.slots[j]? = some (.int (xs.getD j 0)) := fun j hj => by
      rw [← Array.getElem?_toList, hlist]
      simp [hj]
    have hbl : b < s.heap.size := (Array.getElem?_eq_some_iff.mp hcb).1
    have hX : va_X b xs.length (fun j => xs.getD j 0) s s.heap := ⟨scr, hcb, hof, hkn, hsz, hval⟩
    have K : W p l e room_1 s m #[Value.ref b] below meth c s₁.heap [] 0 0 (lw_Z below #[Value.ref b] s) (entryFrame m ([Value.ref b] : List Value).toArray 4) := by
      rw [hh0]
      exact whole_start l hbd ⟨B.exec, B.bytes, B.returns, hml, hown, hts, hX, hbl, B.notSynchronized, hgv⟩
    obtain ⟨t, a1, o, b1, b2, b3⟩ := K s₁ rfl X₀
    exact ⟨t, o, a1, b1, b2, b3⟩
theorem lw_pre_spec {args : Array Value} {s : State} (h : (Jvm.Cond.and given_1 narrow_1).before args s = true) (hr : rest_1_c.before args s = true) : ∃ (b : Addr) (xs : List Int32), lw_P b xs args s := by
  have hs := flat_of_before _ h
  have hq := flat_of_before _ hr
  have hc : (Cond.count 1).before args s = true := hs _ (by decide +kernel)
  have harr : (Cond.arrayOf (.arg 0) .int).before args s = true := hs _ (by decide +kernel)
  have hle : (Cond.le (.length (.arg 0)) (.int 3072)).before args s = true := hs _ (by decide +kernel)
  have hlen : (Cond.isInt (.length (.arg 0))).before args s = true := hq _ (by decide +kernel)
  have hall : (Cond.all (.arg 0) (.isInt (.elem (.arg 0) (.index 0)))).before args s = true := hq _ (by decide +kernel)
  obtain ⟨b, xs, hb, hx⟩ := State.ints_of_pre rfl harr hlen hall
  have hsm : xs.length < 2 ^ 31 := hx.choose_spec.2.2.2
  have hev : (Term.length (.arg 0)).eval args s none [] s = some (.int xs.length.toInt32) := hx.length_eval hb
  have hv := Cond.le_ints hev (show (Term.int 3072).eval args s none [] s = some (.int 3072) from rfl)
  have hd : xs.length.toInt32 ≤ 3072 := by
    simpa [Cond.before, Cond.holds, hv] using hle
  have hN : xs.length ≤ 3072 := (Int32.ofNat_le_ofNat hsm (by decide)).mp (show Int32.ofNat xs.length ≤ Int32.ofNat 3072 from hd)
  exact ⟨b, xs, Cond.one_arg hc (show args[0]? = some (.ref b) from hb), hx, hN, h⟩
theorem lw_comes (l : Launch) : Comes l x (Jvm.Cond.code x code maxLocals ret :: tables_1) room_1 (fun tb e args s => Calls_1 tb e args s ∧ rest_1 tb e args s ∧ Pre_1 tb e args s)
    (fun _ _ args s o t => lw_Q args s o t) := by
  intro p e ha hc hk s m args below hf hfit hheap happ hpre
  obtain ⟨b, xs, hP⟩ := lw_pre_spec hpre.2.2 hpre.2.1
  obtain ⟨k, o, h1, h2, h3, hQ⟩ := lw_walk l b xs p e ha hc hk s m args below hf ((Spec.applies_iff_loose hf).mp happ).1 hP trivial
  exact ⟨k, o, h1, h2, h3, hQ⟩
theorem lw_frame {s t : State} {o : Outcome} {args : Array Value} (h : Framed s o t [] room_1.cells room_1.slots) :
    Framed s o t (fieldLocs frame_1_writes args s ++ arrayLocs frame_1_arrays args s ++ staticLocs frame_1_statics s) room_1.cells room_1.slots := h
theorem lw_limb (L : Cond) (hL : ∀ (args : Array Value) (s t : State), L.after args s (.returned (some (.int 1))) t = true) :
    ArmFor flags0 classFile x code maxLocals ret World_1 tables_1 room_1 Calls_1 rest_1 Pre_1
      (fun tb e a s o t => postC L tb e a s o t ∧ Framed s o t (fieldLocs frame_1_writes a s ++ arrayLocs frame_1_arrays a s ++ staticLocs frame_1_statics s) room_1.cells room_1.slots) := by
  intro l _ _ _ p e ha hc hk s m args below hf hfit hheap happ hpre
  obtain ⟨k, o, h1, h2, h3, rfl, hF⟩ := lw_comes l p e ha hc hk s m args below hf hfit hheap happ hpre
  exact ⟨k, _, h1, h2, h3, hL args s _, lw_frame hF⟩
theorem i_vc : Claimed_1_1 ∧ Claimed_1_2 := ⟨lw_limb limb_1_1 (fun args s t => by simp [limb_1_1, Cond.after, Cond.holds, Cond.value]), lw_limb limb_1_2 (fun args s t => Cond.after_iff.mpr (by
  first | (rw [show limb_1_2 = Cond.eq .result (.int 1) from rfl, Cond.eq_ints (x := 1) (y := 1) rfl rfl]; simp; done) | (simp [limb_1_2, Cond.value, Term.eval]; done)))⟩

