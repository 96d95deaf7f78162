def f_X10_about (x1 : Int32) (x2 : Int32) (h : zM) : Option (Int32 × zM) := ((f_X10_placeAt x1 h).bind fun q2 => (if q2.1 = none then (some ((-1), q2.2)) else ((f_X10_within x2 0 3 q2.2).bind fun q13 => (if ¬ q13.1 = 0 then (if (memN [3] (clR q2.1) && (true && true)) = true then ((f_X3_part q2.1 x2 q13.2).bind fun q24 => ((f_X10_tell q24.1 q24.2).bind fun q27 => (some (q27.1, q27.2)))) else none) else (some ((-1), q13.2))))))
set_option maxRecDepth 20000 in
theorem ev_X10_about {d : Nat} (hd : 2 ≤ d) {w3 : Option zV} {x1 : Int32} {x2 : Int32} {h : zM} {r : Int32 × zM} (H : f_X10_about x1 x2 h = some r) : zEv zmt d 74 0 ([some (vR (some (10, 0))), some (vI x1), some (vI x2), w3], [], h, true) (some (vI r.1), r.2) := by
  obtain ⟨q2, hq, H⟩ := bnd H
  refine zEv.call (k := 103) (as := [vR (some (10, 0)), vI x1]) (L2 := [some (vR (some (10, 0))), some (vI x1), some (vI x2), w3]) (st2 := []) (h2 := h) (v := some (vR q2.1)) (h1 := q2.2) (st3 := [vR q2.1]) zm_X10_about rfl rfl rfl rfl rfl zm_X10_placeAt rfl (by omega) (ev_X10_placeAt (by omega) hq) rfl ?_
  rcases ifc H with ⟨hc, H⟩ | ⟨hc, H⟩
  · refine zEv.iteT (L2 := [some (vR (some (10, 0))), some (vI x1), some (vI x2), some (vR q2.1)]) (st2 := []) (h2 := q2.2) zm_X10_about rfl rfl rfl rfl (nnT hc) ?_
    cases H
    exact zEv.ret zm_X10_about rfl rfl rfl rfl
  · refine zEv.iteF (L2 := [some (vR (some (10, 0))), some (vI x1), some (vI x2), some (vR q2.1)]) (st2 := []) (h2 := q2.2) zm_X10_about rfl rfl rfl rfl (nnF hc) ?_
    obtain ⟨q13, hq, H⟩ := bnd H
    refine zEv.call (k := 100) (as := [vI x2, vI 0, vI 3]) (L2 := [some (vR (some (10, 0))), some (vI x1), some (vI x2), some (vR q2.1)]) (st2 := []) (h2 := q2.2) (v := some (vI q13.1)) (h1 := q13.2) (st3 := [vI q13.1]) zm_X10_about rfl rfl rfl rfl rfl zm_X10_within rfl (by omega) (ev_X10_within (by omega) hq) rfl ?_
    rcases ifc H with ⟨hc, H⟩ | ⟨hc, H⟩
    · refine zEv.iteT (L2 := [some (vR (some (10, 0))), some (vI x1), some (vI x2), some (vR q2.1)]) (st2 := []) (h2 := q13.2) zm_X10_about rfl rfl rfl rfl (decide_eq_true hc) ?_
      obtain ⟨hg, H⟩ := ifg H
      obtain ⟨q24, hq, H⟩ := bnd H
      refine zEv.call (k := 25) (as := [vR q2.1, vI x2]) (L2 := [some (vR (some (10, 0))), some (vI x1), some (vI x2), some (vR q2.1)]) (st2 := [vR (some (10, 0))]) (h2 := q13.2) (v := some (vI q24.1)) (h1 := q24.2) (st3 := [vI q24.1, vR (some (10, 0))]) zm_X10_about rfl (and2 (and2 hg).2).2 rfl hg rfl zm_X3_part rfl (by omega) (ev_X3_part (by omega) hq) rfl ?_
      obtain ⟨q27, hq, H⟩ := bnd H
      refine zEv.call (k := 106) (as := [vR (some (10, 0)), vI q24.1]) (L2 := [some (vR (some (10, 0))), some (vI x1), some (vI x2), some (vR q2.1)]) (st2 := []) (h2 := q24.2) (v := some (vI q27.1)) (h1 := q27.2) (st3 := [vI q27.1]) zm_X10_about rfl rfl rfl rfl rfl zm_X10_tell rfl (by omega) (ev_X10_tell (by omega) hq) rfl ?_
      cases H
      exact zEv.ret zm_X10_about rfl rfl rfl rfl
    · refine zEv.iteF (L2 := [some (vR (some (10, 0))), some (vI x1), some (vI x2), some (vR q2.1)]) (st2 := []) (h2 := q13.2) zm_X10_about rfl rfl rfl rfl (decide_eq_false hc) ?_
      cases H
      exact zEv.ret zm_X10_about rfl rfl rfl rfl
def f_X10_fault_66 (x4 : zR) (s0 : Int32) (h : zM) : Option (Int32 × zM) := (if ¬ s0 = (-9999) then (some ((-9999), h)) else (if (memN [5] (clR x4) && true) = true then (some ((rI h (clR x4) (ixR x4) 2), h)) else none))
set_option maxRecDepth 20000 in
theorem ev_X10_fault_66 {d : Nat} (hd : 6 ≤ d) {w0 : Option zV} {w1 : Option zV} {w2 : Option zV} {w3 : Option zV} {w5 : Option zV} {x4 : zR} {s0 : Int32} {h : zM} {r : Int32 × zM} (H : f_X10_fault_66 x4 s0 h = some r) : zEv zmt d 75 66 ([w0, w1, w2, w3, some (vR x4), w5], [vI s0], h, true) (some (vI r.1), r.2) := by
  rcases ifc H with ⟨hc, H⟩ | ⟨hc, H⟩
  · refine zEv.iteT (L2 := [w0, w1, w2, w3, some (vR x4), some (vI s0)]) (st2 := []) (h2 := h) zm_X10_fault rfl rfl rfl rfl (decide_eq_true hc) ?_
    refine zEv.loc (L2 := [w0, w1, w2, w3, some (vR x4), some (vI s0)]) (st2 := [vI (-9999)]) (h2 := h) zm_X10_fault rfl rfl rfl rfl (fun h => (nomatch h)) ?_
    cases H
    exact zEv.ret zm_X10_fault rfl rfl rfl rfl
  · refine zEv.iteF (L2 := [w0, w1, w2, w3, some (vR x4), some (vI s0)]) (st2 := []) (h2 := h) zm_X10_fault rfl rfl rfl rfl (decide_eq_false hc) ?_
    obtain ⟨hg, H⟩ := ifg H
    refine zEv.loc (L2 := [w0, w1, w2, w3, some (vR x4), some (vI s0)]) (st2 := [vI (rI h (clR x4) (ixR x4) 2)]) (h2 := h) zm_X10_fault rfl hg rfl hg (fun h => (nomatch h)) ?_
    cases H
    exact zEv.ret zm_X10_fault rfl rfl rfl rfl
def f_X10_fault (x1 : Int32) (x2 : Int32) (h : zM) : Option (Int32 × zM) := ((f_X10_textAt x1 h).bind fun q2 => (if q2.1 = none then (some ((-1), q2.2)) else (if (memN [9] (clR q2.1) && (true && true)) = true then ((f_X8_isMissing q2.1 q2.2).bind fun q13 => (if q13.1 = 0 then ((f_X5_init (some (5, (cnM q13.2 5))) q2.1 (nwM q13.2 5 3)).bind fun q30 => (if x2 = 0 then ((f_X1_init (some (1, (cnM q30 1))) (nwM q30 1 1)).bind fun q58 => ((f_X0_readAll (some (1, (cnM q30 1))) (some (5, (cnM q13.2 5))) q58).bind fun q63 => (f_X10_fault_66  (some (5, (cnM q13.2 5))) q63.1 q63.2))) else ((f_X7_init (some (7, (cnM q30 7))) (nwM q30 7 9)).bind fun q43 => ((f_X0_readAll (some (7, (cnM q30 7))) (some (5, (cnM q13.2 5))) q43).bind fun q48 => (f_X10_fault_66  (some (5, (cnM q13.2 5))) q48.1 q48.2))))) else ((f_X10_found 1 q13.2).bind fun q21 => (some (q21.1, q21.2))))) else none)))
set_option maxRecDepth 20000 in
theorem ev_X10_fault {d : Nat} (hd : 6 ≤ d) {w3 : Option zV} {w4 : Option zV} {w5 : Option zV} {x1 : Int32} {x2 : Int32} {h : zM} {r : Int32 × zM} (H : f_X10_fault x1 x2 h = some r) : zEv zmt d 75 0 ([some (vR (some (10, 0))), some (vI x1), some (vI x2), w3, w4, w5], [], h, true) (some (vI r.1), r.2) := by
  obtain ⟨q2, hq, H⟩ := bnd H
  refine zEv.call (k := 102) (as := [vR (some (10, 0)), vI x1]) (L2 := [some (vR (some (10, 0))), some (vI x1), some (vI x2), w3, w4, w5]) (st2 := []) (h2 := h) (v := some (vR q2.1)) (h1 := q2.2) (st3 := [vR q2.1]) zm_X10_fault rfl rfl rfl rfl rfl zm_X10_textAt rfl (by omega) (ev_X10_textAt (by omega) hq) rfl ?_
  rcases ifc H with ⟨hc, H⟩ | ⟨hc, H⟩
  · refine zEv.iteT (L2 := [some (vR (some (10, 0))), some (vI x1), some (vI x2), some (vR q2.1), w4, w5]) (st2 := []) (h2 := q2.2) zm_X10_fault rfl rfl rfl rfl (nnT hc) ?_
    cases H
    exact zEv.ret zm_X10_fault rfl rfl rfl rfl
  · refine zEv.iteF (L2 := [some (vR (some (10, 0))), some (vI x1), some (vI x2), some (vR q2.1), w4, w5]) (st2 := []) (h2 := q2.2) zm_X10_fault rfl rfl rfl rfl (nnF hc) ?_
    obtain ⟨hg, H⟩ := ifg H
    obtain ⟨q13, hq, H⟩ := bnd H
    refine zEv.call (k := 49) (as := [vR q2.1]) (L2 := [some (vR (some (10, 0))), some (vI x1), some (vI x2), some (vR q2.1), w4, w5]) (st2 := []) (h2 := q2.2) (v := some (vI q13.1)) (h1 := q13.2) (st3 := [vI q13.1]) zm_X10_fault rfl (and2 (and2 hg).2).2 rfl hg rfl zm_X8_isMissing rfl (by omega) (ev_X8_isMissing (by omega) hq) rfl ?_
    rcases ifc H with ⟨hc, H⟩ | ⟨hc, H⟩
    · refine zEv.iteT (L2 := [some (vR (some (10, 0))), some (vI x1), some (vI x2), some (vR q2.1), w4, w5]) (st2 := []) (h2 := q13.2) zm_X10_fault rfl rfl rfl rfl (decide_eq_true hc) ?_
      obtain ⟨q30, hq, H⟩ := bnd H
      refine zEv.call (k := 30) (as := [vR (some (5, (cnM q13.2 5))), vR q2.1]) (L2 := [some (vR (some (10, 0))), some (vI x1), some (vI x2), some (vR q2.1), w4, w5]) (st2 := [vR (some (5, (cnM q13.2 5)))]) (h2 := (nwM q13.2 5 3)) (v := none) (h1 := q30) (st3 := [vR (some (5, (cnM q13.2 5)))]) zm_X10_fault rfl rfl rfl rfl rfl zm_X5_init rfl (by omega) (ev_X5_init (by omega) hq) rfl ?_
      rcases ifc H with ⟨hc, H⟩ | ⟨hc, H⟩
      · refine zEv.iteT (L2 := [some (vR (some (10, 0))), some (vI x1), some (vI x2), none, some (vR (some (5, (cnM q13.2 5)))), w5]) (st2 := []) (h2 := q30) zm_X10_fault rfl rfl rfl rfl (decide_eq_true hc) ?_
        obtain ⟨q58, hq, H⟩ := bnd H
        refine zEv.call (k := 5) (as := [vR (some (1, (cnM q30 1)))]) (L2 := [some (vR (some (10, 0))), some (vI x1), some (vI x2), none, some (vR (some (5, (cnM q13.2 5)))), w5]) (st2 := [vR (some (1, (cnM q30 1)))]) (h2 := (nwM q30 1 1)) (v := none) (h1 := q58) (st3 := [vR (some (1, (cnM q30 1)))]) zm_X10_fault rfl rfl rfl rfl rfl zm_X1_init rfl (by omega) (ev_X1_init (by omega) hq) rfl ?_
        obtain ⟨q63, hq, H⟩ := bnd H
        refine zEv.call (k := 4) (as := [vR (some (1, (cnM q30 1))), vR (some (5, (cnM q13.2 5)))]) (L2 := [some (vR (some (10, 0))), some (vI x1), some (vI x2), none, some (vR (some (5, (cnM q13.2 5)))), w5]) (st2 := []) (h2 := q58) (v := some (vI q63.1)) (h1 := q63.2) (st3 := [vI q63.1]) zm_X10_fault rfl rfl rfl rfl rfl zm_X0_readAll rfl (by omega) (ev_X0_readAll (by omega) hq) rfl ?_
        exact ev_X10_fault_66 (by omega)  H
      · refine zEv.iteF (L2 := [some (vR (some (10, 0))), some (vI x1), some (vI x2), none, some (vR (some (5, (cnM q13.2 5)))), w5]) (st2 := []) (h2 := q30) zm_X10_fault rfl rfl rfl rfl (decide_eq_false hc) ?_
        obtain ⟨q43, hq, H⟩ := bnd H
        refine zEv.call (k := 40) (as := [vR (some (7, (cnM q30 7)))]) (L2 := [some (vR (some (10, 0))), some (vI x1), some (vI x2), none, some (vR (some (5, (cnM q13.2 5)))), w5]) (st2 := [vR (some (7, (cnM q30 7)))]) (h2 := (nwM q30 7 9)) (v := none) (h1 := q43) (st3 := [vR (some (7, (cnM q30 7)))]) zm_X10_fault rfl rfl rfl rfl rfl zm_X7_init rfl (by omega) (ev_X7_init (by omega) hq) rfl ?_
        obtain ⟨q48, hq, H⟩ := bnd H
        refine zEv.call (k := 4) (as := [vR (some (7, (cnM q30 7))), vR (some (5, (cnM q13.2 5)))]) (L2 := [some (vR (some (10, 0))), some (vI x1), some (vI x2), none, some (vR (some (5, (cnM q13.2 5)))), w5]) (st2 := []) (h2 := q43) (v := some (vI q48.1)) (h1 := q48.2) (st3 := [vI q48.1]) zm_X10_fault rfl rfl rfl rfl rfl zm_X0_readAll rfl (by omega) (ev_X0_readAll (by omega) hq) rfl ?_
        refine zEv.loc (L2 := [some (vR (some (10, 0))), some (vI x1), some (vI x2), none, some (vR (some (5, (cnM q13.2 5)))), w5]) (st2 := [vI q48.1]) (h2 := q48.2) zm_X10_fault rfl rfl rfl rfl (fun h => (nomatch h)) ?_
        exact ev_X10_fault_66 (by omega)  H
    · refine zEv.iteF (L2 := [some (vR (some (10, 0))), some (vI x1), some (vI x2), some (vR q2.1), w4, w5]) (st2 := []) (h2 := q13.2) zm_X10_fault rfl rfl rfl rfl (decide_eq_false hc) ?_
      obtain ⟨q21, hq, H⟩ := bnd H
      refine zEv.call (k := 105) (as := [vR (some (10, 0)), vI 1]) (L2 := [some (vR (some (10, 0))), some (vI x1), some (vI x2), some (vR q2.1), w4, w5]) (st2 := []) (h2 := q13.2) (v := some (vI q21.1)) (h1 := q21.2) (st3 := [vI q21.1]) zm_X10_fault rfl rfl rfl rfl rfl zm_X10_found rfl (by omega) (ev_X10_found (by omega) hq) rfl ?_
      cases H
      exact zEv.ret zm_X10_fault rfl rfl rfl rfl
def f_X10_laws (x1 : Int32) (x2 : Int32) (h : zM) : Option (Int32 × zM) := ((f_X10_textAt x2 h).bind fun q2 => ((f_X10_within x1 0 1 q2.2).bind fun q9 => (if q9.1 = 0 then (some ((-1), q9.2)) else (if q2.1 = none then (some ((-1), q9.2)) else (if (memN [9] (clR q2.1) && (true && true)) = true then ((f_X8_isMissing q2.1 q9.2).bind fun q22 => (if q22.1 = 0 then ((f_X1_init (some (1, (cnM q22.2 1))) (nwM q22.2 1 1)).bind fun q38 => ((f_X5_init (some (5, (cnM q38 5))) q2.1 (nwM q38 5 3)).bind fun q50 => ((f_X0_readAll (some (1, (cnM q22.2 1))) (some (5, (cnM q38 5))) q50).bind fun q53 => (if ¬ q53.1 = (-9999) then (if (true && (true && (ixOk 2 x1 && (true && (decide (rR q53.2 10 0 4 = (some (30, 0))) && true))))) = true then (some (q53.1, (wR q53.2 30 0 (Int32.toNatClampNeg x1) (some (1, (cnM q22.2 1)))))) else none) else (some ((-4), q53.2)))))) else ((f_X10_found 1 q22.2).bind fun q30 => (some (q30.1, q30.2))))) else none)))))
set_option maxRecDepth 20000 in
theorem ev_X10_laws {d : Nat} (hd : 6 ≤ d) {w3 : Option zV} {w4 : Option zV} {w5 : Option zV} {x1 : Int32} {x2 : Int32} {h : zM} {r : Int32 × zM} (H : f_X10_laws x1 x2 h = some r) : zEv zmt d 76 0 ([some (vR (some (10, 0))), some (vI x1), some (vI x2), w3, w4, w5], [], h, true) (some (vI r.1), r.2) := by
  obtain ⟨q2, hq, H⟩ := bnd H
  refine zEv.call (k := 102) (as := [vR (some (10, 0)), vI x2]) (L2 := [some (vR (some (10, 0))), some (vI x1), some (vI x2), w3, w4, w5]) (st2 := []) (h2 := h) (v := some (vR q2.1)) (h1 := q2.2) (st3 := [vR q2.1]) zm_X10_laws rfl rfl rfl rfl rfl zm_X10_textAt rfl (by omega) (ev_X10_textAt (by omega) hq) rfl ?_
  obtain ⟨q9, hq, H⟩ := bnd H
  refine zEv.call (k := 100) (as := [vI x1, vI 0, vI 1]) (L2 := [some (vR (some (10, 0))), some (vI x1), none, some (vR q2.1), w4, w5]) (st2 := []) (h2 := q2.2) (v := some (vI q9.1)) (h1 := q9.2) (st3 := [vI q9.1]) zm_X10_laws rfl rfl rfl rfl rfl zm_X10_within rfl (by omega) (ev_X10_within (by omega) hq) rfl ?_
  rcases ifc H with ⟨hc, H⟩ | ⟨hc, H⟩
  · refine zEv.iteT (L2 := [some (vR (some (10, 0))), some (vI x1), none, some (vR q2.1), w4, w5]) (st2 := []) (h2 := q9.2) zm_X10_laws rfl rfl rfl rfl (decide_eq_true hc) ?_
    cases H
    exact zEv.ret zm_X10_laws rfl rfl rfl rfl
  · refine zEv.iteF (L2 := [some (vR (some (10, 0))), some (vI x1), none, some (vR q2.1), w4, w5]) (st2 := []) (h2 := q9.2) zm_X10_laws rfl rfl rfl rfl (decide_eq_false hc) ?_
    rcases ifc H with ⟨hc, H⟩ | ⟨hc, H⟩
    · refine zEv.iteT (L2 := [some (vR (some (10, 0))), some (vI x1), none, some (vR q2.1), w4, w5]) (st2 := []) (h2 := q9.2) zm_X10_laws rfl rfl rfl rfl (nnT hc) ?_
      cases H
      exact zEv.ret zm_X10_laws rfl rfl rfl rfl
    · refine zEv.iteF (L2 := [some (vR (some (10, 0))), some (vI x1), none, some (vR q2.1), w4, w5]) (st2 := []) (h2 := q9.2) zm_X10_laws rfl rfl rfl rfl (nnF hc) ?_
      obtain ⟨hg, H⟩ := ifg H
      obtain ⟨q22, hq, H⟩ := bnd H
      refine zEv.call (k := 49) (as := [vR q2.1]) (L2 := [some (vR (some (10, 0))), some (vI x1), none, some (vR q2.1), w4, w5]) (st2 := []) (h2 := q9.2) (v := some (vI q22.1)) (h1 := q22.2) (st3 := [vI q22.1]) zm_X10_laws rfl (and2 (and2 hg).2).2 rfl hg rfl zm_X8_isMissing rfl (by omega) (ev_X8_isMissing (by omega) hq) rfl ?_
      rcases ifc H with ⟨hc, H⟩ | ⟨hc, H⟩
      · refine zEv.iteT (L2 := [some (vR (some (10, 0))), some (vI x1), none, some (vR q2.1), w4, w5]) (st2 := []) (h2 := q22.2) zm_X10_laws rfl rfl rfl rfl (decide_eq_true hc) ?_
        obtain ⟨q38, hq, H⟩ := bnd H
        refine zEv.call (k := 5) (as := [vR (some (1, (cnM q22.2 1)))]) (L2 := [some (vR (some (10, 0))), some (vI x1), none, some (vR q2.1), w4, w5]) (st2 := [vR (some (1, (cnM q22.2 1)))]) (h2 := (nwM q22.2 1 1)) (v := none) (h1 := q38) (st3 := [vR (some (1, (cnM q22.2 1)))]) zm_X10_laws rfl rfl rfl rfl rfl zm_X1_init rfl (by omega) (ev_X1_init (by omega) hq) rfl ?_
        obtain ⟨q50, hq, H⟩ := bnd H
        refine zEv.call (k := 30) (as := [vR (some (5, (cnM q38 5))), vR q2.1]) (L2 := [some (vR (some (10, 0))), some (vI x1), none, some (vR q2.1), some (vR (some (1, (cnM q22.2 1)))), w5]) (st2 := [vR (some (5, (cnM q38 5))), vR (some (1, (cnM q22.2 1)))]) (h2 := (nwM q38 5 3)) (v := none) (h1 := q50) (st3 := [vR (some (5, (cnM q38 5))), vR (some (1, (cnM q22.2 1)))]) zm_X10_laws rfl rfl rfl rfl rfl zm_X5_init rfl (by omega) (ev_X5_init (by omega) hq) rfl ?_
        obtain ⟨q53, hq, H⟩ := bnd H
        refine zEv.call (k := 4) (as := [vR (some (1, (cnM q22.2 1))), vR (some (5, (cnM q38 5)))]) (L2 := [some (vR (some (10, 0))), some (vI x1), none, some (vR q2.1), some (vR (some (1, (cnM q22.2 1)))), w5]) (st2 := []) (h2 := q50) (v := some (vI q53.1)) (h1 := q53.2) (st3 := [vI q53.1]) zm_X10_laws rfl rfl rfl rfl rfl zm_X0_readAll rfl (by omega) (ev_X0_readAll (by omega) hq) rfl ?_
        rcases ifc H with ⟨hc, H⟩ | ⟨hc, H⟩
        · refine zEv.iteT (L2 := [some (vR (some (10, 0))), some (vI x1), none, some (vR q2.1), some (vR (some (1, (cnM q22.2 1)))), some (vI q53.1)]) (st2 := []) (h2 := q53.2) zm_X10_laws rfl rfl rfl rfl (decide_eq_true hc) ?_
          obtain ⟨hg, H⟩ := ifg H
          cases H
          exact zEv.ret zm_X10_laws rfl hg rfl hg
        · refine zEv.iteF (L2 := [some (vR (some (10, 0))), some (vI x1), none, some (vR q2.1), some (vR (some (1, (cnM q22.2 1)))), some (vI q53.1)]) (st2 := []) (h2 := q53.2) zm_X10_laws rfl rfl rfl rfl (decide_eq_false hc) ?_
          cases H
          exact zEv.ret zm_X10_laws rfl rfl rfl rfl
      · refine zEv.iteF (L2 := [some (vR (some (10, 0))), some (vI x1), none, some (vR q2.1), w4, w5]) (st2 := []) (h2 := q22.2) zm_X10_laws rfl rfl rfl rfl (decide_eq_false hc) ?_
        obtain ⟨q30, hq, H⟩ := bnd H
        refine zEv.call (k := 105) (as := [vR (some (10, 0)), vI 1]) (L2 := [some (vR (some (10, 0))), some (vI x1), none, some (vR q2.1), w4, w5]) (st2 := []) (h2 := q22.2) (v := some (vI q30.1)) (h1 := q30.2) (st3 := [vI q30.1]) zm_X10_laws rfl rfl rfl rfl rfl zm_X10_found rfl (by omega) (ev_X10_found (by omega) hq) rfl ?_
        cases H
        exact zEv.ret zm_X10_laws rfl rfl rfl rfl
def f_X10_number (x1 : Int32) (x2 : Int32) (h : zM) : Option (Int32 × zM) := ((f_X10_within x1 0 1 h).bind fun q3 => (if q3.1 = 0 then (some ((-1), q3.2)) else ((f_X10_within x2 0 9 q3.2).bind fun q13 => (if ¬ q13.1 = 0 then (if (true && (true && (ixOk 2 x1 && (true && (decide (rR q13.2 10 0 4 = (some (30, 0))) && true))))) = true then (if (rR q13.2 30 0 (Int32.toNatClampNeg x1)) = none then ((f_X10_found 1 q13.2).bind fun q34 => (some (q34.1, q34.2))) else (if (true && (true && (true && (ixOk 10 x2 && (memN [1] (clR (rR q13.2 30 0 (Int32.toNatClampNeg x1))) && (decide (rR q13.2 (clR (rR q13.2 30 0 (Int32.toNatClampNeg x1))) (ixR (rR q13.2 30 0 (Int32.toNatClampNeg x1))) 0 = (some (20, (ixR (rR q13.2 30 0 (Int32.toNatClampNeg x1)))))) && true)))))) = true then ((f_X10_tell (rI q13.2 20 (ixR (rR q13.2 30 0 (Int32.toNatClampNeg x1))) (Int32.toNatClampNeg x2)) q13.2).bind fun q47 => (some (q47.1, q47.2))) else none)) else none) else (some ((-1), q13.2))))))
set_option maxRecDepth 20000 in
theorem ev_X10_number {d : Nat} (hd : 1 ≤ d) {w3 : Option zV} {x1 : Int32} {x2 : Int32} {h : zM} {r : Int32 × zM} (H : f_X10_number x1 x2 h = some r) : zEv zmt d 77 0 ([some (vR (some (10, 0))), some (vI x1), some (vI x2), w3], [], h, true) (some (vI r.1), r.2) := by
  obtain ⟨q3, hq, H⟩ := bnd H
  refine zEv.call (k := 100) (as := [vI x1, vI 0, vI 1]) (L2 := [some (vR (some (10, 0))), some (vI x1), some (vI x2), w3]) (st2 := []) (h2 := h) (v := some (vI q3.1)) (h1 := q3.2) (st3 := [vI q3.1]) zm_X10_number rfl rfl rfl rfl rfl zm_X10_within rfl (by omega) (ev_X10_within (by omega) hq) rfl ?_
  rcases ifc H with ⟨hc, H⟩ | ⟨hc, H⟩
  · refine zEv.iteT (L2 := [some (vR (some (10, 0))), some (vI x1), some (vI x2), w3]) (st2 := []) (h2 := q3.2) zm_X10_number rfl rfl rfl rfl (decide_eq_true hc) ?_
    cases H
    exact zEv.ret zm_X10_number rfl rfl rfl rfl
  · refine zEv.iteF (L2 := [some (vR (some (10, 0))), some (vI x1), some (vI x2), w3]) (st2 := []) (h2 := q3.2) zm_X10_number rfl rfl rfl rfl (decide_eq_false hc) ?_
    obtain ⟨q13, hq, H⟩ := bnd H
    refine zEv.call (k := 100) (as := [vI x2, vI 0, vI 9]) (L2 := [some (vR (some (10, 0))), some (vI x1), some (vI x2), w3]) (st2 := []) (h2 := q3.2) (v := some (vI q13.1)) (h1 := q13.2) (st3 := [vI q13.1]) zm_X10_number rfl rfl rfl rfl rfl zm_X10_within rfl (by omega) (ev_X10_within (by omega) hq) rfl ?_
    rcases ifc H with ⟨hc, H⟩ | ⟨hc, H⟩
    · refine zEv.iteT (L2 := [some (vR (some (10, 0))), some (vI x1), some (vI x2), w3]) (st2 := []) (h2 := q13.2) zm_X10_number rfl rfl rfl rfl (decide_eq_true hc) ?_
      obtain ⟨hg, H⟩ := ifg H
      rcases ifc H with ⟨hc, H⟩ | ⟨hc, H⟩
      · refine zEv.iteT (L2 := [some (vR (some (10, 0))), some (vI x1), some (vI x2), some (vR (rR q13.2 30 0 (Int32.toNatClampNeg x1)))]) (st2 := []) (h2 := q13.2) zm_X10_number rfl hg rfl hg (nnT hc) ?_
        obtain ⟨q34, hq, H⟩ := bnd H
        refine zEv.call (k := 105) (as := [vR (some (10, 0)), vI 1]) (L2 := [some (vR (some (10, 0))), some (vI x1), some (vI x2), some (vR (rR q13.2 30 0 (Int32.toNatClampNeg x1)))]) (st2 := []) (h2 := q13.2) (v := some (vI q34.1)) (h1 := q34.2) (st3 := [vI q34.1]) zm_X10_number rfl rfl rfl rfl rfl zm_X10_found rfl (by omega) (ev_X10_found (by omega) hq) rfl ?_
        refine zEv.loc (L2 := [some (vR (some (10, 0))), some (vI x1), some (vI x2), some (vR (rR q13.2 30 0 (Int32.toNatClampNeg x1)))]) (st2 := [vI q34.1]) (h2 := q34.2) zm_X10_number rfl rfl rfl rfl (fun h => (nomatch h)) ?_
        cases H
        exact zEv.ret zm_X10_number rfl rfl rfl rfl
      · refine zEv.iteF (L2 := [some (vR (some (10, 0))), some (vI x1), some (vI x2), some (vR (rR q13.2 30 0 (Int32.toNatClampNeg x1)))]) (st2 := []) (h2 := q13.2) zm_X10_number rfl hg rfl hg (nnF hc) ?_
        obtain ⟨hg, H⟩ := ifg H
        obtain ⟨q47, hq, H⟩ := bnd H
        refine zEv.call (k := 106) (as := [vR (some (10, 0)), vI (rI q13.2 20 (ixR (rR q13.2 30 0 (Int32.toNatClampNeg x1))) (Int32.toNatClampNeg x2))]) (L2 := [some (vR (some (10, 0))), some (vI x1), some (vI x2), some (vR (rR q13.2 30 0 (Int32.toNatClampNeg x1)))]) (st2 := []) (h2 := q13.2) (v := some (vI q47.1)) (h1 := q47.2) (st3 := [vI q47.1]) zm_X10_number rfl (and2 (and2 hg).2).2 rfl hg rfl zm_X10_tell rfl (by omega) (ev_X10_tell (by omega) hq) rfl ?_
        cases H
        exact zEv.ret zm_X10_number rfl rfl rfl rfl
    · refine zEv.iteF (L2 := [some (vR (some (10, 0))), some (vI x1), some (vI x2), w3]) (st2 := []) (h2 := q13.2) zm_X10_number rfl rfl rfl rfl (decide_eq_false hc) ?_
      cases H
      exact zEv.ret zm_X10_number rfl rfl rfl rfl
def f_X10_gives (x1 : Int32) (x2 : Int32) (h : zM) : Option (Int32 × zM) := ((f_X10_markAt x2 h).bind fun q2 => ((f_X10_within x1 0 1 q2.2).bind fun q9 => (if q9.1 = 0 then (some ((-1), q9.2)) else (if q2.1 = none then (some ((-1), q9.2)) else (if (true && (true && (ixOk 2 x1 && (true && (decide (rR q9.2 10 0 4 = (some (30, 0))) && true))))) = true then (if (rR q9.2 30 0 (Int32.toNatClampNeg x1)) = none then ((f_X10_found 1 q9.2).bind fun q36 => (some (q36.1, q36.2))) else (if (memN [1] (clR (rR q9.2 30 0 (Int32.toNatClampNeg x1))) && (true && true)) = true then ((f_X1_allGiven (rR q9.2 30 0 (Int32.toNatClampNeg x1)) q2.1 q9.2).bind fun q46 => ((f_X10_tell q46.1 q46.2).bind fun q49 => (some (q49.1, q49.2)))) else none)) else none)))))
set_option maxRecDepth 20000 in
theorem ev_X10_gives {d : Nat} (hd : 3 ≤ d) {w3 : Option zV} {w4 : Option zV} {x1 : Int32} {x2 : Int32} {h : zM} {r : Int32 × zM} (H : f_X10_gives x1 x2 h = some r) : zEv zmt d 78 0 ([some (vR (some (10, 0))), some (vI x1), some (vI x2), w3, w4], [], h, true) (some (vI r.1), r.2) := by
  obtain ⟨q2, hq, H⟩ := bnd H
  refine zEv.call (k := 104) (as := [vR (some (10, 0)), vI x2]) (L2 := [some (vR (some (10, 0))), some (vI x1), some (vI x2), w3, w4]) (st2 := []) (h2 := h) (v := some (vR q2.1)) (h1 := q2.2) (st3 := [vR q2.1]) zm_X10_gives rfl rfl rfl rfl rfl zm_X10_markAt rfl (by omega) (ev_X10_markAt (by omega) hq) rfl ?_
  obtain ⟨q9, hq, H⟩ := bnd H
  refine zEv.call (k := 100) (as := [vI x1, vI 0, vI 1]) (L2 := [some (vR (some (10, 0))), some (vI x1), none, some (vR q2.1), w4]) (st2 := []) (h2 := q2.2) (v := some (vI q9.1)) (h1 := q9.2) (st3 := [vI q9.1]) zm_X10_gives rfl rfl rfl rfl rfl zm_X10_within rfl (by omega) (ev_X10_within (by omega) hq) rfl ?_
  rcases ifc H with ⟨hc, H⟩ | ⟨hc, H⟩
  · refine zEv.iteT (L2 := [some (vR (some (10, 0))), some (vI x1), none, some (vR q2.1), w4]) (st2 := []) (h2 := q9.2) zm_X10_gives rfl rfl rfl rfl (decide_eq_true hc) ?_
    cases H
    exact zEv.ret zm_X10_gives rfl rfl rfl rfl
  · refine zEv.iteF (L2 := [some (vR (some (10, 0))), some (vI x1), none, some (vR q2.1), w4]) (st2 := []) (h2 := q9.2) zm_X10_gives rfl rfl rfl rfl (decide_eq_false hc) ?_
    rcases ifc H with ⟨hc, H⟩ | ⟨hc, H⟩
    · refine zEv.iteT (L2 := [some (vR (some (10, 0))), some (vI x1), none, some (vR q2.1), w4]) (st2 := []) (h2 := q9.2) zm_X10_gives rfl rfl rfl rfl (nnT hc) ?_
      cases H
      exact zEv.ret zm_X10_gives rfl rfl rfl rfl
    · refine zEv.iteF (L2 := [some (vR (some (10, 0))), some (vI x1), none, some (vR q2.1), w4]) (st2 := []) (h2 := q9.2) zm_X10_gives rfl rfl rfl rfl (nnF hc) ?_
      obtain ⟨hg, H⟩ := ifg H
      rcases ifc H with ⟨hc, H⟩ | ⟨hc, H⟩
      · refine zEv.iteT (L2 := [some (vR (some (10, 0))), some (vI x1), none, some (vR q2.1), some (vR (rR q9.2 30 0 (Int32.toNatClampNeg x1)))]) (st2 := []) (h2 := q9.2) zm_X10_gives rfl hg rfl hg (nnT hc) ?_
        obtain ⟨q36, hq, H⟩ := bnd H
        refine zEv.call (k := 105) (as := [vR (some (10, 0)), vI 1]) (L2 := [some (vR (some (10, 0))), some (vI x1), none, some (vR q2.1), some (vR (rR q9.2 30 0 (Int32.toNatClampNeg x1)))]) (st2 := []) (h2 := q9.2) (v := some (vI q36.1)) (h1 := q36.2) (st3 := [vI q36.1]) zm_X10_gives rfl rfl rfl rfl rfl zm_X10_found rfl (by omega) (ev_X10_found (by omega) hq) rfl ?_
        refine zEv.loc (L2 := [some (vR (some (10, 0))), some (vI x1), none, some (vR q2.1), some (vR (rR q9.2 30 0 (Int32.toNatClampNeg x1)))]) (st2 := [vI q36.1]) (h2 := q36.2) zm_X10_gives rfl rfl rfl rfl (fun h => (nomatch h)) ?_
        cases H
        exact zEv.ret zm_X10_gives rfl rfl rfl rfl
      · refine zEv.iteF (L2 := [some (vR (some (10, 0))), some (vI x1), none, some (vR q2.1), some (vR (rR q9.2 30 0 (Int32.toNatClampNeg x1)))]) (st2 := []) (h2 := q9.2) zm_X10_gives rfl hg rfl hg (nnF hc) ?_
        obtain ⟨hg, H⟩ := ifg H
        obtain ⟨q46, hq, H⟩ := bnd H
        refine zEv.call (k := 12) (as := [vR (rR q9.2 30 0 (Int32.toNatClampNeg x1)), vR q2.1]) (L2 := [some (vR (some (10, 0))), some (vI x1), none, some (vR q2.1), some (vR (rR q9.2 30 0 (Int32.toNatClampNeg x1)))]) (st2 := [vR (some (10, 0))]) (h2 := q9.2) (v := some (vI q46.1)) (h1 := q46.2) (st3 := [vI q46.1, vR (some (10, 0))]) zm_X10_gives rfl (and2 (and2 hg).2).2 rfl hg rfl zm_X1_allGiven rfl (by omega) (ev_X1_allGiven (by omega) hq) rfl ?_
        obtain ⟨q49, hq, H⟩ := bnd H
        refine zEv.call (k := 106) (as := [vR (some (10, 0)), vI q46.1]) (L2 := [some (vR (some (10, 0))), some (vI x1), none, some (vR q2.1), some (vR (rR q9.2 30 0 (Int32.toNatClampNeg x1)))]) (st2 := []) (h2 := q46.2) (v := some (vI q49.1)) (h1 := q49.2) (st3 := [vI q49.1]) zm_X10_gives rfl rfl rfl rfl rfl zm_X10_tell rfl (by omega) (ev_X10_tell (by omega) hq) rfl ?_
        cases H
        exact zEv.ret zm_X10_gives rfl rfl rfl rfl
def f_X10_home (x1 : Int32) (x2 : Int32) (h : zM) : Option (Int32 × zM) := ((f_X10_markAt x2 h).bind fun q2 => ((f_X10_within x1 0 1 q2.2).bind fun q9 => (if q9.1 = 0 then (some ((-1), q9.2)) else (if q2.1 = none then (some ((-1), q9.2)) else (if (true && (true && (ixOk 2 x1 && (true && (decide (rR q9.2 10 0 4 = (some (30, 0))) && true))))) = true then (if (rR q9.2 30 0 (Int32.toNatClampNeg x1)) = none then ((f_X10_found 1 q9.2).bind fun q36 => (some (q36.1, q36.2))) else (if (memN [1] (clR (rR q9.2 30 0 (Int32.toNatClampNeg x1))) && (true && true)) = true then ((f_X1_valueAtHome (rR q9.2 30 0 (Int32.toNatClampNeg x1)) q2.1 q9.2).bind fun q46 => ((f_X10_tell q46.1 q46.2).bind fun q49 => (some (q49.1, q49.2)))) else none)) else none)))))
set_option maxRecDepth 20000 in
theorem ev_X10_home {d : Nat} (hd : 4 ≤ d) {w3 : Option zV} {w4 : Option zV} {x1 : Int32} {x2 : Int32} {h : zM} {r : Int32 × zM} (H : f_X10_home x1 x2 h = some r) : zEv zmt d 79 0 ([some (vR (some (10, 0))), some (vI x1), some (vI x2), w3, w4], [], h, true) (some (vI r.1), r.2) := by
  obtain ⟨q2, hq, H⟩ := bnd H
  refine zEv.call (k := 104) (as := [vR (some (10, 0)), vI x2]) (L2 := [some (vR (some (10, 0))), some (vI x1), some (vI x2), w3, w4]) (st2 := []) (h2 := h) (v := some (vR q2.1)) (h1 := q2.2) (st3 := [vR q2.1]) zm_X10_home rfl rfl rfl rfl rfl zm_X10_markAt rfl (by omega) (ev_X10_markAt (by omega) hq) rfl ?_
  obtain ⟨q9, hq, H⟩ := bnd H
  refine zEv.call (k := 100) (as := [vI x1, vI 0, vI 1]) (L2 := [some (vR (some (10, 0))), some (vI x1), none, some (vR q2.1), w4]) (st2 := []) (h2 := q2.2) (v := some (vI q9.1)) (h1 := q9.2) (st3 := [vI q9.1]) zm_X10_home rfl rfl rfl rfl rfl zm_X10_within rfl (by omega) (ev_X10_within (by omega) hq) rfl ?_
  rcases ifc H with ⟨hc, H⟩ | ⟨hc, H⟩
  · refine zEv.iteT (L2 := [some (vR (some (10, 0))), some (vI x1), none, some (vR q2.1), w4]) (st2 := []) (h2 := q9.2) zm_X10_home rfl rfl rfl rfl (decide_eq_true hc) ?_
    cases H
    exact zEv.ret zm_X10_home rfl rfl rfl rfl
  · refine zEv.iteF (L2 := [some (vR (some (10, 0))), some (vI x1), none, some (vR q2.1), w4]) (st2 := []) (h2 := q9.2) zm_X10_home rfl rfl rfl rfl (decide_eq_false hc) ?_
    rcases ifc H with ⟨hc, H⟩ | ⟨hc, H⟩
    · refine zEv.iteT (L2 := [some (vR (some (10, 0))), some (vI x1), none, some (vR q2.1), w4]) (st2 := []) (h2 := q9.2) zm_X10_home rfl rfl rfl rfl (nnT hc) ?_
      cases H
      exact zEv.ret zm_X10_home rfl rfl rfl rfl
    · refine zEv.iteF (L2 := [some (vR (some (10, 0))), some (vI x1), none, some (vR q2.1), w4]) (st2 := []) (h2 := q9.2) zm_X10_home rfl rfl rfl rfl (nnF hc) ?_
      obtain ⟨hg, H⟩ := ifg H
      rcases ifc H with ⟨hc, H⟩ | ⟨hc, H⟩
      · refine zEv.iteT (L2 := [some (vR (some (10, 0))), some (vI x1), none, some (vR q2.1), some (vR (rR q9.2 30 0 (Int32.toNatClampNeg x1)))]) (st2 := []) (h2 := q9.2) zm_X10_home rfl hg rfl hg (nnT hc) ?_
        obtain ⟨q36, hq, H⟩ := bnd H
        refine zEv.call (k := 105) (as := [vR (some (10, 0)), vI 1]) (L2 := [some (vR (some (10, 0))), some (vI x1), none, some (vR q2.1), some (vR (rR q9.2 30 0 (Int32.toNatClampNeg x1)))]) (st2 := []) (h2 := q9.2) (v := some (vI q36.1)) (h1 := q36.2) (st3 := [vI q36.1]) zm_X10_home rfl rfl rfl rfl rfl zm_X10_found rfl (by omega) (ev_X10_found (by omega) hq) rfl ?_
        refine zEv.loc (L2 := [some (vR (some (10, 0))), some (vI x1), none, some (vR q2.1), some (vR (rR q9.2 30 0 (Int32.toNatClampNeg x1)))]) (st2 := [vI q36.1]) (h2 := q36.2) zm_X10_home rfl rfl rfl rfl (fun h => (nomatch h)) ?_
        cases H
        exact zEv.ret zm_X10_home rfl rfl rfl rfl
      · refine zEv.iteF (L2 := [some (vR (some (10, 0))), some (vI x1), none, some (vR q2.1), some (vR (rR q9.2 30 0 (Int32.toNatClampNeg x1)))]) (st2 := []) (h2 := q9.2) zm_X10_home rfl hg rfl hg (nnF hc) ?_
        obtain ⟨hg, H⟩ := ifg H
        obtain ⟨q46, hq, H⟩ := bnd H
        refine zEv.call (k := 13) (as := [vR (rR q9.2 30 0 (Int32.toNatClampNeg x1)), vR q2.1]) (L2 := [some (vR (some (10, 0))), some (vI x1), none, some (vR q2.1), some (vR (rR q9.2 30 0 (Int32.toNatClampNeg x1)))]) (st2 := [vR (some (10, 0))]) (h2 := q9.2) (v := some (vI q46.1)) (h1 := q46.2) (st3 := [vI q46.1, vR (some (10, 0))]) zm_X10_home rfl (and2 (and2 hg).2).2 rfl hg rfl zm_X1_valueAtHome rfl (by omega) (ev_X1_valueAtHome (by omega) hq) rfl ?_
        obtain ⟨q49, hq, H⟩ := bnd H
        refine zEv.call (k := 106) (as := [vR (some (10, 0)), vI q46.1]) (L2 := [some (vR (some (10, 0))), some (vI x1), none, some (vR q2.1), some (vR (rR q9.2 30 0 (Int32.toNatClampNeg x1)))]) (st2 := []) (h2 := q46.2) (v := some (vI q49.1)) (h1 := q49.2) (st3 := [vI q49.1]) zm_X10_home rfl rfl rfl rfl rfl zm_X10_tell rfl (by omega) (ev_X10_tell (by omega) hq) rfl ?_
        cases H
        exact zEv.ret zm_X10_home rfl rfl rfl rfl
def f_X10_span (x1 : Int32) (x2 : Int32) (h : zM) : Option (Int32 × zM) := ((f_X10_markAt x2 h).bind fun q2 => ((f_X10_within x1 0 1 q2.2).bind fun q9 => (if q9.1 = 0 then (some ((-1), q9.2)) else (if q2.1 = none then (some ((-1), q9.2)) else (if (true && (true && (ixOk 2 x1 && (true && (decide (rR q9.2 10 0 4 = (some (30, 0))) && true))))) = true then (if (rR q9.2 30 0 (Int32.toNatClampNeg x1)) = none then ((f_X10_found 1 q9.2).bind fun q36 => (some (q36.1, q36.2))) else (if (memN [1] (clR (rR q9.2 30 0 (Int32.toNatClampNeg x1))) && (true && true)) = true then ((f_X1_leastAtHome (rR q9.2 30 0 (Int32.toNatClampNeg x1)) q2.1 q9.2).bind fun q43 => ((f_X10_tell q43.1 q43.2).bind fun q51 => (if (memN [1] (clR (rR q9.2 30 0 (Int32.toNatClampNeg x1))) && (true && (true && true))) = true then ((f_X1_greatestAtHome (rR q9.2 30 0 (Int32.toNatClampNeg x1)) q2.1 q51.2).bind fun q58 => (some ((q58.1 - q43.1), q58.2))) else none))) else none)) else none)))))
set_option maxRecDepth 20000 in
theorem ev_X10_span {d : Nat} (hd : 5 ≤ d) {w3 : Option zV} {w4 : Option zV} {w5 : Option zV} {x1 : Int32} {x2 : Int32} {h : zM} {r : Int32 × zM} (H : f_X10_span x1 x2 h = some r) : zEv zmt d 80 0 ([some (vR (some (10, 0))), some (vI x1), some (vI x2), w3, w4, w5], [], h, true) (some (vI r.1), r.2) := by
  obtain ⟨q2, hq, H⟩ := bnd H
  refine zEv.call (k := 104) (as := [vR (some (10, 0)), vI x2]) (L2 := [some (vR (some (10, 0))), some (vI x1), some (vI x2), w3, w4, w5]) (st2 := []) (h2 := h) (v := some (vR q2.1)) (h1 := q2.2) (st3 := [vR q2.1]) zm_X10_span rfl rfl rfl rfl rfl zm_X10_markAt rfl (by omega) (ev_X10_markAt (by omega) hq) rfl ?_
  obtain ⟨q9, hq, H⟩ := bnd H
  refine zEv.call (k := 100) (as := [vI x1, vI 0, vI 1]) (L2 := [some (vR (some (10, 0))), some (vI x1), none, some (vR q2.1), w4, w5]) (st2 := []) (h2 := q2.2) (v := some (vI q9.1)) (h1 := q9.2) (st3 := [vI q9.1]) zm_X10_span rfl rfl rfl rfl rfl zm_X10_within rfl (by omega) (ev_X10_within (by omega) hq) rfl ?_
  rcases ifc H with ⟨hc, H⟩ | ⟨hc, H⟩
  · refine zEv.iteT (L2 := [some (vR (some (10, 0))), some (vI x1), none, some (vR q2.1), w4, w5]) (st2 := []) (h2 := q9.2) zm_X10_span rfl rfl rfl rfl (decide_eq_true hc) ?_
    cases H
    exact zEv.ret zm_X10_span rfl rfl rfl rfl
  · refine zEv.iteF (L2 := [some (vR (some (10, 0))), some (vI x1), none, some (vR q2.1), w4, w5]) (st2 := []) (h2 := q9.2) zm_X10_span rfl rfl rfl rfl (decide_eq_false hc) ?_
    rcases ifc H with ⟨hc, H⟩ | ⟨hc, H⟩
    · refine zEv.iteT (L2 := [some (vR (some (10, 0))), some (vI x1), none, some (vR q2.1), w4, w5]) (st2 := []) (h2 := q9.2) zm_X10_span rfl rfl rfl rfl (nnT hc) ?_
      cases H
      exact zEv.ret zm_X10_span rfl rfl rfl rfl
    · refine zEv.iteF (L2 := [some (vR (some (10, 0))), some (vI x1), none, some (vR q2.1), w4, w5]) (st2 := []) (h2 := q9.2) zm_X10_span rfl rfl rfl rfl (nnF hc) ?_
      obtain ⟨hg, H⟩ := ifg H
      rcases ifc H with ⟨hc, H⟩ | ⟨hc, H⟩
      · refine zEv.iteT (L2 := [some (vR (some (10, 0))), some (vI x1), none, some (vR q2.1), some (vR (rR q9.2 30 0 (Int32.toNatClampNeg x1))), w5]) (st2 := []) (h2 := q9.2) zm_X10_span rfl hg rfl hg (nnT hc) ?_
        obtain ⟨q36, hq, H⟩ := bnd H
        refine zEv.call (k := 105) (as := [vR (some (10, 0)), vI 1]) (L2 := [some (vR (some (10, 0))), some (vI x1), none, some (vR q2.1), some (vR (rR q9.2 30 0 (Int32.toNatClampNeg x1))), w5]) (st2 := []) (h2 := q9.2) (v := some (vI q36.1)) (h1 := q36.2) (st3 := [vI q36.1]) zm_X10_span rfl rfl rfl rfl rfl zm_X10_found rfl (by omega) (ev_X10_found (by omega) hq) rfl ?_
        cases H
        exact zEv.ret zm_X10_span rfl rfl rfl rfl
      · refine zEv.iteF (L2 := [some (vR (some (10, 0))), some (vI x1), none, some (vR q2.1), some (vR (rR q9.2 30 0 (Int32.toNatClampNeg x1))), w5]) (st2 := []) (h2 := q9.2) zm_X10_span rfl hg rfl hg (nnF hc) ?_
        obtain ⟨hg, H⟩ := ifg H
        obtain ⟨q43, hq, H⟩ := bnd H
        refine zEv.call (k := 14) (as := [vR (rR q9.2 30 0 (Int32.toNatClampNeg x1)), vR q2.1]) (L2 := [some (vR (some (10, 0))), some (vI x1), none, some (vR q2.1), some (vR (rR q9.2 30 0 (Int32.toNatClampNeg x1))), w5]) (st2 := []) (h2 := q9.2) (v := some (vI q43.1)) (h1 := q43.2) (st3 := [vI q43.1]) zm_X10_span rfl (and2 (and2 hg).2).2 rfl hg rfl zm_X1_leastAtHome rfl (by omega) (ev_X1_leastAtHome (by omega) hq) rfl ?_
        obtain ⟨q51, hq, H⟩ := bnd H
        refine zEv.call (k := 106) (as := [vR (some (10, 0)), vI q43.1]) (L2 := [some (vR (some (10, 0))), some (vI x1), none, some (vR q2.1), some (vR (rR q9.2 30 0 (Int32.toNatClampNeg x1))), some (vI q43.1)]) (st2 := []) (h2 := q43.2) (v := some (vI q51.1)) (h1 := q51.2) (st3 := [vI q51.1]) zm_X10_span rfl rfl rfl rfl rfl zm_X10_tell rfl (by omega) (ev_X10_tell (by omega) hq) rfl ?_
        obtain ⟨hg, H⟩ := ifg H
        obtain ⟨q58, hq, H⟩ := bnd H
        refine zEv.call (k := 15) (as := [vR (rR q9.2 30 0 (Int32.toNatClampNeg x1)), vR q2.1]) (L2 := [some (vR (some (10, 0))), some (vI x1), none, some (vR q2.1), some (vR (rR q9.2 30 0 (Int32.toNatClampNeg x1))), some (vI q43.1)]) (st2 := []) (h2 := q51.2) (v := some (vI q58.1)) (h1 := q58.2) (st3 := [vI q58.1]) zm_X10_span rfl (and2 (and2 hg).2).2 rfl hg rfl zm_X1_greatestAtHome rfl (by omega) (ev_X1_greatestAtHome (by omega) hq) rfl ?_
        cases H
        exact zEv.ret zm_X10_span rfl rfl rfl rfl
def f_X10_sure (x1 : Int32) (x2 : Int32) (x3 : Int32) (h : zM) : Option (Int32 × zM) := ((f_X10_markAt x2 h).bind fun q2 => ((f_X10_markAt x3 q2.2).bind fun q9 => ((f_X10_within x1 0 1 q9.2).bind fun q17 => (if q17.1 = 0 then (some ((-1), q17.2)) else (if q2.1 = none then (some ((-1), q17.2)) else (if q9.1 = none then (some ((-1), q17.2)) else (if (true && (true && (ixOk 2 x1 && (true && (decide (rR q17.2 10 0 4 = (some (30, 0))) && true))))) = true then (if (rR q17.2 30 0 (Int32.toNatClampNeg x1)) = none then ((f_X10_found 1 q17.2).bind fun q50 => (some (q50.1, q50.2))) else (if (memN [1] (clR (rR q17.2 30 0 (Int32.toNatClampNeg x1))) && (true && true)) = true then ((f_X1_leastAtHome (rR q17.2 30 0 (Int32.toNatClampNeg x1)) q2.1 q17.2).bind fun q58 => (if (memN [1] (clR (rR q17.2 30 0 (Int32.toNatClampNeg x1))) && (true && true)) = true then ((f_X1_greatestAtHome (rR q17.2 30 0 (Int32.toNatClampNeg x1)) q9.1 q58.2).bind fun q65 => (if q58.1 ≤ q65.1 then (some (0, q65.2)) else (some (1, q65.2)))) else none)) else none)) else none)))))))
set_option maxRecDepth 20000 in
theorem ev_X10_sure {d : Nat} (hd : 5 ≤ d) {w4 : Option zV} {w5 : Option zV} {w6 : Option zV} {x1 : Int32} {x2 : Int32} {x3 : Int32} {h : zM} {r : Int32 × zM} (H : f_X10_sure x1 x2 x3 h = some r) : zEv zmt d 81 0 ([some (vR (some (10, 0))), some (vI x1), some (vI x2), some (vI x3), w4, w5, w6], [], h, true) (some (vI r.1), r.2) := by
  obtain ⟨q2, hq, H⟩ := bnd H
  refine zEv.call (k := 104) (as := [vR (some (10, 0)), vI x2]) (L2 := [some (vR (some (10, 0))), some (vI x1), some (vI x2), some (vI x3), w4, w5, w6]) (st2 := []) (h2 := h) (v := some (vR q2.1)) (h1 := q2.2) (st3 := [vR q2.1]) zm_X10_sure rfl rfl rfl rfl rfl zm_X10_markAt rfl (by omega) (ev_X10_markAt (by omega) hq) rfl ?_
  obtain ⟨q9, hq, H⟩ := bnd H
  refine zEv.call (k := 104) (as := [vR (some (10, 0)), vI x3]) (L2 := [some (vR (some (10, 0))), some (vI x1), some (vI x2), some (vI x3), some (vR q2.1), w5, w6]) (st2 := []) (h2 := q2.2) (v := some (vR q9.1)) (h1 := q9.2) (st3 := [vR q9.1]) zm_X10_sure rfl rfl rfl rfl rfl zm_X10_markAt rfl (by omega) (ev_X10_markAt (by omega) hq) rfl ?_
  obtain ⟨q17, hq, H⟩ := bnd H
  refine zEv.call (k := 100) (as := [vI x1, vI 0, vI 1]) (L2 := [some (vR (some (10, 0))), some (vI x1), some (vI x2), some (vI x3), some (vR q2.1), some (vR q9.1), w6]) (st2 := []) (h2 := q9.2) (v := some (vI q17.1)) (h1 := q17.2) (st3 := [vI q17.1]) zm_X10_sure rfl rfl rfl rfl rfl zm_X10_within rfl (by omega) (ev_X10_within (by omega) hq) rfl ?_
  rcases ifc H with ⟨hc, H⟩ | ⟨hc, H⟩
  · refine zEv.iteT (L2 := [some (vR (some (10, 0))), some (vI x1), some (vI x2), some (vI x3), some (vR q2.1), some (vR q9.1), w6]) (st2 := []) (h2 := q17.2) zm_X10_sure rfl rfl rfl rfl (decide_eq_true hc) ?_
    cases H
    exact zEv.ret zm_X10_sure rfl rfl rfl rfl
  · refine zEv.iteF (L2 := [some (vR (some (10, 0))), some (vI x1), some (vI x2), some (vI x3), some (vR q2.1), some (vR q9.1), w6]) (st2 := []) (h2 := q17.2) zm_X10_sure rfl rfl rfl rfl (decide_eq_false hc) ?_
    rcases ifc H with ⟨hc, H⟩ | ⟨hc, H⟩
    · refine zEv.iteT (L2 := [some (vR (some (10, 0))), some (vI x1), some (vI x2), some (vI x3), some (vR q2.1), some (vR q9.1), w6]) (st2 := []) (h2 := q17.2) zm_X10_sure rfl rfl rfl rfl (nnT hc) ?_
      cases H
      exact zEv.ret zm_X10_sure rfl rfl rfl rfl
    · refine zEv.iteF (L2 := [some (vR (some (10, 0))), some (vI x1), some (vI x2), some (vI x3), some (vR q2.1), some (vR q9.1), w6]) (st2 := []) (h2 := q17.2) zm_X10_sure rfl rfl rfl rfl (nnF hc) ?_
      rcases ifc H with ⟨hc, H⟩ | ⟨hc, H⟩
      · refine zEv.iteT (L2 := [some (vR (some (10, 0))), some (vI x1), some (vI x2), some (vI x3), some (vR q2.1), some (vR q9.1), w6]) (st2 := []) (h2 := q17.2) zm_X10_sure rfl rfl rfl rfl (nnT hc) ?_
        cases H
        exact zEv.ret zm_X10_sure rfl rfl rfl rfl
      · refine zEv.iteF (L2 := [some (vR (some (10, 0))), some (vI x1), some (vI x2), some (vI x3), some (vR q2.1), some (vR q9.1), w6]) (st2 := []) (h2 := q17.2) zm_X10_sure rfl rfl rfl rfl (nnF hc) ?_
        obtain ⟨hg, H⟩ := ifg H
        rcases ifc H with ⟨hc, H⟩ | ⟨hc, H⟩
        · refine zEv.iteT (L2 := [some (vR (some (10, 0))), some (vI x1), some (vI x2), some (vI x3), some (vR q2.1), some (vR q9.1), some (vR (rR q17.2 30 0 (Int32.toNatClampNeg x1)))]) (st2 := []) (h2 := q17.2) zm_X10_sure rfl hg rfl hg (nnT hc) ?_
          obtain ⟨q50, hq, H⟩ := bnd H
          refine zEv.call (k := 105) (as := [vR (some (10, 0)), vI 1]) (L2 := [some (vR (some (10, 0))), some (vI x1), some (vI x2), some (vI x3), some (vR q2.1), some (vR q9.1), some (vR (rR q17.2 30 0 (Int32.toNatClampNeg x1)))]) (st2 := []) (h2 := q17.2) (v := some (vI q50.1)) (h1 := q50.2) (st3 := [vI q50.1]) zm_X10_sure rfl rfl rfl rfl rfl zm_X10_found rfl (by omega) (ev_X10_found (by omega) hq) rfl ?_
          cases H
          exact zEv.ret zm_X10_sure rfl rfl rfl rfl
        · refine zEv.iteF (L2 := [some (vR (some (10, 0))), some (vI x1), some (vI x2), some (vI x3), some (vR q2.1), some (vR q9.1), some (vR (rR q17.2 30 0 (Int32.toNatClampNeg x1)))]) (st2 := []) (h2 := q17.2) zm_X10_sure rfl hg rfl hg (nnF hc) ?_
          obtain ⟨hg, H⟩ := ifg H
          obtain ⟨q58, hq, H⟩ := bnd H
          refine zEv.call (k := 14) (as := [vR (rR q17.2 30 0 (Int32.toNatClampNeg x1)), vR q2.1]) (L2 := [some (vR (some (10, 0))), some (vI x1), some (vI x2), some (vI x3), some (vR q2.1), some (vR q9.1), some (vR (rR q17.2 30 0 (Int32.toNatClampNeg x1)))]) (st2 := []) (h2 := q17.2) (v := some (vI q58.1)) (h1 := q58.2) (st3 := [vI q58.1]) zm_X10_sure rfl (and2 (and2 hg).2).2 rfl hg rfl zm_X1_leastAtHome rfl (by omega) (ev_X1_leastAtHome (by omega) hq) rfl ?_
          obtain ⟨hg, H⟩ := ifg H
          obtain ⟨q65, hq, H⟩ := bnd H
          refine zEv.call (k := 15) (as := [vR (rR q17.2 30 0 (Int32.toNatClampNeg x1)), vR q9.1]) (L2 := [some (vR (some (10, 0))), some (vI x1), some (vI x2), some (vI x3), some (vR q2.1), some (vR q9.1), some (vR (rR q17.2 30 0 (Int32.toNatClampNeg x1)))]) (st2 := [vI q58.1]) (h2 := q58.2) (v := some (vI q65.1)) (h1 := q65.2) (st3 := [vI q65.1, vI q58.1]) zm_X10_sure rfl (and2 (and2 hg).2).2 rfl hg rfl zm_X1_greatestAtHome rfl (by omega) (ev_X1_greatestAtHome (by omega) hq) rfl ?_
          rcases ifc H with ⟨hc, H⟩ | ⟨hc, H⟩
          · refine zEv.iteT (L2 := [some (vR (some (10, 0))), some (vI x1), some (vI x2), some (vI x3), some (vR q2.1), some (vR q9.1), some (vR (rR q17.2 30 0 (Int32.toNatClampNeg x1)))]) (st2 := []) (h2 := q65.2) zm_X10_sure rfl rfl rfl rfl (decide_eq_true hc) ?_
            refine zEv.loc (L2 := [some (vR (some (10, 0))), some (vI x1), some (vI x2), some (vI x3), some (vR q2.1), some (vR q9.1), some (vR (rR q17.2 30 0 (Int32.toNatClampNeg x1)))]) (st2 := [vI 0]) (h2 := q65.2) zm_X10_sure rfl rfl rfl rfl (fun h => (nomatch h)) ?_
            cases H
            exact zEv.ret zm_X10_sure rfl rfl rfl rfl
          · refine zEv.iteF (L2 := [some (vR (some (10, 0))), some (vI x1), some (vI x2), some (vI x3), some (vR q2.1), some (vR q9.1), some (vR (rR q17.2 30 0 (Int32.toNatClampNeg x1)))]) (st2 := []) (h2 := q65.2) zm_X10_sure rfl rfl rfl rfl (decide_eq_false hc) ?_
            refine zEv.loc (L2 := [some (vR (some (10, 0))), some (vI x1), some (vI x2), some (vI x3), some (vR q2.1), some (vR q9.1), some (vR (rR q17.2 30 0 (Int32.toNatClampNeg x1)))]) (st2 := [vI 1]) (h2 := q65.2) zm_X10_sure rfl rfl rfl rfl (fun h => (nomatch h)) ?_
            cases H
            exact zEv.ret zm_X10_sure rfl rfl rfl rfl
def f_X10_turns (x1 : Int32) (x2 : Int32) (h : zM) : Option (Int32 × zM) := ((f_X10_within x1 0 1 h).bind fun q3 => (if q3.1 = 0 then (some ((-1), q3.2)) else ((f_X10_within x2 0 1 q3.2).bind fun q12 => (if ¬ q12.1 = 0 then (if (true && (true && (ixOk 2 x1 && (true && (decide (rR q12.2 10 0 4 = (some (30, 0))) && true))))) = true then (if (rR q12.2 30 0 (Int32.toNatClampNeg x1)) = none then ((f_X10_found 1 q12.2).bind fun q33 => (some (q33.1, q33.2))) else (if ¬ x2 = 0 then (if (memN [1] (clR (rR q12.2 30 0 (Int32.toNatClampNeg x1))) && (true && true)) = true then ((f_X1_firstBelowNought (rR q12.2 30 0 (Int32.toNatClampNeg x1)) 2 40 q12.2).bind fun q55 => (some (q55.1, q55.2))) else none) else (if (memN [1] (clR (rR q12.2 30 0 (Int32.toNatClampNeg x1))) && (true && true)) = true then ((f_X1_firstBelowNought (rR q12.2 30 0 (Int32.toNatClampNeg x1)) 0 60 q12.2).bind fun q45 => (some (q45.1, q45.2))) else none))) else none) else (some ((-1), q12.2))))))
set_option maxRecDepth 20000 in
theorem ev_X10_turns {d : Nat} (hd : 1 ≤ d) {w3 : Option zV} {x1 : Int32} {x2 : Int32} {h : zM} {r : Int32 × zM} (H : f_X10_turns x1 x2 h = some r) : zEv zmt d 82 0 ([some (vR (some (10, 0))), some (vI x1), some (vI x2), w3], [], h, true) (some (vI r.1), r.2) := by
  obtain ⟨q3, hq, H⟩ := bnd H
  refine zEv.call (k := 100) (as := [vI x1, vI 0, vI 1]) (L2 := [some (vR (some (10, 0))), some (vI x1), some (vI x2), w3]) (st2 := []) (h2 := h) (v := some (vI q3.1)) (h1 := q3.2) (st3 := [vI q3.1]) zm_X10_turns rfl rfl rfl rfl rfl zm_X10_within rfl (by omega) (ev_X10_within (by omega) hq) rfl ?_
  rcases ifc H with ⟨hc, H⟩ | ⟨hc, H⟩
  · refine zEv.iteT (L2 := [some (vR (some (10, 0))), some (vI x1), some (vI x2), w3]) (st2 := []) (h2 := q3.2) zm_X10_turns rfl rfl rfl rfl (decide_eq_true hc) ?_
    cases H
    exact zEv.ret zm_X10_turns rfl rfl rfl rfl
  · refine zEv.iteF (L2 := [some (vR (some (10, 0))), some (vI x1), some (vI x2), w3]) (st2 := []) (h2 := q3.2) zm_X10_turns rfl rfl rfl rfl (decide_eq_false hc) ?_
    obtain ⟨q12, hq, H⟩ := bnd H
    refine zEv.call (k := 100) (as := [vI x2, vI 0, vI 1]) (L2 := [some (vR (some (10, 0))), some (vI x1), some (vI x2), w3]) (st2 := []) (h2 := q3.2) (v := some (vI q12.1)) (h1 := q12.2) (st3 := [vI q12.1]) zm_X10_turns rfl rfl rfl rfl rfl zm_X10_within rfl (by omega) (ev_X10_within (by omega) hq) rfl ?_
    rcases ifc H with ⟨hc, H⟩ | ⟨hc, H⟩
    · refine zEv.iteT (L2 := [some (vR (some (10, 0))), some (vI x1), some (vI x2), w3]) (st2 := []) (h2 := q12.2) zm_X10_turns rfl rfl rfl rfl (decide_eq_true hc) ?_
      obtain ⟨hg, H⟩ := ifg H
      rcases ifc H with ⟨hc, H⟩ | ⟨hc, H⟩
      · refine zEv.iteT (L2 := [some (vR (some (10, 0))), some (vI x1), some (vI x2), some (vR (rR q12.2 30 0 (Int32.toNatClampNeg x1)))]) (st2 := []) (h2 := q12.2) zm_X10_turns rfl hg rfl hg (nnT hc) ?_
        obtain ⟨q33, hq, H⟩ := bnd H
        refine zEv.call (k := 105) (as := [vR (some (10, 0)), vI 1]) (L2 := [some (vR (some (10, 0))), some (vI x1), some (vI x2), some (vR (rR q12.2 30 0 (Int32.toNatClampNeg x1)))]) (st2 := []) (h2 := q12.2) (v := some (vI q33.1)) (h1 := q33.2) (st3 := [vI q33.1]) zm_X10_turns rfl rfl rfl rfl rfl zm_X10_found rfl (by omega) (ev_X10_found (by omega) hq) rfl ?_
        cases H
        exact zEv.ret zm_X10_turns rfl rfl rfl rfl
      · refine zEv.iteF (L2 := [some (vR (some (10, 0))), some (vI x1), some (vI x2), some (vR (rR q12.2 30 0 (Int32.toNatClampNeg x1)))]) (st2 := []) (h2 := q12.2) zm_X10_turns rfl hg rfl hg (nnF hc) ?_
        rcases ifc H with ⟨hc, H⟩ | ⟨hc, H⟩
        · refine zEv.iteT (L2 := [some (vR (some (10, 0))), some (vI x1), some (vI x2), some (vR (rR q12.2 30 0 (Int32.toNatClampNeg x1)))]) (st2 := []) (h2 := q12.2) zm_X10_turns rfl rfl rfl rfl (decide_eq_true hc) ?_
          obtain ⟨hg, H⟩ := ifg H
          obtain ⟨q55, hq, H⟩ := bnd H
          refine zEv.call (k := 16) (as := [vR (rR q12.2 30 0 (Int32.toNatClampNeg x1)), vI 2, vI 40]) (L2 := [some (vR (some (10, 0))), some (vI x1), some (vI x2), some (vR (rR q12.2 30 0 (Int32.toNatClampNeg x1)))]) (st2 := []) (h2 := q12.2) (v := some (vI q55.1)) (h1 := q55.2) (st3 := [vI q55.1]) zm_X10_turns rfl (and2 (and2 hg).2).2 rfl hg rfl zm_X1_firstBelowNought rfl (by omega) (ev_X1_firstBelowNought (by omega) hq) rfl ?_
          cases H
          exact zEv.ret zm_X10_turns rfl rfl rfl rfl
        · refine zEv.iteF (L2 := [some (vR (some (10, 0))), some (vI x1), some (vI x2), some (vR (rR q12.2 30 0 (Int32.toNatClampNeg x1)))]) (st2 := []) (h2 := q12.2) zm_X10_turns rfl rfl rfl rfl (decide_eq_false hc) ?_
          obtain ⟨hg, H⟩ := ifg H
          obtain ⟨q45, hq, H⟩ := bnd H
          refine zEv.call (k := 16) (as := [vR (rR q12.2 30 0 (Int32.toNatClampNeg x1)), vI 0, vI 60]) (L2 := [some (vR (some (10, 0))), some (vI x1), some (vI x2), some (vR (rR q12.2 30 0 (Int32.toNatClampNeg x1)))]) (st2 := []) (h2 := q12.2) (v := some (vI q45.1)) (h1 := q45.2) (st3 := [vI q45.1]) zm_X10_turns rfl (and2 (and2 hg).2).2 rfl hg rfl zm_X1_firstBelowNought rfl (by omega) (ev_X1_firstBelowNought (by omega) hq) rfl ?_
          refine zEv.loc (L2 := [some (vR (some (10, 0))), some (vI x1), some (vI x2), some (vR (rR q12.2 30 0 (Int32.toNatClampNeg x1)))]) (st2 := [vI q45.1]) (h2 := q45.2) zm_X10_turns rfl rfl rfl rfl (fun h => (nomatch h)) ?_
          cases H
          exact zEv.ret zm_X10_turns rfl rfl rfl rfl
    · refine zEv.iteF (L2 := [some (vR (some (10, 0))), some (vI x1), some (vI x2), w3]) (st2 := []) (h2 := q12.2) zm_X10_turns rfl rfl rfl rfl (decide_eq_false hc) ?_
      cases H
      exact zEv.ret zm_X10_turns rfl rfl rfl rfl
def f_X10_unlikeIn_121 (K90 : zR → zR → Int32 → Int32 → zM → Option (Int32 × zM)) (x0 : zR) (x1 : zR) (x2 : Int32) (x3 : Int32) (h : zM) : Option (Int32 × zM) := (K90 x0 x1 x2 (x3 + 1) h)
set_option maxRecDepth 20000 in
theorem ev_X10_unlikeIn_121 {d : Nat} (hd : 1 ≤ d) {K90 : zR → zR → Int32 → Int32 → zM → Option (Int32 × zM)} (hK90 : ∀ {x0 : zR} {x1 : zR} {x2 : Int32} {x3 : Int32} {h : zM} {r : Int32 × zM}, K90 x0 x1 x2 x3 h = some r → zEv zmt d 116 90 ([some (vR x0), some (vR x1), some (vI x2), some (vI x3)], [], h, true) (some (vI r.1), r.2)) {x0 : zR} {x1 : zR} {x2 : Int32} {x3 : Int32} {h : zM} {r : Int32 × zM} (H : f_X10_unlikeIn_121 K90 x0 x1 x2 x3 h = some r) : zEv zmt d 116 121 ([some (vR x0), some (vR x1), some (vI x2), some (vI x3)], [], h, true) (some (vI r.1), r.2) := by
  refine zEv.loc (L2 := [some (vR x0), some (vR x1), some (vI x2), some (vI (x3 + 1))]) (st2 := []) (h2 := h) zm_X10_unlikeIn rfl rfl rfl rfl (fun h => (nomatch h)) ?_
  exact hK90 H
def f_X10_unlikeIn_90 : Nat → zR → zR → Int32 → Int32 → zM → Option (Int32 × zM)
  | 0 => fun _ _ _ _ _ => none
  | k + 1 => fun x0 x1 x2 x3 h => (if 5 ≤ x3 then (some (x2, h)) else (if (memN [2] (clR x0) && (true && true)) = true then ((f_X2_measure x0 x3 h).bind fun q97 => (if (memN [2] (clR x1) && (true && true)) = true then ((f_X2_measure x1 x3 q97.2).bind fun q102 => (if q97.1 = q102.1 then (f_X10_unlikeIn_121 (f_X10_unlikeIn_90 k) x0 x1 x2 x3 q102.2) else (if x2 = (-9999) then (f_X10_unlikeIn_121 (f_X10_unlikeIn_90 k) x0 x1 x3 x3 q102.2) else (some ((-9999), q102.2))))) else none)) else none))
set_option maxRecDepth 20000 in
theorem ev_X10_unlikeIn_90 {d : Nat} (hd : 1 ≤ d) : ∀ (k : Nat) {x0 : zR} {x1 : zR} {x2 : Int32} {x3 : Int32} {h : zM} {r : Int32 × zM}, f_X10_unlikeIn_90 k x0 x1 x2 x3 h = some r → zEv zmt d 116 90 ([some (vR x0), some (vR x1), some (vI x2), some (vI x3)], [], h, true) (some (vI r.1), r.2) := by
  intro k
  induction k with
  | zero => intro x0 x1 x2 x3 h r H; cases H
  | succ k ih =>
    intro x0 x1 x2 x3 h r H
    rcases ifc H with ⟨hc, H⟩ | ⟨hc, H⟩
    · refine zEv.iteT (L2 := [some (vR x0), some (vR x1), some (vI x2), some (vI x3)]) (st2 := []) (h2 := h) zm_X10_unlikeIn rfl rfl rfl rfl (decide_eq_true hc) ?_
      cases H
      exact zEv.ret zm_X10_unlikeIn rfl rfl rfl rfl
    · refine zEv.iteF (L2 := [some (vR x0), some (vR x1), some (vI x2), some (vI x3)]) (st2 := []) (h2 := h) zm_X10_unlikeIn rfl rfl rfl rfl (decide_eq_false hc) ?_
      obtain ⟨hg, H⟩ := ifg H
      obtain ⟨q97, hq, H⟩ := bnd H
      refine zEv.call (k := 22) (as := [vR x0, vI x3]) (L2 := [some (vR x0), some (vR x1), some (vI x2), some (vI x3)]) (st2 := []) (h2 := h) (v := some (vI q97.1)) (h1 := q97.2) (st3 := [vI q97.1]) zm_X10_unlikeIn rfl (and2 (and2 hg).2).2 rfl hg rfl zm_X2_measure rfl (by omega) (ev_X2_measure (by omega) hq) rfl ?_
      obtain ⟨hg, H⟩ := ifg H
      obtain ⟨q102, hq, H⟩ := bnd H
      refine zEv.call (k := 22) (as := [vR x1, vI x3]) (L2 := [some (vR x0), some (vR x1), some (vI x2), some (vI x3)]) (st2 := [vI q97.1]) (h2 := q97.2) (v := some (vI q102.1)) (h1 := q102.2) (st3 := [vI q102.1, vI q97.1]) zm_X10_unlikeIn rfl (and2 (and2 hg).2).2 rfl hg rfl zm_X2_measure rfl (by omega) (ev_X2_measure (by omega) hq) rfl ?_
      rcases ifc H with ⟨hc, H⟩ | ⟨hc, H⟩
      · refine zEv.iteT (L2 := [some (vR x0), some (vR x1), some (vI x2), some (vI x3)]) (st2 := []) (h2 := q102.2) zm_X10_unlikeIn rfl rfl rfl rfl (decide_eq_true hc) ?_
        exact ev_X10_unlikeIn_121 (by omega) ih H
      · refine zEv.iteF (L2 := [some (vR x0), some (vR x1), some (vI x2), some (vI x3)]) (st2 := []) (h2 := q102.2) zm_X10_unlikeIn rfl rfl rfl rfl (decide_eq_false hc) ?_
        rcases ifc H with ⟨hc, H⟩ | ⟨hc, H⟩
        · refine zEv.iteT (L2 := [some (vR x0), some (vR x1), some (vI x2), some (vI x3)]) (st2 := []) (h2 := q102.2) zm_X10_unlikeIn rfl rfl rfl rfl (decide_eq_true hc) ?_
          refine zEv.loc (L2 := [some (vR x0), some (vR x1), some (vI x3), some (vI x3)]) (st2 := []) (h2 := q102.2) zm_X10_unlikeIn rfl rfl rfl rfl (fun h => (nomatch h)) ?_
          exact ev_X10_unlikeIn_121 (by omega) ih H
        · refine zEv.iteF (L2 := [some (vR x0), some (vR x1), some (vI x2), some (vI x3)]) (st2 := []) (h2 := q102.2) zm_X10_unlikeIn rfl rfl rfl rfl (decide_eq_false hc) ?_
          cases H
          exact zEv.ret zm_X10_unlikeIn rfl rfl rfl rfl
def f_X10_unlikeIn_77 (x0 : zR) (x1 : zR) (s0 : Int32) (s1 : Int32) (h : zM) : Option (Int32 × zM) := (if s0 = s1 then (f_X10_unlikeIn_90  1000 x0 x1 (-9999) 0 h) else (some ((-9999), h)))
set_option maxRecDepth 20000 in
theorem ev_X10_unlikeIn_77 {d : Nat} (hd : 1 ≤ d) {w2 : Option zV} {w3 : Option zV} {x0 : zR} {x1 : zR} {s0 : Int32} {s1 : Int32} {h : zM} {r : Int32 × zM} (H : f_X10_unlikeIn_77 x0 x1 s0 s1 h = some r) : zEv zmt d 116 77 ([some (vR x0), some (vR x1), w2, w3], [vI s1, vI s0], h, true) (some (vI r.1), r.2) := by
  rcases ifc H with ⟨hc, H⟩ | ⟨hc, H⟩
  · refine zEv.iteT (L2 := [some (vR x0), some (vR x1), w2, w3]) (st2 := []) (h2 := h) zm_X10_unlikeIn rfl rfl rfl rfl (decide_eq_true hc) ?_
    refine zEv.loc (L2 := [some (vR x0), some (vR x1), some (vI (-9999)), some (vI 0)]) (st2 := []) (h2 := h) zm_X10_unlikeIn rfl rfl rfl rfl (fun h => (nomatch h)) ?_
    exact ev_X10_unlikeIn_90 (by omega)  1000 H
  · refine zEv.iteF (L2 := [some (vR x0), some (vR x1), w2, w3]) (st2 := []) (h2 := h) zm_X10_unlikeIn rfl rfl rfl rfl (decide_eq_false hc) ?_
    cases H
    exact zEv.ret zm_X10_unlikeIn rfl rfl rfl rfl
def f_X10_unlikeIn_62 (x0 : zR) (x1 : zR) (s0 : Int32) (h : zM) : Option (Int32 × zM) := (if (memN [2] (clR x1) && true) = true then (if ¬ (rI h (clR x1) (ixR x1) 5) = (-9999) then (f_X10_unlikeIn_77  x0 x1 s0 0 h) else (f_X10_unlikeIn_77  x0 x1 s0 1 h)) else none)
set_option maxRecDepth 20000 in
theorem ev_X10_unlikeIn_62 {d : Nat} (hd : 1 ≤ d) {w2 : Option zV} {w3 : Option zV} {x0 : zR} {x1 : zR} {s0 : Int32} {h : zM} {r : Int32 × zM} (H : f_X10_unlikeIn_62 x0 x1 s0 h = some r) : zEv zmt d 116 62 ([some (vR x0), some (vR x1), w2, w3], [vI s0], h, true) (some (vI r.1), r.2) := by
  obtain ⟨hg, H⟩ := ifg H
  rcases ifc H with ⟨hc, H⟩ | ⟨hc, H⟩
  · refine zEv.iteT (L2 := [some (vR x0), some (vR x1), w2, w3]) (st2 := [vI s0]) (h2 := h) zm_X10_unlikeIn rfl hg rfl hg (decide_eq_true hc) ?_
    refine zEv.loc (L2 := [some (vR x0), some (vR x1), w2, w3]) (st2 := [vI 0, vI s0]) (h2 := h) zm_X10_unlikeIn rfl rfl rfl rfl (fun h => (nomatch h)) ?_
    exact ev_X10_unlikeIn_77 (by omega)  H
  · refine zEv.iteF (L2 := [some (vR x0), some (vR x1), w2, w3]) (st2 := [vI s0]) (h2 := h) zm_X10_unlikeIn rfl hg rfl hg (decide_eq_false hc) ?_
    refine zEv.loc (L2 := [some (vR x0), some (vR x1), w2, w3]) (st2 := [vI 1, vI s0]) (h2 := h) zm_X10_unlikeIn rfl rfl rfl rfl (fun h => (nomatch h)) ?_
    exact ev_X10_unlikeIn_77 (by omega)  H
def f_X10_unlikeIn (x0 : zR) (x1 : zR) (h : zM) : Option (Int32 × zM) := (if (memN [2] (clR x1) && (memN [2] (clR x0) && true)) = true then (if ¬ (rI h (clR x0) (ixR x0) 0) = (rI h (clR x1) (ixR x1) 0) then (some ((-9999), h)) else (if (memN [2] (clR x0) && true) = true then (if ¬ (rI h (clR x0) (ixR x0) 7) = 0 then (some ((-9999), h)) else (if (memN [2] (clR x1) && true) = true then (if ¬ (rI h (clR x1) (ixR x1) 7) = 0 then (some ((-9999), h)) else (if (true && (memN [2] (clR x1) && (memN [2] (clR x0) && true))) = true then (if (if 0 ≤ ((rI h (clR x0) (ixR x0) 3) - (rI h (clR x1) (ixR x1) 3)) then ((rI h (clR x0) (ixR x0) 3) - (rI h (clR x1) (ixR x1) 3)) else 0 - ((rI h (clR x0) (ixR x0) 3) - (rI h (clR x1) (ixR x1) 3))) < 365 then (if (memN [2] (clR x0) && true) = true then (if ¬ (rI h (clR x0) (ixR x0) 5) = (-9999) then (f_X10_unlikeIn_62  x0 x1 0 h) else (f_X10_unlikeIn_62  x0 x1 1 h)) else none) else (some ((-9999), h))) else none)) else none)) else none)) else none)
set_option maxRecDepth 20000 in
theorem ev_X10_unlikeIn {d : Nat} (hd : 1 ≤ d) {w2 : Option zV} {w3 : Option zV} {x0 : zR} {x1 : zR} {h : zM} {r : Int32 × zM} (H : f_X10_unlikeIn x0 x1 h = some r) : zEv zmt d 116 0 ([some (vR x0), some (vR x1), w2, w3], [], h, true) (some (vI r.1), r.2) := by
  obtain ⟨hg, H⟩ := ifg H
  rcases ifc H with ⟨hc, H⟩ | ⟨hc, H⟩
  · refine zEv.iteT (L2 := [some (vR x0), some (vR x1), w2, w3]) (st2 := []) (h2 := h) zm_X10_unlikeIn rfl hg rfl hg (decide_eq_true hc) ?_
    cases H
    exact zEv.ret zm_X10_unlikeIn rfl rfl rfl rfl
  · refine zEv.iteF (L2 := [some (vR x0), some (vR x1), w2, w3]) (st2 := []) (h2 := h) zm_X10_unlikeIn rfl hg rfl hg (decide_eq_false hc) ?_
    obtain ⟨hg, H⟩ := ifg H
    rcases ifc H with ⟨hc, H⟩ | ⟨hc, H⟩
    · refine zEv.iteT (L2 := [some (vR x0), some (vR x1), w2, w3]) (st2 := []) (h2 := h) zm_X10_unlikeIn rfl hg rfl hg (decide_eq_true hc) ?_
      cases H
      exact zEv.ret zm_X10_unlikeIn rfl rfl rfl rfl
    · refine zEv.iteF (L2 := [some (vR x0), some (vR x1), w2, w3]) (st2 := []) (h2 := h) zm_X10_unlikeIn rfl hg rfl hg (decide_eq_false hc) ?_
      obtain ⟨hg, H⟩ := ifg H
      rcases ifc H with ⟨hc, H⟩ | ⟨hc, H⟩
      · refine zEv.iteT (L2 := [some (vR x0), some (vR x1), w2, w3]) (st2 := []) (h2 := h) zm_X10_unlikeIn rfl hg rfl hg (decide_eq_true hc) ?_
        cases H
        exact zEv.ret zm_X10_unlikeIn rfl rfl rfl rfl
      · refine zEv.iteF (L2 := [some (vR x0), some (vR x1), w2, w3]) (st2 := []) (h2 := h) zm_X10_unlikeIn rfl hg rfl hg (decide_eq_false hc) ?_
        obtain ⟨hg, H⟩ := ifg H
        refine zEv.loc (L2 := [some (vR x0), some (vR x1), w2, w3]) (st2 := [vI (if 0 ≤ ((rI h (clR x0) (ixR x0) 3) - (rI h (clR x1) (ixR x1) 3)) then ((rI h (clR x0) (ixR x0) 3) - (rI h (clR x1) (ixR x1) 3)) else 0 - ((rI h (clR x0) (ixR x0) 3) - (rI h (clR x1) (ixR x1) 3)))]) (h2 := h) zm_X10_unlikeIn rfl (and2 hg).2 rfl hg (fun _ => by omega) ?_
        rcases ifc H with ⟨hc, H⟩ | ⟨hc, H⟩
        · refine zEv.iteT (L2 := [some (vR x0), some (vR x1), w2, w3]) (st2 := []) (h2 := h) zm_X10_unlikeIn rfl rfl rfl rfl (decide_eq_true hc) ?_
          obtain ⟨hg, H⟩ := ifg H
          rcases ifc H with ⟨hc, H⟩ | ⟨hc, H⟩
          · refine zEv.iteT (L2 := [some (vR x0), some (vR x1), w2, w3]) (st2 := []) (h2 := h) zm_X10_unlikeIn rfl hg rfl hg (decide_eq_true hc) ?_
            refine zEv.loc (L2 := [some (vR x0), some (vR x1), w2, w3]) (st2 := [vI 0]) (h2 := h) zm_X10_unlikeIn rfl rfl rfl rfl (fun h => (nomatch h)) ?_
            exact ev_X10_unlikeIn_62 (by omega)  H
          · refine zEv.iteF (L2 := [some (vR x0), some (vR x1), w2, w3]) (st2 := []) (h2 := h) zm_X10_unlikeIn rfl hg rfl hg (decide_eq_false hc) ?_
            refine zEv.loc (L2 := [some (vR x0), some (vR x1), w2, w3]) (st2 := [vI 1]) (h2 := h) zm_X10_unlikeIn rfl rfl rfl rfl (fun h => (nomatch h)) ?_
            exact ev_X10_unlikeIn_62 (by omega)  H
        · refine zEv.iteF (L2 := [some (vR x0), some (vR x1), w2, w3]) (st2 := []) (h2 := h) zm_X10_unlikeIn rfl rfl rfl rfl (decide_eq_false hc) ?_
          cases H
          exact zEv.ret zm_X10_unlikeIn rfl rfl rfl rfl
def f_X10_pairs_85 (K20 : Int32 → Int32 → Int32 → Int32 → zM → Option (Int32 × zM)) (K35 : Int32 → Int32 → Int32 → Int32 → Int32 → zM → Option (Int32 × zM)) (x1 : Int32) (x2 : Int32) (x3 : Int32) (x4 : Int32) (x5 : Int32) (h : zM) : Option (Int32 × zM) := (K35 x1 x2 x3 x4 (x5 + 1) h)
set_option maxRecDepth 20000 in
theorem ev_X10_pairs_85 {d : Nat} (hd : 2 ≤ d) {K20 : Int32 → Int32 → Int32 → Int32 → zM → Option (Int32 × zM)} (hK20 : ∀ {w5 : Option zV} {x1 : Int32} {x2 : Int32} {x3 : Int32} {x4 : Int32} {h : zM} {r : Int32 × zM}, K20 x1 x2 x3 x4 h = some r → zEv zmt d 83 20 ([some (vR (some (10, 0))), some (vI x1), some (vI x2), some (vI x3), some (vI x4), w5], [], h, true) (some (vI r.1), r.2)) {K35 : Int32 → Int32 → Int32 → Int32 → Int32 → zM → Option (Int32 × zM)} (hK35 : ∀ {x1 : Int32} {x2 : Int32} {x3 : Int32} {x4 : Int32} {x5 : Int32} {h : zM} {r : Int32 × zM}, K35 x1 x2 x3 x4 x5 h = some r → zEv zmt d 83 35 ([some (vR (some (10, 0))), some (vI x1), some (vI x2), some (vI x3), some (vI x4), some (vI x5)], [], h, true) (some (vI r.1), r.2)) {x1 : Int32} {x2 : Int32} {x3 : Int32} {x4 : Int32} {x5 : Int32} {h : zM} {r : Int32 × zM} (H : f_X10_pairs_85 K20 K35 x1 x2 x3 x4 x5 h = some r) : zEv zmt d 83 85 ([some (vR (some (10, 0))), some (vI x1), some (vI x2), some (vI x3), some (vI x4), some (vI x5)], [], h, true) (some (vI r.1), r.2) := by
  refine zEv.loc (L2 := [some (vR (some (10, 0))), some (vI x1), some (vI x2), some (vI x3), some (vI x4), some (vI (x5 + 1))]) (st2 := []) (h2 := h) zm_X10_pairs rfl rfl rfl rfl (fun h => (nomatch h)) ?_
  exact hK35 H
def f_X10_pairs_81 (K20 : Int32 → Int32 → Int32 → Int32 → zM → Option (Int32 × zM)) (K35 : Int32 → Int32 → Int32 → Int32 → Int32 → zM → Option (Int32 × zM)) (x1 : Int32) (x2 : Int32) (x4 : Int32) (x5 : Int32) (s0 : Int32) (h : zM) : Option (Int32 × zM) := (f_X10_pairs_85 K20 K35 x1 (x2 + 1) s0 x4 x5 h)
set_option maxRecDepth 20000 in
theorem ev_X10_pairs_81 {d : Nat} (hd : 2 ≤ d) {K20 : Int32 → Int32 → Int32 → Int32 → zM → Option (Int32 × zM)} (hK20 : ∀ {w5 : Option zV} {x1 : Int32} {x2 : Int32} {x3 : Int32} {x4 : Int32} {h : zM} {r : Int32 × zM}, K20 x1 x2 x3 x4 h = some r → zEv zmt d 83 20 ([some (vR (some (10, 0))), some (vI x1), some (vI x2), some (vI x3), some (vI x4), w5], [], h, true) (some (vI r.1), r.2)) {K35 : Int32 → Int32 → Int32 → Int32 → Int32 → zM → Option (Int32 × zM)} (hK35 : ∀ {x1 : Int32} {x2 : Int32} {x3 : Int32} {x4 : Int32} {x5 : Int32} {h : zM} {r : Int32 × zM}, K35 x1 x2 x3 x4 x5 h = some r → zEv zmt d 83 35 ([some (vR (some (10, 0))), some (vI x1), some (vI x2), some (vI x3), some (vI x4), some (vI x5)], [], h, true) (some (vI r.1), r.2)) {w3 : Option zV} {x1 : Int32} {x2 : Int32} {x4 : Int32} {x5 : Int32} {s0 : Int32} {h : zM} {r : Int32 × zM} (H : f_X10_pairs_81 K20 K35 x1 x2 x4 x5 s0 h = some r) : zEv zmt d 83 81 ([some (vR (some (10, 0))), some (vI x1), some (vI x2), w3, some (vI x4), some (vI x5)], [vI s0], h, true) (some (vI r.1), r.2) := by
  refine zEv.loc (L2 := [some (vR (some (10, 0))), some (vI x1), some (vI (x2 + 1)), some (vI s0), some (vI x4), some (vI x5)]) (st2 := []) (h2 := h) zm_X10_pairs rfl rfl rfl rfl (fun h => (nomatch h)) ?_
  exact ev_X10_pairs_85 (by omega) hK20 hK35 H
def f_X10_pairs_35 (K20 : Int32 → Int32 → Int32 → Int32 → zM → Option (Int32 × zM)) : Nat → Int32 → Int32 → Int32 → Int32 → Int32 → zM → Option (Int32 × zM)
  | 0 => fun _ _ _ _ _ _ => none
  | k + 1 => fun x1 x2 x3 x4 x5 h => (if (rI h 10 0 10) ≤ x5 then (K20 x1 x2 x3 (x4 + 1) h) else (if (true && (true && (ixOk 40 x5 && (true && (decide (rR h 10 0 3 = (some (29, 0))) && (true && (ixOk 40 x4 && (true && (decide (rR h 10 0 3 = (some (29, 0))) && true))))))))) = true then ((f_X10_unlikeIn (rR h 29 0 (Int32.toNatClampNeg x4)) (rR h 29 0 (Int32.toNatClampNeg x5)) h).bind fun q58 => (if ¬ q58.1 = x1 then (f_X10_pairs_85 K20 (f_X10_pairs_35 K20 k) x1 x2 x3 x4 x5 q58.2) else (if ¬ x2 = 0 then (f_X10_pairs_81 K20 (f_X10_pairs_35 K20 k) x1 x2 x4 x5 x3 q58.2) else (f_X10_pairs_81 K20 (f_X10_pairs_35 K20 k) x1 x2 x4 x5 ((100 * x4) + x5) q58.2)))) else none))
set_option maxRecDepth 20000 in
theorem ev_X10_pairs_35 {d : Nat} (hd : 2 ≤ d) {K20 : Int32 → Int32 → Int32 → Int32 → zM → Option (Int32 × zM)} (hK20 : ∀ {w5 : Option zV} {x1 : Int32} {x2 : Int32} {x3 : Int32} {x4 : Int32} {h : zM} {r : Int32 × zM}, K20 x1 x2 x3 x4 h = some r → zEv zmt d 83 20 ([some (vR (some (10, 0))), some (vI x1), some (vI x2), some (vI x3), some (vI x4), w5], [], h, true) (some (vI r.1), r.2)) : ∀ (k : Nat) {x1 : Int32} {x2 : Int32} {x3 : Int32} {x4 : Int32} {x5 : Int32} {h : zM} {r : Int32 × zM}, f_X10_pairs_35 K20 k x1 x2 x3 x4 x5 h = some r → zEv zmt d 83 35 ([some (vR (some (10, 0))), some (vI x1), some (vI x2), some (vI x3), some (vI x4), some (vI x5)], [], h, true) (some (vI r.1), r.2) := by
  intro k
  induction k with
  | zero => intro x1 x2 x3 x4 x5 h r H; cases H
  | succ k ih =>
    intro x1 x2 x3 x4 x5 h r H
    rcases ifc H with ⟨hc, H⟩ | ⟨hc, H⟩
    · refine zEv.iteT (L2 := [some (vR (some (10, 0))), some (vI x1), some (vI x2), some (vI x3), some (vI x4), some (vI x5)]) (st2 := []) (h2 := h) zm_X10_pairs rfl rfl rfl rfl (decide_eq_true hc) ?_
      refine zEv.loc (L2 := [some (vR (some (10, 0))), some (vI x1), some (vI x2), some (vI x3), some (vI (x4 + 1)), some (vI x5)]) (st2 := []) (h2 := h) zm_X10_pairs rfl rfl rfl rfl (fun h => (nomatch h)) ?_
      exact hK20 H
    · refine zEv.iteF (L2 := [some (vR (some (10, 0))), some (vI x1), some (vI x2), some (vI x3), some (vI x4), some (vI x5)]) (st2 := []) (h2 := h) zm_X10_pairs rfl rfl rfl rfl (decide_eq_false hc) ?_
      obtain ⟨hg, H⟩ := ifg H
      obtain ⟨q58, hq, H⟩ := bnd H
      refine zEv.call (k := 116) (as := [vR (rR h 29 0 (Int32.toNatClampNeg x4)), vR (rR h 29 0 (Int32.toNatClampNeg x5))]) (L2 := [some (vR (some (10, 0))), some (vI x1), some (vI x2), some (vI x3), some (vI x4), some (vI x5)]) (st2 := []) (h2 := h) (v := some (vI q58.1)) (h1 := q58.2) (st3 := [vI q58.1]) zm_X10_pairs rfl (and2 hg).2 rfl hg rfl zm_X10_unlikeIn rfl (by omega) (ev_X10_unlikeIn (by omega) hq) rfl ?_
      rcases ifc H with ⟨hc, H⟩ | ⟨hc, H⟩
      · refine zEv.iteT (L2 := [some (vR (some (10, 0))), some (vI x1), some (vI x2), some (vI x3), some (vI x4), some (vI x5)]) (st2 := []) (h2 := q58.2) zm_X10_pairs rfl rfl rfl rfl (decide_eq_true hc) ?_
        exact ev_X10_pairs_85 (by omega) hK20 ih H
      · refine zEv.iteF (L2 := [some (vR (some (10, 0))), some (vI x1), some (vI x2), some (vI x3), some (vI x4), some (vI x5)]) (st2 := []) (h2 := q58.2) zm_X10_pairs rfl rfl rfl rfl (decide_eq_false hc) ?_
        rcases ifc H with ⟨hc, H⟩ | ⟨hc, H⟩
        · refine zEv.iteT (L2 := [some (vR (some (10, 0))), some (vI x1), some (vI x2), some (vI x3), some (vI x4), some (vI x5)]) (st2 := []) (h2 := q58.2) zm_X10_pairs rfl rfl rfl rfl (decide_eq_true hc) ?_
          refine zEv.loc (L2 := [some (vR (some (10, 0))), some (vI x1), some (vI x2), some (vI x3), some (vI x4), some (vI x5)]) (st2 := [vI x3]) (h2 := q58.2) zm_X10_pairs rfl rfl rfl rfl (fun h => (nomatch h)) ?_
          exact ev_X10_pairs_81 (by omega) hK20 ih H
        · refine zEv.iteF (L2 := [some (vR (some (10, 0))), some (vI x1), some (vI x2), some (vI x3), some (vI x4), some (vI x5)]) (st2 := []) (h2 := q58.2) zm_X10_pairs rfl rfl rfl rfl (decide_eq_false hc) ?_
          refine zEv.loc (L2 := [some (vR (some (10, 0))), some (vI x1), some (vI x2), some (vI x3), some (vI x4), some (vI x5)]) (st2 := [vI ((100 * x4) + x5)]) (h2 := q58.2) zm_X10_pairs rfl rfl rfl rfl (fun h => (nomatch h)) ?_
          exact ev_X10_pairs_81 (by omega) hK20 ih H
def f_X10_pairs_20 : Nat → Int32 → Int32 → Int32 → Int32 → zM → Option (Int32 × zM)
  | 0 => fun _ _ _ _ _ => none
  | k + 1 => fun x1 x2 x3 x4 h => (if (rI h 10 0 10) ≤ x4 then ((f_X10_tell x3 h).bind fun q99 => (some (x2, q99.2))) else (f_X10_pairs_35 (f_X10_pairs_20 k) 1000 x1 x2 x3 x4 (x4 + 1) h))
set_option maxRecDepth 20000 in
theorem ev_X10_pairs_20 {d : Nat} (hd : 2 ≤ d) : ∀ (k : Nat) {w5 : Option zV} {x1 : Int32} {x2 : Int32} {x3 : Int32} {x4 : Int32} {h : zM} {r : Int32 × zM}, f_X10_pairs_20 k x1 x2 x3 x4 h = some r → zEv zmt d 83 20 ([some (vR (some (10, 0))), some (vI x1), some (vI x2), some (vI x3), some (vI x4), w5], [], h, true) (some (vI r.1), r.2) := by
  intro k
  induction k with
  | zero => intro w5 x1 x2 x3 x4 h r H; cases H
  | succ k ih =>
    intro w5 x1 x2 x3 x4 h r H
    rcases ifc H with ⟨hc, H⟩ | ⟨hc, H⟩
    · refine zEv.iteT (L2 := [some (vR (some (10, 0))), some (vI x1), some (vI x2), some (vI x3), some (vI x4), w5]) (st2 := []) (h2 := h) zm_X10_pairs rfl rfl rfl rfl (decide_eq_true hc) ?_
      obtain ⟨q99, hq, H⟩ := bnd H
      refine zEv.call (k := 106) (as := [vR (some (10, 0)), vI x3]) (L2 := [some (vR (some (10, 0))), some (vI x1), some (vI x2), some (vI x3), some (vI x4), w5]) (st2 := []) (h2 := h) (v := some (vI q99.1)) (h1 := q99.2) (st3 := [vI q99.1]) zm_X10_pairs rfl rfl rfl rfl rfl zm_X10_tell rfl (by omega) (ev_X10_tell (by omega) hq) rfl ?_
      cases H
      exact zEv.ret zm_X10_pairs rfl rfl rfl rfl
    · refine zEv.iteF (L2 := [some (vR (some (10, 0))), some (vI x1), some (vI x2), some (vI x3), some (vI x4), w5]) (st2 := []) (h2 := h) zm_X10_pairs rfl rfl rfl rfl (decide_eq_false hc) ?_
      refine zEv.loc (L2 := [some (vR (some (10, 0))), some (vI x1), some (vI x2), some (vI x3), some (vI x4), some (vI (x4 + 1))]) (st2 := []) (h2 := h) zm_X10_pairs rfl rfl rfl rfl (fun h => (nomatch h)) ?_
      exact ev_X10_pairs_35 (by omega) ih 1000 H
def f_X10_pairs (x1 : Int32) (h : zM) : Option (Int32 × zM) := ((f_X10_within x1 0 4 h).bind fun q3 => (if ¬ q3.1 = 0 then (f_X10_pairs_20  1000 x1 0 (-9999) 0 q3.2) else (some ((-1), q3.2))))
set_option maxRecDepth 20000 in
theorem ev_X10_pairs {d : Nat} (hd : 2 ≤ d) {w2 : Option zV} {w3 : Option zV} {w4 : Option zV} {w5 : Option zV} {x1 : Int32} {h : zM} {r : Int32 × zM} (H : f_X10_pairs x1 h = some r) : zEv zmt d 83 0 ([some (vR (some (10, 0))), some (vI x1), w2, w3, w4, w5], [], h, true) (some (vI r.1), r.2) := by
  obtain ⟨q3, hq, H⟩ := bnd H
  refine zEv.call (k := 100) (as := [vI x1, vI 0, vI 4]) (L2 := [some (vR (some (10, 0))), some (vI x1), w2, w3, w4, w5]) (st2 := []) (h2 := h) (v := some (vI q3.1)) (h1 := q3.2) (st3 := [vI q3.1]) zm_X10_pairs rfl rfl rfl rfl rfl zm_X10_within rfl (by omega) (ev_X10_within (by omega) hq) rfl ?_
  rcases ifc H with ⟨hc, H⟩ | ⟨hc, H⟩
  · refine zEv.iteT (L2 := [some (vR (some (10, 0))), some (vI x1), w2, w3, w4, w5]) (st2 := []) (h2 := q3.2) zm_X10_pairs rfl rfl rfl rfl (decide_eq_true hc) ?_
    refine zEv.loc (L2 := [some (vR (some (10, 0))), some (vI x1), some (vI 0), some (vI (-9999)), some (vI 0), w5]) (st2 := []) (h2 := q3.2) zm_X10_pairs rfl rfl rfl rfl (fun h => (nomatch h)) ?_
    exact ev_X10_pairs_20 (by omega)  1000 H
  · refine zEv.iteF (L2 := [some (vR (some (10, 0))), some (vI x1), w2, w3, w4, w5]) (st2 := []) (h2 := q3.2) zm_X10_pairs rfl rfl rfl rfl (decide_eq_false hc) ?_
    cases H
    exact zEv.ret zm_X10_pairs rfl rfl rfl rfl
def f_X10_commonDivisor_9 : Nat → Int64 → Int64 → Int32 → zM → Option (Int64 × zM)
  | 0 => fun _ _ _ _ => none
  | k + 1 => fun x4 x6 x8 h => (if 100 ≤ x8 then (some (x4, h)) else (if (lg_cmp x6 0) = 0 then (some (x4, h)) else (if (true && (true && (true && (!decide (x6 = 0) && true)))) = true then (f_X10_commonDivisor_9 k x6 (x4 - x4 / x6 * x6) (x8 + 1) h) else none)))
set_option maxRecDepth 20000 in
theorem ev_X10_commonDivisor_9 {d : Nat} (hd : 0 ≤ d) : ∀ (k : Nat) {w0 : Option zV} {w1 : Option zV} {w2 : Option zV} {w3 : Option zV} {w5 : Option zV} {w7 : Option zV} {w9 : Option zV} {w10 : Option zV} {x4 : Int64} {x6 : Int64} {x8 : Int32} {h : zM} {r : Int64 × zM}, f_X10_commonDivisor_9 k x4 x6 x8 h = some r → zEv zmt d 110 9 ([w0, w1, w2, w3, some (vL x4), w5, some (vL x6), w7, some (vI x8), w9, w10], [], h, true) (some (vL r.1), r.2) := by
  intro k
  induction k with
  | zero => intro w0 w1 w2 w3 w5 w7 w9 w10 x4 x6 x8 h r H; cases H
  | succ k ih =>
    intro w0 w1 w2 w3 w5 w7 w9 w10 x4 x6 x8 h r H
    rcases ifc H with ⟨hc, H⟩ | ⟨hc, H⟩
    · refine zEv.iteT (L2 := [w0, w1, w2, w3, some (vL x4), w5, some (vL x6), w7, some (vI x8), w9, w10]) (st2 := []) (h2 := h) zm_X10_commonDivisor rfl rfl rfl rfl (decide_eq_true hc) ?_
      cases H
      exact zEv.ret zm_X10_commonDivisor rfl rfl rfl rfl
    · refine zEv.iteF (L2 := [w0, w1, w2, w3, some (vL x4), w5, some (vL x6), w7, some (vI x8), w9, w10]) (st2 := []) (h2 := h) zm_X10_commonDivisor rfl rfl rfl rfl (decide_eq_false hc) ?_
      rcases ifc H with ⟨hc, H⟩ | ⟨hc, H⟩
      · refine zEv.iteT (L2 := [w0, w1, w2, w3, some (vL x4), w5, some (vL x6), w7, some (vI x8), w9, w10]) (st2 := []) (h2 := h) zm_X10_commonDivisor rfl rfl rfl rfl (decide_eq_true hc) ?_
        cases H
        exact zEv.ret zm_X10_commonDivisor rfl rfl rfl rfl
      · refine zEv.iteF (L2 := [w0, w1, w2, w3, some (vL x4), w5, some (vL x6), w7, some (vI x8), w9, w10]) (st2 := []) (h2 := h) zm_X10_commonDivisor rfl rfl rfl rfl (decide_eq_false hc) ?_
        obtain ⟨hg, H⟩ := ifg H
        refine zEv.loc (L2 := [w0, w1, w2, none, some (vL x6), none, some (vL (x4 - x4 / x6 * x6)), none, some (vI (x8 + 1)), some (vL (x4 - x4 / x6 * x6)), none]) (st2 := []) (h2 := h) zm_X10_commonDivisor rfl hg rfl hg (fun h => (nomatch h)) ?_
        exact ih H
def f_X10_commonDivisor (x0 : Int64) (x2 : Int64) (h : zM) : Option (Int64 × zM) := (f_X10_commonDivisor_9  1000 x0 x2 0 h)
set_option maxRecDepth 20000 in
theorem ev_X10_commonDivisor {d : Nat} (hd : 0 ≤ d) {w1 : Option zV} {w3 : Option zV} {w4 : Option zV} {w5 : Option zV} {w6 : Option zV} {w7 : Option zV} {w8 : Option zV} {w9 : Option zV} {w10 : Option zV} {x0 : Int64} {x2 : Int64} {h : zM} {r : Int64 × zM} (H : f_X10_commonDivisor x0 x2 h = some r) : zEv zmt d 110 0 ([some (vL x0), w1, some (vL x2), w3, w4, w5, w6, w7, w8, w9, w10], [], h, true) (some (vL r.1), r.2) := by
  refine zEv.loc (L2 := [some (vL x0), w1, some (vL x2), none, some (vL x0), none, some (vL x2), none, some (vI 0), w9, w10]) (st2 := []) (h2 := h) zm_X10_commonDivisor rfl rfl rfl rfl (fun h => (nomatch h)) ?_
  exact ev_X10_commonDivisor_9 (by omega)  1000 H
def f_X10_tellFraction (x1 : Int64) (x3 : Int64) (h : zM) : Option (zM) := ((f_X10_commonDivisor (if 0 < x1 then x1 else -x1) x3 h).bind fun q5 => (if (lg_cmp q5.1 0) ≤ 0 then (some q5.2) else (if (true && (!decide (q5.1 = 0) && (true && (!decide (q5.1 = 0) && true)))) = true then (some (wL (wL q5.2 10 0 13 (x1 / q5.1)) 10 0 14 (x3 / q5.1))) else none)))
set_option maxRecDepth 20000 in
theorem ev_X10_tellFraction {d : Nat} (hd : 1 ≤ d) {w2 : Option zV} {w4 : Option zV} {w5 : Option zV} {w6 : Option zV} {x1 : Int64} {x3 : Int64} {h : zM} {r : zM} (H : f_X10_tellFraction x1 x3 h = some r) : zEv zmt d 107 0 ([some (vR (some (10, 0))), some (vL x1), w2, some (vL x3), w4, w5, w6], [], h, true) (none, r) := by
  refine zEv.loc (L2 := [some (vR (some (10, 0))), some (vL x1), w2, some (vL x3), w4, w5, w6]) (st2 := [vL (if 0 < x1 then x1 else -x1)]) (h2 := h) zm_X10_tellFraction rfl rfl rfl rfl (fun _ => by omega) ?_
  obtain ⟨q5, hq, H⟩ := bnd H
  refine zEv.call (k := 110) (as := [vL (if 0 < x1 then x1 else -x1), vL x3]) (L2 := [some (vR (some (10, 0))), some (vL x1), w2, some (vL x3), w4, w5, w6]) (st2 := []) (h2 := h) (v := some (vL q5.1)) (h1 := q5.2) (st3 := [vL q5.1]) zm_X10_tellFraction rfl rfl rfl rfl rfl zm_X10_commonDivisor rfl (by omega) (ev_X10_commonDivisor (by omega) hq) rfl ?_
  rcases ifc H with ⟨hc, H⟩ | ⟨hc, H⟩
  · refine zEv.iteT (L2 := [some (vR (some (10, 0))), some (vL x1), w2, some (vL x3), none, some (vL q5.1), none]) (st2 := []) (h2 := q5.2) zm_X10_tellFraction rfl rfl rfl rfl (decide_eq_true hc) ?_
    cases H
    exact zEv.ret zm_X10_tellFraction rfl rfl rfl rfl
  · refine zEv.iteF (L2 := [some (vR (some (10, 0))), some (vL x1), w2, some (vL x3), none, some (vL q5.1), none]) (st2 := []) (h2 := q5.2) zm_X10_tellFraction rfl rfl rfl rfl (decide_eq_false hc) ?_
    obtain ⟨hg, H⟩ := ifg H
    refine zEv.loc (L2 := [some (vR (some (10, 0))), some (vL x1), w2, some (vL x3), none, some (vL q5.1), none]) (st2 := []) (h2 := (wL (wL q5.2 10 0 13 (x1 / q5.1)) 10 0 14 (x3 / q5.1))) zm_X10_tellFraction rfl hg rfl hg (fun h => (nomatch h)) ?_
    cases H
    exact zEv.ret zm_X10_tellFraction rfl rfl rfl rfl
def f_X10_learn_143 (K21 : Int32 → Int32 → Int32 → Int32 → Int32 → zM → Option (Int32 × zM)) (K36 : Int32 → Int32 → Int32 → Int32 → Int32 → Int32 → zM → Option (Int32 × zM)) (x1 : Int32) (x2 : Int32) (x3 : Int32) (x4 : Int32) (x5 : Int32) (x6 : Int32) (h : zM) : Option (Int32 × zM) := (K36 x1 x2 x3 x4 x5 (x6 + 1) h)
set_option maxRecDepth 20000 in
theorem ev_X10_learn_143 {d : Nat} (hd : 2 ≤ d) {K21 : Int32 → Int32 → Int32 → Int32 → Int32 → zM → Option (Int32 × zM)} (hK21 : ∀ {w6 : Option zV} {w7 : Option zV} {w8 : Option zV} {x1 : Int32} {x2 : Int32} {x3 : Int32} {x4 : Int32} {x5 : Int32} {h : zM} {r : Int32 × zM}, K21 x1 x2 x3 x4 x5 h = some r → zEv zmt d 84 21 ([some (vR (some (10, 0))), some (vI x1), some (vI x2), some (vI x3), some (vI x4), some (vI x5), w6, w7, w8], [], h, true) (some (vI r.1), r.2)) {K36 : Int32 → Int32 → Int32 → Int32 → Int32 → Int32 → zM → Option (Int32 × zM)} (hK36 : ∀ {w7 : Option zV} {w8 : Option zV} {x1 : Int32} {x2 : Int32} {x3 : Int32} {x4 : Int32} {x5 : Int32} {x6 : Int32} {h : zM} {r : Int32 × zM}, K36 x1 x2 x3 x4 x5 x6 h = some r → zEv zmt d 84 36 ([some (vR (some (10, 0))), some (vI x1), some (vI x2), some (vI x3), some (vI x4), some (vI x5), some (vI x6), w7, w8], [], h, true) (some (vI r.1), r.2)) {w7 : Option zV} {w8 : Option zV} {x1 : Int32} {x2 : Int32} {x3 : Int32} {x4 : Int32} {x5 : Int32} {x6 : Int32} {h : zM} {r : Int32 × zM} (H : f_X10_learn_143 K21 K36 x1 x2 x3 x4 x5 x6 h = some r) : zEv zmt d 84 143 ([some (vR (some (10, 0))), some (vI x1), some (vI x2), some (vI x3), some (vI x4), some (vI x5), some (vI x6), w7, w8], [], h, true) (some (vI r.1), r.2) := by
  refine zEv.loc (L2 := [some (vR (some (10, 0))), some (vI x1), some (vI x2), some (vI x3), some (vI x4), some (vI x5), some (vI (x6 + 1)), w7, w8]) (st2 := []) (h2 := h) zm_X10_learn rfl rfl rfl rfl (fun h => (nomatch h)) ?_
  exact hK36 H
def f_X10_learn_128 (K21 : Int32 → Int32 → Int32 → Int32 → Int32 → zM → Option (Int32 × zM)) (K36 : Int32 → Int32 → Int32 → Int32 → Int32 → Int32 → zM → Option (Int32 × zM)) (x1 : Int32) (x2 : Int32) (x4 : Int32) (x5 : Int32) (x6 : Int32) (x7 : Int32) (s0 : Int32) (s1 : Int32) (h : zM) : Option (Int32 × zM) := (f_X10_learn_143 K21 K36 x1 (x2 + 1) (s0 + s1) (x4 + (if 0 ≤ x7 then x7 else 0 - x7)) x5 x6 h)
set_option maxRecDepth 20000 in
theorem ev_X10_learn_128 {d : Nat} (hd : 2 ≤ d) {K21 : Int32 → Int32 → Int32 → Int32 → Int32 → zM → Option (Int32 × zM)} (hK21 : ∀ {w6 : Option zV} {w7 : Option zV} {w8 : Option zV} {x1 : Int32} {x2 : Int32} {x3 : Int32} {x4 : Int32} {x5 : Int32} {h : zM} {r : Int32 × zM}, K21 x1 x2 x3 x4 x5 h = some r → zEv zmt d 84 21 ([some (vR (some (10, 0))), some (vI x1), some (vI x2), some (vI x3), some (vI x4), some (vI x5), w6, w7, w8], [], h, true) (some (vI r.1), r.2)) {K36 : Int32 → Int32 → Int32 → Int32 → Int32 → Int32 → zM → Option (Int32 × zM)} (hK36 : ∀ {w7 : Option zV} {w8 : Option zV} {x1 : Int32} {x2 : Int32} {x3 : Int32} {x4 : Int32} {x5 : Int32} {x6 : Int32} {h : zM} {r : Int32 × zM}, K36 x1 x2 x3 x4 x5 x6 h = some r → zEv zmt d 84 36 ([some (vR (some (10, 0))), some (vI x1), some (vI x2), some (vI x3), some (vI x4), some (vI x5), some (vI x6), w7, w8], [], h, true) (some (vI r.1), r.2)) {w3 : Option zV} {w8 : Option zV} {x1 : Int32} {x2 : Int32} {x4 : Int32} {x5 : Int32} {x6 : Int32} {x7 : Int32} {s0 : Int32} {s1 : Int32} {h : zM} {r : Int32 × zM} (H : f_X10_learn_128 K21 K36 x1 x2 x4 x5 x6 x7 s0 s1 h = some r) : zEv zmt d 84 128 ([some (vR (some (10, 0))), some (vI x1), some (vI x2), w3, some (vI x4), some (vI x5), some (vI x6), some (vI x7), w8], [vI s1, vI s0], h, true) (some (vI r.1), r.2) := by
  refine zEv.loc (L2 := [some (vR (some (10, 0))), some (vI x1), some (vI x2), some (vI (s0 + s1)), some (vI x4), some (vI x5), some (vI x6), some (vI x7), w8]) (st2 := [vI (if 0 ≤ x7 then x7 else 0 - x7), vI x4]) (h2 := h) zm_X10_learn rfl rfl rfl rfl (fun _ => by omega) ?_
  refine zEv.loc (L2 := [some (vR (some (10, 0))), some (vI x1), some (vI (x2 + 1)), some (vI (s0 + s1)), some (vI (x4 + (if 0 ≤ x7 then x7 else 0 - x7))), some (vI x5), some (vI x6), some (vI x7), w8]) (st2 := []) (h2 := h) zm_X10_learn rfl rfl rfl rfl (fun h => (nomatch h)) ?_
  exact ev_X10_learn_143 (by omega) hK21 hK36 H
def f_X10_learn_36 (K21 : Int32 → Int32 → Int32 → Int32 → Int32 → zM → Option (Int32 × zM)) : Nat → Int32 → Int32 → Int32 → Int32 → Int32 → Int32 → zM → Option (Int32 × zM)
  | 0 => fun _ _ _ _ _ _ _ => none
  | k + 1 => fun x1 x2 x3 x4 x5 x6 h => (if (rI h 10 0 10) ≤ x6 then (K21 x1 x2 x3 x4 (x5 + 1) h) else (if (true && (true && (ixOk 40 x6 && (true && (decide (rR h 10 0 3 = (some (29, 0))) && (true && (ixOk 40 x5 && (true && (decide (rR h 10 0 3 = (some (29, 0))) && true))))))))) = true then ((f_X10_unlikeIn (rR h 29 0 (Int32.toNatClampNeg x5)) (rR h 29 0 (Int32.toNatClampNeg x6)) h).bind fun q59 => (if ¬ q59.1 = x1 then (f_X10_learn_143 K21 (f_X10_learn_36 K21 k) x1 x2 x3 x4 x5 x6 q59.2) else (if (memN [2] (clR (rR q59.2 29 0 (Int32.toNatClampNeg x5))) && (true && (true && (ixOk 40 x5 && (true && (decide (rR q59.2 10 0 3 = (some (29, 0))) && true)))))) = true then ((f_X2_measure (rR q59.2 29 0 (Int32.toNatClampNeg x5)) x1 q59.2).bind fun q74 => (if (memN [2] (clR (rR q74.2 29 0 (Int32.toNatClampNeg x6))) && (true && (true && (ixOk 40 x6 && (true && (decide (rR q74.2 10 0 3 = (some (29, 0))) && true)))))) = true then ((f_X2_measure (rR q74.2 29 0 (Int32.toNatClampNeg x6)) x1 q74.2).bind fun q85 => (if (true && (memN [2] (clR (rR q85.2 29 0 (Int32.toNatClampNeg x6))) && (true && (ixOk 40 x6 && (true && (decide (rR q85.2 10 0 3 = (some (29, 0))) && (memN [2] (clR (rR q85.2 29 0 (Int32.toNatClampNeg x5))) && (true && (ixOk 40 x5 && (true && (decide (rR q85.2 10 0 3 = (some (29, 0))) && (true && true)))))))))))) = true then (if (q74.1 - q85.1) ≤ 0 then (f_X10_learn_128 K21 (f_X10_learn_36 K21 k) x1 x2 x4 x5 x6 (q74.1 - q85.1) x3 (-((rI q85.2 (clR (rR q85.2 29 0 (Int32.toNatClampNeg x5))) (ixR (rR q85.2 29 0 (Int32.toNatClampNeg x5))) 4) - (rI q85.2 (clR (rR q85.2 29 0 (Int32.toNatClampNeg x6))) (ixR (rR q85.2 29 0 (Int32.toNatClampNeg x6))) 4))) q85.2) else (f_X10_learn_128 K21 (f_X10_learn_36 K21 k) x1 x2 x4 x5 x6 (q74.1 - q85.1) x3 ((rI q85.2 (clR (rR q85.2 29 0 (Int32.toNatClampNeg x5))) (ixR (rR q85.2 29 0 (Int32.toNatClampNeg x5))) 4) - (rI q85.2 (clR (rR q85.2 29 0 (Int32.toNatClampNeg x6))) (ixR (rR q85.2 29 0 (Int32.toNatClampNeg x6))) 4)) q85.2)) else none)) else none)) else none))) else none))
set_option maxRecDepth 20000 in
theorem ev_X10_learn_36 {d : Nat} (hd : 2 ≤ d) {K21 : Int32 → Int32 → Int32 → Int32 → Int32 → zM → Option (Int32 × zM)} (hK21 : ∀ {w6 : Option zV} {w7 : Option zV} {w8 : Option zV} {x1 : Int32} {x2 : Int32} {x3 : Int32} {x4 : Int32} {x5 : Int32} {h : zM} {r : Int32 × zM}, K21 x1 x2 x3 x4 x5 h = some r → zEv zmt d 84 21 ([some (vR (some (10, 0))), some (vI x1), some (vI x2), some (vI x3), some (vI x4), some (vI x5), w6, w7, w8], [], h, true) (some (vI r.1), r.2)) : ∀ (k : Nat) {w7 : Option zV} {w8 : Option zV} {x1 : Int32} {x2 : Int32} {x3 : Int32} {x4 : Int32} {x5 : Int32} {x6 : Int32} {h : zM} {r : Int32 × zM}, f_X10_learn_36 K21 k x1 x2 x3 x4 x5 x6 h = some r → zEv zmt d 84 36 ([some (vR (some (10, 0))), some (vI x1), some (vI x2), some (vI x3), some (vI x4), some (vI x5), some (vI x6), w7, w8], [], h, true) (some (vI r.1), r.2) := by
  intro k
  induction k with
  | zero => intro w7 w8 x1 x2 x3 x4 x5 x6 h r H; cases H
  | succ k ih =>
    intro w7 w8 x1 x2 x3 x4 x5 x6 h r H
    rcases ifc H with ⟨hc, H⟩ | ⟨hc, H⟩
    · refine zEv.iteT (L2 := [some (vR (some (10, 0))), some (vI x1), some (vI x2), some (vI x3), some (vI x4), some (vI x5), some (vI x6), w7, w8]) (st2 := []) (h2 := h) zm_X10_learn rfl rfl rfl rfl (decide_eq_true hc) ?_
      refine zEv.loc (L2 := [some (vR (some (10, 0))), some (vI x1), some (vI x2), some (vI x3), some (vI x4), some (vI (x5 + 1)), some (vI x6), w7, w8]) (st2 := []) (h2 := h) zm_X10_learn rfl rfl rfl rfl (fun h => (nomatch h)) ?_
      exact hK21 H
    · refine zEv.iteF (L2 := [some (vR (some (10, 0))), some (vI x1), some (vI x2), some (vI x3), some (vI x4), some (vI x5), some (vI x6), w7, w8]) (st2 := []) (h2 := h) zm_X10_learn rfl rfl rfl rfl (decide_eq_false hc) ?_
      obtain ⟨hg, H⟩ := ifg H
      obtain ⟨q59, hq, H⟩ := bnd H
      refine zEv.call (k := 116) (as := [vR (rR h 29 0 (Int32.toNatClampNeg x5)), vR (rR h 29 0 (Int32.toNatClampNeg x6))]) (L2 := [some (vR (some (10, 0))), some (vI x1), some (vI x2), some (vI x3), some (vI x4), some (vI x5), some (vI x6), w7, w8]) (st2 := []) (h2 := h) (v := some (vI q59.1)) (h1 := q59.2) (st3 := [vI q59.1]) zm_X10_learn rfl (and2 hg).2 rfl hg rfl zm_X10_unlikeIn rfl (by omega) (ev_X10_unlikeIn (by omega) hq) rfl ?_
      rcases ifc H with ⟨hc, H⟩ | ⟨hc, H⟩
      · refine zEv.iteT (L2 := [some (vR (some (10, 0))), some (vI x1), some (vI x2), some (vI x3), some (vI x4), some (vI x5), some (vI x6), w7, w8]) (st2 := []) (h2 := q59.2) zm_X10_learn rfl rfl rfl rfl (decide_eq_true hc) ?_
        exact ev_X10_learn_143 (by omega) hK21 ih H
      · refine zEv.iteF (L2 := [some (vR (some (10, 0))), some (vI x1), some (vI x2), some (vI x3), some (vI x4), some (vI x5), some (vI x6), w7, w8]) (st2 := []) (h2 := q59.2) zm_X10_learn rfl rfl rfl rfl (decide_eq_false hc) ?_
        obtain ⟨hg, H⟩ := ifg H
        obtain ⟨q74, hq, H⟩ := bnd H
        refine zEv.call (k := 22) (as := [vR (rR q59.2 29 0 (Int32.toNatClampNeg x5)), vI x1]) (L2 := [some (vR (some (10, 0))), some (vI x1), some (vI x2), some (vI x3), some (vI x4), some (vI x5), some (vI x6), w7, w8]) (st2 := []) (h2 := q59.2) (v := some (vI q74.1)) (h1 := q74.2) (st3 := [vI q74.1]) zm_X10_learn rfl (and2 (and2 hg).2).2 rfl hg rfl zm_X2_measure rfl (by omega) (ev_X2_measure (by omega) hq) rfl ?_
        obtain ⟨hg, H⟩ := ifg H
        obtain ⟨q85, hq, H⟩ := bnd H
        refine zEv.call (k := 22) (as := [vR (rR q74.2 29 0 (Int32.toNatClampNeg x6)), vI x1]) (L2 := [some (vR (some (10, 0))), some (vI x1), some (vI x2), some (vI x3), some (vI x4), some (vI x5), some (vI x6), w7, w8]) (st2 := [vI q74.1]) (h2 := q74.2) (v := some (vI q85.1)) (h1 := q85.2) (st3 := [vI q85.1, vI q74.1]) zm_X10_learn rfl (and2 (and2 hg).2).2 rfl hg rfl zm_X2_measure rfl (by omega) (ev_X2_measure (by omega) hq) rfl ?_
        obtain ⟨hg, H⟩ := ifg H
        rcases ifc H with ⟨hc, H⟩ | ⟨hc, H⟩
        · refine zEv.iteT (L2 := [some (vR (some (10, 0))), some (vI x1), some (vI x2), some (vI x3), some (vI x4), some (vI x5), some (vI x6), some (vI (q74.1 - q85.1)), some (vI ((rI q85.2 (clR (rR q85.2 29 0 (Int32.toNatClampNeg x5))) (ixR (rR q85.2 29 0 (Int32.toNatClampNeg x5))) 4) - (rI q85.2 (clR (rR q85.2 29 0 (Int32.toNatClampNeg x6))) (ixR (rR q85.2 29 0 (Int32.toNatClampNeg x6))) 4)))]) (st2 := [vI x3]) (h2 := q85.2) zm_X10_learn rfl hg rfl hg (decide_eq_true hc) ?_
          refine zEv.loc (L2 := [some (vR (some (10, 0))), some (vI x1), some (vI x2), some (vI x3), some (vI x4), some (vI x5), some (vI x6), some (vI (q74.1 - q85.1)), some (vI ((rI q85.2 (clR (rR q85.2 29 0 (Int32.toNatClampNeg x5))) (ixR (rR q85.2 29 0 (Int32.toNatClampNeg x5))) 4) - (rI q85.2 (clR (rR q85.2 29 0 (Int32.toNatClampNeg x6))) (ixR (rR q85.2 29 0 (Int32.toNatClampNeg x6))) 4)))]) (st2 := [vI (-((rI q85.2 (clR (rR q85.2 29 0 (Int32.toNatClampNeg x5))) (ixR (rR q85.2 29 0 (Int32.toNatClampNeg x5))) 4) - (rI q85.2 (clR (rR q85.2 29 0 (Int32.toNatClampNeg x6))) (ixR (rR q85.2 29 0 (Int32.toNatClampNeg x6))) 4))), vI x3]) (h2 := q85.2) zm_X10_learn rfl rfl rfl rfl (fun h => (nomatch h)) ?_
          exact ev_X10_learn_128 (by omega) hK21 ih H
        · refine zEv.iteF (L2 := [some (vR (some (10, 0))), some (vI x1), some (vI x2), some (vI x3), some (vI x4), some (vI x5), some (vI x6), some (vI (q74.1 - q85.1)), some (vI ((rI q85.2 (clR (rR q85.2 29 0 (Int32.toNatClampNeg x5))) (ixR (rR q85.2 29 0 (Int32.toNatClampNeg x5))) 4) - (rI q85.2 (clR (rR q85.2 29 0 (Int32.toNatClampNeg x6))) (ixR (rR q85.2 29 0 (Int32.toNatClampNeg x6))) 4)))]) (st2 := [vI x3]) (h2 := q85.2) zm_X10_learn rfl hg rfl hg (decide_eq_false hc) ?_
          refine zEv.loc (L2 := [some (vR (some (10, 0))), some (vI x1), some (vI x2), some (vI x3), some (vI x4), some (vI x5), some (vI x6), some (vI (q74.1 - q85.1)), some (vI ((rI q85.2 (clR (rR q85.2 29 0 (Int32.toNatClampNeg x5))) (ixR (rR q85.2 29 0 (Int32.toNatClampNeg x5))) 4) - (rI q85.2 (clR (rR q85.2 29 0 (Int32.toNatClampNeg x6))) (ixR (rR q85.2 29 0 (Int32.toNatClampNeg x6))) 4)))]) (st2 := [vI ((rI q85.2 (clR (rR q85.2 29 0 (Int32.toNatClampNeg x5))) (ixR (rR q85.2 29 0 (Int32.toNatClampNeg x5))) 4) - (rI q85.2 (clR (rR q85.2 29 0 (Int32.toNatClampNeg x6))) (ixR (rR q85.2 29 0 (Int32.toNatClampNeg x6))) 4)), vI x3]) (h2 := q85.2) zm_X10_learn rfl rfl rfl rfl (fun h => (nomatch h)) ?_
          exact ev_X10_learn_128 (by omega) hK21 ih H
def f_X10_learn_21 : Nat → Int32 → Int32 → Int32 → Int32 → Int32 → zM → Option (Int32 × zM)
  | 0 => fun _ _ _ _ _ _ => none
  | k + 1 => fun x1 x2 x3 x4 x5 h => (if (rI h 10 0 10) ≤ x5 then (if ¬ x2 = 0 then ((f_X10_tellFraction (Int32.toInt64 x3) (Int32.toInt64 x4) h).bind fun q171 => (some (x2, q171))) else ((f_X10_found 4 h).bind fun q161 => (some (q161.1, q161.2)))) else (f_X10_learn_36 (f_X10_learn_21 k) 1000 x1 x2 x3 x4 x5 (x5 + 1) h))
set_option maxRecDepth 20000 in
theorem ev_X10_learn_21 {d : Nat} (hd : 2 ≤ d) : ∀ (k : Nat) {w6 : Option zV} {w7 : Option zV} {w8 : Option zV} {x1 : Int32} {x2 : Int32} {x3 : Int32} {x4 : Int32} {x5 : Int32} {h : zM} {r : Int32 × zM}, f_X10_learn_21 k x1 x2 x3 x4 x5 h = some r → zEv zmt d 84 21 ([some (vR (some (10, 0))), some (vI x1), some (vI x2), some (vI x3), some (vI x4), some (vI x5), w6, w7, w8], [], h, true) (some (vI r.1), r.2) := by
  intro k
  induction k with
  | zero => intro w6 w7 w8 x1 x2 x3 x4 x5 h r H; cases H
  | succ k ih =>
    intro w6 w7 w8 x1 x2 x3 x4 x5 h r H
    rcases ifc H with ⟨hc, H⟩ | ⟨hc, H⟩
    · refine zEv.iteT (L2 := [some (vR (some (10, 0))), some (vI x1), some (vI x2), some (vI x3), some (vI x4), some (vI x5), w6, w7, w8]) (st2 := []) (h2 := h) zm_X10_learn rfl rfl rfl rfl (decide_eq_true hc) ?_
      rcases ifc H with ⟨hc, H⟩ | ⟨hc, H⟩
      · refine zEv.iteT (L2 := [some (vR (some (10, 0))), some (vI x1), some (vI x2), some (vI x3), some (vI x4), some (vI x5), w6, w7, w8]) (st2 := []) (h2 := h) zm_X10_learn rfl rfl rfl rfl (decide_eq_true hc) ?_
        obtain ⟨q171, hq, H⟩ := bnd H
        refine zEv.call (k := 107) (as := [vR (some (10, 0)), vL (Int32.toInt64 x3), vL (Int32.toInt64 x4)]) (L2 := [some (vR (some (10, 0))), some (vI x1), some (vI x2), some (vI x3), some (vI x4), some (vI x5), w6, w7, w8]) (st2 := []) (h2 := h) (v := none) (h1 := q171) (st3 := []) zm_X10_learn rfl rfl rfl rfl rfl zm_X10_tellFraction rfl (by omega) (ev_X10_tellFraction (by omega) hq) rfl ?_
        cases H
        exact zEv.ret zm_X10_learn rfl rfl rfl rfl
      · refine zEv.iteF (L2 := [some (vR (some (10, 0))), some (vI x1), some (vI x2), some (vI x3), some (vI x4), some (vI x5), w6, w7, w8]) (st2 := []) (h2 := h) zm_X10_learn rfl rfl rfl rfl (decide_eq_false hc) ?_
        obtain ⟨q161, hq, H⟩ := bnd H
        refine zEv.call (k := 105) (as := [vR (some (10, 0)), vI 4]) (L2 := [some (vR (some (10, 0))), some (vI x1), some (vI x2), some (vI x3), some (vI x4), some (vI x5), w6, w7, w8]) (st2 := []) (h2 := h) (v := some (vI q161.1)) (h1 := q161.2) (st3 := [vI q161.1]) zm_X10_learn rfl rfl rfl rfl rfl zm_X10_found rfl (by omega) (ev_X10_found (by omega) hq) rfl ?_
        cases H
        exact zEv.ret zm_X10_learn rfl rfl rfl rfl
    · refine zEv.iteF (L2 := [some (vR (some (10, 0))), some (vI x1), some (vI x2), some (vI x3), some (vI x4), some (vI x5), w6, w7, w8]) (st2 := []) (h2 := h) zm_X10_learn rfl rfl rfl rfl (decide_eq_false hc) ?_
      refine zEv.loc (L2 := [some (vR (some (10, 0))), some (vI x1), some (vI x2), some (vI x3), some (vI x4), some (vI x5), some (vI (x5 + 1)), w7, w8]) (st2 := []) (h2 := h) zm_X10_learn rfl rfl rfl rfl (fun h => (nomatch h)) ?_
      exact ev_X10_learn_36 (by omega) ih 1000 H
def f_X10_learn (x1 : Int32) (h : zM) : Option (Int32 × zM) := ((f_X10_within x1 0 3 h).bind fun q3 => (if ¬ q3.1 = 0 then (f_X10_learn_21  1000 x1 0 0 0 0 q3.2) else (some ((-1), q3.2))))
set_option maxRecDepth 20000 in
theorem ev_X10_learn {d : Nat} (hd : 2 ≤ d) {w2 : Option zV} {w3 : Option zV} {w4 : Option zV} {w5 : Option zV} {w6 : Option zV} {w7 : Option zV} {w8 : Option zV} {x1 : Int32} {h : zM} {r : Int32 × zM} (H : f_X10_learn x1 h = some r) : zEv zmt d 84 0 ([some (vR (some (10, 0))), some (vI x1), w2, w3, w4, w5, w6, w7, w8], [], h, true) (some (vI r.1), r.2) := by
  obtain ⟨q3, hq, H⟩ := bnd H
  refine zEv.call (k := 100) (as := [vI x1, vI 0, vI 3]) (L2 := [some (vR (some (10, 0))), some (vI x1), w2, w3, w4, w5, w6, w7, w8]) (st2 := []) (h2 := h) (v := some (vI q3.1)) (h1 := q3.2) (st3 := [vI q3.1]) zm_X10_learn rfl rfl rfl rfl rfl zm_X10_within rfl (by omega) (ev_X10_within (by omega) hq) rfl ?_
  rcases ifc H with ⟨hc, H⟩ | ⟨hc, H⟩
  · refine zEv.iteT (L2 := [some (vR (some (10, 0))), some (vI x1), w2, w3, w4, w5, w6, w7, w8]) (st2 := []) (h2 := q3.2) zm_X10_learn rfl rfl rfl rfl (decide_eq_true hc) ?_
    refine zEv.loc (L2 := [some (vR (some (10, 0))), some (vI x1), some (vI 0), some (vI 0), some (vI 0), some (vI 0), w6, w7, w8]) (st2 := []) (h2 := q3.2) zm_X10_learn rfl rfl rfl rfl (fun h => (nomatch h)) ?_
    exact ev_X10_learn_21 (by omega)  1000 H
  · refine zEv.iteF (L2 := [some (vR (some (10, 0))), some (vI x1), w2, w3, w4, w5, w6, w7, w8]) (st2 := []) (h2 := q3.2) zm_X10_learn rfl rfl rfl rfl (decide_eq_false hc) ?_
    cases H
    exact zEv.ret zm_X10_learn rfl rfl rfl rfl
def f_X10_choose_16 : Nat → Int32 → Int32 → Int64 → Int32 → zM → Option (Int64 × zM)
  | 0 => fun _ _ _ _ _ => none
  | k + 1 => fun x0 x1 x2 x4 h => (if x1 < x4 then (some (x2, h)) else (if (true && (!decide ((Int32.toInt64 x4) = 0) && true)) = true then (f_X10_choose_16 k x0 x1 ((x2 * (Int32.toInt64 ((x0 - x1) + x4))) / (Int32.toInt64 x4)) (x4 + 1) h) else none))
set_option maxRecDepth 20000 in
theorem ev_X10_choose_16 {d : Nat} (hd : 0 ≤ d) : ∀ (k : Nat) {w3 : Option zV} {x0 : Int32} {x1 : Int32} {x2 : Int64} {x4 : Int32} {h : zM} {r : Int64 × zM}, f_X10_choose_16 k x0 x1 x2 x4 h = some r → zEv zmt d 111 16 ([some (vI x0), some (vI x1), some (vL x2), w3, some (vI x4)], [], h, true) (some (vL r.1), r.2) := by
  intro k
  induction k with
  | zero => intro w3 x0 x1 x2 x4 h r H; cases H
  | succ k ih =>
    intro w3 x0 x1 x2 x4 h r H
    rcases ifc H with ⟨hc, H⟩ | ⟨hc, H⟩
    · refine zEv.iteT (L2 := [some (vI x0), some (vI x1), some (vL x2), w3, some (vI x4)]) (st2 := []) (h2 := h) zm_X10_choose rfl rfl rfl rfl (decide_eq_true hc) ?_
      cases H
      exact zEv.ret zm_X10_choose rfl rfl rfl rfl
    · refine zEv.iteF (L2 := [some (vI x0), some (vI x1), some (vL x2), w3, some (vI x4)]) (st2 := []) (h2 := h) zm_X10_choose rfl rfl rfl rfl (decide_eq_false hc) ?_
      obtain ⟨hg, H⟩ := ifg H
      refine zEv.loc (L2 := [some (vI x0), some (vI x1), some (vL ((x2 * (Int32.toInt64 ((x0 - x1) + x4))) / (Int32.toInt64 x4))), none, some (vI (x4 + 1))]) (st2 := []) (h2 := h) zm_X10_choose rfl hg rfl hg (fun h => (nomatch h)) ?_
      exact ih H
def f_X10_choose (x0 : Int32) (x1 : Int32) (h : zM) : Option (Int64 × zM) := (if x1 < 0 then (some (0, h)) else (if x1 ≤ x0 then (f_X10_choose_16  1000 x0 x1 1 1 h) else (some (0, h))))
set_option maxRecDepth 20000 in
theorem ev_X10_choose {d : Nat} (hd : 0 ≤ d) {w2 : Option zV} {w3 : Option zV} {w4 : Option zV} {x0 : Int32} {x1 : Int32} {h : zM} {r : Int64 × zM} (H : f_X10_choose x0 x1 h = some r) : zEv zmt d 111 0 ([some (vI x0), some (vI x1), w2, w3, w4], [], h, true) (some (vL r.1), r.2) := by
  rcases ifc H with ⟨hc, H⟩ | ⟨hc, H⟩
  · refine zEv.iteT (L2 := [some (vI x0), some (vI x1), w2, w3, w4]) (st2 := []) (h2 := h) zm_X10_choose rfl rfl rfl rfl (decide_eq_true hc) ?_
    cases H
    exact zEv.ret zm_X10_choose rfl rfl rfl rfl
  · refine zEv.iteF (L2 := [some (vI x0), some (vI x1), w2, w3, w4]) (st2 := []) (h2 := h) zm_X10_choose rfl rfl rfl rfl (decide_eq_false hc) ?_
    rcases ifc H with ⟨hc, H⟩ | ⟨hc, H⟩
    · refine zEv.iteT (L2 := [some (vI x0), some (vI x1), w2, w3, w4]) (st2 := []) (h2 := h) zm_X10_choose rfl rfl rfl rfl (decide_eq_true hc) ?_
      refine zEv.loc (L2 := [some (vI x0), some (vI x1), some (vL 1), none, some (vI 1)]) (st2 := []) (h2 := h) zm_X10_choose rfl rfl rfl rfl (fun h => (nomatch h)) ?_
      exact ev_X10_choose_16 (by omega)  1000 H
    · refine zEv.iteF (L2 := [some (vI x0), some (vI x1), w2, w3, w4]) (st2 := []) (h2 := h) zm_X10_choose rfl rfl rfl rfl (decide_eq_false hc) ?_
      cases H
      exact zEv.ret zm_X10_choose rfl rfl rfl rfl
def f_X10_power_5 : Nat → Int32 → Int32 → Int64 → Int32 → zM → Option (Int64 × zM)
  | 0 => fun _ _ _ _ _ => none
  | k + 1 => fun x0 x1 x2 x4 h => (if x1 ≤ x4 then (some (x2, h)) else (f_X10_power_5 k x0 x1 (x2 * (Int32.toInt64 x0)) (x4 + 1) h))
set_option maxRecDepth 20000 in
theorem ev_X10_power_5 {d : Nat} (hd : 0 ≤ d) : ∀ (k : Nat) {w3 : Option zV} {x0 : Int32} {x1 : Int32} {x2 : Int64} {x4 : Int32} {h : zM} {r : Int64 × zM}, f_X10_power_5 k x0 x1 x2 x4 h = some r → zEv zmt d 112 5 ([some (vI x0), some (vI x1), some (vL x2), w3, some (vI x4)], [], h, true) (some (vL r.1), r.2) := by
  intro k
  induction k with
  | zero => intro w3 x0 x1 x2 x4 h r H; cases H
  | succ k ih =>
    intro w3 x0 x1 x2 x4 h r H
    rcases ifc H with ⟨hc, H⟩ | ⟨hc, H⟩
    · refine zEv.iteT (L2 := [some (vI x0), some (vI x1), some (vL x2), w3, some (vI x4)]) (st2 := []) (h2 := h) zm_X10_power rfl rfl rfl rfl (decide_eq_true hc) ?_
      cases H
      exact zEv.ret zm_X10_power rfl rfl rfl rfl
    · refine zEv.iteF (L2 := [some (vI x0), some (vI x1), some (vL x2), w3, some (vI x4)]) (st2 := []) (h2 := h) zm_X10_power rfl rfl rfl rfl (decide_eq_false hc) ?_
      refine zEv.loc (L2 := [some (vI x0), some (vI x1), some (vL (x2 * (Int32.toInt64 x0))), none, some (vI (x4 + 1))]) (st2 := []) (h2 := h) zm_X10_power rfl rfl rfl rfl (fun h => (nomatch h)) ?_
      exact ih H
def f_X10_power (x0 : Int32) (x1 : Int32) (h : zM) : Option (Int64 × zM) := (f_X10_power_5  1000 x0 x1 1 0 h)
set_option maxRecDepth 20000 in
theorem ev_X10_power {d : Nat} (hd : 0 ≤ d) {w2 : Option zV} {w3 : Option zV} {w4 : Option zV} {x0 : Int32} {x1 : Int32} {h : zM} {r : Int64 × zM} (H : f_X10_power x0 x1 h = some r) : zEv zmt d 112 0 ([some (vI x0), some (vI x1), w2, w3, w4], [], h, true) (some (vL r.1), r.2) := by
  refine zEv.loc (L2 := [some (vI x0), some (vI x1), some (vL 1), none, some (vI 0)]) (st2 := []) (h2 := h) zm_X10_power rfl rfl rfl rfl (fun h => (nomatch h)) ?_
  exact ev_X10_power_5 (by omega)  1000 H
def f_X10_tellOddsOfFive_5 : Nat → Int32 → Int64 → Int32 → zM → Option (zM)
  | 0 => fun _ _ _ _ => none
  | k + 1 => fun x2 x3 x5 h => (if x2 < x5 then ((f_X10_power 5 x2 h).bind fun q39 => ((f_X10_tellFraction x3 q39.1 q39.2).bind fun q42 => (some q42))) else ((f_X10_choose x2 x5 h).bind fun q15 => ((f_X10_power 4 (x2 - x5) q15.2).bind fun q23 => (f_X10_tellOddsOfFive_5 k x2 (x3 + (q15.1 * q23.1)) (x5 + 1) q23.2))))
set_option maxRecDepth 20000 in
theorem ev_X10_tellOddsOfFive_5 {d : Nat} (hd : 2 ≤ d) : ∀ (k : Nat) {w1 : Option zV} {w4 : Option zV} {x2 : Int32} {x3 : Int64} {x5 : Int32} {h : zM} {r : zM}, f_X10_tellOddsOfFive_5 k x2 x3 x5 h = some r → zEv zmt d 108 5 ([some (vR (some (10, 0))), w1, some (vI x2), some (vL x3), w4, some (vI x5)], [], h, true) (none, r) := by
  intro k
  induction k with
  | zero => intro w1 w4 x2 x3 x5 h r H; cases H
  | succ k ih =>
    intro w1 w4 x2 x3 x5 h r H
    rcases ifc H with ⟨hc, H⟩ | ⟨hc, H⟩
    · refine zEv.iteT (L2 := [some (vR (some (10, 0))), w1, some (vI x2), some (vL x3), w4, some (vI x5)]) (st2 := []) (h2 := h) zm_X10_tellOddsOfFive rfl rfl rfl rfl (decide_eq_true hc) ?_
      obtain ⟨q39, hq, H⟩ := bnd H
      refine zEv.call (k := 112) (as := [vI 5, vI x2]) (L2 := [some (vR (some (10, 0))), w1, some (vI x2), some (vL x3), w4, some (vI x5)]) (st2 := [vL x3, vR (some (10, 0))]) (h2 := h) (v := some (vL q39.1)) (h1 := q39.2) (st3 := [vL q39.1, vL x3, vR (some (10, 0))]) zm_X10_tellOddsOfFive rfl rfl rfl rfl rfl zm_X10_power rfl (by omega) (ev_X10_power (by omega) hq) rfl ?_
      obtain ⟨q42, hq, H⟩ := bnd H
      refine zEv.call (k := 107) (as := [vR (some (10, 0)), vL x3, vL q39.1]) (L2 := [some (vR (some (10, 0))), w1, some (vI x2), some (vL x3), w4, some (vI x5)]) (st2 := []) (h2 := q39.2) (v := none) (h1 := q42) (st3 := []) zm_X10_tellOddsOfFive rfl rfl rfl rfl rfl zm_X10_tellFraction rfl (by omega) (ev_X10_tellFraction (by omega) hq) rfl ?_
      cases H
      exact zEv.ret zm_X10_tellOddsOfFive rfl rfl rfl rfl
    · refine zEv.iteF (L2 := [some (vR (some (10, 0))), w1, some (vI x2), some (vL x3), w4, some (vI x5)]) (st2 := []) (h2 := h) zm_X10_tellOddsOfFive rfl rfl rfl rfl (decide_eq_false hc) ?_
      obtain ⟨q15, hq, H⟩ := bnd H
      refine zEv.call (k := 111) (as := [vI x2, vI x5]) (L2 := [some (vR (some (10, 0))), w1, some (vI x2), some (vL x3), w4, some (vI x5)]) (st2 := [vL x3]) (h2 := h) (v := some (vL q15.1)) (h1 := q15.2) (st3 := [vL q15.1, vL x3]) zm_X10_tellOddsOfFive rfl rfl rfl rfl rfl zm_X10_choose rfl (by omega) (ev_X10_choose (by omega) hq) rfl ?_
      obtain ⟨q23, hq, H⟩ := bnd H
      refine zEv.call (k := 112) (as := [vI 4, vI (x2 - x5)]) (L2 := [some (vR (some (10, 0))), w1, some (vI x2), some (vL x3), w4, some (vI x5)]) (st2 := [vL q15.1, vL x3]) (h2 := q15.2) (v := some (vL q23.1)) (h1 := q23.2) (st3 := [vL q23.1, vL q15.1, vL x3]) zm_X10_tellOddsOfFive rfl rfl rfl rfl rfl zm_X10_power rfl (by omega) (ev_X10_power (by omega) hq) rfl ?_
      refine zEv.loc (L2 := [some (vR (some (10, 0))), w1, some (vI x2), some (vL (x3 + (q15.1 * q23.1))), none, some (vI (x5 + 1))]) (st2 := []) (h2 := q23.2) zm_X10_tellOddsOfFive rfl rfl rfl rfl (fun h => (nomatch h)) ?_
      exact ih H
def f_X10_tellOddsOfFive (x1 : Int32) (x2 : Int32) (h : zM) : Option (zM) := (f_X10_tellOddsOfFive_5  1000 x2 0 x1 h)
set_option maxRecDepth 20000 in
theorem ev_X10_tellOddsOfFive {d : Nat} (hd : 2 ≤ d) {w3 : Option zV} {w4 : Option zV} {w5 : Option zV} {x1 : Int32} {x2 : Int32} {h : zM} {r : zM} (H : f_X10_tellOddsOfFive x1 x2 h = some r) : zEv zmt d 108 0 ([some (vR (some (10, 0))), some (vI x1), some (vI x2), w3, w4, w5], [], h, true) (none, r) := by
  refine zEv.loc (L2 := [some (vR (some (10, 0))), some (vI x1), some (vI x2), some (vL 0), none, some (vI x1)]) (st2 := []) (h2 := h) zm_X10_tellOddsOfFive rfl rfl rfl rfl (fun h => (nomatch h)) ?_
  exact ev_X10_tellOddsOfFive_5 (by omega)  1000 H
