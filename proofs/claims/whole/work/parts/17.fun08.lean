def f_X11_givesWith_64 (x1 : Int32) (x2 : Int32) (x3 : Int32) (x4 : Int32) (x5 : Int32) (s0 : Int32) (h : zM) : Option (Int32 × zM) := ((f_X11_byWind x1 x3 h).bind fun q69 => (if (true && (true && (true && (ixOk 32 x4 && (true && (decide (rR q69.2 11 0 12 = (some (38, 0))) && true)))))) = true then ((f_X11_steps x1 1 (rI q69.2 38 0 (Int32.toNatClampNeg x4)) q69.2).bind fun q82 => (if (true && (true && (true && (decide (rR q82.2 11 0 27 = (some (44, 0))) && true)))) = true then ((f_X11_part x2 6 q82.2).bind fun q107 => (if (true && (ixOk 20 (((10 * x1) + 6) + q107.1) && true)) = true then (some (((((q69.1 + q82.1) + x5) + s0) + (rI q107.2 44 0 (Int32.toNatClampNeg (((10 * x1) + 6) + q107.1)))), q107.2)) else none)) else none)) else none))
set_option maxRecDepth 20000 in
theorem ev_X11_givesWith_64 {d : Nat} (hd : 3 ≤ d) {w6 : Option zV} {x1 : Int32} {x2 : Int32} {x3 : Int32} {x4 : Int32} {x5 : Int32} {s0 : Int32} {h : zM} {r : Int32 × zM} (H : f_X11_givesWith_64 x1 x2 x3 x4 x5 s0 h = some r) : zEv zmt d 179 64 ([some (vR (some (11, 0))), some (vI x1), some (vI x2), some (vI x3), some (vI x4), some (vI x5), w6], [vI s0], h, true) (some (vI r.1), r.2) := by
  obtain ⟨q69, hq, H⟩ := bnd H
  refine zEv.call (k := 178) (as := [vR (some (11, 0)), vI x1, vI x3]) (L2 := [some (vR (some (11, 0))), some (vI x1), some (vI x2), some (vI x3), some (vI x4), some (vI x5), some (vI s0)]) (st2 := []) (h2 := h) (v := some (vI q69.1)) (h1 := q69.2) (st3 := [vI q69.1]) zm_X11_givesWith rfl rfl rfl rfl rfl zm_X11_byWind rfl (by omega) (ev_X11_byWind (by omega) hq) rfl ?_
  obtain ⟨hg, H⟩ := ifg H
  obtain ⟨q82, hq, H⟩ := bnd H
  refine zEv.call (k := 177) (as := [vR (some (11, 0)), vI x1, vI 1, vI (rI q69.2 38 0 (Int32.toNatClampNeg x4))]) (L2 := [some (vR (some (11, 0))), some (vI x1), some (vI x2), some (vI x3), some (vI x4), some (vI x5), some (vI s0)]) (st2 := [vI q69.1]) (h2 := q69.2) (v := some (vI q82.1)) (h1 := q82.2) (st3 := [vI q82.1, vI q69.1]) zm_X11_givesWith rfl (and2 (and2 hg).2).2 rfl hg rfl zm_X11_steps rfl (by omega) (ev_X11_steps (by omega) hq) rfl ?_
  obtain ⟨hg, H⟩ := ifg H
  obtain ⟨q107, hq, H⟩ := bnd H
  refine zEv.call (k := 148) (as := [vR (some (11, 0)), vI x2, vI 6]) (L2 := [some (vR (some (11, 0))), some (vI x1), some (vI x2), some (vI x3), some (vI x4), some (vI x5), some (vI s0)]) (st2 := [vI ((10 * x1) + 6), vR (some (44, 0)), vI (((q69.1 + q82.1) + x5) + s0)]) (h2 := q82.2) (v := some (vI q107.1)) (h1 := q107.2) (st3 := [vI q107.1, vI ((10 * x1) + 6), vR (some (44, 0)), vI (((q69.1 + q82.1) + x5) + s0)]) zm_X11_givesWith rfl (and2 (and2 hg).2).2 rfl hg rfl zm_X11_part rfl (by omega) (ev_X11_part (by omega) hq) rfl ?_
  obtain ⟨hg, H⟩ := ifg H
  cases H
  exact zEv.ret zm_X11_givesWith rfl hg rfl hg
def f_X11_givesWith (x1 : Int32) (x2 : Int32) (x3 : Int32) (h : zM) : Option (Int32 × zM) := ((f_X11_part x2 2 h).bind fun q4 => (if (true && (ixOk 32 ((4 * q4.1) + 2) && (true && (decide (rR q4.2 11 0 12 = (some (38, 0))) && (true && (true && (ixOk 20 ((10 * x1) + 4) && (true && (decide (rR q4.2 11 0 27 = (some (44, 0))) && (true && (ixOk 32 ((4 * q4.1) + 1) && (true && (decide (rR q4.2 11 0 12 = (some (38, 0))) && (true && true)))))))))))))) = true then (if ¬ (rI q4.2 38 0 (Int32.toNatClampNeg ((4 * q4.1) + 2))) = 1 then (f_X11_givesWith_64  x1 x2 x3 (4 * q4.1) (((rI q4.2 38 0 (Int32.toNatClampNeg ((4 * q4.1) + 1))) - 20) * (rI q4.2 44 0 (Int32.toNatClampNeg ((10 * x1) + 4)))) 0 q4.2) else (if (true && (ixOk 20 ((10 * x1) + 5) && (true && (decide (rR q4.2 11 0 27 = (some (44, 0))) && true)))) = true then (f_X11_givesWith_64  x1 x2 x3 (4 * q4.1) (((rI q4.2 38 0 (Int32.toNatClampNeg ((4 * q4.1) + 1))) - 20) * (rI q4.2 44 0 (Int32.toNatClampNeg ((10 * x1) + 4)))) (rI q4.2 44 0 (Int32.toNatClampNeg ((10 * x1) + 5))) q4.2) else none)) else none))
set_option maxRecDepth 20000 in
theorem ev_X11_givesWith {d : Nat} (hd : 3 ≤ d) {w4 : Option zV} {w5 : Option zV} {w6 : Option zV} {x1 : Int32} {x2 : Int32} {x3 : Int32} {h : zM} {r : Int32 × zM} (H : f_X11_givesWith x1 x2 x3 h = some r) : zEv zmt d 179 0 ([some (vR (some (11, 0))), some (vI x1), some (vI x2), some (vI x3), w4, w5, w6], [], h, true) (some (vI r.1), r.2) := by
  obtain ⟨q4, hq, H⟩ := bnd H
  refine zEv.call (k := 148) (as := [vR (some (11, 0)), vI x2, vI 2]) (L2 := [some (vR (some (11, 0))), some (vI x1), some (vI x2), some (vI x3), w4, w5, w6]) (st2 := [vI 4]) (h2 := h) (v := some (vI q4.1)) (h1 := q4.2) (st3 := [vI q4.1, vI 4]) zm_X11_givesWith rfl rfl rfl rfl rfl zm_X11_part rfl (by omega) (ev_X11_part (by omega) hq) rfl ?_
  obtain ⟨hg, H⟩ := ifg H
  rcases ifc H with ⟨hc, H⟩ | ⟨hc, H⟩
  · refine zEv.iteT (L2 := [some (vR (some (11, 0))), some (vI x1), some (vI x2), some (vI x3), some (vI (4 * q4.1)), some (vI (((rI q4.2 38 0 (Int32.toNatClampNeg ((4 * q4.1) + 1))) - 20) * (rI q4.2 44 0 (Int32.toNatClampNeg ((10 * x1) + 4))))), w6]) (st2 := []) (h2 := q4.2) zm_X11_givesWith rfl hg rfl hg (decide_eq_true hc) ?_
    refine zEv.loc (L2 := [some (vR (some (11, 0))), some (vI x1), some (vI x2), some (vI x3), some (vI (4 * q4.1)), some (vI (((rI q4.2 38 0 (Int32.toNatClampNeg ((4 * q4.1) + 1))) - 20) * (rI q4.2 44 0 (Int32.toNatClampNeg ((10 * x1) + 4))))), w6]) (st2 := [vI 0]) (h2 := q4.2) zm_X11_givesWith rfl rfl rfl rfl (fun h => (nomatch h)) ?_
    exact ev_X11_givesWith_64 (by omega)  H
  · refine zEv.iteF (L2 := [some (vR (some (11, 0))), some (vI x1), some (vI x2), some (vI x3), some (vI (4 * q4.1)), some (vI (((rI q4.2 38 0 (Int32.toNatClampNeg ((4 * q4.1) + 1))) - 20) * (rI q4.2 44 0 (Int32.toNatClampNeg ((10 * x1) + 4))))), w6]) (st2 := []) (h2 := q4.2) zm_X11_givesWith rfl hg rfl hg (decide_eq_false hc) ?_
    obtain ⟨hg, H⟩ := ifg H
    refine zEv.loc (L2 := [some (vR (some (11, 0))), some (vI x1), some (vI x2), some (vI x3), some (vI (4 * q4.1)), some (vI (((rI q4.2 38 0 (Int32.toNatClampNeg ((4 * q4.1) + 1))) - 20) * (rI q4.2 44 0 (Int32.toNatClampNeg ((10 * x1) + 4))))), w6]) (st2 := [vI (rI q4.2 44 0 (Int32.toNatClampNeg ((10 * x1) + 5)))]) (h2 := q4.2) zm_X11_givesWith rfl hg rfl hg (fun h => (nomatch h)) ?_
    exact ev_X11_givesWith_64 (by omega)  H
def f_X11_homeWith (x1 : Int32) (x2 : Int32) (x3 : Int32) (h : zM) : Option (Int32 × zM) := ((f_X11_part x2 4 h).bind fun q3 => ((f_X11_givesWith x1 x2 x3 q3.2).bind fun q10 => ((f_X11_part x2 0 q10.2).bind fun q17 => ((f_X11_in q17.1 1 4 q17.2).bind fun q22 => (if q22.1 = 0 then (some (((q3.1 - q10.1) - 0), q22.2)) else (if (true && (ixOk 40 x2 && (true && (decide (rR q22.2 11 0 15 = (some (40, 0))) && true)))) = true then (some (((q3.1 - q10.1) - (rI q22.2 40 0 (Int32.toNatClampNeg x2))), q22.2)) else none))))))
set_option maxRecDepth 20000 in
theorem ev_X11_homeWith {d : Nat} (hd : 4 ≤ d) {x1 : Int32} {x2 : Int32} {x3 : Int32} {h : zM} {r : Int32 × zM} (H : f_X11_homeWith x1 x2 x3 h = some r) : zEv zmt d 180 0 ([some (vR (some (11, 0))), some (vI x1), some (vI x2), some (vI x3)], [], h, true) (some (vI r.1), r.2) := by
  obtain ⟨q3, hq, H⟩ := bnd H
  refine zEv.call (k := 148) (as := [vR (some (11, 0)), vI x2, vI 4]) (L2 := [some (vR (some (11, 0))), some (vI x1), some (vI x2), some (vI x3)]) (st2 := []) (h2 := h) (v := some (vI q3.1)) (h1 := q3.2) (st3 := [vI q3.1]) zm_X11_homeWith rfl rfl rfl rfl rfl zm_X11_part rfl (by omega) (ev_X11_part (by omega) hq) rfl ?_
  obtain ⟨q10, hq, H⟩ := bnd H
  refine zEv.call (k := 179) (as := [vR (some (11, 0)), vI x1, vI x2, vI x3]) (L2 := [some (vR (some (11, 0))), some (vI x1), some (vI x2), some (vI x3)]) (st2 := [vI q3.1]) (h2 := q3.2) (v := some (vI q10.1)) (h1 := q10.2) (st3 := [vI q10.1, vI q3.1]) zm_X11_homeWith rfl rfl rfl rfl rfl zm_X11_givesWith rfl (by omega) (ev_X11_givesWith (by omega) hq) rfl ?_
  obtain ⟨q17, hq, H⟩ := bnd H
  refine zEv.call (k := 148) (as := [vR (some (11, 0)), vI x2, vI 0]) (L2 := [some (vR (some (11, 0))), some (vI x1), some (vI x2), some (vI x3)]) (st2 := [vI (q3.1 - q10.1)]) (h2 := q10.2) (v := some (vI q17.1)) (h1 := q17.2) (st3 := [vI q17.1, vI (q3.1 - q10.1)]) zm_X11_homeWith rfl rfl rfl rfl rfl zm_X11_part rfl (by omega) (ev_X11_part (by omega) hq) rfl ?_
  obtain ⟨q22, hq, H⟩ := bnd H
  refine zEv.call (k := 127) (as := [vI q17.1, vI 1, vI 4]) (L2 := [some (vR (some (11, 0))), some (vI x1), some (vI x2), some (vI x3)]) (st2 := [vI (q3.1 - q10.1)]) (h2 := q17.2) (v := some (vI q22.1)) (h1 := q22.2) (st3 := [vI q22.1, vI (q3.1 - q10.1)]) zm_X11_homeWith rfl rfl rfl rfl rfl zm_X11_in rfl (by omega) (ev_X11_in (by omega) hq) rfl ?_
  rcases ifc H with ⟨hc, H⟩ | ⟨hc, H⟩
  · refine zEv.iteT (L2 := [some (vR (some (11, 0))), some (vI x1), some (vI x2), some (vI x3)]) (st2 := [vI (q3.1 - q10.1)]) (h2 := q22.2) zm_X11_homeWith rfl rfl rfl rfl (decide_eq_true hc) ?_
    refine zEv.loc (L2 := [some (vR (some (11, 0))), some (vI x1), some (vI x2), some (vI x3)]) (st2 := [vI 0, vI (q3.1 - q10.1)]) (h2 := q22.2) zm_X11_homeWith rfl rfl rfl rfl (fun h => (nomatch h)) ?_
    cases H
    exact zEv.ret zm_X11_homeWith rfl rfl rfl rfl
  · refine zEv.iteF (L2 := [some (vR (some (11, 0))), some (vI x1), some (vI x2), some (vI x3)]) (st2 := [vI (q3.1 - q10.1)]) (h2 := q22.2) zm_X11_homeWith rfl rfl rfl rfl (decide_eq_false hc) ?_
    obtain ⟨hg, H⟩ := ifg H
    refine zEv.loc (L2 := [some (vR (some (11, 0))), some (vI x1), some (vI x2), some (vI x3)]) (st2 := [vI (rI q22.2 40 0 (Int32.toNatClampNeg x2)), vI (q3.1 - q10.1)]) (h2 := q22.2) zm_X11_homeWith rfl hg rfl hg (fun h => (nomatch h)) ?_
    cases H
    exact zEv.ret zm_X11_homeWith rfl rfl rfl rfl
def f_X11_askedBoth (x1 : Int32) (x2 : Int32) (h : zM) : Option (Int32 × zM) := ((f_X11_isMark x2 h).bind fun q2 => (if ¬ q2.1 = 0 then ((f_X11_askedLaws x1 q2.2).bind fun q14 => (some (q14.1, q14.2))) else (some ((-1), q2.2))))
set_option maxRecDepth 20000 in
theorem ev_X11_askedBoth {d : Nat} (hd : 3 ≤ d) {x1 : Int32} {x2 : Int32} {h : zM} {r : Int32 × zM} (H : f_X11_askedBoth x1 x2 h = some r) : zEv zmt d 181 0 ([some (vR (some (11, 0))), some (vI x1), some (vI x2)], [], h, true) (some (vI r.1), r.2) := by
  obtain ⟨q2, hq, H⟩ := bnd H
  refine zEv.call (k := 147) (as := [vR (some (11, 0)), vI x2]) (L2 := [some (vR (some (11, 0))), some (vI x1), some (vI x2)]) (st2 := []) (h2 := h) (v := some (vI q2.1)) (h1 := q2.2) (st3 := [vI q2.1]) zm_X11_askedBoth rfl rfl rfl rfl rfl zm_X11_isMark rfl (by omega) (ev_X11_isMark (by omega) hq) rfl ?_
  rcases ifc H with ⟨hc, H⟩ | ⟨hc, H⟩
  · refine zEv.iteT (L2 := [some (vR (some (11, 0))), some (vI x1), some (vI x2)]) (st2 := []) (h2 := q2.2) zm_X11_askedBoth rfl rfl rfl rfl (decide_eq_true hc) ?_
    obtain ⟨q14, hq, H⟩ := bnd H
    refine zEv.call (k := 173) (as := [vR (some (11, 0)), vI x1]) (L2 := [some (vR (some (11, 0))), some (vI x1), some (vI x2)]) (st2 := []) (h2 := q2.2) (v := some (vI q14.1)) (h1 := q14.2) (st3 := [vI q14.1]) zm_X11_askedBoth rfl rfl rfl rfl rfl zm_X11_askedLaws rfl (by omega) (ev_X11_askedLaws (by omega) hq) rfl ?_
    cases H
    exact zEv.ret zm_X11_askedBoth rfl rfl rfl rfl
  · refine zEv.iteF (L2 := [some (vR (some (11, 0))), some (vI x1), some (vI x2)]) (st2 := []) (h2 := q2.2) zm_X11_askedBoth rfl rfl rfl rfl (decide_eq_false hc) ?_
    refine zEv.loc (L2 := [some (vR (some (11, 0))), some (vI x1), some (vI x2)]) (st2 := [vI (-1)]) (h2 := q2.2) zm_X11_askedBoth rfl rfl rfl rfl (fun h => (nomatch h)) ?_
    cases H
    exact zEv.ret zm_X11_askedBoth rfl rfl rfl rfl
def f_X11_gives (x1 : Int32) (x2 : Int32) (h : zM) : Option (Int32 × zM) := ((f_X11_askedBoth x1 x2 h).bind fun q3 => (if 0 ≤ q3.1 then ((f_X11_part x2 5 q3.2).bind fun q22 => ((f_X11_givesWith x1 x2 q22.1 q22.2).bind fun q25 => ((f_X11_ask q25.1 1 q25.2).bind fun q29 => (some (q29.1, q29.2))))) else (some (q3.1, q3.2))))
set_option maxRecDepth 20000 in
theorem ev_X11_gives {d : Nat} (hd : 4 ≤ d) {w3 : Option zV} {x1 : Int32} {x2 : Int32} {h : zM} {r : Int32 × zM} (H : f_X11_gives x1 x2 h = some r) : zEv zmt d 182 0 ([some (vR (some (11, 0))), some (vI x1), some (vI x2), w3], [], h, true) (some (vI r.1), r.2) := by
  obtain ⟨q3, hq, H⟩ := bnd H
  refine zEv.call (k := 181) (as := [vR (some (11, 0)), vI x1, vI x2]) (L2 := [some (vR (some (11, 0))), some (vI x1), some (vI x2), w3]) (st2 := []) (h2 := h) (v := some (vI q3.1)) (h1 := q3.2) (st3 := [vI q3.1]) zm_X11_gives rfl rfl rfl rfl rfl zm_X11_askedBoth rfl (by omega) (ev_X11_askedBoth (by omega) hq) rfl ?_
  rcases ifc H with ⟨hc, H⟩ | ⟨hc, H⟩
  · refine zEv.iteT (L2 := [some (vR (some (11, 0))), some (vI x1), some (vI x2), some (vI q3.1)]) (st2 := []) (h2 := q3.2) zm_X11_gives rfl rfl rfl rfl (decide_eq_true hc) ?_
    obtain ⟨q22, hq, H⟩ := bnd H
    refine zEv.call (k := 148) (as := [vR (some (11, 0)), vI x2, vI 5]) (L2 := [some (vR (some (11, 0))), some (vI x1), some (vI x2), some (vI q3.1)]) (st2 := [vI x2, vI x1, vR (some (11, 0)), vR (some (11, 0))]) (h2 := q3.2) (v := some (vI q22.1)) (h1 := q22.2) (st3 := [vI q22.1, vI x2, vI x1, vR (some (11, 0)), vR (some (11, 0))]) zm_X11_gives rfl rfl rfl rfl rfl zm_X11_part rfl (by omega) (ev_X11_part (by omega) hq) rfl ?_
    obtain ⟨q25, hq, H⟩ := bnd H
    refine zEv.call (k := 179) (as := [vR (some (11, 0)), vI x1, vI x2, vI q22.1]) (L2 := [some (vR (some (11, 0))), some (vI x1), some (vI x2), some (vI q3.1)]) (st2 := [vR (some (11, 0))]) (h2 := q22.2) (v := some (vI q25.1)) (h1 := q25.2) (st3 := [vI q25.1, vR (some (11, 0))]) zm_X11_gives rfl rfl rfl rfl rfl zm_X11_givesWith rfl (by omega) (ev_X11_givesWith (by omega) hq) rfl ?_
    obtain ⟨q29, hq, H⟩ := bnd H
    refine zEv.call (k := 129) (as := [vR (some (11, 0)), vI q25.1, vI 1]) (L2 := [some (vR (some (11, 0))), some (vI x1), some (vI x2), some (vI q3.1)]) (st2 := []) (h2 := q25.2) (v := some (vI q29.1)) (h1 := q29.2) (st3 := [vI q29.1]) zm_X11_gives rfl rfl rfl rfl rfl zm_X11_ask rfl (by omega) (ev_X11_ask (by omega) hq) rfl ?_
    cases H
    exact zEv.ret zm_X11_gives rfl rfl rfl rfl
  · refine zEv.iteF (L2 := [some (vR (some (11, 0))), some (vI x1), some (vI x2), some (vI q3.1)]) (st2 := []) (h2 := q3.2) zm_X11_gives rfl rfl rfl rfl (decide_eq_false hc) ?_
    refine zEv.loc (L2 := [some (vR (some (11, 0))), some (vI x1), some (vI x2), some (vI q3.1)]) (st2 := [vI q3.1]) (h2 := q3.2) zm_X11_gives rfl rfl rfl rfl (fun h => (nomatch h)) ?_
    cases H
    exact zEv.ret zm_X11_gives rfl rfl rfl rfl
def f_X11_home (x1 : Int32) (x2 : Int32) (h : zM) : Option (Int32 × zM) := ((f_X11_askedBoth x1 x2 h).bind fun q3 => (if 0 ≤ q3.1 then ((f_X11_part x2 5 q3.2).bind fun q22 => ((f_X11_homeWith x1 x2 q22.1 q22.2).bind fun q25 => ((f_X11_ask q25.1 1 q25.2).bind fun q29 => (some (q29.1, q29.2))))) else (some (q3.1, q3.2))))
set_option maxRecDepth 20000 in
theorem ev_X11_home {d : Nat} (hd : 5 ≤ d) {w3 : Option zV} {x1 : Int32} {x2 : Int32} {h : zM} {r : Int32 × zM} (H : f_X11_home x1 x2 h = some r) : zEv zmt d 183 0 ([some (vR (some (11, 0))), some (vI x1), some (vI x2), w3], [], h, true) (some (vI r.1), r.2) := by
  obtain ⟨q3, hq, H⟩ := bnd H
  refine zEv.call (k := 181) (as := [vR (some (11, 0)), vI x1, vI x2]) (L2 := [some (vR (some (11, 0))), some (vI x1), some (vI x2), w3]) (st2 := []) (h2 := h) (v := some (vI q3.1)) (h1 := q3.2) (st3 := [vI q3.1]) zm_X11_home rfl rfl rfl rfl rfl zm_X11_askedBoth rfl (by omega) (ev_X11_askedBoth (by omega) hq) rfl ?_
  rcases ifc H with ⟨hc, H⟩ | ⟨hc, H⟩
  · refine zEv.iteT (L2 := [some (vR (some (11, 0))), some (vI x1), some (vI x2), some (vI q3.1)]) (st2 := []) (h2 := q3.2) zm_X11_home rfl rfl rfl rfl (decide_eq_true hc) ?_
    obtain ⟨q22, hq, H⟩ := bnd H
    refine zEv.call (k := 148) (as := [vR (some (11, 0)), vI x2, vI 5]) (L2 := [some (vR (some (11, 0))), some (vI x1), some (vI x2), some (vI q3.1)]) (st2 := [vI x2, vI x1, vR (some (11, 0)), vR (some (11, 0))]) (h2 := q3.2) (v := some (vI q22.1)) (h1 := q22.2) (st3 := [vI q22.1, vI x2, vI x1, vR (some (11, 0)), vR (some (11, 0))]) zm_X11_home rfl rfl rfl rfl rfl zm_X11_part rfl (by omega) (ev_X11_part (by omega) hq) rfl ?_
    obtain ⟨q25, hq, H⟩ := bnd H
    refine zEv.call (k := 180) (as := [vR (some (11, 0)), vI x1, vI x2, vI q22.1]) (L2 := [some (vR (some (11, 0))), some (vI x1), some (vI x2), some (vI q3.1)]) (st2 := [vR (some (11, 0))]) (h2 := q22.2) (v := some (vI q25.1)) (h1 := q25.2) (st3 := [vI q25.1, vR (some (11, 0))]) zm_X11_home rfl rfl rfl rfl rfl zm_X11_homeWith rfl (by omega) (ev_X11_homeWith (by omega) hq) rfl ?_
    obtain ⟨q29, hq, H⟩ := bnd H
    refine zEv.call (k := 129) (as := [vR (some (11, 0)), vI q25.1, vI 1]) (L2 := [some (vR (some (11, 0))), some (vI x1), some (vI x2), some (vI q3.1)]) (st2 := []) (h2 := q25.2) (v := some (vI q29.1)) (h1 := q29.2) (st3 := [vI q29.1]) zm_X11_home rfl rfl rfl rfl rfl zm_X11_ask rfl (by omega) (ev_X11_ask (by omega) hq) rfl ?_
    cases H
    exact zEv.ret zm_X11_home rfl rfl rfl rfl
  · refine zEv.iteF (L2 := [some (vR (some (11, 0))), some (vI x1), some (vI x2), some (vI q3.1)]) (st2 := []) (h2 := q3.2) zm_X11_home rfl rfl rfl rfl (decide_eq_false hc) ?_
    refine zEv.loc (L2 := [some (vR (some (11, 0))), some (vI x1), some (vI x2), some (vI q3.1)]) (st2 := [vI q3.1]) (h2 := q3.2) zm_X11_home rfl rfl rfl rfl (fun h => (nomatch h)) ?_
    cases H
    exact zEv.ret zm_X11_home rfl rfl rfl rfl
def f_X11_end_81 (K33 : Int32 → Int32 → Int32 → Int32 → Int32 → Int32 → zM → Option (Int32 × zM)) (x1 : Int32) (x2 : Int32) (x3 : Int32) (x4 : Int32) (x6 : Int32) (s0 : Int32) (h : zM) : Option (Int32 × zM) := (K33 x1 x2 x3 x4 s0 (x6 + 1) h)
set_option maxRecDepth 20000 in
theorem ev_X11_end_81 {d : Nat} (hd : 5 ≤ d) {K33 : Int32 → Int32 → Int32 → Int32 → Int32 → Int32 → zM → Option (Int32 × zM)} (hK33 : ∀ {w7 : Option zV} {x1 : Int32} {x2 : Int32} {x3 : Int32} {x4 : Int32} {x5 : Int32} {x6 : Int32} {h : zM} {r : Int32 × zM}, K33 x1 x2 x3 x4 x5 x6 h = some r → zEv zmt d 184 33 ([some (vR (some (11, 0))), some (vI x1), some (vI x2), some (vI x3), some (vI x4), some (vI x5), some (vI x6), w7], [], h, true) (some (vI r.1), r.2)) {w5 : Option zV} {w7 : Option zV} {x1 : Int32} {x2 : Int32} {x3 : Int32} {x4 : Int32} {x6 : Int32} {s0 : Int32} {h : zM} {r : Int32 × zM} (H : f_X11_end_81 K33 x1 x2 x3 x4 x6 s0 h = some r) : zEv zmt d 184 81 ([some (vR (some (11, 0))), some (vI x1), some (vI x2), some (vI x3), some (vI x4), w5, some (vI x6), w7], [vI s0], h, true) (some (vI r.1), r.2) := by
  refine zEv.loc (L2 := [some (vR (some (11, 0))), some (vI x1), some (vI x2), some (vI x3), some (vI x4), some (vI s0), some (vI (x6 + 1)), w7]) (st2 := []) (h2 := h) zm_X11_end rfl rfl rfl rfl (fun h => (nomatch h)) ?_
  exact hK33 H
def f_X11_end_71 (K33 : Int32 → Int32 → Int32 → Int32 → Int32 → Int32 → zM → Option (Int32 × zM)) (x1 : Int32) (x2 : Int32) (x3 : Int32) (x4 : Int32) (x5 : Int32) (x6 : Int32) (x7 : Int32) (s0 : Int32) (s1 : Int32) (h : zM) : Option (Int32 × zM) := (if ¬ s0 = s1 then (f_X11_end_81 K33 x1 x2 x3 x4 x6 x5 h) else (f_X11_end_81 K33 x1 x2 x3 x4 x6 x7 h))
set_option maxRecDepth 20000 in
theorem ev_X11_end_71 {d : Nat} (hd : 5 ≤ d) {K33 : Int32 → Int32 → Int32 → Int32 → Int32 → Int32 → zM → Option (Int32 × zM)} (hK33 : ∀ {w7 : Option zV} {x1 : Int32} {x2 : Int32} {x3 : Int32} {x4 : Int32} {x5 : Int32} {x6 : Int32} {h : zM} {r : Int32 × zM}, K33 x1 x2 x3 x4 x5 x6 h = some r → zEv zmt d 184 33 ([some (vR (some (11, 0))), some (vI x1), some (vI x2), some (vI x3), some (vI x4), some (vI x5), some (vI x6), w7], [], h, true) (some (vI r.1), r.2)) {x1 : Int32} {x2 : Int32} {x3 : Int32} {x4 : Int32} {x5 : Int32} {x6 : Int32} {x7 : Int32} {s0 : Int32} {s1 : Int32} {h : zM} {r : Int32 × zM} (H : f_X11_end_71 K33 x1 x2 x3 x4 x5 x6 x7 s0 s1 h = some r) : zEv zmt d 184 71 ([some (vR (some (11, 0))), some (vI x1), some (vI x2), some (vI x3), some (vI x4), some (vI x5), some (vI x6), some (vI x7)], [vI s1, vI s0], h, true) (some (vI r.1), r.2) := by
  rcases ifc H with ⟨hc, H⟩ | ⟨hc, H⟩
  · refine zEv.iteT (L2 := [some (vR (some (11, 0))), some (vI x1), some (vI x2), some (vI x3), some (vI x4), some (vI x5), some (vI x6), some (vI x7)]) (st2 := []) (h2 := h) zm_X11_end rfl rfl rfl rfl (decide_eq_true hc) ?_
    refine zEv.loc (L2 := [some (vR (some (11, 0))), some (vI x1), some (vI x2), some (vI x3), some (vI x4), some (vI x5), some (vI x6), some (vI x7)]) (st2 := [vI x5]) (h2 := h) zm_X11_end rfl rfl rfl rfl (fun h => (nomatch h)) ?_
    exact ev_X11_end_81 (by omega) hK33 H
  · refine zEv.iteF (L2 := [some (vR (some (11, 0))), some (vI x1), some (vI x2), some (vI x3), some (vI x4), some (vI x5), some (vI x6), some (vI x7)]) (st2 := []) (h2 := h) zm_X11_end rfl rfl rfl rfl (decide_eq_false hc) ?_
    refine zEv.loc (L2 := [some (vR (some (11, 0))), some (vI x1), some (vI x2), some (vI x3), some (vI x4), some (vI x5), some (vI x6), some (vI x7)]) (st2 := [vI x7]) (h2 := h) zm_X11_end rfl rfl rfl rfl (fun h => (nomatch h)) ?_
    exact ev_X11_end_81 (by omega) hK33 H
def f_X11_end_33 : Nat → Int32 → Int32 → Int32 → Int32 → Int32 → Int32 → zM → Option (Int32 × zM)
  | 0 => fun _ _ _ _ _ _ _ => none
  | k + 1 => fun x1 x2 x3 x4 x5 x6 h => (if 20 < x6 then (some (x5, h)) else (if ¬ x4 = (-9999) then (some (x5, h)) else ((f_X11_homeWith x1 x2 x6 h).bind fun q53 => (if q53.1 ≤ x5 then (f_X11_end_71 (f_X11_end_33 k) x1 x2 x3 x4 x5 x6 q53.1 x3 0 q53.2) else (f_X11_end_71 (f_X11_end_33 k) x1 x2 x3 x4 x5 x6 q53.1 x3 1 q53.2)))))
set_option maxRecDepth 20000 in
theorem ev_X11_end_33 {d : Nat} (hd : 5 ≤ d) : ∀ (k : Nat) {w7 : Option zV} {x1 : Int32} {x2 : Int32} {x3 : Int32} {x4 : Int32} {x5 : Int32} {x6 : Int32} {h : zM} {r : Int32 × zM}, f_X11_end_33 k x1 x2 x3 x4 x5 x6 h = some r → zEv zmt d 184 33 ([some (vR (some (11, 0))), some (vI x1), some (vI x2), some (vI x3), some (vI x4), some (vI x5), some (vI x6), w7], [], h, true) (some (vI r.1), r.2) := by
  intro k
  induction k with
  | zero => intro w7 x1 x2 x3 x4 x5 x6 h r H; cases H
  | succ k ih =>
    intro w7 x1 x2 x3 x4 x5 x6 h r H
    rcases ifc H with ⟨hc, H⟩ | ⟨hc, H⟩
    · refine zEv.iteT (L2 := [some (vR (some (11, 0))), some (vI x1), some (vI x2), some (vI x3), some (vI x4), some (vI x5), some (vI x6), w7]) (st2 := []) (h2 := h) zm_X11_end rfl rfl rfl rfl (decide_eq_true hc) ?_
      cases H
      exact zEv.ret zm_X11_end rfl rfl rfl rfl
    · refine zEv.iteF (L2 := [some (vR (some (11, 0))), some (vI x1), some (vI x2), some (vI x3), some (vI x4), some (vI x5), some (vI x6), w7]) (st2 := []) (h2 := h) zm_X11_end rfl rfl rfl rfl (decide_eq_false hc) ?_
      rcases ifc H with ⟨hc, H⟩ | ⟨hc, H⟩
      · refine zEv.iteT (L2 := [some (vR (some (11, 0))), some (vI x1), some (vI x2), some (vI x3), some (vI x4), some (vI x5), some (vI x6), w7]) (st2 := []) (h2 := h) zm_X11_end rfl rfl rfl rfl (decide_eq_true hc) ?_
        cases H
        exact zEv.ret zm_X11_end rfl rfl rfl rfl
      · refine zEv.iteF (L2 := [some (vR (some (11, 0))), some (vI x1), some (vI x2), some (vI x3), some (vI x4), some (vI x5), some (vI x6), w7]) (st2 := []) (h2 := h) zm_X11_end rfl rfl rfl rfl (decide_eq_false hc) ?_
        obtain ⟨q53, hq, H⟩ := bnd H
        refine zEv.call (k := 180) (as := [vR (some (11, 0)), vI x1, vI x2, vI x6]) (L2 := [some (vR (some (11, 0))), some (vI x1), some (vI x2), some (vI x3), some (vI x4), some (vI x5), some (vI x6), w7]) (st2 := []) (h2 := h) (v := some (vI q53.1)) (h1 := q53.2) (st3 := [vI q53.1]) zm_X11_end rfl rfl rfl rfl rfl zm_X11_homeWith rfl (by omega) (ev_X11_homeWith (by omega) hq) rfl ?_
        rcases ifc H with ⟨hc, H⟩ | ⟨hc, H⟩
        · refine zEv.iteT (L2 := [some (vR (some (11, 0))), some (vI x1), some (vI x2), some (vI x3), some (vI x4), some (vI x5), some (vI x6), some (vI q53.1)]) (st2 := [vI x3]) (h2 := q53.2) zm_X11_end rfl rfl rfl rfl (decide_eq_true hc) ?_
          refine zEv.loc (L2 := [some (vR (some (11, 0))), some (vI x1), some (vI x2), some (vI x3), some (vI x4), some (vI x5), some (vI x6), some (vI q53.1)]) (st2 := [vI 0, vI x3]) (h2 := q53.2) zm_X11_end rfl rfl rfl rfl (fun h => (nomatch h)) ?_
          exact ev_X11_end_71 (by omega) ih H
        · refine zEv.iteF (L2 := [some (vR (some (11, 0))), some (vI x1), some (vI x2), some (vI x3), some (vI x4), some (vI x5), some (vI x6), some (vI q53.1)]) (st2 := [vI x3]) (h2 := q53.2) zm_X11_end rfl rfl rfl rfl (decide_eq_false hc) ?_
          refine zEv.loc (L2 := [some (vR (some (11, 0))), some (vI x1), some (vI x2), some (vI x3), some (vI x4), some (vI x5), some (vI x6), some (vI q53.1)]) (st2 := [vI 1, vI x3]) (h2 := q53.2) zm_X11_end rfl rfl rfl rfl (fun h => (nomatch h)) ?_
          exact ev_X11_end_71 (by omega) ih H
def f_X11_end_25 (x1 : Int32) (x2 : Int32) (x3 : Int32) (x4 : Int32) (s1 : Int32) (s2 : Int32) (s3 : Int32) (h : zM) : Option (Int32 × zM) := ((f_X11_homeWith s1 s2 s3 h).bind fun q25 => (f_X11_end_33  1000 x1 x2 x3 x4 q25.1 1 q25.2))
set_option maxRecDepth 20000 in
theorem ev_X11_end_25 {d : Nat} (hd : 5 ≤ d) {w5 : Option zV} {w6 : Option zV} {w7 : Option zV} {x1 : Int32} {x2 : Int32} {x3 : Int32} {x4 : Int32} {s1 : Int32} {s2 : Int32} {s3 : Int32} {h : zM} {r : Int32 × zM} (H : f_X11_end_25 x1 x2 x3 x4 s1 s2 s3 h = some r) : zEv zmt d 184 25 ([some (vR (some (11, 0))), some (vI x1), some (vI x2), some (vI x3), some (vI x4), w5, w6, w7], [vI s3, vI s2, vI s1, vR (some (11, 0))], h, true) (some (vI r.1), r.2) := by
  obtain ⟨q25, hq, H⟩ := bnd H
  refine zEv.call (k := 180) (as := [vR (some (11, 0)), vI s1, vI s2, vI s3]) (L2 := [some (vR (some (11, 0))), some (vI x1), some (vI x2), some (vI x3), some (vI x4), w5, w6, w7]) (st2 := []) (h2 := h) (v := some (vI q25.1)) (h1 := q25.2) (st3 := [vI q25.1]) zm_X11_end rfl rfl rfl rfl rfl zm_X11_homeWith rfl (by omega) (ev_X11_homeWith (by omega) hq) rfl ?_
  refine zEv.loc (L2 := [some (vR (some (11, 0))), some (vI x1), some (vI x2), some (vI x3), some (vI x4), some (vI q25.1), some (vI 1), w7]) (st2 := []) (h2 := q25.2) zm_X11_end rfl rfl rfl rfl (fun h => (nomatch h)) ?_
  exact ev_X11_end_33 (by omega)  1000 H
def f_X11_end (x1 : Int32) (x2 : Int32) (x3 : Int32) (h : zM) : Option (Int32 × zM) := ((f_X11_part x2 5 h).bind fun q3 => (if ¬ q3.1 = (-9999) then (f_X11_end_25  x1 x2 x3 q3.1 x1 x2 q3.1 q3.2) else (f_X11_end_25  x1 x2 x3 q3.1 x1 x2 0 q3.2)))
set_option maxRecDepth 20000 in
theorem ev_X11_end {d : Nat} (hd : 5 ≤ d) {w4 : Option zV} {w5 : Option zV} {w6 : Option zV} {w7 : Option zV} {x1 : Int32} {x2 : Int32} {x3 : Int32} {h : zM} {r : Int32 × zM} (H : f_X11_end x1 x2 x3 h = some r) : zEv zmt d 184 0 ([some (vR (some (11, 0))), some (vI x1), some (vI x2), some (vI x3), w4, w5, w6, w7], [], h, true) (some (vI r.1), r.2) := by
  obtain ⟨q3, hq, H⟩ := bnd H
  refine zEv.call (k := 148) (as := [vR (some (11, 0)), vI x2, vI 5]) (L2 := [some (vR (some (11, 0))), some (vI x1), some (vI x2), some (vI x3), w4, w5, w6, w7]) (st2 := []) (h2 := h) (v := some (vI q3.1)) (h1 := q3.2) (st3 := [vI q3.1]) zm_X11_end rfl rfl rfl rfl rfl zm_X11_part rfl (by omega) (ev_X11_part (by omega) hq) rfl ?_
  rcases ifc H with ⟨hc, H⟩ | ⟨hc, H⟩
  · refine zEv.iteT (L2 := [some (vR (some (11, 0))), some (vI x1), some (vI x2), some (vI x3), some (vI q3.1), w5, w6, w7]) (st2 := [vI x2, vI x1, vR (some (11, 0))]) (h2 := q3.2) zm_X11_end rfl rfl rfl rfl (decide_eq_true hc) ?_
    refine zEv.loc (L2 := [some (vR (some (11, 0))), some (vI x1), some (vI x2), some (vI x3), some (vI q3.1), w5, w6, w7]) (st2 := [vI q3.1, vI x2, vI x1, vR (some (11, 0))]) (h2 := q3.2) zm_X11_end rfl rfl rfl rfl (fun h => (nomatch h)) ?_
    exact ev_X11_end_25 (by omega)  H
  · refine zEv.iteF (L2 := [some (vR (some (11, 0))), some (vI x1), some (vI x2), some (vI x3), some (vI q3.1), w5, w6, w7]) (st2 := [vI x2, vI x1, vR (some (11, 0))]) (h2 := q3.2) zm_X11_end rfl rfl rfl rfl (decide_eq_false hc) ?_
    refine zEv.loc (L2 := [some (vR (some (11, 0))), some (vI x1), some (vI x2), some (vI x3), some (vI q3.1), w5, w6, w7]) (st2 := [vI 0, vI x2, vI x1, vR (some (11, 0))]) (h2 := q3.2) zm_X11_end rfl rfl rfl rfl (fun h => (nomatch h)) ?_
    exact ev_X11_end_25 (by omega)  H
def f_X11_span (x1 : Int32) (x2 : Int32) (h : zM) : Option (Int32 × zM) := ((f_X11_askedBoth x1 x2 h).bind fun q3 => (if 0 ≤ q3.1 then ((f_X11_end x1 x2 0 q3.2).bind fun q20 => ((f_X11_end x1 x2 1 q20.2).bind fun q27 => ((f_X11_end x1 x2 0 q27.2).bind fun q34 => ((f_X11_ask q20.1 (q27.1 - q34.1) q34.2).bind fun q38 => (some (q38.1, q38.2)))))) else (some (q3.1, q3.2))))
set_option maxRecDepth 20000 in
theorem ev_X11_span {d : Nat} (hd : 6 ≤ d) {w3 : Option zV} {x1 : Int32} {x2 : Int32} {h : zM} {r : Int32 × zM} (H : f_X11_span x1 x2 h = some r) : zEv zmt d 185 0 ([some (vR (some (11, 0))), some (vI x1), some (vI x2), w3], [], h, true) (some (vI r.1), r.2) := by
  obtain ⟨q3, hq, H⟩ := bnd H
  refine zEv.call (k := 181) (as := [vR (some (11, 0)), vI x1, vI x2]) (L2 := [some (vR (some (11, 0))), some (vI x1), some (vI x2), w3]) (st2 := []) (h2 := h) (v := some (vI q3.1)) (h1 := q3.2) (st3 := [vI q3.1]) zm_X11_span rfl rfl rfl rfl rfl zm_X11_askedBoth rfl (by omega) (ev_X11_askedBoth (by omega) hq) rfl ?_
  rcases ifc H with ⟨hc, H⟩ | ⟨hc, H⟩
  · refine zEv.iteT (L2 := [some (vR (some (11, 0))), some (vI x1), some (vI x2), some (vI q3.1)]) (st2 := []) (h2 := q3.2) zm_X11_span rfl rfl rfl rfl (decide_eq_true hc) ?_
    obtain ⟨q20, hq, H⟩ := bnd H
    refine zEv.call (k := 184) (as := [vR (some (11, 0)), vI x1, vI x2, vI 0]) (L2 := [some (vR (some (11, 0))), some (vI x1), some (vI x2), some (vI q3.1)]) (st2 := [vR (some (11, 0))]) (h2 := q3.2) (v := some (vI q20.1)) (h1 := q20.2) (st3 := [vI q20.1, vR (some (11, 0))]) zm_X11_span rfl rfl rfl rfl rfl zm_X11_end rfl (by omega) (ev_X11_end (by omega) hq) rfl ?_
    obtain ⟨q27, hq, H⟩ := bnd H
    refine zEv.call (k := 184) (as := [vR (some (11, 0)), vI x1, vI x2, vI 1]) (L2 := [some (vR (some (11, 0))), some (vI x1), some (vI x2), some (vI q3.1)]) (st2 := [vI q20.1, vR (some (11, 0))]) (h2 := q20.2) (v := some (vI q27.1)) (h1 := q27.2) (st3 := [vI q27.1, vI q20.1, vR (some (11, 0))]) zm_X11_span rfl rfl rfl rfl rfl zm_X11_end rfl (by omega) (ev_X11_end (by omega) hq) rfl ?_
    obtain ⟨q34, hq, H⟩ := bnd H
    refine zEv.call (k := 184) (as := [vR (some (11, 0)), vI x1, vI x2, vI 0]) (L2 := [some (vR (some (11, 0))), some (vI x1), some (vI x2), some (vI q3.1)]) (st2 := [vI q27.1, vI q20.1, vR (some (11, 0))]) (h2 := q27.2) (v := some (vI q34.1)) (h1 := q34.2) (st3 := [vI q34.1, vI q27.1, vI q20.1, vR (some (11, 0))]) zm_X11_span rfl rfl rfl rfl rfl zm_X11_end rfl (by omega) (ev_X11_end (by omega) hq) rfl ?_
    obtain ⟨q38, hq, H⟩ := bnd H
    refine zEv.call (k := 129) (as := [vR (some (11, 0)), vI q20.1, vI (q27.1 - q34.1)]) (L2 := [some (vR (some (11, 0))), some (vI x1), some (vI x2), some (vI q3.1)]) (st2 := []) (h2 := q34.2) (v := some (vI q38.1)) (h1 := q38.2) (st3 := [vI q38.1]) zm_X11_span rfl rfl rfl rfl rfl zm_X11_ask rfl (by omega) (ev_X11_ask (by omega) hq) rfl ?_
    cases H
    exact zEv.ret zm_X11_span rfl rfl rfl rfl
  · refine zEv.iteF (L2 := [some (vR (some (11, 0))), some (vI x1), some (vI x2), some (vI q3.1)]) (st2 := []) (h2 := q3.2) zm_X11_span rfl rfl rfl rfl (decide_eq_false hc) ?_
    refine zEv.loc (L2 := [some (vR (some (11, 0))), some (vI x1), some (vI x2), some (vI q3.1)]) (st2 := [vI q3.1]) (h2 := q3.2) zm_X11_span rfl rfl rfl rfl (fun h => (nomatch h)) ?_
    cases H
    exact zEv.ret zm_X11_span rfl rfl rfl rfl
def f_X11_sure (x1 : Int32) (x2 : Int32) (x3 : Int32) (h : zM) : Option (Int32 × zM) := ((f_X11_isMark x3 h).bind fun q2 => (if ¬ q2.1 = 0 then ((f_X11_askedBoth x1 x2 q2.2).bind fun q13 => (if 0 ≤ q13.1 then ((f_X11_end x1 x2 0 q13.2).bind fun q32 => ((f_X11_end x1 x3 1 q32.2).bind fun q39 => (if q32.1 ≤ q39.1 then (some (0, q39.2)) else (some (1, q39.2))))) else (some (q13.1, q13.2)))) else (some ((-1), q2.2))))
set_option maxRecDepth 20000 in
theorem ev_X11_sure {d : Nat} (hd : 6 ≤ d) {w4 : Option zV} {x1 : Int32} {x2 : Int32} {x3 : Int32} {h : zM} {r : Int32 × zM} (H : f_X11_sure x1 x2 x3 h = some r) : zEv zmt d 186 0 ([some (vR (some (11, 0))), some (vI x1), some (vI x2), some (vI x3), w4], [], h, true) (some (vI r.1), r.2) := by
  obtain ⟨q2, hq, H⟩ := bnd H
  refine zEv.call (k := 147) (as := [vR (some (11, 0)), vI x3]) (L2 := [some (vR (some (11, 0))), some (vI x1), some (vI x2), some (vI x3), w4]) (st2 := []) (h2 := h) (v := some (vI q2.1)) (h1 := q2.2) (st3 := [vI q2.1]) zm_X11_sure rfl rfl rfl rfl rfl zm_X11_isMark rfl (by omega) (ev_X11_isMark (by omega) hq) rfl ?_
  rcases ifc H with ⟨hc, H⟩ | ⟨hc, H⟩
  · refine zEv.iteT (L2 := [some (vR (some (11, 0))), some (vI x1), some (vI x2), some (vI x3), w4]) (st2 := []) (h2 := q2.2) zm_X11_sure rfl rfl rfl rfl (decide_eq_true hc) ?_
    obtain ⟨q13, hq, H⟩ := bnd H
    refine zEv.call (k := 181) (as := [vR (some (11, 0)), vI x1, vI x2]) (L2 := [some (vR (some (11, 0))), some (vI x1), some (vI x2), some (vI x3), w4]) (st2 := []) (h2 := q2.2) (v := some (vI q13.1)) (h1 := q13.2) (st3 := [vI q13.1]) zm_X11_sure rfl rfl rfl rfl rfl zm_X11_askedBoth rfl (by omega) (ev_X11_askedBoth (by omega) hq) rfl ?_
    rcases ifc H with ⟨hc, H⟩ | ⟨hc, H⟩
    · refine zEv.iteT (L2 := [some (vR (some (11, 0))), some (vI x1), some (vI x2), some (vI x3), some (vI q13.1)]) (st2 := []) (h2 := q13.2) zm_X11_sure rfl rfl rfl rfl (decide_eq_true hc) ?_
      obtain ⟨q32, hq, H⟩ := bnd H
      refine zEv.call (k := 184) (as := [vR (some (11, 0)), vI x1, vI x2, vI 0]) (L2 := [some (vR (some (11, 0))), some (vI x1), some (vI x2), some (vI x3), some (vI q13.1)]) (st2 := []) (h2 := q13.2) (v := some (vI q32.1)) (h1 := q32.2) (st3 := [vI q32.1]) zm_X11_sure rfl rfl rfl rfl rfl zm_X11_end rfl (by omega) (ev_X11_end (by omega) hq) rfl ?_
      obtain ⟨q39, hq, H⟩ := bnd H
      refine zEv.call (k := 184) (as := [vR (some (11, 0)), vI x1, vI x3, vI 1]) (L2 := [some (vR (some (11, 0))), some (vI x1), some (vI x2), some (vI x3), some (vI q13.1)]) (st2 := [vI q32.1]) (h2 := q32.2) (v := some (vI q39.1)) (h1 := q39.2) (st3 := [vI q39.1, vI q32.1]) zm_X11_sure rfl rfl rfl rfl rfl zm_X11_end rfl (by omega) (ev_X11_end (by omega) hq) rfl ?_
      rcases ifc H with ⟨hc, H⟩ | ⟨hc, H⟩
      · refine zEv.iteT (L2 := [some (vR (some (11, 0))), some (vI x1), some (vI x2), some (vI x3), some (vI q13.1)]) (st2 := []) (h2 := q39.2) zm_X11_sure rfl rfl rfl rfl (decide_eq_true hc) ?_
        refine zEv.loc (L2 := [some (vR (some (11, 0))), some (vI x1), some (vI x2), some (vI x3), some (vI q13.1)]) (st2 := [vI 0]) (h2 := q39.2) zm_X11_sure rfl rfl rfl rfl (fun h => (nomatch h)) ?_
        cases H
        exact zEv.ret zm_X11_sure rfl rfl rfl rfl
      · refine zEv.iteF (L2 := [some (vR (some (11, 0))), some (vI x1), some (vI x2), some (vI x3), some (vI q13.1)]) (st2 := []) (h2 := q39.2) zm_X11_sure rfl rfl rfl rfl (decide_eq_false hc) ?_
        refine zEv.loc (L2 := [some (vR (some (11, 0))), some (vI x1), some (vI x2), some (vI x3), some (vI q13.1)]) (st2 := [vI 1]) (h2 := q39.2) zm_X11_sure rfl rfl rfl rfl (fun h => (nomatch h)) ?_
        cases H
        exact zEv.ret zm_X11_sure rfl rfl rfl rfl
    · refine zEv.iteF (L2 := [some (vR (some (11, 0))), some (vI x1), some (vI x2), some (vI x3), some (vI q13.1)]) (st2 := []) (h2 := q13.2) zm_X11_sure rfl rfl rfl rfl (decide_eq_false hc) ?_
      refine zEv.loc (L2 := [some (vR (some (11, 0))), some (vI x1), some (vI x2), some (vI x3), some (vI q13.1)]) (st2 := [vI q13.1]) (h2 := q13.2) zm_X11_sure rfl rfl rfl rfl (fun h => (nomatch h)) ?_
      cases H
      exact zEv.ret zm_X11_sure rfl rfl rfl rfl
  · refine zEv.iteF (L2 := [some (vR (some (11, 0))), some (vI x1), some (vI x2), some (vI x3), w4]) (st2 := []) (h2 := q2.2) zm_X11_sure rfl rfl rfl rfl (decide_eq_false hc) ?_
    cases H
    exact zEv.ret zm_X11_sure rfl rfl rfl rfl
def f_X11_turns_39 (K26 : Int32 → Int32 → Int32 → zM → Option (Int32 × zM)) (x1 : Int32) (x2 : Int32) (x4 : Int32) (s0 : Int32) (s1 : Int32) (h : zM) : Option (Int32 × zM) := (if s1 < s0 then (some ((-9999), h)) else ((f_X11_step x1 x2 x4 h).bind fun q47 => (if 0 ≤ q47.1 then (K26 x1 x2 (x4 + 1) q47.2) else (some (x4, q47.2)))))
set_option maxRecDepth 20000 in
theorem ev_X11_turns_39 {d : Nat} (hd : 3 ≤ d) {K26 : Int32 → Int32 → Int32 → zM → Option (Int32 × zM)} (hK26 : ∀ {w3 : Option zV} {x1 : Int32} {x2 : Int32} {x4 : Int32} {h : zM} {r : Int32 × zM}, K26 x1 x2 x4 h = some r → zEv zmt d 187 26 ([some (vR (some (11, 0))), some (vI x1), some (vI x2), w3, some (vI x4)], [], h, true) (some (vI r.1), r.2)) {w3 : Option zV} {x1 : Int32} {x2 : Int32} {x4 : Int32} {s0 : Int32} {s1 : Int32} {h : zM} {r : Int32 × zM} (H : f_X11_turns_39 K26 x1 x2 x4 s0 s1 h = some r) : zEv zmt d 187 39 ([some (vR (some (11, 0))), some (vI x1), some (vI x2), w3, some (vI x4)], [vI s1, vI s0], h, true) (some (vI r.1), r.2) := by
  rcases ifc H with ⟨hc, H⟩ | ⟨hc, H⟩
  · refine zEv.iteT (L2 := [some (vR (some (11, 0))), some (vI x1), some (vI x2), w3, some (vI x4)]) (st2 := []) (h2 := h) zm_X11_turns rfl rfl rfl rfl (decide_eq_true hc) ?_
    cases H
    exact zEv.ret zm_X11_turns rfl rfl rfl rfl
  · refine zEv.iteF (L2 := [some (vR (some (11, 0))), some (vI x1), some (vI x2), w3, some (vI x4)]) (st2 := []) (h2 := h) zm_X11_turns rfl rfl rfl rfl (decide_eq_false hc) ?_
    obtain ⟨q47, hq, H⟩ := bnd H
    refine zEv.call (k := 176) (as := [vR (some (11, 0)), vI x1, vI x2, vI x4]) (L2 := [some (vR (some (11, 0))), some (vI x1), some (vI x2), w3, some (vI x4)]) (st2 := []) (h2 := h) (v := some (vI q47.1)) (h1 := q47.2) (st3 := [vI q47.1]) zm_X11_turns rfl rfl rfl rfl rfl zm_X11_step rfl (by omega) (ev_X11_step (by omega) hq) rfl ?_
    rcases ifc H with ⟨hc, H⟩ | ⟨hc, H⟩
    · refine zEv.iteT (L2 := [some (vR (some (11, 0))), some (vI x1), some (vI x2), w3, some (vI x4)]) (st2 := []) (h2 := q47.2) zm_X11_turns rfl rfl rfl rfl (decide_eq_true hc) ?_
      refine zEv.loc (L2 := [some (vR (some (11, 0))), some (vI x1), some (vI x2), none, some (vI (x4 + 1))]) (st2 := []) (h2 := q47.2) zm_X11_turns rfl rfl rfl rfl (fun h => (nomatch h)) ?_
      exact hK26 H
    · refine zEv.iteF (L2 := [some (vR (some (11, 0))), some (vI x1), some (vI x2), w3, some (vI x4)]) (st2 := []) (h2 := q47.2) zm_X11_turns rfl rfl rfl rfl (decide_eq_false hc) ?_
      cases H
      exact zEv.ret zm_X11_turns rfl rfl rfl rfl
def f_X11_turns_26 : Nat → Int32 → Int32 → Int32 → zM → Option (Int32 × zM)
  | 0 => fun _ _ _ _ => none
  | k + 1 => fun x1 x2 x4 h => (if ¬ x2 = 0 then (f_X11_turns_39 (f_X11_turns_26 k) x1 x2 x4 x4 40 h) else (f_X11_turns_39 (f_X11_turns_26 k) x1 x2 x4 x4 60 h))
set_option maxRecDepth 20000 in
theorem ev_X11_turns_26 {d : Nat} (hd : 3 ≤ d) : ∀ (k : Nat) {w3 : Option zV} {x1 : Int32} {x2 : Int32} {x4 : Int32} {h : zM} {r : Int32 × zM}, f_X11_turns_26 k x1 x2 x4 h = some r → zEv zmt d 187 26 ([some (vR (some (11, 0))), some (vI x1), some (vI x2), w3, some (vI x4)], [], h, true) (some (vI r.1), r.2) := by
  intro k
  induction k with
  | zero => intro w3 x1 x2 x4 h r H; cases H
  | succ k ih =>
    intro w3 x1 x2 x4 h r H
    rcases ifc H with ⟨hc, H⟩ | ⟨hc, H⟩
    · refine zEv.iteT (L2 := [some (vR (some (11, 0))), some (vI x1), some (vI x2), w3, some (vI x4)]) (st2 := [vI x4]) (h2 := h) zm_X11_turns rfl rfl rfl rfl (decide_eq_true hc) ?_
      refine zEv.loc (L2 := [some (vR (some (11, 0))), some (vI x1), some (vI x2), w3, some (vI x4)]) (st2 := [vI 40, vI x4]) (h2 := h) zm_X11_turns rfl rfl rfl rfl (fun h => (nomatch h)) ?_
      exact ev_X11_turns_39 (by omega) ih H
    · refine zEv.iteF (L2 := [some (vR (some (11, 0))), some (vI x1), some (vI x2), w3, some (vI x4)]) (st2 := [vI x4]) (h2 := h) zm_X11_turns rfl rfl rfl rfl (decide_eq_false hc) ?_
      refine zEv.loc (L2 := [some (vR (some (11, 0))), some (vI x1), some (vI x2), w3, some (vI x4)]) (st2 := [vI 60, vI x4]) (h2 := h) zm_X11_turns rfl rfl rfl rfl (fun h => (nomatch h)) ?_
      exact ev_X11_turns_39 (by omega) ih H
def f_X11_turns (x1 : Int32) (x2 : Int32) (h : zM) : Option (Int32 × zM) := ((f_X11_in x2 0 1 h).bind fun q3 => (if ¬ q3.1 = 0 then ((f_X11_askedLaws x1 q3.2).bind fun q13 => (if 0 ≤ q13.1 then (f_X11_turns_26  1000 x1 x2 1 q13.2) else (some (q13.1, q13.2)))) else (some ((-1), q3.2))))
set_option maxRecDepth 20000 in
theorem ev_X11_turns {d : Nat} (hd : 3 ≤ d) {w3 : Option zV} {w4 : Option zV} {x1 : Int32} {x2 : Int32} {h : zM} {r : Int32 × zM} (H : f_X11_turns x1 x2 h = some r) : zEv zmt d 187 0 ([some (vR (some (11, 0))), some (vI x1), some (vI x2), w3, w4], [], h, true) (some (vI r.1), r.2) := by
  obtain ⟨q3, hq, H⟩ := bnd H
  refine zEv.call (k := 127) (as := [vI x2, vI 0, vI 1]) (L2 := [some (vR (some (11, 0))), some (vI x1), some (vI x2), w3, w4]) (st2 := []) (h2 := h) (v := some (vI q3.1)) (h1 := q3.2) (st3 := [vI q3.1]) zm_X11_turns rfl rfl rfl rfl rfl zm_X11_in rfl (by omega) (ev_X11_in (by omega) hq) rfl ?_
  rcases ifc H with ⟨hc, H⟩ | ⟨hc, H⟩
  · refine zEv.iteT (L2 := [some (vR (some (11, 0))), some (vI x1), some (vI x2), w3, w4]) (st2 := []) (h2 := q3.2) zm_X11_turns rfl rfl rfl rfl (decide_eq_true hc) ?_
    obtain ⟨q13, hq, H⟩ := bnd H
    refine zEv.call (k := 173) (as := [vR (some (11, 0)), vI x1]) (L2 := [some (vR (some (11, 0))), some (vI x1), some (vI x2), w3, w4]) (st2 := []) (h2 := q3.2) (v := some (vI q13.1)) (h1 := q13.2) (st3 := [vI q13.1]) zm_X11_turns rfl rfl rfl rfl rfl zm_X11_askedLaws rfl (by omega) (ev_X11_askedLaws (by omega) hq) rfl ?_
    rcases ifc H with ⟨hc, H⟩ | ⟨hc, H⟩
    · refine zEv.iteT (L2 := [some (vR (some (11, 0))), some (vI x1), some (vI x2), some (vI q13.1), w4]) (st2 := []) (h2 := q13.2) zm_X11_turns rfl rfl rfl rfl (decide_eq_true hc) ?_
      refine zEv.loc (L2 := [some (vR (some (11, 0))), some (vI x1), some (vI x2), none, some (vI 1)]) (st2 := []) (h2 := q13.2) zm_X11_turns rfl rfl rfl rfl (fun h => (nomatch h)) ?_
      exact ev_X11_turns_26 (by omega)  1000 H
    · refine zEv.iteF (L2 := [some (vR (some (11, 0))), some (vI x1), some (vI x2), some (vI q13.1), w4]) (st2 := []) (h2 := q13.2) zm_X11_turns rfl rfl rfl rfl (decide_eq_false hc) ?_
      cases H
      exact zEv.ret zm_X11_turns rfl rfl rfl rfl
  · refine zEv.iteF (L2 := [some (vR (some (11, 0))), some (vI x1), some (vI x2), w3, w4]) (st2 := []) (h2 := q3.2) zm_X11_turns rfl rfl rfl rfl (decide_eq_false hc) ?_
    cases H
    exact zEv.ret zm_X11_turns rfl rfl rfl rfl
def f_X11_aspect (x1 : Int32) (x2 : Int32) (h : zM) : Option (Int32 × zM) := (if ¬ x2 = 0 then (if ¬ x2 = 4 then (if (true && (true && (true && (decide (rR h 11 0 12 = (some (38, 0))) && true)))) = true then ((f_X11_part x1 2 h).bind fun q36 => (if (true && (ixOk 32 (((4 * q36.1) + x2) - 1) && true)) = true then (some ((rI q36.2 38 0 (Int32.toNatClampNeg (((4 * q36.1) + x2) - 1))), q36.2)) else none)) else none) else ((f_X11_part x1 6 h).bind fun q22 => (some (q22.1, q22.2)))) else ((f_X11_part x1 5 h).bind fun q7 => (some (q7.1, q7.2))))
set_option maxRecDepth 20000 in
theorem ev_X11_aspect {d : Nat} (hd : 1 ≤ d) {x1 : Int32} {x2 : Int32} {h : zM} {r : Int32 × zM} (H : f_X11_aspect x1 x2 h = some r) : zEv zmt d 188 0 ([some (vR (some (11, 0))), some (vI x1), some (vI x2)], [], h, true) (some (vI r.1), r.2) := by
  rcases ifc H with ⟨hc, H⟩ | ⟨hc, H⟩
  · refine zEv.iteT (L2 := [some (vR (some (11, 0))), some (vI x1), some (vI x2)]) (st2 := []) (h2 := h) zm_X11_aspect rfl rfl rfl rfl (decide_eq_true hc) ?_
    rcases ifc H with ⟨hc, H⟩ | ⟨hc, H⟩
    · refine zEv.iteT (L2 := [some (vR (some (11, 0))), some (vI x1), some (vI x2)]) (st2 := []) (h2 := h) zm_X11_aspect rfl rfl rfl rfl (decide_eq_true hc) ?_
      obtain ⟨hg, H⟩ := ifg H
      obtain ⟨q36, hq, H⟩ := bnd H
      refine zEv.call (k := 148) (as := [vR (some (11, 0)), vI x1, vI 2]) (L2 := [some (vR (some (11, 0))), some (vI x1), some (vI x2)]) (st2 := [vI 4, vR (some (38, 0))]) (h2 := h) (v := some (vI q36.1)) (h1 := q36.2) (st3 := [vI q36.1, vI 4, vR (some (38, 0))]) zm_X11_aspect rfl (and2 (and2 hg).2).2 rfl hg rfl zm_X11_part rfl (by omega) (ev_X11_part (by omega) hq) rfl ?_
      obtain ⟨hg, H⟩ := ifg H
      refine zEv.loc (L2 := [some (vR (some (11, 0))), some (vI x1), some (vI x2)]) (st2 := [vI (rI q36.2 38 0 (Int32.toNatClampNeg (((4 * q36.1) + x2) - 1)))]) (h2 := q36.2) zm_X11_aspect rfl hg rfl hg (fun h => (nomatch h)) ?_
      cases H
      exact zEv.ret zm_X11_aspect rfl rfl rfl rfl
    · refine zEv.iteF (L2 := [some (vR (some (11, 0))), some (vI x1), some (vI x2)]) (st2 := []) (h2 := h) zm_X11_aspect rfl rfl rfl rfl (decide_eq_false hc) ?_
      obtain ⟨q22, hq, H⟩ := bnd H
      refine zEv.call (k := 148) (as := [vR (some (11, 0)), vI x1, vI 6]) (L2 := [some (vR (some (11, 0))), some (vI x1), some (vI x2)]) (st2 := []) (h2 := h) (v := some (vI q22.1)) (h1 := q22.2) (st3 := [vI q22.1]) zm_X11_aspect rfl rfl rfl rfl rfl zm_X11_part rfl (by omega) (ev_X11_part (by omega) hq) rfl ?_
      refine zEv.loc (L2 := [some (vR (some (11, 0))), some (vI x1), some (vI x2)]) (st2 := [vI q22.1]) (h2 := q22.2) zm_X11_aspect rfl rfl rfl rfl (fun h => (nomatch h)) ?_
      cases H
      exact zEv.ret zm_X11_aspect rfl rfl rfl rfl
  · refine zEv.iteF (L2 := [some (vR (some (11, 0))), some (vI x1), some (vI x2)]) (st2 := []) (h2 := h) zm_X11_aspect rfl rfl rfl rfl (decide_eq_false hc) ?_
    obtain ⟨q7, hq, H⟩ := bnd H
    refine zEv.call (k := 148) (as := [vR (some (11, 0)), vI x1, vI 5]) (L2 := [some (vR (some (11, 0))), some (vI x1), some (vI x2)]) (st2 := []) (h2 := h) (v := some (vI q7.1)) (h1 := q7.2) (st3 := [vI q7.1]) zm_X11_aspect rfl rfl rfl rfl rfl zm_X11_part rfl (by omega) (ev_X11_part (by omega) hq) rfl ?_
    refine zEv.loc (L2 := [some (vR (some (11, 0))), some (vI x1), some (vI x2)]) (st2 := [vI q7.1]) (h2 := q7.2) zm_X11_aspect rfl rfl rfl rfl (fun h => (nomatch h)) ?_
    cases H
    exact zEv.ret zm_X11_aspect rfl rfl rfl rfl
def f_X11_unlikeIn_187 (K131 : Int32 → Int32 → Int32 → Int32 → Int32 → zM → Option (Int32 × zM)) (x1 : Int32) (x2 : Int32) (x6 : Int32) (x8 : Int32) (s0 : Int32) (s1 : Int32) (h : zM) : Option (Int32 × zM) := (K131 x1 x2 x6 (s0 + s1) (x8 + 1) h)
set_option maxRecDepth 20000 in
theorem ev_X11_unlikeIn_187 {d : Nat} (hd : 2 ≤ d) {K131 : Int32 → Int32 → Int32 → Int32 → Int32 → zM → Option (Int32 × zM)} (hK131 : ∀ {w3 : Option zV} {w4 : Option zV} {w5 : Option zV} {w9 : Option zV} {x1 : Int32} {x2 : Int32} {x6 : Int32} {x7 : Int32} {x8 : Int32} {h : zM} {r : Int32 × zM}, K131 x1 x2 x6 x7 x8 h = some r → zEv zmt d 189 131 ([some (vR (some (11, 0))), some (vI x1), some (vI x2), w3, w4, w5, some (vI x6), some (vI x7), some (vI x8), w9], [], h, true) (some (vI r.1), r.2)) {w3 : Option zV} {w4 : Option zV} {w5 : Option zV} {w7 : Option zV} {w9 : Option zV} {x1 : Int32} {x2 : Int32} {x6 : Int32} {x8 : Int32} {s0 : Int32} {s1 : Int32} {h : zM} {r : Int32 × zM} (H : f_X11_unlikeIn_187 K131 x1 x2 x6 x8 s0 s1 h = some r) : zEv zmt d 189 187 ([some (vR (some (11, 0))), some (vI x1), some (vI x2), w3, w4, w5, some (vI x6), w7, some (vI x8), w9], [vI s1, vI s0], h, true) (some (vI r.1), r.2) := by
  refine zEv.loc (L2 := [some (vR (some (11, 0))), some (vI x1), some (vI x2), w3, w4, w5, some (vI x6), some (vI (s0 + s1)), some (vI (x8 + 1)), w9]) (st2 := []) (h2 := h) zm_X11_unlikeIn rfl rfl rfl rfl (fun h => (nomatch h)) ?_
  exact hK131 H
def f_X11_unlikeIn_173 (K131 : Int32 → Int32 → Int32 → Int32 → Int32 → zM → Option (Int32 × zM)) (x1 : Int32) (x2 : Int32) (x7 : Int32) (x8 : Int32) (x9 : Int32) (s0 : Int32) (h : zM) : Option (Int32 × zM) := (if x9 = 0 then (f_X11_unlikeIn_187 K131 x1 x2 s0 x8 x7 0 h) else (f_X11_unlikeIn_187 K131 x1 x2 s0 x8 x7 1 h))
set_option maxRecDepth 20000 in
theorem ev_X11_unlikeIn_173 {d : Nat} (hd : 2 ≤ d) {K131 : Int32 → Int32 → Int32 → Int32 → Int32 → zM → Option (Int32 × zM)} (hK131 : ∀ {w3 : Option zV} {w4 : Option zV} {w5 : Option zV} {w9 : Option zV} {x1 : Int32} {x2 : Int32} {x6 : Int32} {x7 : Int32} {x8 : Int32} {h : zM} {r : Int32 × zM}, K131 x1 x2 x6 x7 x8 h = some r → zEv zmt d 189 131 ([some (vR (some (11, 0))), some (vI x1), some (vI x2), w3, w4, w5, some (vI x6), some (vI x7), some (vI x8), w9], [], h, true) (some (vI r.1), r.2)) {w3 : Option zV} {w4 : Option zV} {w5 : Option zV} {w6 : Option zV} {x1 : Int32} {x2 : Int32} {x7 : Int32} {x8 : Int32} {x9 : Int32} {s0 : Int32} {h : zM} {r : Int32 × zM} (H : f_X11_unlikeIn_173 K131 x1 x2 x7 x8 x9 s0 h = some r) : zEv zmt d 189 173 ([some (vR (some (11, 0))), some (vI x1), some (vI x2), w3, w4, w5, w6, some (vI x7), some (vI x8), some (vI x9)], [vI s0], h, true) (some (vI r.1), r.2) := by
  rcases ifc H with ⟨hc, H⟩ | ⟨hc, H⟩
  · refine zEv.iteT (L2 := [some (vR (some (11, 0))), some (vI x1), some (vI x2), w3, w4, none, some (vI s0), some (vI x7), some (vI x8), some (vI x9)]) (st2 := [vI x7]) (h2 := h) zm_X11_unlikeIn rfl rfl rfl rfl (decide_eq_true hc) ?_
    refine zEv.loc (L2 := [some (vR (some (11, 0))), some (vI x1), some (vI x2), w3, w4, none, some (vI s0), some (vI x7), some (vI x8), some (vI x9)]) (st2 := [vI 0, vI x7]) (h2 := h) zm_X11_unlikeIn rfl rfl rfl rfl (fun h => (nomatch h)) ?_
    exact ev_X11_unlikeIn_187 (by omega) hK131 H
  · refine zEv.iteF (L2 := [some (vR (some (11, 0))), some (vI x1), some (vI x2), w3, w4, none, some (vI s0), some (vI x7), some (vI x8), some (vI x9)]) (st2 := [vI x7]) (h2 := h) zm_X11_unlikeIn rfl rfl rfl rfl (decide_eq_false hc) ?_
    refine zEv.loc (L2 := [some (vR (some (11, 0))), some (vI x1), some (vI x2), w3, w4, none, some (vI s0), some (vI x7), some (vI x8), some (vI x9)]) (st2 := [vI 1, vI x7]) (h2 := h) zm_X11_unlikeIn rfl rfl rfl rfl (fun h => (nomatch h)) ?_
    exact ev_X11_unlikeIn_187 (by omega) hK131 H
def f_X11_unlikeIn_159 (K131 : Int32 → Int32 → Int32 → Int32 → Int32 → zM → Option (Int32 × zM)) (x1 : Int32) (x2 : Int32) (x6 : Int32) (x7 : Int32) (x8 : Int32) (s0 : Int32) (h : zM) : Option (Int32 × zM) := (if s0 = 0 then (f_X11_unlikeIn_173 K131 x1 x2 x7 x8 s0 x6 h) else (f_X11_unlikeIn_173 K131 x1 x2 x7 x8 s0 x8 h))
set_option maxRecDepth 20000 in
theorem ev_X11_unlikeIn_159 {d : Nat} (hd : 2 ≤ d) {K131 : Int32 → Int32 → Int32 → Int32 → Int32 → zM → Option (Int32 × zM)} (hK131 : ∀ {w3 : Option zV} {w4 : Option zV} {w5 : Option zV} {w9 : Option zV} {x1 : Int32} {x2 : Int32} {x6 : Int32} {x7 : Int32} {x8 : Int32} {h : zM} {r : Int32 × zM}, K131 x1 x2 x6 x7 x8 h = some r → zEv zmt d 189 131 ([some (vR (some (11, 0))), some (vI x1), some (vI x2), w3, w4, w5, some (vI x6), some (vI x7), some (vI x8), w9], [], h, true) (some (vI r.1), r.2)) {w3 : Option zV} {w4 : Option zV} {w5 : Option zV} {w9 : Option zV} {x1 : Int32} {x2 : Int32} {x6 : Int32} {x7 : Int32} {x8 : Int32} {s0 : Int32} {h : zM} {r : Int32 × zM} (H : f_X11_unlikeIn_159 K131 x1 x2 x6 x7 x8 s0 h = some r) : zEv zmt d 189 159 ([some (vR (some (11, 0))), some (vI x1), some (vI x2), w3, w4, w5, some (vI x6), some (vI x7), some (vI x8), w9], [vI s0], h, true) (some (vI r.1), r.2) := by
  rcases ifc H with ⟨hc, H⟩ | ⟨hc, H⟩
  · refine zEv.iteT (L2 := [some (vR (some (11, 0))), some (vI x1), some (vI x2), w3, w4, w5, some (vI x6), some (vI x7), some (vI x8), some (vI s0)]) (st2 := []) (h2 := h) zm_X11_unlikeIn rfl rfl rfl rfl (decide_eq_true hc) ?_
    refine zEv.loc (L2 := [some (vR (some (11, 0))), some (vI x1), some (vI x2), w3, w4, w5, some (vI x6), some (vI x7), some (vI x8), some (vI s0)]) (st2 := [vI x6]) (h2 := h) zm_X11_unlikeIn rfl rfl rfl rfl (fun h => (nomatch h)) ?_
    exact ev_X11_unlikeIn_173 (by omega) hK131 H
  · refine zEv.iteF (L2 := [some (vR (some (11, 0))), some (vI x1), some (vI x2), w3, w4, w5, some (vI x6), some (vI x7), some (vI x8), some (vI s0)]) (st2 := []) (h2 := h) zm_X11_unlikeIn rfl rfl rfl rfl (decide_eq_false hc) ?_
    refine zEv.loc (L2 := [some (vR (some (11, 0))), some (vI x1), some (vI x2), w3, w4, w5, some (vI x6), some (vI x7), some (vI x8), some (vI s0)]) (st2 := [vI x8]) (h2 := h) zm_X11_unlikeIn rfl rfl rfl rfl (fun h => (nomatch h)) ?_
    exact ev_X11_unlikeIn_173 (by omega) hK131 H
def f_X11_unlikeIn_131 : Nat → Int32 → Int32 → Int32 → Int32 → Int32 → zM → Option (Int32 × zM)
  | 0 => fun _ _ _ _ _ _ => none
  | k + 1 => fun x1 x2 x6 x7 x8 h => (if 5 ≤ x8 then (if ¬ x7 = 1 then (some ((-9999), h)) else (some (x6, h))) else ((f_X11_aspect x1 x8 h).bind fun q141 => ((f_X11_aspect x2 x8 q141.2).bind fun q148 => (if q141.1 = q148.1 then (f_X11_unlikeIn_159 (f_X11_unlikeIn_131 k) x1 x2 x6 x7 x8 0 q148.2) else (f_X11_unlikeIn_159 (f_X11_unlikeIn_131 k) x1 x2 x6 x7 x8 1 q148.2)))))
set_option maxRecDepth 20000 in
theorem ev_X11_unlikeIn_131 {d : Nat} (hd : 2 ≤ d) : ∀ (k : Nat) {w3 : Option zV} {w4 : Option zV} {w5 : Option zV} {w9 : Option zV} {x1 : Int32} {x2 : Int32} {x6 : Int32} {x7 : Int32} {x8 : Int32} {h : zM} {r : Int32 × zM}, f_X11_unlikeIn_131 k x1 x2 x6 x7 x8 h = some r → zEv zmt d 189 131 ([some (vR (some (11, 0))), some (vI x1), some (vI x2), w3, w4, w5, some (vI x6), some (vI x7), some (vI x8), w9], [], h, true) (some (vI r.1), r.2) := by
  intro k
  induction k with
  | zero => intro w3 w4 w5 w9 x1 x2 x6 x7 x8 h r H; cases H
  | succ k ih =>
    intro w3 w4 w5 w9 x1 x2 x6 x7 x8 h r H
    rcases ifc H with ⟨hc, H⟩ | ⟨hc, H⟩
    · refine zEv.iteT (L2 := [some (vR (some (11, 0))), some (vI x1), some (vI x2), w3, w4, w5, some (vI x6), some (vI x7), some (vI x8), w9]) (st2 := []) (h2 := h) zm_X11_unlikeIn rfl rfl rfl rfl (decide_eq_true hc) ?_
      rcases ifc H with ⟨hc, H⟩ | ⟨hc, H⟩
      · refine zEv.iteT (L2 := [some (vR (some (11, 0))), some (vI x1), some (vI x2), w3, w4, w5, some (vI x6), some (vI x7), some (vI x8), w9]) (st2 := []) (h2 := h) zm_X11_unlikeIn rfl rfl rfl rfl (decide_eq_true hc) ?_
        refine zEv.loc (L2 := [some (vR (some (11, 0))), some (vI x1), some (vI x2), w3, w4, w5, some (vI x6), some (vI x7), some (vI x8), w9]) (st2 := [vI (-9999)]) (h2 := h) zm_X11_unlikeIn rfl rfl rfl rfl (fun h => (nomatch h)) ?_
        cases H
        exact zEv.ret zm_X11_unlikeIn rfl rfl rfl rfl
      · refine zEv.iteF (L2 := [some (vR (some (11, 0))), some (vI x1), some (vI x2), w3, w4, w5, some (vI x6), some (vI x7), some (vI x8), w9]) (st2 := []) (h2 := h) zm_X11_unlikeIn rfl rfl rfl rfl (decide_eq_false hc) ?_
        refine zEv.loc (L2 := [some (vR (some (11, 0))), some (vI x1), some (vI x2), w3, w4, w5, some (vI x6), some (vI x7), some (vI x8), w9]) (st2 := [vI x6]) (h2 := h) zm_X11_unlikeIn rfl rfl rfl rfl (fun h => (nomatch h)) ?_
        cases H
        exact zEv.ret zm_X11_unlikeIn rfl rfl rfl rfl
    · refine zEv.iteF (L2 := [some (vR (some (11, 0))), some (vI x1), some (vI x2), w3, w4, w5, some (vI x6), some (vI x7), some (vI x8), w9]) (st2 := []) (h2 := h) zm_X11_unlikeIn rfl rfl rfl rfl (decide_eq_false hc) ?_
      obtain ⟨q141, hq, H⟩ := bnd H
      refine zEv.call (k := 188) (as := [vR (some (11, 0)), vI x1, vI x8]) (L2 := [some (vR (some (11, 0))), some (vI x1), some (vI x2), w3, w4, w5, some (vI x6), some (vI x7), some (vI x8), w9]) (st2 := []) (h2 := h) (v := some (vI q141.1)) (h1 := q141.2) (st3 := [vI q141.1]) zm_X11_unlikeIn rfl rfl rfl rfl rfl zm_X11_aspect rfl (by omega) (ev_X11_aspect (by omega) hq) rfl ?_
      obtain ⟨q148, hq, H⟩ := bnd H
      refine zEv.call (k := 188) (as := [vR (some (11, 0)), vI x2, vI x8]) (L2 := [some (vR (some (11, 0))), some (vI x1), some (vI x2), w3, w4, w5, some (vI x6), some (vI x7), some (vI x8), w9]) (st2 := [vI q141.1]) (h2 := q141.2) (v := some (vI q148.1)) (h1 := q148.2) (st3 := [vI q148.1, vI q141.1]) zm_X11_unlikeIn rfl rfl rfl rfl rfl zm_X11_aspect rfl (by omega) (ev_X11_aspect (by omega) hq) rfl ?_
      rcases ifc H with ⟨hc, H⟩ | ⟨hc, H⟩
      · refine zEv.iteT (L2 := [some (vR (some (11, 0))), some (vI x1), some (vI x2), w3, w4, w5, some (vI x6), some (vI x7), some (vI x8), w9]) (st2 := []) (h2 := q148.2) zm_X11_unlikeIn rfl rfl rfl rfl (decide_eq_true hc) ?_
        refine zEv.loc (L2 := [some (vR (some (11, 0))), some (vI x1), some (vI x2), w3, w4, w5, some (vI x6), some (vI x7), some (vI x8), w9]) (st2 := [vI 0]) (h2 := q148.2) zm_X11_unlikeIn rfl rfl rfl rfl (fun h => (nomatch h)) ?_
        exact ev_X11_unlikeIn_159 (by omega) ih H
      · refine zEv.iteF (L2 := [some (vR (some (11, 0))), some (vI x1), some (vI x2), w3, w4, w5, some (vI x6), some (vI x7), some (vI x8), w9]) (st2 := []) (h2 := q148.2) zm_X11_unlikeIn rfl rfl rfl rfl (decide_eq_false hc) ?_
        refine zEv.loc (L2 := [some (vR (some (11, 0))), some (vI x1), some (vI x2), w3, w4, w5, some (vI x6), some (vI x7), some (vI x8), w9]) (st2 := [vI 1]) (h2 := q148.2) zm_X11_unlikeIn rfl rfl rfl rfl (fun h => (nomatch h)) ?_
        exact ev_X11_unlikeIn_159 (by omega) ih H
def f_X11_unlikeIn_110 (x1 : Int32) (x2 : Int32) (s0 : Int32) (h : zM) : Option (Int32 × zM) := (if s0 < 365 then (f_X11_unlikeIn_131  1000 x1 x2 (-9999) 0 0 h) else (some ((-9999), h)))
set_option maxRecDepth 20000 in
theorem ev_X11_unlikeIn_110 {d : Nat} (hd : 2 ≤ d) {w3 : Option zV} {w4 : Option zV} {w5 : Option zV} {w6 : Option zV} {w7 : Option zV} {w8 : Option zV} {w9 : Option zV} {x1 : Int32} {x2 : Int32} {s0 : Int32} {h : zM} {r : Int32 × zM} (H : f_X11_unlikeIn_110 x1 x2 s0 h = some r) : zEv zmt d 189 110 ([some (vR (some (11, 0))), some (vI x1), some (vI x2), w3, w4, w5, w6, w7, w8, w9], [vI s0], h, true) (some (vI r.1), r.2) := by
  rcases ifc H with ⟨hc, H⟩ | ⟨hc, H⟩
  · refine zEv.iteT (L2 := [some (vR (some (11, 0))), some (vI x1), some (vI x2), w3, w4, w5, w6, w7, w8, w9]) (st2 := []) (h2 := h) zm_X11_unlikeIn rfl rfl rfl rfl (decide_eq_true hc) ?_
    refine zEv.loc (L2 := [some (vR (some (11, 0))), some (vI x1), some (vI x2), w3, w4, none, some (vI (-9999)), some (vI 0), some (vI 0), w9]) (st2 := []) (h2 := h) zm_X11_unlikeIn rfl rfl rfl rfl (fun h => (nomatch h)) ?_
    exact ev_X11_unlikeIn_131 (by omega)  1000 H
  · refine zEv.iteF (L2 := [some (vR (some (11, 0))), some (vI x1), some (vI x2), w3, w4, w5, w6, w7, w8, w9]) (st2 := []) (h2 := h) zm_X11_unlikeIn rfl rfl rfl rfl (decide_eq_false hc) ?_
    cases H
    exact zEv.ret zm_X11_unlikeIn rfl rfl rfl rfl
def f_X11_unlikeIn_60 (x1 : Int32) (x2 : Int32) (x3 : Int32) (s0 : Int32) (h : zM) : Option (Int32 × zM) := ((f_X11_part x1 1 h).bind fun q65 => ((f_X11_part x2 1 q65.2).bind fun q71 => (if ¬ q65.1 = q71.1 then (some ((-9999), q71.2)) else ((f_X11_part x1 0 q71.2).bind fun q80 => (if ¬ q80.1 = 0 then (some ((-9999), q80.2)) else ((f_X11_part x2 0 q80.2).bind fun q89 => (if ¬ q89.1 = 0 then (some ((-9999), q89.2)) else (if ¬ s0 = 0 then (some ((-9999), q89.2)) else (if 0 ≤ x3 then (f_X11_unlikeIn_110  x1 x2 x3 q89.2) else (f_X11_unlikeIn_110  x1 x2 (-x3) q89.2))))))))))
set_option maxRecDepth 20000 in
theorem ev_X11_unlikeIn_60 {d : Nat} (hd : 2 ≤ d) {w4 : Option zV} {w5 : Option zV} {w6 : Option zV} {w7 : Option zV} {w8 : Option zV} {w9 : Option zV} {x1 : Int32} {x2 : Int32} {x3 : Int32} {s0 : Int32} {h : zM} {r : Int32 × zM} (H : f_X11_unlikeIn_60 x1 x2 x3 s0 h = some r) : zEv zmt d 189 60 ([some (vR (some (11, 0))), some (vI x1), some (vI x2), some (vI x3), w4, w5, w6, w7, w8, w9], [vI s0], h, true) (some (vI r.1), r.2) := by
  obtain ⟨q65, hq, H⟩ := bnd H
  refine zEv.call (k := 148) (as := [vR (some (11, 0)), vI x1, vI 1]) (L2 := [some (vR (some (11, 0))), some (vI x1), some (vI x2), some (vI x3), none, some (vI s0), w6, w7, w8, w9]) (st2 := []) (h2 := h) (v := some (vI q65.1)) (h1 := q65.2) (st3 := [vI q65.1]) zm_X11_unlikeIn rfl rfl rfl rfl rfl zm_X11_part rfl (by omega) (ev_X11_part (by omega) hq) rfl ?_
  obtain ⟨q71, hq, H⟩ := bnd H
  refine zEv.call (k := 148) (as := [vR (some (11, 0)), vI x2, vI 1]) (L2 := [some (vR (some (11, 0))), some (vI x1), some (vI x2), some (vI x3), none, some (vI s0), w6, w7, w8, w9]) (st2 := [vI q65.1]) (h2 := q65.2) (v := some (vI q71.1)) (h1 := q71.2) (st3 := [vI q71.1, vI q65.1]) zm_X11_unlikeIn rfl rfl rfl rfl rfl zm_X11_part rfl (by omega) (ev_X11_part (by omega) hq) rfl ?_
  rcases ifc H with ⟨hc, H⟩ | ⟨hc, H⟩
  · refine zEv.iteT (L2 := [some (vR (some (11, 0))), some (vI x1), some (vI x2), some (vI x3), none, some (vI s0), w6, w7, w8, w9]) (st2 := []) (h2 := q71.2) zm_X11_unlikeIn rfl rfl rfl rfl (decide_eq_true hc) ?_
    cases H
    exact zEv.ret zm_X11_unlikeIn rfl rfl rfl rfl
  · refine zEv.iteF (L2 := [some (vR (some (11, 0))), some (vI x1), some (vI x2), some (vI x3), none, some (vI s0), w6, w7, w8, w9]) (st2 := []) (h2 := q71.2) zm_X11_unlikeIn rfl rfl rfl rfl (decide_eq_false hc) ?_
    obtain ⟨q80, hq, H⟩ := bnd H
    refine zEv.call (k := 148) (as := [vR (some (11, 0)), vI x1, vI 0]) (L2 := [some (vR (some (11, 0))), some (vI x1), some (vI x2), some (vI x3), none, some (vI s0), w6, w7, w8, w9]) (st2 := []) (h2 := q71.2) (v := some (vI q80.1)) (h1 := q80.2) (st3 := [vI q80.1]) zm_X11_unlikeIn rfl rfl rfl rfl rfl zm_X11_part rfl (by omega) (ev_X11_part (by omega) hq) rfl ?_
    rcases ifc H with ⟨hc, H⟩ | ⟨hc, H⟩
    · refine zEv.iteT (L2 := [some (vR (some (11, 0))), some (vI x1), some (vI x2), some (vI x3), none, some (vI s0), w6, w7, w8, w9]) (st2 := []) (h2 := q80.2) zm_X11_unlikeIn rfl rfl rfl rfl (decide_eq_true hc) ?_
      cases H
      exact zEv.ret zm_X11_unlikeIn rfl rfl rfl rfl
    · refine zEv.iteF (L2 := [some (vR (some (11, 0))), some (vI x1), some (vI x2), some (vI x3), none, some (vI s0), w6, w7, w8, w9]) (st2 := []) (h2 := q80.2) zm_X11_unlikeIn rfl rfl rfl rfl (decide_eq_false hc) ?_
      obtain ⟨q89, hq, H⟩ := bnd H
      refine zEv.call (k := 148) (as := [vR (some (11, 0)), vI x2, vI 0]) (L2 := [some (vR (some (11, 0))), some (vI x1), some (vI x2), some (vI x3), none, some (vI s0), w6, w7, w8, w9]) (st2 := []) (h2 := q80.2) (v := some (vI q89.1)) (h1 := q89.2) (st3 := [vI q89.1]) zm_X11_unlikeIn rfl rfl rfl rfl rfl zm_X11_part rfl (by omega) (ev_X11_part (by omega) hq) rfl ?_
      rcases ifc H with ⟨hc, H⟩ | ⟨hc, H⟩
      · refine zEv.iteT (L2 := [some (vR (some (11, 0))), some (vI x1), some (vI x2), some (vI x3), none, some (vI s0), w6, w7, w8, w9]) (st2 := []) (h2 := q89.2) zm_X11_unlikeIn rfl rfl rfl rfl (decide_eq_true hc) ?_
        cases H
        exact zEv.ret zm_X11_unlikeIn rfl rfl rfl rfl
      · refine zEv.iteF (L2 := [some (vR (some (11, 0))), some (vI x1), some (vI x2), some (vI x3), none, some (vI s0), w6, w7, w8, w9]) (st2 := []) (h2 := q89.2) zm_X11_unlikeIn rfl rfl rfl rfl (decide_eq_false hc) ?_
        rcases ifc H with ⟨hc, H⟩ | ⟨hc, H⟩
        · refine zEv.iteT (L2 := [some (vR (some (11, 0))), some (vI x1), some (vI x2), some (vI x3), none, some (vI s0), w6, w7, w8, w9]) (st2 := []) (h2 := q89.2) zm_X11_unlikeIn rfl rfl rfl rfl (decide_eq_true hc) ?_
          cases H
          exact zEv.ret zm_X11_unlikeIn rfl rfl rfl rfl
        · refine zEv.iteF (L2 := [some (vR (some (11, 0))), some (vI x1), some (vI x2), some (vI x3), none, some (vI s0), w6, w7, w8, w9]) (st2 := []) (h2 := q89.2) zm_X11_unlikeIn rfl rfl rfl rfl (decide_eq_false hc) ?_
          rcases ifc H with ⟨hc, H⟩ | ⟨hc, H⟩
          · refine zEv.iteT (L2 := [some (vR (some (11, 0))), some (vI x1), some (vI x2), some (vI x3), none, some (vI s0), w6, w7, w8, w9]) (st2 := []) (h2 := q89.2) zm_X11_unlikeIn rfl rfl rfl rfl (decide_eq_true hc) ?_
            refine zEv.loc (L2 := [some (vR (some (11, 0))), some (vI x1), some (vI x2), some (vI x3), none, some (vI s0), w6, w7, w8, w9]) (st2 := [vI x3]) (h2 := q89.2) zm_X11_unlikeIn rfl rfl rfl rfl (fun h => (nomatch h)) ?_
            exact ev_X11_unlikeIn_110 (by omega)  H
          · refine zEv.iteF (L2 := [some (vR (some (11, 0))), some (vI x1), some (vI x2), some (vI x3), none, some (vI s0), w6, w7, w8, w9]) (st2 := []) (h2 := q89.2) zm_X11_unlikeIn rfl rfl rfl rfl (decide_eq_false hc) ?_
            refine zEv.loc (L2 := [some (vR (some (11, 0))), some (vI x1), some (vI x2), some (vI x3), none, some (vI s0), w6, w7, w8, w9]) (st2 := [vI (-x3)]) (h2 := q89.2) zm_X11_unlikeIn rfl rfl rfl rfl (fun h => (nomatch h)) ?_
            exact ev_X11_unlikeIn_110 (by omega)  H
def f_X11_unlikeIn_52 (x1 : Int32) (x2 : Int32) (x3 : Int32) (s0 : Int32) (s1 : Int32) (h : zM) : Option (Int32 × zM) := (if s0 = s1 then (f_X11_unlikeIn_60  x1 x2 x3 0 h) else (f_X11_unlikeIn_60  x1 x2 x3 1 h))
set_option maxRecDepth 20000 in
theorem ev_X11_unlikeIn_52 {d : Nat} (hd : 2 ≤ d) {w4 : Option zV} {w5 : Option zV} {w6 : Option zV} {w7 : Option zV} {w8 : Option zV} {w9 : Option zV} {x1 : Int32} {x2 : Int32} {x3 : Int32} {s0 : Int32} {s1 : Int32} {h : zM} {r : Int32 × zM} (H : f_X11_unlikeIn_52 x1 x2 x3 s0 s1 h = some r) : zEv zmt d 189 52 ([some (vR (some (11, 0))), some (vI x1), some (vI x2), some (vI x3), w4, w5, w6, w7, w8, w9], [vI s1, vI s0], h, true) (some (vI r.1), r.2) := by
  rcases ifc H with ⟨hc, H⟩ | ⟨hc, H⟩
  · refine zEv.iteT (L2 := [some (vR (some (11, 0))), some (vI x1), some (vI x2), some (vI x3), w4, w5, w6, w7, w8, w9]) (st2 := []) (h2 := h) zm_X11_unlikeIn rfl rfl rfl rfl (decide_eq_true hc) ?_
    refine zEv.loc (L2 := [some (vR (some (11, 0))), some (vI x1), some (vI x2), some (vI x3), w4, w5, w6, w7, w8, w9]) (st2 := [vI 0]) (h2 := h) zm_X11_unlikeIn rfl rfl rfl rfl (fun h => (nomatch h)) ?_
    exact ev_X11_unlikeIn_60 (by omega)  H
  · refine zEv.iteF (L2 := [some (vR (some (11, 0))), some (vI x1), some (vI x2), some (vI x3), w4, w5, w6, w7, w8, w9]) (st2 := []) (h2 := h) zm_X11_unlikeIn rfl rfl rfl rfl (decide_eq_false hc) ?_
    refine zEv.loc (L2 := [some (vR (some (11, 0))), some (vI x1), some (vI x2), some (vI x3), w4, w5, w6, w7, w8, w9]) (st2 := [vI 1]) (h2 := h) zm_X11_unlikeIn rfl rfl rfl rfl (fun h => (nomatch h)) ?_
    exact ev_X11_unlikeIn_60 (by omega)  H
def f_X11_unlikeIn_35 (x1 : Int32) (x2 : Int32) (x3 : Int32) (s0 : Int32) (h : zM) : Option (Int32 × zM) := ((f_X11_part x2 5 h).bind fun q38 => (if ¬ q38.1 = (-9999) then (f_X11_unlikeIn_52  x1 x2 x3 s0 0 q38.2) else (f_X11_unlikeIn_52  x1 x2 x3 s0 1 q38.2)))
set_option maxRecDepth 20000 in
theorem ev_X11_unlikeIn_35 {d : Nat} (hd : 2 ≤ d) {w4 : Option zV} {w5 : Option zV} {w6 : Option zV} {w7 : Option zV} {w8 : Option zV} {w9 : Option zV} {x1 : Int32} {x2 : Int32} {x3 : Int32} {s0 : Int32} {h : zM} {r : Int32 × zM} (H : f_X11_unlikeIn_35 x1 x2 x3 s0 h = some r) : zEv zmt d 189 35 ([some (vR (some (11, 0))), some (vI x1), some (vI x2), some (vI x3), w4, w5, w6, w7, w8, w9], [vI s0], h, true) (some (vI r.1), r.2) := by
  obtain ⟨q38, hq, H⟩ := bnd H
  refine zEv.call (k := 148) (as := [vR (some (11, 0)), vI x2, vI 5]) (L2 := [some (vR (some (11, 0))), some (vI x1), some (vI x2), some (vI x3), w4, w5, w6, w7, w8, w9]) (st2 := [vI s0]) (h2 := h) (v := some (vI q38.1)) (h1 := q38.2) (st3 := [vI q38.1, vI s0]) zm_X11_unlikeIn rfl rfl rfl rfl rfl zm_X11_part rfl (by omega) (ev_X11_part (by omega) hq) rfl ?_
  rcases ifc H with ⟨hc, H⟩ | ⟨hc, H⟩
  · refine zEv.iteT (L2 := [some (vR (some (11, 0))), some (vI x1), some (vI x2), some (vI x3), w4, w5, w6, w7, w8, w9]) (st2 := [vI s0]) (h2 := q38.2) zm_X11_unlikeIn rfl rfl rfl rfl (decide_eq_true hc) ?_
    refine zEv.loc (L2 := [some (vR (some (11, 0))), some (vI x1), some (vI x2), some (vI x3), w4, w5, w6, w7, w8, w9]) (st2 := [vI 0, vI s0]) (h2 := q38.2) zm_X11_unlikeIn rfl rfl rfl rfl (fun h => (nomatch h)) ?_
    exact ev_X11_unlikeIn_52 (by omega)  H
  · refine zEv.iteF (L2 := [some (vR (some (11, 0))), some (vI x1), some (vI x2), some (vI x3), w4, w5, w6, w7, w8, w9]) (st2 := [vI s0]) (h2 := q38.2) zm_X11_unlikeIn rfl rfl rfl rfl (decide_eq_false hc) ?_
    refine zEv.loc (L2 := [some (vR (some (11, 0))), some (vI x1), some (vI x2), some (vI x3), w4, w5, w6, w7, w8, w9]) (st2 := [vI 1, vI s0]) (h2 := q38.2) zm_X11_unlikeIn rfl rfl rfl rfl (fun h => (nomatch h)) ?_
    exact ev_X11_unlikeIn_52 (by omega)  H
def f_X11_unlikeIn (x1 : Int32) (x2 : Int32) (h : zM) : Option (Int32 × zM) := ((f_X11_part x1 3 h).bind fun q3 => ((f_X11_part x2 3 q3.2).bind fun q9 => ((f_X11_part x1 5 q9.2).bind fun q17 => (if ¬ q17.1 = (-9999) then (f_X11_unlikeIn_35  x1 x2 (q3.1 - q9.1) 0 q17.2) else (f_X11_unlikeIn_35  x1 x2 (q3.1 - q9.1) 1 q17.2)))))
set_option maxRecDepth 20000 in
theorem ev_X11_unlikeIn {d : Nat} (hd : 2 ≤ d) {w3 : Option zV} {w4 : Option zV} {w5 : Option zV} {w6 : Option zV} {w7 : Option zV} {w8 : Option zV} {w9 : Option zV} {x1 : Int32} {x2 : Int32} {h : zM} {r : Int32 × zM} (H : f_X11_unlikeIn x1 x2 h = some r) : zEv zmt d 189 0 ([some (vR (some (11, 0))), some (vI x1), some (vI x2), w3, w4, w5, w6, w7, w8, w9], [], h, true) (some (vI r.1), r.2) := by
  obtain ⟨q3, hq, H⟩ := bnd H
  refine zEv.call (k := 148) (as := [vR (some (11, 0)), vI x1, vI 3]) (L2 := [some (vR (some (11, 0))), some (vI x1), some (vI x2), w3, w4, w5, w6, w7, w8, w9]) (st2 := []) (h2 := h) (v := some (vI q3.1)) (h1 := q3.2) (st3 := [vI q3.1]) zm_X11_unlikeIn rfl rfl rfl rfl rfl zm_X11_part rfl (by omega) (ev_X11_part (by omega) hq) rfl ?_
  obtain ⟨q9, hq, H⟩ := bnd H
  refine zEv.call (k := 148) (as := [vR (some (11, 0)), vI x2, vI 3]) (L2 := [some (vR (some (11, 0))), some (vI x1), some (vI x2), w3, w4, w5, w6, w7, w8, w9]) (st2 := [vI q3.1]) (h2 := q3.2) (v := some (vI q9.1)) (h1 := q9.2) (st3 := [vI q9.1, vI q3.1]) zm_X11_unlikeIn rfl rfl rfl rfl rfl zm_X11_part rfl (by omega) (ev_X11_part (by omega) hq) rfl ?_
  obtain ⟨q17, hq, H⟩ := bnd H
  refine zEv.call (k := 148) (as := [vR (some (11, 0)), vI x1, vI 5]) (L2 := [some (vR (some (11, 0))), some (vI x1), some (vI x2), some (vI (q3.1 - q9.1)), w4, w5, w6, w7, w8, w9]) (st2 := []) (h2 := q9.2) (v := some (vI q17.1)) (h1 := q17.2) (st3 := [vI q17.1]) zm_X11_unlikeIn rfl rfl rfl rfl rfl zm_X11_part rfl (by omega) (ev_X11_part (by omega) hq) rfl ?_
  rcases ifc H with ⟨hc, H⟩ | ⟨hc, H⟩
  · refine zEv.iteT (L2 := [some (vR (some (11, 0))), some (vI x1), some (vI x2), some (vI (q3.1 - q9.1)), some (vI q17.1), w5, w6, w7, w8, w9]) (st2 := []) (h2 := q17.2) zm_X11_unlikeIn rfl rfl rfl rfl (decide_eq_true hc) ?_
    refine zEv.loc (L2 := [some (vR (some (11, 0))), some (vI x1), some (vI x2), some (vI (q3.1 - q9.1)), some (vI q17.1), w5, w6, w7, w8, w9]) (st2 := [vI 0]) (h2 := q17.2) zm_X11_unlikeIn rfl rfl rfl rfl (fun h => (nomatch h)) ?_
    exact ev_X11_unlikeIn_35 (by omega)  H
  · refine zEv.iteF (L2 := [some (vR (some (11, 0))), some (vI x1), some (vI x2), some (vI (q3.1 - q9.1)), some (vI q17.1), w5, w6, w7, w8, w9]) (st2 := []) (h2 := q17.2) zm_X11_unlikeIn rfl rfl rfl rfl (decide_eq_false hc) ?_
    refine zEv.loc (L2 := [some (vR (some (11, 0))), some (vI x1), some (vI x2), some (vI (q3.1 - q9.1)), some (vI q17.1), w5, w6, w7, w8, w9]) (st2 := [vI 1]) (h2 := q17.2) zm_X11_unlikeIn rfl rfl rfl rfl (fun h => (nomatch h)) ?_
    exact ev_X11_unlikeIn_35 (by omega)  H
def f_X11_pairs_76 (K20 : Int32 → Int32 → Int32 → Int32 → zM → Option (Int32 × zM)) (K35 : Int32 → Int32 → Int32 → Int32 → Int32 → zM → Option (Int32 × zM)) (x1 : Int32) (x2 : Int32) (x3 : Int32) (x4 : Int32) (x5 : Int32) (h : zM) : Option (Int32 × zM) := (K35 x1 x2 x3 x4 (x5 + 1) h)
set_option maxRecDepth 20000 in
theorem ev_X11_pairs_76 {d : Nat} (hd : 3 ≤ d) {K20 : Int32 → Int32 → Int32 → Int32 → zM → Option (Int32 × zM)} (hK20 : ∀ {w5 : Option zV} {x1 : Int32} {x2 : Int32} {x3 : Int32} {x4 : Int32} {h : zM} {r : Int32 × zM}, K20 x1 x2 x3 x4 h = some r → zEv zmt d 190 20 ([some (vR (some (11, 0))), some (vI x1), some (vI x2), some (vI x3), some (vI x4), w5], [], h, true) (some (vI r.1), r.2)) {K35 : Int32 → Int32 → Int32 → Int32 → Int32 → zM → Option (Int32 × zM)} (hK35 : ∀ {x1 : Int32} {x2 : Int32} {x3 : Int32} {x4 : Int32} {x5 : Int32} {h : zM} {r : Int32 × zM}, K35 x1 x2 x3 x4 x5 h = some r → zEv zmt d 190 35 ([some (vR (some (11, 0))), some (vI x1), some (vI x2), some (vI x3), some (vI x4), some (vI x5)], [], h, true) (some (vI r.1), r.2)) {x1 : Int32} {x2 : Int32} {x3 : Int32} {x4 : Int32} {x5 : Int32} {h : zM} {r : Int32 × zM} (H : f_X11_pairs_76 K20 K35 x1 x2 x3 x4 x5 h = some r) : zEv zmt d 190 76 ([some (vR (some (11, 0))), some (vI x1), some (vI x2), some (vI x3), some (vI x4), some (vI x5)], [], h, true) (some (vI r.1), r.2) := by
  refine zEv.loc (L2 := [some (vR (some (11, 0))), some (vI x1), some (vI x2), some (vI x3), some (vI x4), some (vI (x5 + 1))]) (st2 := []) (h2 := h) zm_X11_pairs rfl rfl rfl rfl (fun h => (nomatch h)) ?_
  exact hK35 H
def f_X11_pairs_72 (K20 : Int32 → Int32 → Int32 → Int32 → zM → Option (Int32 × zM)) (K35 : Int32 → Int32 → Int32 → Int32 → Int32 → zM → Option (Int32 × zM)) (x1 : Int32) (x2 : Int32) (x4 : Int32) (x5 : Int32) (s0 : Int32) (h : zM) : Option (Int32 × zM) := (f_X11_pairs_76 K20 K35 x1 (x2 + 1) s0 x4 x5 h)
set_option maxRecDepth 20000 in
theorem ev_X11_pairs_72 {d : Nat} (hd : 3 ≤ d) {K20 : Int32 → Int32 → Int32 → Int32 → zM → Option (Int32 × zM)} (hK20 : ∀ {w5 : Option zV} {x1 : Int32} {x2 : Int32} {x3 : Int32} {x4 : Int32} {h : zM} {r : Int32 × zM}, K20 x1 x2 x3 x4 h = some r → zEv zmt d 190 20 ([some (vR (some (11, 0))), some (vI x1), some (vI x2), some (vI x3), some (vI x4), w5], [], h, true) (some (vI r.1), r.2)) {K35 : Int32 → Int32 → Int32 → Int32 → Int32 → zM → Option (Int32 × zM)} (hK35 : ∀ {x1 : Int32} {x2 : Int32} {x3 : Int32} {x4 : Int32} {x5 : Int32} {h : zM} {r : Int32 × zM}, K35 x1 x2 x3 x4 x5 h = some r → zEv zmt d 190 35 ([some (vR (some (11, 0))), some (vI x1), some (vI x2), some (vI x3), some (vI x4), some (vI x5)], [], h, true) (some (vI r.1), r.2)) {w3 : Option zV} {x1 : Int32} {x2 : Int32} {x4 : Int32} {x5 : Int32} {s0 : Int32} {h : zM} {r : Int32 × zM} (H : f_X11_pairs_72 K20 K35 x1 x2 x4 x5 s0 h = some r) : zEv zmt d 190 72 ([some (vR (some (11, 0))), some (vI x1), some (vI x2), w3, some (vI x4), some (vI x5)], [vI s0], h, true) (some (vI r.1), r.2) := by
  refine zEv.loc (L2 := [some (vR (some (11, 0))), some (vI x1), some (vI (x2 + 1)), some (vI s0), some (vI x4), some (vI x5)]) (st2 := []) (h2 := h) zm_X11_pairs rfl rfl rfl rfl (fun h => (nomatch h)) ?_
  exact ev_X11_pairs_76 (by omega) hK20 hK35 H
def f_X11_pairs_35 (K20 : Int32 → Int32 → Int32 → Int32 → zM → Option (Int32 × zM)) : Nat → Int32 → Int32 → Int32 → Int32 → Int32 → zM → Option (Int32 × zM)
  | 0 => fun _ _ _ _ _ _ => none
  | k + 1 => fun x1 x2 x3 x4 x5 h => (if (rI h 11 0 13) ≤ x5 then (K20 x1 x2 x3 (x4 + 1) h) else ((f_X11_unlikeIn x4 x5 h).bind fun q49 => (if ¬ q49.1 = x1 then (f_X11_pairs_76 K20 (f_X11_pairs_35 K20 k) x1 x2 x3 x4 x5 q49.2) else (if ¬ x2 = 0 then (f_X11_pairs_72 K20 (f_X11_pairs_35 K20 k) x1 x2 x4 x5 x3 q49.2) else (f_X11_pairs_72 K20 (f_X11_pairs_35 K20 k) x1 x2 x4 x5 ((100 * x4) + x5) q49.2)))))
set_option maxRecDepth 20000 in
theorem ev_X11_pairs_35 {d : Nat} (hd : 3 ≤ d) {K20 : Int32 → Int32 → Int32 → Int32 → zM → Option (Int32 × zM)} (hK20 : ∀ {w5 : Option zV} {x1 : Int32} {x2 : Int32} {x3 : Int32} {x4 : Int32} {h : zM} {r : Int32 × zM}, K20 x1 x2 x3 x4 h = some r → zEv zmt d 190 20 ([some (vR (some (11, 0))), some (vI x1), some (vI x2), some (vI x3), some (vI x4), w5], [], h, true) (some (vI r.1), r.2)) : ∀ (k : Nat) {x1 : Int32} {x2 : Int32} {x3 : Int32} {x4 : Int32} {x5 : Int32} {h : zM} {r : Int32 × zM}, f_X11_pairs_35 K20 k x1 x2 x3 x4 x5 h = some r → zEv zmt d 190 35 ([some (vR (some (11, 0))), some (vI x1), some (vI x2), some (vI x3), some (vI x4), some (vI x5)], [], h, true) (some (vI r.1), r.2) := by
  intro k
  induction k with
  | zero => intro x1 x2 x3 x4 x5 h r H; cases H
  | succ k ih =>
    intro x1 x2 x3 x4 x5 h r H
    rcases ifc H with ⟨hc, H⟩ | ⟨hc, H⟩
    · refine zEv.iteT (L2 := [some (vR (some (11, 0))), some (vI x1), some (vI x2), some (vI x3), some (vI x4), some (vI x5)]) (st2 := []) (h2 := h) zm_X11_pairs rfl rfl rfl rfl (decide_eq_true hc) ?_
      refine zEv.loc (L2 := [some (vR (some (11, 0))), some (vI x1), some (vI x2), some (vI x3), some (vI (x4 + 1)), some (vI x5)]) (st2 := []) (h2 := h) zm_X11_pairs rfl rfl rfl rfl (fun h => (nomatch h)) ?_
      exact hK20 H
    · refine zEv.iteF (L2 := [some (vR (some (11, 0))), some (vI x1), some (vI x2), some (vI x3), some (vI x4), some (vI x5)]) (st2 := []) (h2 := h) zm_X11_pairs rfl rfl rfl rfl (decide_eq_false hc) ?_
      obtain ⟨q49, hq, H⟩ := bnd H
      refine zEv.call (k := 189) (as := [vR (some (11, 0)), vI x4, vI x5]) (L2 := [some (vR (some (11, 0))), some (vI x1), some (vI x2), some (vI x3), some (vI x4), some (vI x5)]) (st2 := []) (h2 := h) (v := some (vI q49.1)) (h1 := q49.2) (st3 := [vI q49.1]) zm_X11_pairs rfl rfl rfl rfl rfl zm_X11_unlikeIn rfl (by omega) (ev_X11_unlikeIn (by omega) hq) rfl ?_
      rcases ifc H with ⟨hc, H⟩ | ⟨hc, H⟩
      · refine zEv.iteT (L2 := [some (vR (some (11, 0))), some (vI x1), some (vI x2), some (vI x3), some (vI x4), some (vI x5)]) (st2 := []) (h2 := q49.2) zm_X11_pairs rfl rfl rfl rfl (decide_eq_true hc) ?_
        exact ev_X11_pairs_76 (by omega) hK20 ih H
      · refine zEv.iteF (L2 := [some (vR (some (11, 0))), some (vI x1), some (vI x2), some (vI x3), some (vI x4), some (vI x5)]) (st2 := []) (h2 := q49.2) zm_X11_pairs rfl rfl rfl rfl (decide_eq_false hc) ?_
        rcases ifc H with ⟨hc, H⟩ | ⟨hc, H⟩
        · refine zEv.iteT (L2 := [some (vR (some (11, 0))), some (vI x1), some (vI x2), some (vI x3), some (vI x4), some (vI x5)]) (st2 := []) (h2 := q49.2) zm_X11_pairs rfl rfl rfl rfl (decide_eq_true hc) ?_
          refine zEv.loc (L2 := [some (vR (some (11, 0))), some (vI x1), some (vI x2), some (vI x3), some (vI x4), some (vI x5)]) (st2 := [vI x3]) (h2 := q49.2) zm_X11_pairs rfl rfl rfl rfl (fun h => (nomatch h)) ?_
          exact ev_X11_pairs_72 (by omega) hK20 ih H
        · refine zEv.iteF (L2 := [some (vR (some (11, 0))), some (vI x1), some (vI x2), some (vI x3), some (vI x4), some (vI x5)]) (st2 := []) (h2 := q49.2) zm_X11_pairs rfl rfl rfl rfl (decide_eq_false hc) ?_
          refine zEv.loc (L2 := [some (vR (some (11, 0))), some (vI x1), some (vI x2), some (vI x3), some (vI x4), some (vI x5)]) (st2 := [vI ((100 * x4) + x5)]) (h2 := q49.2) zm_X11_pairs rfl rfl rfl rfl (fun h => (nomatch h)) ?_
          exact ev_X11_pairs_72 (by omega) hK20 ih H
def f_X11_pairs_20 : Nat → Int32 → Int32 → Int32 → Int32 → zM → Option (Int32 × zM)
  | 0 => fun _ _ _ _ _ => none
  | k + 1 => fun x1 x2 x3 x4 h => (if (rI h 11 0 13) ≤ x4 then ((f_X11_ask x3 x2 h).bind fun q91 => (some (q91.1, q91.2))) else (f_X11_pairs_35 (f_X11_pairs_20 k) 1000 x1 x2 x3 x4 (x4 + 1) h))
set_option maxRecDepth 20000 in
theorem ev_X11_pairs_20 {d : Nat} (hd : 3 ≤ d) : ∀ (k : Nat) {w5 : Option zV} {x1 : Int32} {x2 : Int32} {x3 : Int32} {x4 : Int32} {h : zM} {r : Int32 × zM}, f_X11_pairs_20 k x1 x2 x3 x4 h = some r → zEv zmt d 190 20 ([some (vR (some (11, 0))), some (vI x1), some (vI x2), some (vI x3), some (vI x4), w5], [], h, true) (some (vI r.1), r.2) := by
  intro k
  induction k with
  | zero => intro w5 x1 x2 x3 x4 h r H; cases H
  | succ k ih =>
    intro w5 x1 x2 x3 x4 h r H
    rcases ifc H with ⟨hc, H⟩ | ⟨hc, H⟩
    · refine zEv.iteT (L2 := [some (vR (some (11, 0))), some (vI x1), some (vI x2), some (vI x3), some (vI x4), w5]) (st2 := []) (h2 := h) zm_X11_pairs rfl rfl rfl rfl (decide_eq_true hc) ?_
      obtain ⟨q91, hq, H⟩ := bnd H
      refine zEv.call (k := 129) (as := [vR (some (11, 0)), vI x3, vI x2]) (L2 := [some (vR (some (11, 0))), some (vI x1), some (vI x2), some (vI x3), some (vI x4), w5]) (st2 := []) (h2 := h) (v := some (vI q91.1)) (h1 := q91.2) (st3 := [vI q91.1]) zm_X11_pairs rfl rfl rfl rfl rfl zm_X11_ask rfl (by omega) (ev_X11_ask (by omega) hq) rfl ?_
      cases H
      exact zEv.ret zm_X11_pairs rfl rfl rfl rfl
    · refine zEv.iteF (L2 := [some (vR (some (11, 0))), some (vI x1), some (vI x2), some (vI x3), some (vI x4), w5]) (st2 := []) (h2 := h) zm_X11_pairs rfl rfl rfl rfl (decide_eq_false hc) ?_
      refine zEv.loc (L2 := [some (vR (some (11, 0))), some (vI x1), some (vI x2), some (vI x3), some (vI x4), some (vI (x4 + 1))]) (st2 := []) (h2 := h) zm_X11_pairs rfl rfl rfl rfl (fun h => (nomatch h)) ?_
      exact ev_X11_pairs_35 (by omega) ih 1000 H
def f_X11_pairs (x1 : Int32) (h : zM) : Option (Int32 × zM) := ((f_X11_in x1 0 4 h).bind fun q3 => (if ¬ q3.1 = 0 then (f_X11_pairs_20  1000 x1 0 (-9999) 0 q3.2) else (some ((-1), q3.2))))
set_option maxRecDepth 20000 in
theorem ev_X11_pairs {d : Nat} (hd : 3 ≤ d) {w2 : Option zV} {w3 : Option zV} {w4 : Option zV} {w5 : Option zV} {x1 : Int32} {h : zM} {r : Int32 × zM} (H : f_X11_pairs x1 h = some r) : zEv zmt d 190 0 ([some (vR (some (11, 0))), some (vI x1), w2, w3, w4, w5], [], h, true) (some (vI r.1), r.2) := by
  obtain ⟨q3, hq, H⟩ := bnd H
  refine zEv.call (k := 127) (as := [vI x1, vI 0, vI 4]) (L2 := [some (vR (some (11, 0))), some (vI x1), w2, w3, w4, w5]) (st2 := []) (h2 := h) (v := some (vI q3.1)) (h1 := q3.2) (st3 := [vI q3.1]) zm_X11_pairs rfl rfl rfl rfl rfl zm_X11_in rfl (by omega) (ev_X11_in (by omega) hq) rfl ?_
  rcases ifc H with ⟨hc, H⟩ | ⟨hc, H⟩
  · refine zEv.iteT (L2 := [some (vR (some (11, 0))), some (vI x1), w2, w3, w4, w5]) (st2 := []) (h2 := q3.2) zm_X11_pairs rfl rfl rfl rfl (decide_eq_true hc) ?_
    refine zEv.loc (L2 := [some (vR (some (11, 0))), some (vI x1), some (vI 0), some (vI (-9999)), some (vI 0), w5]) (st2 := []) (h2 := q3.2) zm_X11_pairs rfl rfl rfl rfl (fun h => (nomatch h)) ?_
    exact ev_X11_pairs_20 (by omega)  1000 H
  · refine zEv.iteF (L2 := [some (vR (some (11, 0))), some (vI x1), w2, w3, w4, w5]) (st2 := []) (h2 := q3.2) zm_X11_pairs rfl rfl rfl rfl (decide_eq_false hc) ?_
    cases H
    exact zEv.ret zm_X11_pairs rfl rfl rfl rfl
def f_X11_learn_132 (K21 : Int32 → Int32 → Int64 → Int64 → Int32 → zM → Option (Int32 × zM)) (K36 : Int32 → Int32 → Int64 → Int64 → Int32 → Int32 → zM → Option (Int32 × zM)) (x1 : Int32) (x2 : Int32) (x3 : Int64) (x5 : Int64) (x7 : Int32) (x8 : Int32) (h : zM) : Option (Int32 × zM) := (K36 x1 x2 x3 x5 x7 (x8 + 1) h)
set_option maxRecDepth 20000 in
theorem ev_X11_learn_132 {d : Nat} (hd : 3 ≤ d) {K21 : Int32 → Int32 → Int64 → Int64 → Int32 → zM → Option (Int32 × zM)} (hK21 : ∀ {w4 : Option zV} {w6 : Option zV} {w8 : Option zV} {w9 : Option zV} {w10 : Option zV} {x1 : Int32} {x2 : Int32} {x3 : Int64} {x5 : Int64} {x7 : Int32} {h : zM} {r : Int32 × zM}, K21 x1 x2 x3 x5 x7 h = some r → zEv zmt d 191 21 ([some (vR (some (11, 0))), some (vI x1), some (vI x2), some (vL x3), w4, some (vL x5), w6, some (vI x7), w8, w9, w10], [], h, true) (some (vI r.1), r.2)) {K36 : Int32 → Int32 → Int64 → Int64 → Int32 → Int32 → zM → Option (Int32 × zM)} (hK36 : ∀ {w4 : Option zV} {w6 : Option zV} {w9 : Option zV} {w10 : Option zV} {x1 : Int32} {x2 : Int32} {x3 : Int64} {x5 : Int64} {x7 : Int32} {x8 : Int32} {h : zM} {r : Int32 × zM}, K36 x1 x2 x3 x5 x7 x8 h = some r → zEv zmt d 191 36 ([some (vR (some (11, 0))), some (vI x1), some (vI x2), some (vL x3), w4, some (vL x5), w6, some (vI x7), some (vI x8), w9, w10], [], h, true) (some (vI r.1), r.2)) {w4 : Option zV} {w6 : Option zV} {w9 : Option zV} {w10 : Option zV} {x1 : Int32} {x2 : Int32} {x3 : Int64} {x5 : Int64} {x7 : Int32} {x8 : Int32} {h : zM} {r : Int32 × zM} (H : f_X11_learn_132 K21 K36 x1 x2 x3 x5 x7 x8 h = some r) : zEv zmt d 191 132 ([some (vR (some (11, 0))), some (vI x1), some (vI x2), some (vL x3), w4, some (vL x5), w6, some (vI x7), some (vI x8), w9, w10], [], h, true) (some (vI r.1), r.2) := by
  refine zEv.loc (L2 := [some (vR (some (11, 0))), some (vI x1), some (vI x2), some (vL x3), w4, some (vL x5), w6, some (vI x7), some (vI (x8 + 1)), w9, w10]) (st2 := []) (h2 := h) zm_X11_learn rfl rfl rfl rfl (fun h => (nomatch h)) ?_
  exact hK36 H
def f_X11_learn_126 (K21 : Int32 → Int32 → Int64 → Int64 → Int32 → zM → Option (Int32 × zM)) (K36 : Int32 → Int32 → Int64 → Int64 → Int32 → Int32 → zM → Option (Int32 × zM)) (x1 : Int32) (x2 : Int32) (x3 : Int64) (x7 : Int32) (x8 : Int32) (s0 : Int64) (s1 : Int64) (h : zM) : Option (Int32 × zM) := (f_X11_learn_132 K21 K36 x1 (x2 + 1) x3 (s0 + s1) x7 x8 h)
set_option maxRecDepth 20000 in
theorem ev_X11_learn_126 {d : Nat} (hd : 3 ≤ d) {K21 : Int32 → Int32 → Int64 → Int64 → Int32 → zM → Option (Int32 × zM)} (hK21 : ∀ {w4 : Option zV} {w6 : Option zV} {w8 : Option zV} {w9 : Option zV} {w10 : Option zV} {x1 : Int32} {x2 : Int32} {x3 : Int64} {x5 : Int64} {x7 : Int32} {h : zM} {r : Int32 × zM}, K21 x1 x2 x3 x5 x7 h = some r → zEv zmt d 191 21 ([some (vR (some (11, 0))), some (vI x1), some (vI x2), some (vL x3), w4, some (vL x5), w6, some (vI x7), w8, w9, w10], [], h, true) (some (vI r.1), r.2)) {K36 : Int32 → Int32 → Int64 → Int64 → Int32 → Int32 → zM → Option (Int32 × zM)} (hK36 : ∀ {w4 : Option zV} {w6 : Option zV} {w9 : Option zV} {w10 : Option zV} {x1 : Int32} {x2 : Int32} {x3 : Int64} {x5 : Int64} {x7 : Int32} {x8 : Int32} {h : zM} {r : Int32 × zM}, K36 x1 x2 x3 x5 x7 x8 h = some r → zEv zmt d 191 36 ([some (vR (some (11, 0))), some (vI x1), some (vI x2), some (vL x3), w4, some (vL x5), w6, some (vI x7), some (vI x8), w9, w10], [], h, true) (some (vI r.1), r.2)) {w4 : Option zV} {w5 : Option zV} {w6 : Option zV} {w9 : Option zV} {w10 : Option zV} {x1 : Int32} {x2 : Int32} {x3 : Int64} {x7 : Int32} {x8 : Int32} {s0 : Int64} {s1 : Int64} {h : zM} {r : Int32 × zM} (H : f_X11_learn_126 K21 K36 x1 x2 x3 x7 x8 s0 s1 h = some r) : zEv zmt d 191 126 ([some (vR (some (11, 0))), some (vI x1), some (vI x2), some (vL x3), w4, w5, w6, some (vI x7), some (vI x8), w9, w10], [vL s1, vL s0], h, true) (some (vI r.1), r.2) := by
  refine zEv.loc (L2 := [some (vR (some (11, 0))), some (vI x1), some (vI (x2 + 1)), some (vL x3), none, some (vL (s0 + s1)), none, some (vI x7), some (vI x8), w9, w10]) (st2 := []) (h2 := h) zm_X11_learn rfl rfl rfl rfl (fun h => (nomatch h)) ?_
  exact ev_X11_learn_132 (by omega) hK21 hK36 H
def f_X11_learn_107 (K21 : Int32 → Int32 → Int64 → Int64 → Int32 → zM → Option (Int32 × zM)) (K36 : Int32 → Int32 → Int64 → Int64 → Int32 → Int32 → zM → Option (Int32 × zM)) (x1 : Int32) (x2 : Int32) (x5 : Int64) (x7 : Int32) (x8 : Int32) (x9 : Int32) (s0 : Int64) (s1 : Int64) (h : zM) : Option (Int32 × zM) := (if x9 ≤ 0 then (f_X11_learn_126 K21 K36 x1 x2 (s0 + s1) x7 x8 x5 (Int32.toInt64 (-x9)) h) else (f_X11_learn_126 K21 K36 x1 x2 (s0 + s1) x7 x8 x5 (Int32.toInt64 x9) h))
set_option maxRecDepth 20000 in
theorem ev_X11_learn_107 {d : Nat} (hd : 3 ≤ d) {K21 : Int32 → Int32 → Int64 → Int64 → Int32 → zM → Option (Int32 × zM)} (hK21 : ∀ {w4 : Option zV} {w6 : Option zV} {w8 : Option zV} {w9 : Option zV} {w10 : Option zV} {x1 : Int32} {x2 : Int32} {x3 : Int64} {x5 : Int64} {x7 : Int32} {h : zM} {r : Int32 × zM}, K21 x1 x2 x3 x5 x7 h = some r → zEv zmt d 191 21 ([some (vR (some (11, 0))), some (vI x1), some (vI x2), some (vL x3), w4, some (vL x5), w6, some (vI x7), w8, w9, w10], [], h, true) (some (vI r.1), r.2)) {K36 : Int32 → Int32 → Int64 → Int64 → Int32 → Int32 → zM → Option (Int32 × zM)} (hK36 : ∀ {w4 : Option zV} {w6 : Option zV} {w9 : Option zV} {w10 : Option zV} {x1 : Int32} {x2 : Int32} {x3 : Int64} {x5 : Int64} {x7 : Int32} {x8 : Int32} {h : zM} {r : Int32 × zM}, K36 x1 x2 x3 x5 x7 x8 h = some r → zEv zmt d 191 36 ([some (vR (some (11, 0))), some (vI x1), some (vI x2), some (vL x3), w4, some (vL x5), w6, some (vI x7), some (vI x8), w9, w10], [], h, true) (some (vI r.1), r.2)) {w3 : Option zV} {w4 : Option zV} {w6 : Option zV} {w10 : Option zV} {x1 : Int32} {x2 : Int32} {x5 : Int64} {x7 : Int32} {x8 : Int32} {x9 : Int32} {s0 : Int64} {s1 : Int64} {h : zM} {r : Int32 × zM} (H : f_X11_learn_107 K21 K36 x1 x2 x5 x7 x8 x9 s0 s1 h = some r) : zEv zmt d 191 107 ([some (vR (some (11, 0))), some (vI x1), some (vI x2), w3, w4, some (vL x5), w6, some (vI x7), some (vI x8), some (vI x9), w10], [vL s1, vL s0], h, true) (some (vI r.1), r.2) := by
  rcases ifc H with ⟨hc, H⟩ | ⟨hc, H⟩
  · refine zEv.iteT (L2 := [some (vR (some (11, 0))), some (vI x1), some (vI x2), some (vL (s0 + s1)), none, some (vL x5), w6, some (vI x7), some (vI x8), some (vI x9), w10]) (st2 := [vL x5]) (h2 := h) zm_X11_learn rfl rfl rfl rfl (decide_eq_true hc) ?_
    refine zEv.loc (L2 := [some (vR (some (11, 0))), some (vI x1), some (vI x2), some (vL (s0 + s1)), none, some (vL x5), w6, some (vI x7), some (vI x8), some (vI x9), w10]) (st2 := [vL (Int32.toInt64 (-x9)), vL x5]) (h2 := h) zm_X11_learn rfl rfl rfl rfl (fun h => (nomatch h)) ?_
    exact ev_X11_learn_126 (by omega) hK21 hK36 H
  · refine zEv.iteF (L2 := [some (vR (some (11, 0))), some (vI x1), some (vI x2), some (vL (s0 + s1)), none, some (vL x5), w6, some (vI x7), some (vI x8), some (vI x9), w10]) (st2 := [vL x5]) (h2 := h) zm_X11_learn rfl rfl rfl rfl (decide_eq_false hc) ?_
    refine zEv.loc (L2 := [some (vR (some (11, 0))), some (vI x1), some (vI x2), some (vL (s0 + s1)), none, some (vL x5), w6, some (vI x7), some (vI x8), some (vI x9), w10]) (st2 := [vL (Int32.toInt64 x9), vL x5]) (h2 := h) zm_X11_learn rfl rfl rfl rfl (fun h => (nomatch h)) ?_
    exact ev_X11_learn_126 (by omega) hK21 hK36 H
def f_X11_learn_36 (K21 : Int32 → Int32 → Int64 → Int64 → Int32 → zM → Option (Int32 × zM)) : Nat → Int32 → Int32 → Int64 → Int64 → Int32 → Int32 → zM → Option (Int32 × zM)
  | 0 => fun _ _ _ _ _ _ _ => none
  | k + 1 => fun x1 x2 x3 x5 x7 x8 h => (if (rI h 11 0 13) ≤ x8 then (K21 x1 x2 x3 x5 (x7 + 1) h) else ((f_X11_unlikeIn x7 x8 h).bind fun q50 => (if ¬ q50.1 = x1 then (f_X11_learn_132 K21 (f_X11_learn_36 K21 k) x1 x2 x3 x5 x7 x8 q50.2) else ((f_X11_aspect x7 x1 q50.2).bind fun q61 => ((f_X11_aspect x8 x1 q61.2).bind fun q68 => ((f_X11_part x7 4 q68.2).bind fun q78 => ((f_X11_part x8 4 q78.2).bind fun q85 => (if (q61.1 - q68.1) ≤ 0 then (f_X11_learn_107 K21 (f_X11_learn_36 K21 k) x1 x2 x5 x7 x8 (q61.1 - q68.1) x3 (Int32.toInt64 (-(q78.1 - q85.1))) q85.2) else (f_X11_learn_107 K21 (f_X11_learn_36 K21 k) x1 x2 x5 x7 x8 (q61.1 - q68.1) x3 (Int32.toInt64 (q78.1 - q85.1)) q85.2)))))))))
set_option maxRecDepth 20000 in
theorem ev_X11_learn_36 {d : Nat} (hd : 3 ≤ d) {K21 : Int32 → Int32 → Int64 → Int64 → Int32 → zM → Option (Int32 × zM)} (hK21 : ∀ {w4 : Option zV} {w6 : Option zV} {w8 : Option zV} {w9 : Option zV} {w10 : Option zV} {x1 : Int32} {x2 : Int32} {x3 : Int64} {x5 : Int64} {x7 : Int32} {h : zM} {r : Int32 × zM}, K21 x1 x2 x3 x5 x7 h = some r → zEv zmt d 191 21 ([some (vR (some (11, 0))), some (vI x1), some (vI x2), some (vL x3), w4, some (vL x5), w6, some (vI x7), w8, w9, w10], [], h, true) (some (vI r.1), r.2)) : ∀ (k : Nat) {w4 : Option zV} {w6 : Option zV} {w9 : Option zV} {w10 : Option zV} {x1 : Int32} {x2 : Int32} {x3 : Int64} {x5 : Int64} {x7 : Int32} {x8 : Int32} {h : zM} {r : Int32 × zM}, f_X11_learn_36 K21 k x1 x2 x3 x5 x7 x8 h = some r → zEv zmt d 191 36 ([some (vR (some (11, 0))), some (vI x1), some (vI x2), some (vL x3), w4, some (vL x5), w6, some (vI x7), some (vI x8), w9, w10], [], h, true) (some (vI r.1), r.2) := by
  intro k
  induction k with
  | zero => intro w4 w6 w9 w10 x1 x2 x3 x5 x7 x8 h r H; cases H
  | succ k ih =>
    intro w4 w6 w9 w10 x1 x2 x3 x5 x7 x8 h r H
    rcases ifc H with ⟨hc, H⟩ | ⟨hc, H⟩
    · refine zEv.iteT (L2 := [some (vR (some (11, 0))), some (vI x1), some (vI x2), some (vL x3), w4, some (vL x5), w6, some (vI x7), some (vI x8), w9, w10]) (st2 := []) (h2 := h) zm_X11_learn rfl rfl rfl rfl (decide_eq_true hc) ?_
      refine zEv.loc (L2 := [some (vR (some (11, 0))), some (vI x1), some (vI x2), some (vL x3), w4, some (vL x5), none, some (vI (x7 + 1)), some (vI x8), w9, w10]) (st2 := []) (h2 := h) zm_X11_learn rfl rfl rfl rfl (fun h => (nomatch h)) ?_
      exact hK21 H
    · refine zEv.iteF (L2 := [some (vR (some (11, 0))), some (vI x1), some (vI x2), some (vL x3), w4, some (vL x5), w6, some (vI x7), some (vI x8), w9, w10]) (st2 := []) (h2 := h) zm_X11_learn rfl rfl rfl rfl (decide_eq_false hc) ?_
      obtain ⟨q50, hq, H⟩ := bnd H
      refine zEv.call (k := 189) (as := [vR (some (11, 0)), vI x7, vI x8]) (L2 := [some (vR (some (11, 0))), some (vI x1), some (vI x2), some (vL x3), w4, some (vL x5), w6, some (vI x7), some (vI x8), w9, w10]) (st2 := []) (h2 := h) (v := some (vI q50.1)) (h1 := q50.2) (st3 := [vI q50.1]) zm_X11_learn rfl rfl rfl rfl rfl zm_X11_unlikeIn rfl (by omega) (ev_X11_unlikeIn (by omega) hq) rfl ?_
      rcases ifc H with ⟨hc, H⟩ | ⟨hc, H⟩
      · refine zEv.iteT (L2 := [some (vR (some (11, 0))), some (vI x1), some (vI x2), some (vL x3), w4, some (vL x5), w6, some (vI x7), some (vI x8), w9, w10]) (st2 := []) (h2 := q50.2) zm_X11_learn rfl rfl rfl rfl (decide_eq_true hc) ?_
        exact ev_X11_learn_132 (by omega) hK21 ih H
      · refine zEv.iteF (L2 := [some (vR (some (11, 0))), some (vI x1), some (vI x2), some (vL x3), w4, some (vL x5), w6, some (vI x7), some (vI x8), w9, w10]) (st2 := []) (h2 := q50.2) zm_X11_learn rfl rfl rfl rfl (decide_eq_false hc) ?_
        obtain ⟨q61, hq, H⟩ := bnd H
        refine zEv.call (k := 188) (as := [vR (some (11, 0)), vI x7, vI x1]) (L2 := [some (vR (some (11, 0))), some (vI x1), some (vI x2), some (vL x3), w4, some (vL x5), w6, some (vI x7), some (vI x8), w9, w10]) (st2 := []) (h2 := q50.2) (v := some (vI q61.1)) (h1 := q61.2) (st3 := [vI q61.1]) zm_X11_learn rfl rfl rfl rfl rfl zm_X11_aspect rfl (by omega) (ev_X11_aspect (by omega) hq) rfl ?_
        obtain ⟨q68, hq, H⟩ := bnd H
        refine zEv.call (k := 188) (as := [vR (some (11, 0)), vI x8, vI x1]) (L2 := [some (vR (some (11, 0))), some (vI x1), some (vI x2), some (vL x3), w4, some (vL x5), w6, some (vI x7), some (vI x8), w9, w10]) (st2 := [vI q61.1]) (h2 := q61.2) (v := some (vI q68.1)) (h1 := q68.2) (st3 := [vI q68.1, vI q61.1]) zm_X11_learn rfl rfl rfl rfl rfl zm_X11_aspect rfl (by omega) (ev_X11_aspect (by omega) hq) rfl ?_
        obtain ⟨q78, hq, H⟩ := bnd H
        refine zEv.call (k := 148) (as := [vR (some (11, 0)), vI x7, vI 4]) (L2 := [some (vR (some (11, 0))), some (vI x1), some (vI x2), some (vL x3), w4, some (vL x5), w6, some (vI x7), some (vI x8), some (vI (q61.1 - q68.1)), w10]) (st2 := []) (h2 := q68.2) (v := some (vI q78.1)) (h1 := q78.2) (st3 := [vI q78.1]) zm_X11_learn rfl rfl rfl rfl rfl zm_X11_part rfl (by omega) (ev_X11_part (by omega) hq) rfl ?_
        obtain ⟨q85, hq, H⟩ := bnd H
        refine zEv.call (k := 148) (as := [vR (some (11, 0)), vI x8, vI 4]) (L2 := [some (vR (some (11, 0))), some (vI x1), some (vI x2), some (vL x3), w4, some (vL x5), w6, some (vI x7), some (vI x8), some (vI (q61.1 - q68.1)), w10]) (st2 := [vI q78.1]) (h2 := q78.2) (v := some (vI q85.1)) (h1 := q85.2) (st3 := [vI q85.1, vI q78.1]) zm_X11_learn rfl rfl rfl rfl rfl zm_X11_part rfl (by omega) (ev_X11_part (by omega) hq) rfl ?_
        rcases ifc H with ⟨hc, H⟩ | ⟨hc, H⟩
        · refine zEv.iteT (L2 := [some (vR (some (11, 0))), some (vI x1), some (vI x2), some (vL x3), w4, some (vL x5), w6, some (vI x7), some (vI x8), some (vI (q61.1 - q68.1)), some (vI (q78.1 - q85.1))]) (st2 := [vL x3]) (h2 := q85.2) zm_X11_learn rfl rfl rfl rfl (decide_eq_true hc) ?_
          refine zEv.loc (L2 := [some (vR (some (11, 0))), some (vI x1), some (vI x2), some (vL x3), w4, some (vL x5), w6, some (vI x7), some (vI x8), some (vI (q61.1 - q68.1)), some (vI (q78.1 - q85.1))]) (st2 := [vL (Int32.toInt64 (-(q78.1 - q85.1))), vL x3]) (h2 := q85.2) zm_X11_learn rfl rfl rfl rfl (fun h => (nomatch h)) ?_
          exact ev_X11_learn_107 (by omega) hK21 ih H
        · refine zEv.iteF (L2 := [some (vR (some (11, 0))), some (vI x1), some (vI x2), some (vL x3), w4, some (vL x5), w6, some (vI x7), some (vI x8), some (vI (q61.1 - q68.1)), some (vI (q78.1 - q85.1))]) (st2 := [vL x3]) (h2 := q85.2) zm_X11_learn rfl rfl rfl rfl (decide_eq_false hc) ?_
          refine zEv.loc (L2 := [some (vR (some (11, 0))), some (vI x1), some (vI x2), some (vL x3), w4, some (vL x5), w6, some (vI x7), some (vI x8), some (vI (q61.1 - q68.1)), some (vI (q78.1 - q85.1))]) (st2 := [vL (Int32.toInt64 (q78.1 - q85.1)), vL x3]) (h2 := q85.2) zm_X11_learn rfl rfl rfl rfl (fun h => (nomatch h)) ?_
          exact ev_X11_learn_107 (by omega) hK21 ih H
def f_X11_learn_21 : Nat → Int32 → Int32 → Int64 → Int64 → Int32 → zM → Option (Int32 × zM)
  | 0 => fun _ _ _ _ _ _ => none
  | k + 1 => fun x1 x2 x3 x5 x7 h => (if (rI h 11 0 13) ≤ x7 then (if ¬ x2 = 0 then ((f_X11_tell x3 x5 x2 h).bind fun q161 => (some (q161.1, q161.2))) else ((f_X11_meets 4 h).bind fun q150 => (some (q150.1, q150.2)))) else (f_X11_learn_36 (f_X11_learn_21 k) 1000 x1 x2 x3 x5 x7 (x7 + 1) h))
set_option maxRecDepth 20000 in
theorem ev_X11_learn_21 {d : Nat} (hd : 3 ≤ d) : ∀ (k : Nat) {w4 : Option zV} {w6 : Option zV} {w8 : Option zV} {w9 : Option zV} {w10 : Option zV} {x1 : Int32} {x2 : Int32} {x3 : Int64} {x5 : Int64} {x7 : Int32} {h : zM} {r : Int32 × zM}, f_X11_learn_21 k x1 x2 x3 x5 x7 h = some r → zEv zmt d 191 21 ([some (vR (some (11, 0))), some (vI x1), some (vI x2), some (vL x3), w4, some (vL x5), w6, some (vI x7), w8, w9, w10], [], h, true) (some (vI r.1), r.2) := by
  intro k
  induction k with
  | zero => intro w4 w6 w8 w9 w10 x1 x2 x3 x5 x7 h r H; cases H
  | succ k ih =>
    intro w4 w6 w8 w9 w10 x1 x2 x3 x5 x7 h r H
    rcases ifc H with ⟨hc, H⟩ | ⟨hc, H⟩
    · refine zEv.iteT (L2 := [some (vR (some (11, 0))), some (vI x1), some (vI x2), some (vL x3), w4, some (vL x5), w6, some (vI x7), w8, w9, w10]) (st2 := []) (h2 := h) zm_X11_learn rfl rfl rfl rfl (decide_eq_true hc) ?_
      rcases ifc H with ⟨hc, H⟩ | ⟨hc, H⟩
      · refine zEv.iteT (L2 := [some (vR (some (11, 0))), some (vI x1), some (vI x2), some (vL x3), w4, some (vL x5), w6, some (vI x7), w8, w9, w10]) (st2 := []) (h2 := h) zm_X11_learn rfl rfl rfl rfl (decide_eq_true hc) ?_
        obtain ⟨q161, hq, H⟩ := bnd H
        refine zEv.call (k := 130) (as := [vR (some (11, 0)), vL x3, vL x5, vI x2]) (L2 := [some (vR (some (11, 0))), some (vI x1), some (vI x2), some (vL x3), w4, some (vL x5), w6, some (vI x7), w8, w9, w10]) (st2 := []) (h2 := h) (v := some (vI q161.1)) (h1 := q161.2) (st3 := [vI q161.1]) zm_X11_learn rfl rfl rfl rfl rfl zm_X11_tell rfl (by omega) (ev_X11_tell (by omega) hq) rfl ?_
        cases H
        exact zEv.ret zm_X11_learn rfl rfl rfl rfl
      · refine zEv.iteF (L2 := [some (vR (some (11, 0))), some (vI x1), some (vI x2), some (vL x3), w4, some (vL x5), w6, some (vI x7), w8, w9, w10]) (st2 := []) (h2 := h) zm_X11_learn rfl rfl rfl rfl (decide_eq_false hc) ?_
        obtain ⟨q150, hq, H⟩ := bnd H
        refine zEv.call (k := 128) (as := [vR (some (11, 0)), vI 4]) (L2 := [some (vR (some (11, 0))), some (vI x1), some (vI x2), some (vL x3), w4, some (vL x5), w6, some (vI x7), w8, w9, w10]) (st2 := []) (h2 := h) (v := some (vI q150.1)) (h1 := q150.2) (st3 := [vI q150.1]) zm_X11_learn rfl rfl rfl rfl rfl zm_X11_meets rfl (by omega) (ev_X11_meets (by omega) hq) rfl ?_
        refine zEv.loc (L2 := [some (vR (some (11, 0))), some (vI x1), some (vI x2), some (vL x3), w4, some (vL x5), w6, some (vI x7), w8, w9, w10]) (st2 := [vI q150.1]) (h2 := q150.2) zm_X11_learn rfl rfl rfl rfl (fun h => (nomatch h)) ?_
        cases H
        exact zEv.ret zm_X11_learn rfl rfl rfl rfl
    · refine zEv.iteF (L2 := [some (vR (some (11, 0))), some (vI x1), some (vI x2), some (vL x3), w4, some (vL x5), w6, some (vI x7), w8, w9, w10]) (st2 := []) (h2 := h) zm_X11_learn rfl rfl rfl rfl (decide_eq_false hc) ?_
      refine zEv.loc (L2 := [some (vR (some (11, 0))), some (vI x1), some (vI x2), some (vL x3), w4, some (vL x5), w6, some (vI x7), some (vI (x7 + 1)), w9, w10]) (st2 := []) (h2 := h) zm_X11_learn rfl rfl rfl rfl (fun h => (nomatch h)) ?_
      exact ev_X11_learn_36 (by omega) ih 1000 H
def f_X11_learn (x1 : Int32) (h : zM) : Option (Int32 × zM) := ((f_X11_in x1 0 3 h).bind fun q3 => (if ¬ q3.1 = 0 then (f_X11_learn_21  1000 x1 0 0 0 0 q3.2) else (some ((-1), q3.2))))
set_option maxRecDepth 20000 in
theorem ev_X11_learn {d : Nat} (hd : 3 ≤ d) {w2 : Option zV} {w3 : Option zV} {w4 : Option zV} {w5 : Option zV} {w6 : Option zV} {w7 : Option zV} {w8 : Option zV} {w9 : Option zV} {w10 : Option zV} {x1 : Int32} {h : zM} {r : Int32 × zM} (H : f_X11_learn x1 h = some r) : zEv zmt d 191 0 ([some (vR (some (11, 0))), some (vI x1), w2, w3, w4, w5, w6, w7, w8, w9, w10], [], h, true) (some (vI r.1), r.2) := by
  obtain ⟨q3, hq, H⟩ := bnd H
  refine zEv.call (k := 127) (as := [vI x1, vI 0, vI 3]) (L2 := [some (vR (some (11, 0))), some (vI x1), w2, w3, w4, w5, w6, w7, w8, w9, w10]) (st2 := []) (h2 := h) (v := some (vI q3.1)) (h1 := q3.2) (st3 := [vI q3.1]) zm_X11_learn rfl rfl rfl rfl rfl zm_X11_in rfl (by omega) (ev_X11_in (by omega) hq) rfl ?_
  rcases ifc H with ⟨hc, H⟩ | ⟨hc, H⟩
  · refine zEv.iteT (L2 := [some (vR (some (11, 0))), some (vI x1), w2, w3, w4, w5, w6, w7, w8, w9, w10]) (st2 := []) (h2 := q3.2) zm_X11_learn rfl rfl rfl rfl (decide_eq_true hc) ?_
    refine zEv.loc (L2 := [some (vR (some (11, 0))), some (vI x1), some (vI 0), some (vL 0), none, some (vL 0), none, some (vI 0), w8, w9, w10]) (st2 := []) (h2 := q3.2) zm_X11_learn rfl rfl rfl rfl (fun h => (nomatch h)) ?_
    exact ev_X11_learn_21 (by omega)  1000 H
  · refine zEv.iteF (L2 := [some (vR (some (11, 0))), some (vI x1), w2, w3, w4, w5, w6, w7, w8, w9, w10]) (st2 := []) (h2 := q3.2) zm_X11_learn rfl rfl rfl rfl (decide_eq_false hc) ?_
    cases H
    exact zEv.ret zm_X11_learn rfl rfl rfl rfl
def f_X11_ways_16 : Nat → Int32 → Int32 → Int64 → Int32 → zM → Option (Int64 × zM)
  | 0 => fun _ _ _ _ _ => none
  | k + 1 => fun x0 x1 x2 x4 h => (if x1 < x4 then (some (x2, h)) else (if (true && (!decide ((Int32.toInt64 x4) = 0) && true)) = true then (f_X11_ways_16 k x0 x1 ((x2 * (Int32.toInt64 ((x0 - x4) + 1))) / (Int32.toInt64 x4)) (x4 + 1) h) else none))
set_option maxRecDepth 20000 in
theorem ev_X11_ways_16 {d : Nat} (hd : 0 ≤ d) : ∀ (k : Nat) {w3 : Option zV} {x0 : Int32} {x1 : Int32} {x2 : Int64} {x4 : Int32} {h : zM} {r : Int64 × zM}, f_X11_ways_16 k x0 x1 x2 x4 h = some r → zEv zmt d 192 16 ([some (vI x0), some (vI x1), some (vL x2), w3, some (vI x4)], [], h, true) (some (vL r.1), r.2) := by
  intro k
  induction k with
  | zero => intro w3 x0 x1 x2 x4 h r H; cases H
  | succ k ih =>
    intro w3 x0 x1 x2 x4 h r H
    rcases ifc H with ⟨hc, H⟩ | ⟨hc, H⟩
    · refine zEv.iteT (L2 := [some (vI x0), some (vI x1), some (vL x2), w3, some (vI x4)]) (st2 := []) (h2 := h) zm_X11_ways rfl rfl rfl rfl (decide_eq_true hc) ?_
      cases H
      exact zEv.ret zm_X11_ways rfl rfl rfl rfl
    · refine zEv.iteF (L2 := [some (vI x0), some (vI x1), some (vL x2), w3, some (vI x4)]) (st2 := []) (h2 := h) zm_X11_ways rfl rfl rfl rfl (decide_eq_false hc) ?_
      obtain ⟨hg, H⟩ := ifg H
      refine zEv.loc (L2 := [some (vI x0), some (vI x1), some (vL ((x2 * (Int32.toInt64 ((x0 - x4) + 1))) / (Int32.toInt64 x4))), none, some (vI (x4 + 1))]) (st2 := []) (h2 := h) zm_X11_ways rfl hg rfl hg (fun h => (nomatch h)) ?_
      exact ih H
def f_X11_ways (x0 : Int32) (x1 : Int32) (h : zM) : Option (Int64 × zM) := (if x1 < 0 then (some (0, h)) else (if x1 ≤ x0 then (f_X11_ways_16  1000 x0 x1 1 1 h) else (some (0, h))))
set_option maxRecDepth 20000 in
theorem ev_X11_ways {d : Nat} (hd : 0 ≤ d) {w2 : Option zV} {w3 : Option zV} {w4 : Option zV} {x0 : Int32} {x1 : Int32} {h : zM} {r : Int64 × zM} (H : f_X11_ways x0 x1 h = some r) : zEv zmt d 192 0 ([some (vI x0), some (vI x1), w2, w3, w4], [], h, true) (some (vL r.1), r.2) := by
  rcases ifc H with ⟨hc, H⟩ | ⟨hc, H⟩
  · refine zEv.iteT (L2 := [some (vI x0), some (vI x1), w2, w3, w4]) (st2 := []) (h2 := h) zm_X11_ways rfl rfl rfl rfl (decide_eq_true hc) ?_
    cases H
    exact zEv.ret zm_X11_ways rfl rfl rfl rfl
  · refine zEv.iteF (L2 := [some (vI x0), some (vI x1), w2, w3, w4]) (st2 := []) (h2 := h) zm_X11_ways rfl rfl rfl rfl (decide_eq_false hc) ?_
    rcases ifc H with ⟨hc, H⟩ | ⟨hc, H⟩
    · refine zEv.iteT (L2 := [some (vI x0), some (vI x1), w2, w3, w4]) (st2 := []) (h2 := h) zm_X11_ways rfl rfl rfl rfl (decide_eq_true hc) ?_
      refine zEv.loc (L2 := [some (vI x0), some (vI x1), some (vL 1), none, some (vI 1)]) (st2 := []) (h2 := h) zm_X11_ways rfl rfl rfl rfl (fun h => (nomatch h)) ?_
      exact ev_X11_ways_16 (by omega)  1000 H
    · refine zEv.iteF (L2 := [some (vI x0), some (vI x1), w2, w3, w4]) (st2 := []) (h2 := h) zm_X11_ways rfl rfl rfl rfl (decide_eq_false hc) ?_
      cases H
      exact zEv.ret zm_X11_ways rfl rfl rfl rfl
