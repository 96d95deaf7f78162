def f_X11_put (x1 : Int32) (x2 : Int32) (x3 : Int32) (h : zM) : Option (Int32 × zM) := ((f_X11_askedText x1 h).bind fun q2 => (if 0 ≤ q2.1 then (if (true && (true && (ixOk 4 x1 && (true && (decide (rR q2.2 11 0 9 = (some (36, 0))) && true))))) = true then ((f_X11_in x2 0 ((rI q2.2 36 0 (Int32.toNatClampNeg x1)) - 1) q2.2).bind fun q25 => (if ¬ q25.1 = 0 then (if (true && (ixOk 160 ((40 * x1) + x2) && (true && (decide (rR q25.2 11 0 10 = (some (37, 0))) && (true && (true && (ixOk 160 ((40 * x1) + x2) && (true && (decide (rR q25.2 11 0 10 = (some (37, 0))) && true))))))))) = true then (some (((rI q25.2 37 0 (Int32.toNatClampNeg ((40 * x1) + x2))) + 1000), (wI q25.2 37 0 (Int32.toNatClampNeg ((40 * x1) + x2)) (Int8.toInt32 (Int32.toInt8 x3))))) else none) else ((f_X11_meets 2 q25.2).bind fun q33 => (some (q33.1, q33.2))))) else none) else (some (q2.1, q2.2))))
set_option maxRecDepth 20000 in
theorem ev_X11_put {d : Nat} (hd : 3 ≤ d) {w4 : Option zV} {w5 : Option zV} {x1 : Int32} {x2 : Int32} {x3 : Int32} {h : zM} {r : Int32 × zM} (H : f_X11_put x1 x2 x3 h = some r) : zEv zmt d 142 0 ([some (vR (some (11, 0))), some (vI x1), some (vI x2), some (vI x3), w4, w5], [], h, true) (some (vI r.1), r.2) := by
  obtain ⟨q2, hq, H⟩ := bnd H
  refine zEv.call (k := 134) (as := [vR (some (11, 0)), vI x1]) (L2 := [some (vR (some (11, 0))), some (vI x1), some (vI x2), some (vI x3), w4, w5]) (st2 := []) (h2 := h) (v := some (vI q2.1)) (h1 := q2.2) (st3 := [vI q2.1]) zm_X11_put rfl rfl rfl rfl rfl zm_X11_askedText rfl (by omega) (ev_X11_askedText (by omega) hq) rfl ?_
  rcases ifc H with ⟨hc, H⟩ | ⟨hc, H⟩
  · refine zEv.iteT (L2 := [some (vR (some (11, 0))), some (vI x1), some (vI x2), some (vI x3), some (vI q2.1), w5]) (st2 := []) (h2 := q2.2) zm_X11_put rfl rfl rfl rfl (decide_eq_true hc) ?_
    obtain ⟨hg, H⟩ := ifg H
    obtain ⟨q25, hq, H⟩ := bnd H
    refine zEv.call (k := 127) (as := [vI x2, vI 0, vI ((rI q2.2 36 0 (Int32.toNatClampNeg x1)) - 1)]) (L2 := [some (vR (some (11, 0))), some (vI x1), some (vI x2), some (vI x3), some (vI q2.1), w5]) (st2 := []) (h2 := q2.2) (v := some (vI q25.1)) (h1 := q25.2) (st3 := [vI q25.1]) zm_X11_put rfl (and2 hg).2 rfl hg rfl zm_X11_in rfl (by omega) (ev_X11_in (by omega) hq) rfl ?_
    rcases ifc H with ⟨hc, H⟩ | ⟨hc, H⟩
    · refine zEv.iteT (L2 := [some (vR (some (11, 0))), some (vI x1), some (vI x2), some (vI x3), some (vI q2.1), w5]) (st2 := []) (h2 := q25.2) zm_X11_put rfl rfl rfl rfl (decide_eq_true hc) ?_
      obtain ⟨hg, H⟩ := ifg H
      cases H
      exact zEv.ret zm_X11_put rfl hg rfl hg
    · refine zEv.iteF (L2 := [some (vR (some (11, 0))), some (vI x1), some (vI x2), some (vI x3), some (vI q2.1), w5]) (st2 := []) (h2 := q25.2) zm_X11_put rfl rfl rfl rfl (decide_eq_false hc) ?_
      obtain ⟨q33, hq, H⟩ := bnd H
      refine zEv.call (k := 128) (as := [vR (some (11, 0)), vI 2]) (L2 := [some (vR (some (11, 0))), some (vI x1), some (vI x2), some (vI x3), some (vI q2.1), w5]) (st2 := []) (h2 := q25.2) (v := some (vI q33.1)) (h1 := q33.2) (st3 := [vI q33.1]) zm_X11_put rfl rfl rfl rfl rfl zm_X11_meets rfl (by omega) (ev_X11_meets (by omega) hq) rfl ?_
      cases H
      exact zEv.ret zm_X11_put rfl rfl rfl rfl
  · refine zEv.iteF (L2 := [some (vR (some (11, 0))), some (vI x1), some (vI x2), some (vI x3), some (vI q2.1), w5]) (st2 := []) (h2 := q2.2) zm_X11_put rfl rfl rfl rfl (decide_eq_false hc) ?_
    cases H
    exact zEv.ret zm_X11_put rfl rfl rfl rfl
def f_X11_later (x1 : Int32) (h : zM) : Option (Int32 × zM) := (if x1 < 0 then (some ((-1), h)) else (if x1 ≤ (9999 - (rI h 11 0 5)) then (some ((rI (wI h 11 0 5 ((rI h 11 0 5) + x1)) 11 0 5), (wI h 11 0 5 ((rI h 11 0 5) + x1)))) else (some ((-1), h))))
set_option maxRecDepth 20000 in
theorem ev_X11_later {d : Nat} (hd : 0 ≤ d) {x1 : Int32} {h : zM} {r : Int32 × zM} (H : f_X11_later x1 h = some r) : zEv zmt d 143 0 ([some (vR (some (11, 0))), some (vI x1)], [], h, true) (some (vI r.1), r.2) := by
  rcases ifc H with ⟨hc, H⟩ | ⟨hc, H⟩
  · refine zEv.iteT (L2 := [some (vR (some (11, 0))), some (vI x1)]) (st2 := []) (h2 := h) zm_X11_later rfl rfl rfl rfl (decide_eq_true hc) ?_
    cases H
    exact zEv.ret zm_X11_later rfl rfl rfl rfl
  · refine zEv.iteF (L2 := [some (vR (some (11, 0))), some (vI x1)]) (st2 := []) (h2 := h) zm_X11_later rfl rfl rfl rfl (decide_eq_false hc) ?_
    rcases ifc H with ⟨hc, H⟩ | ⟨hc, H⟩
    · refine zEv.iteT (L2 := [some (vR (some (11, 0))), some (vI x1)]) (st2 := []) (h2 := h) zm_X11_later rfl rfl rfl rfl (decide_eq_true hc) ?_
      cases H
      exact zEv.ret zm_X11_later rfl rfl rfl rfl
    · refine zEv.iteF (L2 := [some (vR (some (11, 0))), some (vI x1)]) (st2 := []) (h2 := h) zm_X11_later rfl rfl rfl rfl (decide_eq_false hc) ?_
      cases H
      exact zEv.ret zm_X11_later rfl rfl rfl rfl
def f_X11_isPlace (x1 : Int32) (h : zM) : Option (Int32 × zM) := ((f_X11_in x1 0 ((rI h 11 0 11) - 1) h).bind fun q8 => (if (isB q8.1 && true) = true then (some (q8.1, q8.2)) else none))
set_option maxRecDepth 20000 in
theorem ev_X11_isPlace {d : Nat} (hd : 1 ≤ d) {x1 : Int32} {h : zM} {r : Int32 × zM} (H : f_X11_isPlace x1 h = some r) : zEv zmt d 144 0 ([some (vR (some (11, 0))), some (vI x1)], [], h, true) (some (vI r.1), r.2) := by
  obtain ⟨q8, hq, H⟩ := bnd H
  refine zEv.call (k := 127) (as := [vI x1, vI 0, vI ((rI h 11 0 11) - 1)]) (L2 := [some (vR (some (11, 0))), some (vI x1)]) (st2 := []) (h2 := h) (v := some (vI q8.1)) (h1 := q8.2) (st3 := [vI q8.1]) zm_X11_isPlace rfl rfl rfl rfl rfl zm_X11_in rfl (by omega) (ev_X11_in (by omega) hq) rfl ?_
  obtain ⟨hg, H⟩ := ifg H
  cases H
  exact zEv.ret zm_X11_isPlace rfl (and2 hg).2 rfl hg
def f_X11_place (x1 : Int32) (x2 : Int32) (x3 : Int32) (x4 : Int32) (h : zM) : Option (Int32 × zM) := ((f_X11_in x1 0 40 h).bind fun q4 => (if q4.1 = 0 then (some ((-1), q4.2)) else ((f_X11_in x2 (-20) 50 q4.2).bind fun q15 => (if q15.1 = 0 then (some ((-1), q15.2)) else ((f_X11_in x3 0 1 q15.2).bind fun q24 => (if q24.1 = 0 then (some ((-1), q24.2)) else ((f_X11_in x4 0 3 q24.2).bind fun q34 => (if ¬ q34.1 = 0 then (if ¬ (rI q34.2 11 0 11) = 8 then (if (true && (true && (true && (true && (true && (ixOk 32 ((4 * (rI (wI (wI (wI q34.2 38 0 (Int32.toNatClampNeg (4 * (rI q34.2 11 0 11))) x1) 38 0 (Int32.toNatClampNeg ((4 * (rI (wI q34.2 38 0 (Int32.toNatClampNeg (4 * (rI q34.2 11 0 11))) x1) 11 0 11)) + 1)) x2) 38 0 (Int32.toNatClampNeg ((4 * (rI (wI (wI q34.2 38 0 (Int32.toNatClampNeg (4 * (rI q34.2 11 0 11))) x1) 38 0 (Int32.toNatClampNeg ((4 * (rI (wI q34.2 38 0 (Int32.toNatClampNeg (4 * (rI q34.2 11 0 11))) x1) 11 0 11)) + 1)) x2) 11 0 11)) + 2)) x3) 11 0 11)) + 3) && (true && (true && (decide (rR q34.2 11 0 12 = (some (38, 0))) && (true && (ixOk 32 ((4 * (rI (wI (wI q34.2 38 0 (Int32.toNatClampNeg (4 * (rI q34.2 11 0 11))) x1) 38 0 (Int32.toNatClampNeg ((4 * (rI (wI q34.2 38 0 (Int32.toNatClampNeg (4 * (rI q34.2 11 0 11))) x1) 11 0 11)) + 1)) x2) 11 0 11)) + 2) && (true && (true && (decide (rR q34.2 11 0 12 = (some (38, 0))) && (true && (ixOk 32 ((4 * (rI (wI q34.2 38 0 (Int32.toNatClampNeg (4 * (rI q34.2 11 0 11))) x1) 11 0 11)) + 1) && (true && (true && (decide (rR q34.2 11 0 12 = (some (38, 0))) && (true && (ixOk 32 (4 * (rI q34.2 11 0 11)) && (true && (true && (decide (rR q34.2 11 0 12 = (some (38, 0))) && true)))))))))))))))))))))))) = true then (some (((rI (wI (wI (wI (wI (wI q34.2 38 0 (Int32.toNatClampNeg (4 * (rI q34.2 11 0 11))) x1) 38 0 (Int32.toNatClampNeg ((4 * (rI (wI q34.2 38 0 (Int32.toNatClampNeg (4 * (rI q34.2 11 0 11))) x1) 11 0 11)) + 1)) x2) 38 0 (Int32.toNatClampNeg ((4 * (rI (wI (wI q34.2 38 0 (Int32.toNatClampNeg (4 * (rI q34.2 11 0 11))) x1) 38 0 (Int32.toNatClampNeg ((4 * (rI (wI q34.2 38 0 (Int32.toNatClampNeg (4 * (rI q34.2 11 0 11))) x1) 11 0 11)) + 1)) x2) 11 0 11)) + 2)) x3) 38 0 (Int32.toNatClampNeg ((4 * (rI (wI (wI (wI q34.2 38 0 (Int32.toNatClampNeg (4 * (rI q34.2 11 0 11))) x1) 38 0 (Int32.toNatClampNeg ((4 * (rI (wI q34.2 38 0 (Int32.toNatClampNeg (4 * (rI q34.2 11 0 11))) x1) 11 0 11)) + 1)) x2) 38 0 (Int32.toNatClampNeg ((4 * (rI (wI (wI q34.2 38 0 (Int32.toNatClampNeg (4 * (rI q34.2 11 0 11))) x1) 38 0 (Int32.toNatClampNeg ((4 * (rI (wI q34.2 38 0 (Int32.toNatClampNeg (4 * (rI q34.2 11 0 11))) x1) 11 0 11)) + 1)) x2) 11 0 11)) + 2)) x3) 11 0 11)) + 3)) x4) 11 0 11 ((rI (wI (wI (wI (wI q34.2 38 0 (Int32.toNatClampNeg (4 * (rI q34.2 11 0 11))) x1) 38 0 (Int32.toNatClampNeg ((4 * (rI (wI q34.2 38 0 (Int32.toNatClampNeg (4 * (rI q34.2 11 0 11))) x1) 11 0 11)) + 1)) x2) 38 0 (Int32.toNatClampNeg ((4 * (rI (wI (wI q34.2 38 0 (Int32.toNatClampNeg (4 * (rI q34.2 11 0 11))) x1) 38 0 (Int32.toNatClampNeg ((4 * (rI (wI q34.2 38 0 (Int32.toNatClampNeg (4 * (rI q34.2 11 0 11))) x1) 11 0 11)) + 1)) x2) 11 0 11)) + 2)) x3) 38 0 (Int32.toNatClampNeg ((4 * (rI (wI (wI (wI q34.2 38 0 (Int32.toNatClampNeg (4 * (rI q34.2 11 0 11))) x1) 38 0 (Int32.toNatClampNeg ((4 * (rI (wI q34.2 38 0 (Int32.toNatClampNeg (4 * (rI q34.2 11 0 11))) x1) 11 0 11)) + 1)) x2) 38 0 (Int32.toNatClampNeg ((4 * (rI (wI (wI q34.2 38 0 (Int32.toNatClampNeg (4 * (rI q34.2 11 0 11))) x1) 38 0 (Int32.toNatClampNeg ((4 * (rI (wI q34.2 38 0 (Int32.toNatClampNeg (4 * (rI q34.2 11 0 11))) x1) 11 0 11)) + 1)) x2) 11 0 11)) + 2)) x3) 11 0 11)) + 3)) x4) 11 0 11) + 1)) 11 0 11) - 1), (wI (wI (wI (wI (wI q34.2 38 0 (Int32.toNatClampNeg (4 * (rI q34.2 11 0 11))) x1) 38 0 (Int32.toNatClampNeg ((4 * (rI (wI q34.2 38 0 (Int32.toNatClampNeg (4 * (rI q34.2 11 0 11))) x1) 11 0 11)) + 1)) x2) 38 0 (Int32.toNatClampNeg ((4 * (rI (wI (wI q34.2 38 0 (Int32.toNatClampNeg (4 * (rI q34.2 11 0 11))) x1) 38 0 (Int32.toNatClampNeg ((4 * (rI (wI q34.2 38 0 (Int32.toNatClampNeg (4 * (rI q34.2 11 0 11))) x1) 11 0 11)) + 1)) x2) 11 0 11)) + 2)) x3) 38 0 (Int32.toNatClampNeg ((4 * (rI (wI (wI (wI q34.2 38 0 (Int32.toNatClampNeg (4 * (rI q34.2 11 0 11))) x1) 38 0 (Int32.toNatClampNeg ((4 * (rI (wI q34.2 38 0 (Int32.toNatClampNeg (4 * (rI q34.2 11 0 11))) x1) 11 0 11)) + 1)) x2) 38 0 (Int32.toNatClampNeg ((4 * (rI (wI (wI q34.2 38 0 (Int32.toNatClampNeg (4 * (rI q34.2 11 0 11))) x1) 38 0 (Int32.toNatClampNeg ((4 * (rI (wI q34.2 38 0 (Int32.toNatClampNeg (4 * (rI q34.2 11 0 11))) x1) 11 0 11)) + 1)) x2) 11 0 11)) + 2)) x3) 11 0 11)) + 3)) x4) 11 0 11 ((rI (wI (wI (wI (wI q34.2 38 0 (Int32.toNatClampNeg (4 * (rI q34.2 11 0 11))) x1) 38 0 (Int32.toNatClampNeg ((4 * (rI (wI q34.2 38 0 (Int32.toNatClampNeg (4 * (rI q34.2 11 0 11))) x1) 11 0 11)) + 1)) x2) 38 0 (Int32.toNatClampNeg ((4 * (rI (wI (wI q34.2 38 0 (Int32.toNatClampNeg (4 * (rI q34.2 11 0 11))) x1) 38 0 (Int32.toNatClampNeg ((4 * (rI (wI q34.2 38 0 (Int32.toNatClampNeg (4 * (rI q34.2 11 0 11))) x1) 11 0 11)) + 1)) x2) 11 0 11)) + 2)) x3) 38 0 (Int32.toNatClampNeg ((4 * (rI (wI (wI (wI q34.2 38 0 (Int32.toNatClampNeg (4 * (rI q34.2 11 0 11))) x1) 38 0 (Int32.toNatClampNeg ((4 * (rI (wI q34.2 38 0 (Int32.toNatClampNeg (4 * (rI q34.2 11 0 11))) x1) 11 0 11)) + 1)) x2) 38 0 (Int32.toNatClampNeg ((4 * (rI (wI (wI q34.2 38 0 (Int32.toNatClampNeg (4 * (rI q34.2 11 0 11))) x1) 38 0 (Int32.toNatClampNeg ((4 * (rI (wI q34.2 38 0 (Int32.toNatClampNeg (4 * (rI q34.2 11 0 11))) x1) 11 0 11)) + 1)) x2) 11 0 11)) + 2)) x3) 11 0 11)) + 3)) x4) 11 0 11) + 1)))) else none) else (some ((-2), q34.2))) else (some ((-1), q34.2))))))))))
set_option maxRecDepth 20000 in
theorem ev_X11_place {d : Nat} (hd : 1 ≤ d) {x1 : Int32} {x2 : Int32} {x3 : Int32} {x4 : Int32} {h : zM} {r : Int32 × zM} (H : f_X11_place x1 x2 x3 x4 h = some r) : zEv zmt d 145 0 ([some (vR (some (11, 0))), some (vI x1), some (vI x2), some (vI x3), some (vI x4)], [], h, true) (some (vI r.1), r.2) := by
  obtain ⟨q4, hq, H⟩ := bnd H
  refine zEv.call (k := 127) (as := [vI x1, vI 0, vI 40]) (L2 := [some (vR (some (11, 0))), some (vI x1), some (vI x2), some (vI x3), some (vI x4)]) (st2 := []) (h2 := h) (v := some (vI q4.1)) (h1 := q4.2) (st3 := [vI q4.1]) zm_X11_place rfl rfl rfl rfl rfl zm_X11_in rfl (by omega) (ev_X11_in (by omega) hq) rfl ?_
  rcases ifc H with ⟨hc, H⟩ | ⟨hc, H⟩
  · refine zEv.iteT (L2 := [some (vR (some (11, 0))), some (vI x1), some (vI x2), some (vI x3), some (vI x4)]) (st2 := []) (h2 := q4.2) zm_X11_place rfl rfl rfl rfl (decide_eq_true hc) ?_
    cases H
    exact zEv.ret zm_X11_place rfl rfl rfl rfl
  · refine zEv.iteF (L2 := [some (vR (some (11, 0))), some (vI x1), some (vI x2), some (vI x3), some (vI x4)]) (st2 := []) (h2 := q4.2) zm_X11_place rfl rfl rfl rfl (decide_eq_false hc) ?_
    obtain ⟨q15, hq, H⟩ := bnd H
    refine zEv.call (k := 127) (as := [vI x2, vI (-20), vI 50]) (L2 := [some (vR (some (11, 0))), some (vI x1), some (vI x2), some (vI x3), some (vI x4)]) (st2 := []) (h2 := q4.2) (v := some (vI q15.1)) (h1 := q15.2) (st3 := [vI q15.1]) zm_X11_place rfl rfl rfl rfl rfl zm_X11_in rfl (by omega) (ev_X11_in (by omega) hq) rfl ?_
    rcases ifc H with ⟨hc, H⟩ | ⟨hc, H⟩
    · refine zEv.iteT (L2 := [some (vR (some (11, 0))), some (vI x1), some (vI x2), some (vI x3), some (vI x4)]) (st2 := []) (h2 := q15.2) zm_X11_place rfl rfl rfl rfl (decide_eq_true hc) ?_
      cases H
      exact zEv.ret zm_X11_place rfl rfl rfl rfl
    · refine zEv.iteF (L2 := [some (vR (some (11, 0))), some (vI x1), some (vI x2), some (vI x3), some (vI x4)]) (st2 := []) (h2 := q15.2) zm_X11_place rfl rfl rfl rfl (decide_eq_false hc) ?_
      obtain ⟨q24, hq, H⟩ := bnd H
      refine zEv.call (k := 127) (as := [vI x3, vI 0, vI 1]) (L2 := [some (vR (some (11, 0))), some (vI x1), some (vI x2), some (vI x3), some (vI x4)]) (st2 := []) (h2 := q15.2) (v := some (vI q24.1)) (h1 := q24.2) (st3 := [vI q24.1]) zm_X11_place rfl rfl rfl rfl rfl zm_X11_in rfl (by omega) (ev_X11_in (by omega) hq) rfl ?_
      rcases ifc H with ⟨hc, H⟩ | ⟨hc, H⟩
      · refine zEv.iteT (L2 := [some (vR (some (11, 0))), some (vI x1), some (vI x2), some (vI x3), some (vI x4)]) (st2 := []) (h2 := q24.2) zm_X11_place rfl rfl rfl rfl (decide_eq_true hc) ?_
        cases H
        exact zEv.ret zm_X11_place rfl rfl rfl rfl
      · refine zEv.iteF (L2 := [some (vR (some (11, 0))), some (vI x1), some (vI x2), some (vI x3), some (vI x4)]) (st2 := []) (h2 := q24.2) zm_X11_place rfl rfl rfl rfl (decide_eq_false hc) ?_
        obtain ⟨q34, hq, H⟩ := bnd H
        refine zEv.call (k := 127) (as := [vI x4, vI 0, vI 3]) (L2 := [some (vR (some (11, 0))), some (vI x1), some (vI x2), some (vI x3), some (vI x4)]) (st2 := []) (h2 := q24.2) (v := some (vI q34.1)) (h1 := q34.2) (st3 := [vI q34.1]) zm_X11_place rfl rfl rfl rfl rfl zm_X11_in rfl (by omega) (ev_X11_in (by omega) hq) rfl ?_
        rcases ifc H with ⟨hc, H⟩ | ⟨hc, H⟩
        · refine zEv.iteT (L2 := [some (vR (some (11, 0))), some (vI x1), some (vI x2), some (vI x3), some (vI x4)]) (st2 := []) (h2 := q34.2) zm_X11_place rfl rfl rfl rfl (decide_eq_true hc) ?_
          rcases ifc H with ⟨hc, H⟩ | ⟨hc, H⟩
          · refine zEv.iteT (L2 := [some (vR (some (11, 0))), some (vI x1), some (vI x2), some (vI x3), some (vI x4)]) (st2 := []) (h2 := q34.2) zm_X11_place rfl rfl rfl rfl (decide_eq_true hc) ?_
            obtain ⟨hg, H⟩ := ifg H
            cases H
            exact zEv.ret zm_X11_place rfl hg rfl hg
          · refine zEv.iteF (L2 := [some (vR (some (11, 0))), some (vI x1), some (vI x2), some (vI x3), some (vI x4)]) (st2 := []) (h2 := q34.2) zm_X11_place rfl rfl rfl rfl (decide_eq_false hc) ?_
            cases H
            exact zEv.ret zm_X11_place rfl rfl rfl rfl
        · refine zEv.iteF (L2 := [some (vR (some (11, 0))), some (vI x1), some (vI x2), some (vI x3), some (vI x4)]) (st2 := []) (h2 := q34.2) zm_X11_place rfl rfl rfl rfl (decide_eq_false hc) ?_
          cases H
          exact zEv.ret zm_X11_place rfl rfl rfl rfl
def f_X11_about_35 (h : zM) : Option (Int32 × zM) := (some ((-1), h))
set_option maxRecDepth 20000 in
theorem ev_X11_about_35 {d : Nat} (hd : 2 ≤ d) {w0 : Option zV} {w1 : Option zV} {w2 : Option zV} {h : zM} {r : Int32 × zM} (H : f_X11_about_35  h = some r) : zEv zmt d 146 35 ([w0, w1, w2], [], h, true) (some (vI r.1), r.2) := by
  refine zEv.loc (L2 := [w0, w1, w2]) (st2 := [vI (-1)]) (h2 := h) zm_X11_about rfl rfl rfl rfl (fun h => (nomatch h)) ?_
  cases H
  exact zEv.ret zm_X11_about rfl rfl rfl rfl
def f_X11_about (x1 : Int32) (x2 : Int32) (h : zM) : Option (Int32 × zM) := ((f_X11_isPlace x1 h).bind fun q2 => (if q2.1 = 0 then (f_X11_about_35  q2.2) else ((f_X11_in x2 0 3 q2.2).bind fun q11 => (if q11.1 = 0 then (f_X11_about_35  q11.2) else (if (true && (true && (true && (ixOk 32 ((4 * x1) + x2) && (true && (decide (rR q11.2 11 0 12 = (some (38, 0))) && true)))))) = true then ((f_X11_ask (rI q11.2 38 0 (Int32.toNatClampNeg ((4 * x1) + x2))) 1 q11.2).bind fun q29 => (some (q29.1, q29.2))) else none)))))
set_option maxRecDepth 20000 in
theorem ev_X11_about {d : Nat} (hd : 2 ≤ d) {x1 : Int32} {x2 : Int32} {h : zM} {r : Int32 × zM} (H : f_X11_about x1 x2 h = some r) : zEv zmt d 146 0 ([some (vR (some (11, 0))), some (vI x1), some (vI x2)], [], h, true) (some (vI r.1), r.2) := by
  obtain ⟨q2, hq, H⟩ := bnd H
  refine zEv.call (k := 144) (as := [vR (some (11, 0)), vI x1]) (L2 := [some (vR (some (11, 0))), some (vI x1), some (vI x2)]) (st2 := []) (h2 := h) (v := some (vI q2.1)) (h1 := q2.2) (st3 := [vI q2.1]) zm_X11_about rfl rfl rfl rfl rfl zm_X11_isPlace rfl (by omega) (ev_X11_isPlace (by omega) hq) rfl ?_
  rcases ifc H with ⟨hc, H⟩ | ⟨hc, H⟩
  · refine zEv.iteT (L2 := [some (vR (some (11, 0))), some (vI x1), some (vI x2)]) (st2 := []) (h2 := q2.2) zm_X11_about rfl rfl rfl rfl (decide_eq_true hc) ?_
    exact ev_X11_about_35 (by omega)  H
  · refine zEv.iteF (L2 := [some (vR (some (11, 0))), some (vI x1), some (vI x2)]) (st2 := []) (h2 := q2.2) zm_X11_about rfl rfl rfl rfl (decide_eq_false hc) ?_
    obtain ⟨q11, hq, H⟩ := bnd H
    refine zEv.call (k := 127) (as := [vI x2, vI 0, vI 3]) (L2 := [some (vR (some (11, 0))), some (vI x1), some (vI x2)]) (st2 := []) (h2 := q2.2) (v := some (vI q11.1)) (h1 := q11.2) (st3 := [vI q11.1]) zm_X11_about rfl rfl rfl rfl rfl zm_X11_in rfl (by omega) (ev_X11_in (by omega) hq) rfl ?_
    rcases ifc H with ⟨hc, H⟩ | ⟨hc, H⟩
    · refine zEv.iteT (L2 := [some (vR (some (11, 0))), some (vI x1), some (vI x2)]) (st2 := []) (h2 := q11.2) zm_X11_about rfl rfl rfl rfl (decide_eq_true hc) ?_
      exact ev_X11_about_35 (by omega)  H
    · refine zEv.iteF (L2 := [some (vR (some (11, 0))), some (vI x1), some (vI x2)]) (st2 := []) (h2 := q11.2) zm_X11_about rfl rfl rfl rfl (decide_eq_false hc) ?_
      obtain ⟨hg, H⟩ := ifg H
      obtain ⟨q29, hq, H⟩ := bnd H
      refine zEv.call (k := 129) (as := [vR (some (11, 0)), vI (rI q11.2 38 0 (Int32.toNatClampNeg ((4 * x1) + x2))), vI 1]) (L2 := [some (vR (some (11, 0))), some (vI x1), some (vI x2)]) (st2 := []) (h2 := q11.2) (v := some (vI q29.1)) (h1 := q29.2) (st3 := [vI q29.1]) zm_X11_about rfl (and2 (and2 hg).2).2 rfl hg rfl zm_X11_ask rfl (by omega) (ev_X11_ask (by omega) hq) rfl ?_
      refine zEv.loc (L2 := [some (vR (some (11, 0))), some (vI x1), some (vI x2)]) (st2 := [vI q29.1]) (h2 := q29.2) zm_X11_about rfl rfl rfl rfl (fun h => (nomatch h)) ?_
      cases H
      exact zEv.ret zm_X11_about rfl rfl rfl rfl
def f_X11_isMark (x1 : Int32) (h : zM) : Option (Int32 × zM) := ((f_X11_in x1 0 ((rI h 11 0 13) - 1) h).bind fun q8 => (if (isB q8.1 && true) = true then (some (q8.1, q8.2)) else none))
set_option maxRecDepth 20000 in
theorem ev_X11_isMark {d : Nat} (hd : 1 ≤ d) {x1 : Int32} {h : zM} {r : Int32 × zM} (H : f_X11_isMark x1 h = some r) : zEv zmt d 147 0 ([some (vR (some (11, 0))), some (vI x1)], [], h, true) (some (vI r.1), r.2) := by
  obtain ⟨q8, hq, H⟩ := bnd H
  refine zEv.call (k := 127) (as := [vI x1, vI 0, vI ((rI h 11 0 13) - 1)]) (L2 := [some (vR (some (11, 0))), some (vI x1)]) (st2 := []) (h2 := h) (v := some (vI q8.1)) (h1 := q8.2) (st3 := [vI q8.1]) zm_X11_isMark rfl rfl rfl rfl rfl zm_X11_in rfl (by omega) (ev_X11_in (by omega) hq) rfl ?_
  obtain ⟨hg, H⟩ := ifg H
  cases H
  exact zEv.ret zm_X11_isMark rfl (and2 hg).2 rfl hg
def f_X11_part (x1 : Int32) (x2 : Int32) (h : zM) : Option (Int32 × zM) := (if (true && (ixOk 280 ((7 * x1) + x2) && (true && (decide (rR h 11 0 14 = (some (39, 0))) && true)))) = true then (some ((rI h 39 0 (Int32.toNatClampNeg ((7 * x1) + x2))), h)) else none)
set_option maxRecDepth 20000 in
theorem ev_X11_part {d : Nat} (hd : 0 ≤ d) {x1 : Int32} {x2 : Int32} {h : zM} {r : Int32 × zM} (H : f_X11_part x1 x2 h = some r) : zEv zmt d 148 0 ([some (vR (some (11, 0))), some (vI x1), some (vI x2)], [], h, true) (some (vI r.1), r.2) := by
  obtain ⟨hg, H⟩ := ifg H
  cases H
  exact zEv.ret zm_X11_part rfl hg rfl hg
def f_X11_isPerson (x0 : Int32) (h : zM) : Option (Int32 × zM) := ((f_X11_in x0 0 11 h).bind fun q4 => (if (isB q4.1 && true) = true then (some (q4.1, q4.2)) else none))
set_option maxRecDepth 20000 in
theorem ev_X11_isPerson {d : Nat} (hd : 1 ≤ d) {x0 : Int32} {h : zM} {r : Int32 × zM} (H : f_X11_isPerson x0 h = some r) : zEv zmt d 149 0 ([some (vI x0)], [], h, true) (some (vI r.1), r.2) := by
  obtain ⟨q4, hq, H⟩ := bnd H
  refine zEv.call (k := 127) (as := [vI x0, vI 0, vI 11]) (L2 := [some (vI x0)]) (st2 := []) (h2 := h) (v := some (vI q4.1)) (h1 := q4.2) (st3 := [vI q4.1]) zm_X11_isPerson rfl rfl rfl rfl rfl zm_X11_in rfl (by omega) (ev_X11_in (by omega) hq) rfl ?_
  obtain ⟨hg, H⟩ := ifg H
  cases H
  exact zEv.ret zm_X11_isPerson rfl (and2 hg).2 rfl hg
def f_X11_isValue_42 (h : zM) : Option (Int32 × zM) := (some (0, h))
set_option maxRecDepth 20000 in
theorem ev_X11_isValue_42 {d : Nat} (hd : 1 ≤ d) {w0 : Option zV} {w1 : Option zV} {w2 : Option zV} {h : zM} {r : Int32 × zM} (H : f_X11_isValue_42  h = some r) : zEv zmt d 150 42 ([w0, w1, w2], [], h, true) (some (vI r.1), r.2) := by
  refine zEv.loc (L2 := [w0, w1, w2]) (st2 := [vI 0]) (h2 := h) zm_X11_isValue rfl rfl rfl rfl (fun h => (nomatch h)) ?_
  cases H
  exact zEv.ret zm_X11_isValue rfl rfl rfl rfl
def f_X11_isValue_29 (x2 : Int32) (h : zM) : Option (Int32 × zM) := ((f_X11_in x2 0 3 h).bind fun q32 => (if q32.1 = 0 then (f_X11_isValue_42  q32.2) else (some (1, q32.2))))
set_option maxRecDepth 20000 in
theorem ev_X11_isValue_29 {d : Nat} (hd : 1 ≤ d) {w0 : Option zV} {w1 : Option zV} {x2 : Int32} {h : zM} {r : Int32 × zM} (H : f_X11_isValue_29 x2 h = some r) : zEv zmt d 150 29 ([w0, w1, some (vI x2)], [], h, true) (some (vI r.1), r.2) := by
  obtain ⟨q32, hq, H⟩ := bnd H
  refine zEv.call (k := 127) (as := [vI x2, vI 0, vI 3]) (L2 := [w0, w1, some (vI x2)]) (st2 := []) (h2 := h) (v := some (vI q32.1)) (h1 := q32.2) (st3 := [vI q32.1]) zm_X11_isValue rfl rfl rfl rfl rfl zm_X11_in rfl (by omega) (ev_X11_in (by omega) hq) rfl ?_
  rcases ifc H with ⟨hc, H⟩ | ⟨hc, H⟩
  · refine zEv.iteT (L2 := [w0, w1, some (vI x2)]) (st2 := []) (h2 := q32.2) zm_X11_isValue rfl rfl rfl rfl (decide_eq_true hc) ?_
    exact ev_X11_isValue_42 (by omega)  H
  · refine zEv.iteF (L2 := [w0, w1, some (vI x2)]) (st2 := []) (h2 := q32.2) zm_X11_isValue rfl rfl rfl rfl (decide_eq_false hc) ?_
    refine zEv.loc (L2 := [w0, w1, some (vI x2)]) (st2 := [vI 1]) (h2 := q32.2) zm_X11_isValue rfl rfl rfl rfl (fun h => (nomatch h)) ?_
    cases H
    exact zEv.ret zm_X11_isValue rfl rfl rfl rfl
def f_X11_isValue (x0 : Int32) (x1 : Int32) (x2 : Int32) (h : zM) : Option (Int32 × zM) := ((f_X11_in x0 1 9999 h).bind fun q5 => (if q5.1 = 0 then (f_X11_isValue_42  q5.2) else (if x1 = (-9999) then (f_X11_isValue_29  x2 q5.2) else ((f_X11_in x1 (-60) 60 q5.2).bind fun q23 => (if q23.1 = 0 then (f_X11_isValue_42  q23.2) else (f_X11_isValue_29  x2 q23.2))))))
set_option maxRecDepth 20000 in
theorem ev_X11_isValue {d : Nat} (hd : 1 ≤ d) {x0 : Int32} {x1 : Int32} {x2 : Int32} {h : zM} {r : Int32 × zM} (H : f_X11_isValue x0 x1 x2 h = some r) : zEv zmt d 150 0 ([some (vI x0), some (vI x1), some (vI x2)], [], h, true) (some (vI r.1), r.2) := by
  obtain ⟨q5, hq, H⟩ := bnd H
  refine zEv.call (k := 127) (as := [vI x0, vI 1, vI 9999]) (L2 := [some (vI x0), some (vI x1), some (vI x2)]) (st2 := []) (h2 := h) (v := some (vI q5.1)) (h1 := q5.2) (st3 := [vI q5.1]) zm_X11_isValue rfl rfl rfl rfl rfl zm_X11_in rfl (by omega) (ev_X11_in (by omega) hq) rfl ?_
  rcases ifc H with ⟨hc, H⟩ | ⟨hc, H⟩
  · refine zEv.iteT (L2 := [some (vI x0), some (vI x1), some (vI x2)]) (st2 := []) (h2 := q5.2) zm_X11_isValue rfl rfl rfl rfl (decide_eq_true hc) ?_
    exact ev_X11_isValue_42 (by omega)  H
  · refine zEv.iteF (L2 := [some (vI x0), some (vI x1), some (vI x2)]) (st2 := []) (h2 := q5.2) zm_X11_isValue rfl rfl rfl rfl (decide_eq_false hc) ?_
    rcases ifc H with ⟨hc, H⟩ | ⟨hc, H⟩
    · refine zEv.iteT (L2 := [some (vI x0), some (vI x1), some (vI x2)]) (st2 := []) (h2 := q5.2) zm_X11_isValue rfl rfl rfl rfl (decide_eq_true hc) ?_
      exact ev_X11_isValue_29 (by omega)  H
    · refine zEv.iteF (L2 := [some (vI x0), some (vI x1), some (vI x2)]) (st2 := []) (h2 := q5.2) zm_X11_isValue rfl rfl rfl rfl (decide_eq_false hc) ?_
      obtain ⟨q23, hq, H⟩ := bnd H
      refine zEv.call (k := 127) (as := [vI x1, vI (-60), vI 60]) (L2 := [some (vI x0), some (vI x1), some (vI x2)]) (st2 := []) (h2 := q5.2) (v := some (vI q23.1)) (h1 := q23.2) (st3 := [vI q23.1]) zm_X11_isValue rfl rfl rfl rfl rfl zm_X11_in rfl (by omega) (ev_X11_in (by omega) hq) rfl ?_
      rcases ifc H with ⟨hc, H⟩ | ⟨hc, H⟩
      · refine zEv.iteT (L2 := [some (vI x0), some (vI x1), some (vI x2)]) (st2 := []) (h2 := q23.2) zm_X11_isValue rfl rfl rfl rfl (decide_eq_true hc) ?_
        exact ev_X11_isValue_42 (by omega)  H
      · refine zEv.iteF (L2 := [some (vI x0), some (vI x1), some (vI x2)]) (st2 := []) (h2 := q23.2) zm_X11_isValue rfl rfl rfl rfl (decide_eq_false hc) ?_
        exact ev_X11_isValue_29 (by omega)  H
def f_X11_newMark (x1 : Int32) (x2 : Int32) (x3 : Int32) (x4 : Int32) (x5 : Int32) (h : zM) : Option (Int32 × zM) := (if (true && (true && (true && (true && (true && (ixOk 280 ((7 * (rI h 11 0 13)) + 6) && (true && (decide (rR h 11 0 14 = (some (39, 0))) && (true && (ixOk 280 ((7 * (rI h 11 0 13)) + 5) && (true && (decide (rR h 11 0 14 = (some (39, 0))) && (true && (ixOk 280 ((7 * (rI h 11 0 13)) + 4) && (true && (decide (rR h 11 0 14 = (some (39, 0))) && (true && (ixOk 280 ((7 * (rI h 11 0 13)) + 3) && (true && (true && (decide (rR h 11 0 14 = (some (39, 0))) && (true && (ixOk 280 ((7 * (rI h 11 0 13)) + 2) && (true && (decide (rR h 11 0 14 = (some (39, 0))) && (true && (ixOk 280 ((7 * (rI h 11 0 13)) + 1) && (true && (decide (rR h 11 0 14 = (some (39, 0))) && (true && (ixOk 280 (7 * (rI h 11 0 13)) && (true && (decide (rR h 11 0 14 = (some (39, 0))) && (true && (true && true))))))))))))))))))))))))))))))))))) = true then (some (((rI (wI (wI (wI (wI (wI (wI (wI (wI h 39 0 (Int32.toNatClampNeg (7 * (rI h 11 0 13))) 0) 39 0 (Int32.toNatClampNeg ((7 * (rI h 11 0 13)) + 1)) x1) 39 0 (Int32.toNatClampNeg ((7 * (rI h 11 0 13)) + 2)) x2) 39 0 (Int32.toNatClampNeg ((7 * (rI h 11 0 13)) + 3)) (rI (wI (wI (wI h 39 0 (Int32.toNatClampNeg (7 * (rI h 11 0 13))) 0) 39 0 (Int32.toNatClampNeg ((7 * (rI h 11 0 13)) + 1)) x1) 39 0 (Int32.toNatClampNeg ((7 * (rI h 11 0 13)) + 2)) x2) 11 0 5)) 39 0 (Int32.toNatClampNeg ((7 * (rI h 11 0 13)) + 4)) x3) 39 0 (Int32.toNatClampNeg ((7 * (rI h 11 0 13)) + 5)) x4) 39 0 (Int32.toNatClampNeg ((7 * (rI h 11 0 13)) + 6)) x5) 11 0 13 ((rI (wI (wI (wI (wI (wI (wI (wI h 39 0 (Int32.toNatClampNeg (7 * (rI h 11 0 13))) 0) 39 0 (Int32.toNatClampNeg ((7 * (rI h 11 0 13)) + 1)) x1) 39 0 (Int32.toNatClampNeg ((7 * (rI h 11 0 13)) + 2)) x2) 39 0 (Int32.toNatClampNeg ((7 * (rI h 11 0 13)) + 3)) (rI (wI (wI (wI h 39 0 (Int32.toNatClampNeg (7 * (rI h 11 0 13))) 0) 39 0 (Int32.toNatClampNeg ((7 * (rI h 11 0 13)) + 1)) x1) 39 0 (Int32.toNatClampNeg ((7 * (rI h 11 0 13)) + 2)) x2) 11 0 5)) 39 0 (Int32.toNatClampNeg ((7 * (rI h 11 0 13)) + 4)) x3) 39 0 (Int32.toNatClampNeg ((7 * (rI h 11 0 13)) + 5)) x4) 39 0 (Int32.toNatClampNeg ((7 * (rI h 11 0 13)) + 6)) x5) 11 0 13) + 1)) 11 0 13) - 1), (wI (wI (wI (wI (wI (wI (wI (wI h 39 0 (Int32.toNatClampNeg (7 * (rI h 11 0 13))) 0) 39 0 (Int32.toNatClampNeg ((7 * (rI h 11 0 13)) + 1)) x1) 39 0 (Int32.toNatClampNeg ((7 * (rI h 11 0 13)) + 2)) x2) 39 0 (Int32.toNatClampNeg ((7 * (rI h 11 0 13)) + 3)) (rI (wI (wI (wI h 39 0 (Int32.toNatClampNeg (7 * (rI h 11 0 13))) 0) 39 0 (Int32.toNatClampNeg ((7 * (rI h 11 0 13)) + 1)) x1) 39 0 (Int32.toNatClampNeg ((7 * (rI h 11 0 13)) + 2)) x2) 11 0 5)) 39 0 (Int32.toNatClampNeg ((7 * (rI h 11 0 13)) + 4)) x3) 39 0 (Int32.toNatClampNeg ((7 * (rI h 11 0 13)) + 5)) x4) 39 0 (Int32.toNatClampNeg ((7 * (rI h 11 0 13)) + 6)) x5) 11 0 13 ((rI (wI (wI (wI (wI (wI (wI (wI h 39 0 (Int32.toNatClampNeg (7 * (rI h 11 0 13))) 0) 39 0 (Int32.toNatClampNeg ((7 * (rI h 11 0 13)) + 1)) x1) 39 0 (Int32.toNatClampNeg ((7 * (rI h 11 0 13)) + 2)) x2) 39 0 (Int32.toNatClampNeg ((7 * (rI h 11 0 13)) + 3)) (rI (wI (wI (wI h 39 0 (Int32.toNatClampNeg (7 * (rI h 11 0 13))) 0) 39 0 (Int32.toNatClampNeg ((7 * (rI h 11 0 13)) + 1)) x1) 39 0 (Int32.toNatClampNeg ((7 * (rI h 11 0 13)) + 2)) x2) 11 0 5)) 39 0 (Int32.toNatClampNeg ((7 * (rI h 11 0 13)) + 4)) x3) 39 0 (Int32.toNatClampNeg ((7 * (rI h 11 0 13)) + 5)) x4) 39 0 (Int32.toNatClampNeg ((7 * (rI h 11 0 13)) + 6)) x5) 11 0 13) + 1)))) else none)
set_option maxRecDepth 20000 in
theorem ev_X11_newMark {d : Nat} (hd : 0 ≤ d) {w6 : Option zV} {x1 : Int32} {x2 : Int32} {x3 : Int32} {x4 : Int32} {x5 : Int32} {h : zM} {r : Int32 × zM} (H : f_X11_newMark x1 x2 x3 x4 x5 h = some r) : zEv zmt d 151 0 ([some (vR (some (11, 0))), some (vI x1), some (vI x2), some (vI x3), some (vI x4), some (vI x5), w6], [], h, true) (some (vI r.1), r.2) := by
  obtain ⟨hg, H⟩ := ifg H
  cases H
  exact zEv.ret zm_X11_newMark rfl hg rfl hg
def f_X11_mark (x1 : Int32) (x2 : Int32) (x3 : Int32) (x4 : Int32) (x5 : Int32) (h : zM) : Option (Int32 × zM) := ((f_X11_isPerson x1 h).bind fun q1 => (if q1.1 = 0 then (some ((-1), q1.2)) else ((f_X11_isPlace x2 q1.2).bind fun q9 => (if q9.1 = 0 then (some ((-1), q9.2)) else ((f_X11_isValue x3 x4 x5 q9.2).bind fun q20 => (if ¬ q20.1 = 0 then (if ¬ (rI q20.2 11 0 13) = 40 then ((f_X11_newMark x1 x2 x3 x4 x5 q20.2).bind fun q50 => (some (q50.1, q50.2))) else (some ((-2), q20.2))) else (some ((-1), q20.2))))))))
set_option maxRecDepth 20000 in
theorem ev_X11_mark {d : Nat} (hd : 2 ≤ d) {x1 : Int32} {x2 : Int32} {x3 : Int32} {x4 : Int32} {x5 : Int32} {h : zM} {r : Int32 × zM} (H : f_X11_mark x1 x2 x3 x4 x5 h = some r) : zEv zmt d 152 0 ([some (vR (some (11, 0))), some (vI x1), some (vI x2), some (vI x3), some (vI x4), some (vI x5)], [], h, true) (some (vI r.1), r.2) := by
  obtain ⟨q1, hq, H⟩ := bnd H
  refine zEv.call (k := 149) (as := [vI x1]) (L2 := [some (vR (some (11, 0))), some (vI x1), some (vI x2), some (vI x3), some (vI x4), some (vI x5)]) (st2 := []) (h2 := h) (v := some (vI q1.1)) (h1 := q1.2) (st3 := [vI q1.1]) zm_X11_mark rfl rfl rfl rfl rfl zm_X11_isPerson rfl (by omega) (ev_X11_isPerson (by omega) hq) rfl ?_
  rcases ifc H with ⟨hc, H⟩ | ⟨hc, H⟩
  · refine zEv.iteT (L2 := [some (vR (some (11, 0))), some (vI x1), some (vI x2), some (vI x3), some (vI x4), some (vI x5)]) (st2 := []) (h2 := q1.2) zm_X11_mark rfl rfl rfl rfl (decide_eq_true hc) ?_
    cases H
    exact zEv.ret zm_X11_mark rfl rfl rfl rfl
  · refine zEv.iteF (L2 := [some (vR (some (11, 0))), some (vI x1), some (vI x2), some (vI x3), some (vI x4), some (vI x5)]) (st2 := []) (h2 := q1.2) zm_X11_mark rfl rfl rfl rfl (decide_eq_false hc) ?_
    obtain ⟨q9, hq, H⟩ := bnd H
    refine zEv.call (k := 144) (as := [vR (some (11, 0)), vI x2]) (L2 := [some (vR (some (11, 0))), some (vI x1), some (vI x2), some (vI x3), some (vI x4), some (vI x5)]) (st2 := []) (h2 := q1.2) (v := some (vI q9.1)) (h1 := q9.2) (st3 := [vI q9.1]) zm_X11_mark rfl rfl rfl rfl rfl zm_X11_isPlace rfl (by omega) (ev_X11_isPlace (by omega) hq) rfl ?_
    rcases ifc H with ⟨hc, H⟩ | ⟨hc, H⟩
    · refine zEv.iteT (L2 := [some (vR (some (11, 0))), some (vI x1), some (vI x2), some (vI x3), some (vI x4), some (vI x5)]) (st2 := []) (h2 := q9.2) zm_X11_mark rfl rfl rfl rfl (decide_eq_true hc) ?_
      cases H
      exact zEv.ret zm_X11_mark rfl rfl rfl rfl
    · refine zEv.iteF (L2 := [some (vR (some (11, 0))), some (vI x1), some (vI x2), some (vI x3), some (vI x4), some (vI x5)]) (st2 := []) (h2 := q9.2) zm_X11_mark rfl rfl rfl rfl (decide_eq_false hc) ?_
      obtain ⟨q20, hq, H⟩ := bnd H
      refine zEv.call (k := 150) (as := [vI x3, vI x4, vI x5]) (L2 := [some (vR (some (11, 0))), some (vI x1), some (vI x2), some (vI x3), some (vI x4), some (vI x5)]) (st2 := []) (h2 := q9.2) (v := some (vI q20.1)) (h1 := q20.2) (st3 := [vI q20.1]) zm_X11_mark rfl rfl rfl rfl rfl zm_X11_isValue rfl (by omega) (ev_X11_isValue (by omega) hq) rfl ?_
      rcases ifc H with ⟨hc, H⟩ | ⟨hc, H⟩
      · refine zEv.iteT (L2 := [some (vR (some (11, 0))), some (vI x1), some (vI x2), some (vI x3), some (vI x4), some (vI x5)]) (st2 := []) (h2 := q20.2) zm_X11_mark rfl rfl rfl rfl (decide_eq_true hc) ?_
        rcases ifc H with ⟨hc, H⟩ | ⟨hc, H⟩
        · refine zEv.iteT (L2 := [some (vR (some (11, 0))), some (vI x1), some (vI x2), some (vI x3), some (vI x4), some (vI x5)]) (st2 := []) (h2 := q20.2) zm_X11_mark rfl rfl rfl rfl (decide_eq_true hc) ?_
          obtain ⟨q50, hq, H⟩ := bnd H
          refine zEv.call (k := 151) (as := [vR (some (11, 0)), vI x1, vI x2, vI x3, vI x4, vI x5]) (L2 := [some (vR (some (11, 0))), some (vI x1), some (vI x2), some (vI x3), some (vI x4), some (vI x5)]) (st2 := []) (h2 := q20.2) (v := some (vI q50.1)) (h1 := q50.2) (st3 := [vI q50.1]) zm_X11_mark rfl rfl rfl rfl rfl zm_X11_newMark rfl (by omega) (ev_X11_newMark (by omega) hq) rfl ?_
          cases H
          exact zEv.ret zm_X11_mark rfl rfl rfl rfl
        · refine zEv.iteF (L2 := [some (vR (some (11, 0))), some (vI x1), some (vI x2), some (vI x3), some (vI x4), some (vI x5)]) (st2 := []) (h2 := q20.2) zm_X11_mark rfl rfl rfl rfl (decide_eq_false hc) ?_
          refine zEv.loc (L2 := [some (vR (some (11, 0))), some (vI x1), some (vI x2), some (vI x3), some (vI x4), some (vI x5)]) (st2 := [vI (-2)]) (h2 := q20.2) zm_X11_mark rfl rfl rfl rfl (fun h => (nomatch h)) ?_
          cases H
          exact zEv.ret zm_X11_mark rfl rfl rfl rfl
      · refine zEv.iteF (L2 := [some (vR (some (11, 0))), some (vI x1), some (vI x2), some (vI x3), some (vI x4), some (vI x5)]) (st2 := []) (h2 := q20.2) zm_X11_mark rfl rfl rfl rfl (decide_eq_false hc) ?_
        cases H
        exact zEv.ret zm_X11_mark rfl rfl rfl rfl
def f_X11_marks_134 (K80 : Int32 → Int32 → Int32 → Int32 → Int32 → Int32 → zM → Option (Int32 × zM)) (x1 : Int32) (x2 : Int32) (x3 : Int32) (x5 : Int32) (x7 : Int32) (s0 : Int32) (h : zM) : Option (Int32 × zM) := (K80 x1 x2 x3 x5 s0 (x7 + 1) h)
set_option maxRecDepth 20000 in
theorem ev_X11_marks_134 {d : Nat} (hd : 3 ≤ d) {K80 : Int32 → Int32 → Int32 → Int32 → Int32 → Int32 → zM → Option (Int32 × zM)} (hK80 : ∀ {w4 : Option zV} {x1 : Int32} {x2 : Int32} {x3 : Int32} {x5 : Int32} {x6 : Int32} {x7 : Int32} {h : zM} {r : Int32 × zM}, K80 x1 x2 x3 x5 x6 x7 h = some r → zEv zmt d 153 80 ([some (vR (some (11, 0))), some (vI x1), some (vI x2), some (vI x3), w4, some (vI x5), some (vI x6), some (vI x7)], [], h, true) (some (vI r.1), r.2)) {w4 : Option zV} {w6 : Option zV} {x1 : Int32} {x2 : Int32} {x3 : Int32} {x5 : Int32} {x7 : Int32} {s0 : Int32} {h : zM} {r : Int32 × zM} (H : f_X11_marks_134 K80 x1 x2 x3 x5 x7 s0 h = some r) : zEv zmt d 153 134 ([some (vR (some (11, 0))), some (vI x1), some (vI x2), some (vI x3), w4, some (vI x5), w6, some (vI x7)], [vI s0], h, true) (some (vI r.1), r.2) := by
  refine zEv.loc (L2 := [some (vR (some (11, 0))), some (vI x1), some (vI x2), some (vI x3), w4, some (vI x5), some (vI s0), some (vI (x7 + 1))]) (st2 := []) (h2 := h) zm_X11_marks rfl rfl rfl rfl (fun h => (nomatch h)) ?_
  exact hK80 H
def f_X11_marks_133 (K80 : Int32 → Int32 → Int32 → Int32 → Int32 → Int32 → zM → Option (Int32 × zM)) (x1 : Int32) (x2 : Int32) (x3 : Int32) (x5 : Int32) (x7 : Int32) (h : zM) : Option (Int32 × zM) := (f_X11_marks_134 K80 x1 x2 x3 x5 x7 0 h)
set_option maxRecDepth 20000 in
theorem ev_X11_marks_133 {d : Nat} (hd : 3 ≤ d) {K80 : Int32 → Int32 → Int32 → Int32 → Int32 → Int32 → zM → Option (Int32 × zM)} (hK80 : ∀ {w4 : Option zV} {x1 : Int32} {x2 : Int32} {x3 : Int32} {x5 : Int32} {x6 : Int32} {x7 : Int32} {h : zM} {r : Int32 × zM}, K80 x1 x2 x3 x5 x6 x7 h = some r → zEv zmt d 153 80 ([some (vR (some (11, 0))), some (vI x1), some (vI x2), some (vI x3), w4, some (vI x5), some (vI x6), some (vI x7)], [], h, true) (some (vI r.1), r.2)) {w4 : Option zV} {w6 : Option zV} {x1 : Int32} {x2 : Int32} {x3 : Int32} {x5 : Int32} {x7 : Int32} {h : zM} {r : Int32 × zM} (H : f_X11_marks_133 K80 x1 x2 x3 x5 x7 h = some r) : zEv zmt d 153 133 ([some (vR (some (11, 0))), some (vI x1), some (vI x2), some (vI x3), w4, some (vI x5), w6, some (vI x7)], [], h, true) (some (vI r.1), r.2) := by
  refine zEv.loc (L2 := [some (vR (some (11, 0))), some (vI x1), some (vI x2), some (vI x3), w4, some (vI x5), w6, some (vI x7)]) (st2 := [vI 0]) (h2 := h) zm_X11_marks rfl rfl rfl rfl (fun h => (nomatch h)) ?_
  exact ev_X11_marks_134 (by omega) hK80 H
def f_X11_marks_156 : Nat → Int32 → Int32 → Int32 → Int32 → Int32 → zM → Option (Int32 × zM)
  | 0 => fun _ _ _ _ _ _ => none
  | k + 1 => fun x1 x2 x3 x5 x7 h => (if x5 ≤ x7 then (some (x5, h)) else ((f_X11_rowAt x3 (3 * x7) h).bind fun q172 => ((f_X11_rowAt x3 ((3 * x7) + 1) q172.2).bind fun q183 => ((f_X11_rowAt x3 ((3 * x7) + 2) q183.2).bind fun q194 => ((f_X11_newMark x1 x2 q172.1 q183.1 q194.1 q194.2).bind fun q197 => (f_X11_marks_156 k x1 x2 x3 x5 (x7 + 1) q197.2))))))
set_option maxRecDepth 20000 in
theorem ev_X11_marks_156 {d : Nat} (hd : 3 ≤ d) : ∀ (k : Nat) {w4 : Option zV} {w6 : Option zV} {x1 : Int32} {x2 : Int32} {x3 : Int32} {x5 : Int32} {x7 : Int32} {h : zM} {r : Int32 × zM}, f_X11_marks_156 k x1 x2 x3 x5 x7 h = some r → zEv zmt d 153 156 ([some (vR (some (11, 0))), some (vI x1), some (vI x2), some (vI x3), w4, some (vI x5), w6, some (vI x7)], [], h, true) (some (vI r.1), r.2) := by
  intro k
  induction k with
  | zero => intro w4 w6 x1 x2 x3 x5 x7 h r H; cases H
  | succ k ih =>
    intro w4 w6 x1 x2 x3 x5 x7 h r H
    rcases ifc H with ⟨hc, H⟩ | ⟨hc, H⟩
    · refine zEv.iteT (L2 := [some (vR (some (11, 0))), some (vI x1), some (vI x2), some (vI x3), w4, some (vI x5), w6, some (vI x7)]) (st2 := []) (h2 := h) zm_X11_marks rfl rfl rfl rfl (decide_eq_true hc) ?_
      cases H
      exact zEv.ret zm_X11_marks rfl rfl rfl rfl
    · refine zEv.iteF (L2 := [some (vR (some (11, 0))), some (vI x1), some (vI x2), some (vI x3), w4, some (vI x5), w6, some (vI x7)]) (st2 := []) (h2 := h) zm_X11_marks rfl rfl rfl rfl (decide_eq_false hc) ?_
      obtain ⟨q172, hq, H⟩ := bnd H
      refine zEv.call (k := 135) (as := [vR (some (11, 0)), vI x3, vI (3 * x7)]) (L2 := [some (vR (some (11, 0))), some (vI x1), some (vI x2), some (vI x3), w4, some (vI x5), w6, some (vI x7)]) (st2 := [vI x2, vI x1, vR (some (11, 0))]) (h2 := h) (v := some (vI q172.1)) (h1 := q172.2) (st3 := [vI q172.1, vI x2, vI x1, vR (some (11, 0))]) zm_X11_marks rfl rfl rfl rfl rfl zm_X11_rowAt rfl (by omega) (ev_X11_rowAt (by omega) hq) rfl ?_
      obtain ⟨q183, hq, H⟩ := bnd H
      refine zEv.call (k := 135) (as := [vR (some (11, 0)), vI x3, vI ((3 * x7) + 1)]) (L2 := [some (vR (some (11, 0))), some (vI x1), some (vI x2), some (vI x3), w4, some (vI x5), w6, some (vI x7)]) (st2 := [vI q172.1, vI x2, vI x1, vR (some (11, 0))]) (h2 := q172.2) (v := some (vI q183.1)) (h1 := q183.2) (st3 := [vI q183.1, vI q172.1, vI x2, vI x1, vR (some (11, 0))]) zm_X11_marks rfl rfl rfl rfl rfl zm_X11_rowAt rfl (by omega) (ev_X11_rowAt (by omega) hq) rfl ?_
      obtain ⟨q194, hq, H⟩ := bnd H
      refine zEv.call (k := 135) (as := [vR (some (11, 0)), vI x3, vI ((3 * x7) + 2)]) (L2 := [some (vR (some (11, 0))), some (vI x1), some (vI x2), some (vI x3), w4, some (vI x5), w6, some (vI x7)]) (st2 := [vI q183.1, vI q172.1, vI x2, vI x1, vR (some (11, 0))]) (h2 := q183.2) (v := some (vI q194.1)) (h1 := q194.2) (st3 := [vI q194.1, vI q183.1, vI q172.1, vI x2, vI x1, vR (some (11, 0))]) zm_X11_marks rfl rfl rfl rfl rfl zm_X11_rowAt rfl (by omega) (ev_X11_rowAt (by omega) hq) rfl ?_
      obtain ⟨q197, hq, H⟩ := bnd H
      refine zEv.call (k := 151) (as := [vR (some (11, 0)), vI x1, vI x2, vI q172.1, vI q183.1, vI q194.1]) (L2 := [some (vR (some (11, 0))), some (vI x1), some (vI x2), some (vI x3), w4, some (vI x5), w6, some (vI x7)]) (st2 := []) (h2 := q194.2) (v := some (vI q197.1)) (h1 := q197.2) (st3 := [vI q197.1]) zm_X11_marks rfl rfl rfl rfl rfl zm_X11_newMark rfl (by omega) (ev_X11_newMark (by omega) hq) rfl ?_
      refine zEv.loc (L2 := [some (vR (some (11, 0))), some (vI x1), some (vI x2), some (vI x3), w4, some (vI x5), none, some (vI (x7 + 1))]) (st2 := []) (h2 := q197.2) zm_X11_marks rfl rfl rfl rfl (fun h => (nomatch h)) ?_
      exact ih H
def f_X11_marks_80 : Nat → Int32 → Int32 → Int32 → Int32 → Int32 → Int32 → zM → Option (Int32 × zM)
  | 0 => fun _ _ _ _ _ _ _ => none
  | k + 1 => fun x1 x2 x3 x5 x6 x7 h => (if x5 ≤ x7 then (if ¬ x6 = 0 then (f_X11_marks_156  1000 x1 x2 x3 x5 0 h) else ((f_X11_meets 3 h).bind fun q149 => (some (q149.1, q149.2)))) else (if x6 = 0 then (f_X11_marks_133 (f_X11_marks_80 k) x1 x2 x3 x5 x7 h) else ((f_X11_rowAt x3 (3 * x7) h).bind fun q98 => ((f_X11_rowAt x3 ((3 * x7) + 1) q98.2).bind fun q109 => ((f_X11_rowAt x3 ((3 * x7) + 2) q109.2).bind fun q120 => ((f_X11_isValue q98.1 q109.1 q120.1 q120.2).bind fun q123 => (if q123.1 = 0 then (f_X11_marks_133 (f_X11_marks_80 k) x1 x2 x3 x5 x7 q123.2) else (f_X11_marks_134 (f_X11_marks_80 k) x1 x2 x3 x5 x7 1 q123.2))))))))
set_option maxRecDepth 20000 in
theorem ev_X11_marks_80 {d : Nat} (hd : 3 ≤ d) : ∀ (k : Nat) {w4 : Option zV} {x1 : Int32} {x2 : Int32} {x3 : Int32} {x5 : Int32} {x6 : Int32} {x7 : Int32} {h : zM} {r : Int32 × zM}, f_X11_marks_80 k x1 x2 x3 x5 x6 x7 h = some r → zEv zmt d 153 80 ([some (vR (some (11, 0))), some (vI x1), some (vI x2), some (vI x3), w4, some (vI x5), some (vI x6), some (vI x7)], [], h, true) (some (vI r.1), r.2) := by
  intro k
  induction k with
  | zero => intro w4 x1 x2 x3 x5 x6 x7 h r H; cases H
  | succ k ih =>
    intro w4 x1 x2 x3 x5 x6 x7 h r H
    rcases ifc H with ⟨hc, H⟩ | ⟨hc, H⟩
    · refine zEv.iteT (L2 := [some (vR (some (11, 0))), some (vI x1), some (vI x2), some (vI x3), w4, some (vI x5), some (vI x6), some (vI x7)]) (st2 := []) (h2 := h) zm_X11_marks rfl rfl rfl rfl (decide_eq_true hc) ?_
      rcases ifc H with ⟨hc, H⟩ | ⟨hc, H⟩
      · refine zEv.iteT (L2 := [some (vR (some (11, 0))), some (vI x1), some (vI x2), some (vI x3), w4, some (vI x5), some (vI x6), some (vI x7)]) (st2 := []) (h2 := h) zm_X11_marks rfl rfl rfl rfl (decide_eq_true hc) ?_
        refine zEv.loc (L2 := [some (vR (some (11, 0))), some (vI x1), some (vI x2), some (vI x3), w4, some (vI x5), none, some (vI 0)]) (st2 := []) (h2 := h) zm_X11_marks rfl rfl rfl rfl (fun h => (nomatch h)) ?_
        exact ev_X11_marks_156 (by omega)  1000 H
      · refine zEv.iteF (L2 := [some (vR (some (11, 0))), some (vI x1), some (vI x2), some (vI x3), w4, some (vI x5), some (vI x6), some (vI x7)]) (st2 := []) (h2 := h) zm_X11_marks rfl rfl rfl rfl (decide_eq_false hc) ?_
        obtain ⟨q149, hq, H⟩ := bnd H
        refine zEv.call (k := 128) (as := [vR (some (11, 0)), vI 3]) (L2 := [some (vR (some (11, 0))), some (vI x1), some (vI x2), some (vI x3), w4, some (vI x5), some (vI x6), some (vI x7)]) (st2 := []) (h2 := h) (v := some (vI q149.1)) (h1 := q149.2) (st3 := [vI q149.1]) zm_X11_marks rfl rfl rfl rfl rfl zm_X11_meets rfl (by omega) (ev_X11_meets (by omega) hq) rfl ?_
        cases H
        exact zEv.ret zm_X11_marks rfl rfl rfl rfl
    · refine zEv.iteF (L2 := [some (vR (some (11, 0))), some (vI x1), some (vI x2), some (vI x3), w4, some (vI x5), some (vI x6), some (vI x7)]) (st2 := []) (h2 := h) zm_X11_marks rfl rfl rfl rfl (decide_eq_false hc) ?_
      rcases ifc H with ⟨hc, H⟩ | ⟨hc, H⟩
      · refine zEv.iteT (L2 := [some (vR (some (11, 0))), some (vI x1), some (vI x2), some (vI x3), w4, some (vI x5), some (vI x6), some (vI x7)]) (st2 := []) (h2 := h) zm_X11_marks rfl rfl rfl rfl (decide_eq_true hc) ?_
        exact ev_X11_marks_133 (by omega) ih H
      · refine zEv.iteF (L2 := [some (vR (some (11, 0))), some (vI x1), some (vI x2), some (vI x3), w4, some (vI x5), some (vI x6), some (vI x7)]) (st2 := []) (h2 := h) zm_X11_marks rfl rfl rfl rfl (decide_eq_false hc) ?_
        obtain ⟨q98, hq, H⟩ := bnd H
        refine zEv.call (k := 135) (as := [vR (some (11, 0)), vI x3, vI (3 * x7)]) (L2 := [some (vR (some (11, 0))), some (vI x1), some (vI x2), some (vI x3), w4, some (vI x5), some (vI x6), some (vI x7)]) (st2 := []) (h2 := h) (v := some (vI q98.1)) (h1 := q98.2) (st3 := [vI q98.1]) zm_X11_marks rfl rfl rfl rfl rfl zm_X11_rowAt rfl (by omega) (ev_X11_rowAt (by omega) hq) rfl ?_
        obtain ⟨q109, hq, H⟩ := bnd H
        refine zEv.call (k := 135) (as := [vR (some (11, 0)), vI x3, vI ((3 * x7) + 1)]) (L2 := [some (vR (some (11, 0))), some (vI x1), some (vI x2), some (vI x3), w4, some (vI x5), some (vI x6), some (vI x7)]) (st2 := [vI q98.1]) (h2 := q98.2) (v := some (vI q109.1)) (h1 := q109.2) (st3 := [vI q109.1, vI q98.1]) zm_X11_marks rfl rfl rfl rfl rfl zm_X11_rowAt rfl (by omega) (ev_X11_rowAt (by omega) hq) rfl ?_
        obtain ⟨q120, hq, H⟩ := bnd H
        refine zEv.call (k := 135) (as := [vR (some (11, 0)), vI x3, vI ((3 * x7) + 2)]) (L2 := [some (vR (some (11, 0))), some (vI x1), some (vI x2), some (vI x3), w4, some (vI x5), some (vI x6), some (vI x7)]) (st2 := [vI q109.1, vI q98.1]) (h2 := q109.2) (v := some (vI q120.1)) (h1 := q120.2) (st3 := [vI q120.1, vI q109.1, vI q98.1]) zm_X11_marks rfl rfl rfl rfl rfl zm_X11_rowAt rfl (by omega) (ev_X11_rowAt (by omega) hq) rfl ?_
        obtain ⟨q123, hq, H⟩ := bnd H
        refine zEv.call (k := 150) (as := [vI q98.1, vI q109.1, vI q120.1]) (L2 := [some (vR (some (11, 0))), some (vI x1), some (vI x2), some (vI x3), w4, some (vI x5), some (vI x6), some (vI x7)]) (st2 := []) (h2 := q120.2) (v := some (vI q123.1)) (h1 := q123.2) (st3 := [vI q123.1]) zm_X11_marks rfl rfl rfl rfl rfl zm_X11_isValue rfl (by omega) (ev_X11_isValue (by omega) hq) rfl ?_
        rcases ifc H with ⟨hc, H⟩ | ⟨hc, H⟩
        · refine zEv.iteT (L2 := [some (vR (some (11, 0))), some (vI x1), some (vI x2), some (vI x3), w4, some (vI x5), some (vI x6), some (vI x7)]) (st2 := []) (h2 := q123.2) zm_X11_marks rfl rfl rfl rfl (decide_eq_true hc) ?_
          exact ev_X11_marks_133 (by omega) ih H
        · refine zEv.iteF (L2 := [some (vR (some (11, 0))), some (vI x1), some (vI x2), some (vI x3), w4, some (vI x5), some (vI x6), some (vI x7)]) (st2 := []) (h2 := q123.2) zm_X11_marks rfl rfl rfl rfl (decide_eq_false hc) ?_
          refine zEv.loc (L2 := [some (vR (some (11, 0))), some (vI x1), some (vI x2), some (vI x3), w4, some (vI x5), some (vI x6), some (vI x7)]) (st2 := [vI 1]) (h2 := q123.2) zm_X11_marks rfl rfl rfl rfl (fun h => (nomatch h)) ?_
          exact ev_X11_marks_134 (by omega) ih H
def f_X11_marks (x1 : Int32) (x2 : Int32) (x3 : Int32) (h : zM) : Option (Int32 × zM) := ((f_X11_isPerson x1 h).bind fun q1 => (if q1.1 = 0 then (some ((-1), q1.2)) else ((f_X11_isPlace x2 q1.2).bind fun q9 => (if ¬ q9.1 = 0 then ((f_X11_askedRow x3 q9.2).bind fun q19 => (if 0 ≤ q19.1 then (if (true && (true && (ixOk 6 x3 && (true && (decide (rR q19.2 11 0 6 = (some (33, 0))) && true))))) = true then (if ((rI q19.2 33 0 (Int32.toNatClampNeg x3)) - (rI q19.2 33 0 (Int32.toNatClampNeg x3)) / 3 * 3) = 0 then (if (true && (true && (true && (true && (ixOk 6 x3 && (true && (decide (rR q19.2 11 0 6 = (some (33, 0))) && true))))))) = true then (if ((rI q19.2 11 0 13) + ((rI q19.2 33 0 (Int32.toNatClampNeg x3)) / 3)) ≤ 40 then (f_X11_marks_80  1000 x1 x2 x3 ((rI q19.2 33 0 (Int32.toNatClampNeg x3)) / 3) 1 0 q19.2) else (some ((-2), q19.2))) else none) else ((f_X11_meets 5 q19.2).bind fun q45 => (some (q45.1, q45.2)))) else none) else (some (q19.1, q19.2)))) else (some ((-1), q9.2))))))
set_option maxRecDepth 20000 in
theorem ev_X11_marks {d : Nat} (hd : 3 ≤ d) {w4 : Option zV} {w5 : Option zV} {w6 : Option zV} {w7 : Option zV} {x1 : Int32} {x2 : Int32} {x3 : Int32} {h : zM} {r : Int32 × zM} (H : f_X11_marks x1 x2 x3 h = some r) : zEv zmt d 153 0 ([some (vR (some (11, 0))), some (vI x1), some (vI x2), some (vI x3), w4, w5, w6, w7], [], h, true) (some (vI r.1), r.2) := by
  obtain ⟨q1, hq, H⟩ := bnd H
  refine zEv.call (k := 149) (as := [vI x1]) (L2 := [some (vR (some (11, 0))), some (vI x1), some (vI x2), some (vI x3), w4, w5, w6, w7]) (st2 := []) (h2 := h) (v := some (vI q1.1)) (h1 := q1.2) (st3 := [vI q1.1]) zm_X11_marks rfl rfl rfl rfl rfl zm_X11_isPerson rfl (by omega) (ev_X11_isPerson (by omega) hq) rfl ?_
  rcases ifc H with ⟨hc, H⟩ | ⟨hc, H⟩
  · refine zEv.iteT (L2 := [some (vR (some (11, 0))), some (vI x1), some (vI x2), some (vI x3), w4, w5, w6, w7]) (st2 := []) (h2 := q1.2) zm_X11_marks rfl rfl rfl rfl (decide_eq_true hc) ?_
    cases H
    exact zEv.ret zm_X11_marks rfl rfl rfl rfl
  · refine zEv.iteF (L2 := [some (vR (some (11, 0))), some (vI x1), some (vI x2), some (vI x3), w4, w5, w6, w7]) (st2 := []) (h2 := q1.2) zm_X11_marks rfl rfl rfl rfl (decide_eq_false hc) ?_
    obtain ⟨q9, hq, H⟩ := bnd H
    refine zEv.call (k := 144) (as := [vR (some (11, 0)), vI x2]) (L2 := [some (vR (some (11, 0))), some (vI x1), some (vI x2), some (vI x3), w4, w5, w6, w7]) (st2 := []) (h2 := q1.2) (v := some (vI q9.1)) (h1 := q9.2) (st3 := [vI q9.1]) zm_X11_marks rfl rfl rfl rfl rfl zm_X11_isPlace rfl (by omega) (ev_X11_isPlace (by omega) hq) rfl ?_
    rcases ifc H with ⟨hc, H⟩ | ⟨hc, H⟩
    · refine zEv.iteT (L2 := [some (vR (some (11, 0))), some (vI x1), some (vI x2), some (vI x3), w4, w5, w6, w7]) (st2 := []) (h2 := q9.2) zm_X11_marks rfl rfl rfl rfl (decide_eq_true hc) ?_
      obtain ⟨q19, hq, H⟩ := bnd H
      refine zEv.call (k := 133) (as := [vR (some (11, 0)), vI x3]) (L2 := [some (vR (some (11, 0))), some (vI x1), some (vI x2), some (vI x3), w4, w5, w6, w7]) (st2 := []) (h2 := q9.2) (v := some (vI q19.1)) (h1 := q19.2) (st3 := [vI q19.1]) zm_X11_marks rfl rfl rfl rfl rfl zm_X11_askedRow rfl (by omega) (ev_X11_askedRow (by omega) hq) rfl ?_
      rcases ifc H with ⟨hc, H⟩ | ⟨hc, H⟩
      · refine zEv.iteT (L2 := [some (vR (some (11, 0))), some (vI x1), some (vI x2), some (vI x3), some (vI q19.1), w5, w6, w7]) (st2 := []) (h2 := q19.2) zm_X11_marks rfl rfl rfl rfl (decide_eq_true hc) ?_
        obtain ⟨hg, H⟩ := ifg H
        rcases ifc H with ⟨hc, H⟩ | ⟨hc, H⟩
        · refine zEv.iteT (L2 := [some (vR (some (11, 0))), some (vI x1), some (vI x2), some (vI x3), some (vI q19.1), w5, w6, w7]) (st2 := []) (h2 := q19.2) zm_X11_marks rfl hg rfl hg (decide_eq_true hc) ?_
          obtain ⟨hg, H⟩ := ifg H
          rcases ifc H with ⟨hc, H⟩ | ⟨hc, H⟩
          · refine zEv.iteT (L2 := [some (vR (some (11, 0))), some (vI x1), some (vI x2), some (vI x3), none, some (vI ((rI q19.2 33 0 (Int32.toNatClampNeg x3)) / 3)), w6, w7]) (st2 := []) (h2 := q19.2) zm_X11_marks rfl hg rfl hg (decide_eq_true hc) ?_
            refine zEv.loc (L2 := [some (vR (some (11, 0))), some (vI x1), some (vI x2), some (vI x3), none, some (vI ((rI q19.2 33 0 (Int32.toNatClampNeg x3)) / 3)), some (vI 1), some (vI 0)]) (st2 := []) (h2 := q19.2) zm_X11_marks rfl rfl rfl rfl (fun h => (nomatch h)) ?_
            exact ev_X11_marks_80 (by omega)  1000 H
          · refine zEv.iteF (L2 := [some (vR (some (11, 0))), some (vI x1), some (vI x2), some (vI x3), none, some (vI ((rI q19.2 33 0 (Int32.toNatClampNeg x3)) / 3)), w6, w7]) (st2 := []) (h2 := q19.2) zm_X11_marks rfl hg rfl hg (decide_eq_false hc) ?_
            cases H
            exact zEv.ret zm_X11_marks rfl rfl rfl rfl
        · refine zEv.iteF (L2 := [some (vR (some (11, 0))), some (vI x1), some (vI x2), some (vI x3), some (vI q19.1), w5, w6, w7]) (st2 := []) (h2 := q19.2) zm_X11_marks rfl hg rfl hg (decide_eq_false hc) ?_
          obtain ⟨q45, hq, H⟩ := bnd H
          refine zEv.call (k := 128) (as := [vR (some (11, 0)), vI 5]) (L2 := [some (vR (some (11, 0))), some (vI x1), some (vI x2), some (vI x3), some (vI q19.1), w5, w6, w7]) (st2 := []) (h2 := q19.2) (v := some (vI q45.1)) (h1 := q45.2) (st3 := [vI q45.1]) zm_X11_marks rfl rfl rfl rfl rfl zm_X11_meets rfl (by omega) (ev_X11_meets (by omega) hq) rfl ?_
          cases H
          exact zEv.ret zm_X11_marks rfl rfl rfl rfl
      · refine zEv.iteF (L2 := [some (vR (some (11, 0))), some (vI x1), some (vI x2), some (vI x3), some (vI q19.1), w5, w6, w7]) (st2 := []) (h2 := q19.2) zm_X11_marks rfl rfl rfl rfl (decide_eq_false hc) ?_
        cases H
        exact zEv.ret zm_X11_marks rfl rfl rfl rfl
    · refine zEv.iteF (L2 := [some (vR (some (11, 0))), some (vI x1), some (vI x2), some (vI x3), w4, w5, w6, w7]) (st2 := []) (h2 := q9.2) zm_X11_marks rfl rfl rfl rfl (decide_eq_false hc) ?_
      cases H
      exact zEv.ret zm_X11_marks rfl rfl rfl rfl
def f_X11_becomes (x1 : Int32) (x2 : Int32) (x3 : Int32) (x4 : Int32) (h : zM) : Option (Int32 × zM) := ((f_X11_part x1 0 h).bind fun q3 => (if q3.1 = 0 then (if (true && (ixOk 40 x1 && (true && (decide (rR q3.2 11 0 16 = (some (41, 0))) && (true && (ixOk 40 x1 && (true && (decide (rR q3.2 11 0 15 = (some (40, 0))) && (true && (ixOk 280 (7 * x1) && (true && (decide (rR q3.2 11 0 14 = (some (39, 0))) && true)))))))))))) = true then (some (1, (wI (wI (wI q3.2 39 0 (Int32.toNatClampNeg (7 * x1)) x2) 40 0 (Int32.toNatClampNeg x1) x3) 41 0 (Int32.toNatClampNeg x1) x4))) else none) else ((f_X11_meets 3 q3.2).bind fun q11 => (some (q11.1, q11.2)))))
set_option maxRecDepth 20000 in
theorem ev_X11_becomes {d : Nat} (hd : 1 ≤ d) {x1 : Int32} {x2 : Int32} {x3 : Int32} {x4 : Int32} {h : zM} {r : Int32 × zM} (H : f_X11_becomes x1 x2 x3 x4 h = some r) : zEv zmt d 154 0 ([some (vR (some (11, 0))), some (vI x1), some (vI x2), some (vI x3), some (vI x4)], [], h, true) (some (vI r.1), r.2) := by
  obtain ⟨q3, hq, H⟩ := bnd H
  refine zEv.call (k := 148) (as := [vR (some (11, 0)), vI x1, vI 0]) (L2 := [some (vR (some (11, 0))), some (vI x1), some (vI x2), some (vI x3), some (vI x4)]) (st2 := []) (h2 := h) (v := some (vI q3.1)) (h1 := q3.2) (st3 := [vI q3.1]) zm_X11_becomes rfl rfl rfl rfl rfl zm_X11_part rfl (by omega) (ev_X11_part (by omega) hq) rfl ?_
  rcases ifc H with ⟨hc, H⟩ | ⟨hc, H⟩
  · refine zEv.iteT (L2 := [some (vR (some (11, 0))), some (vI x1), some (vI x2), some (vI x3), some (vI x4)]) (st2 := []) (h2 := q3.2) zm_X11_becomes rfl rfl rfl rfl (decide_eq_true hc) ?_
    obtain ⟨hg, H⟩ := ifg H
    cases H
    exact zEv.ret zm_X11_becomes rfl hg rfl hg
  · refine zEv.iteF (L2 := [some (vR (some (11, 0))), some (vI x1), some (vI x2), some (vI x3), some (vI x4)]) (st2 := []) (h2 := q3.2) zm_X11_becomes rfl rfl rfl rfl (decide_eq_false hc) ?_
    obtain ⟨q11, hq, H⟩ := bnd H
    refine zEv.call (k := 128) (as := [vR (some (11, 0)), vI 3]) (L2 := [some (vR (some (11, 0))), some (vI x1), some (vI x2), some (vI x3), some (vI x4)]) (st2 := []) (h2 := q3.2) (v := some (vI q11.1)) (h1 := q11.2) (st3 := [vI q11.1]) zm_X11_becomes rfl rfl rfl rfl rfl zm_X11_meets rfl (by omega) (ev_X11_meets (by omega) hq) rfl ?_
    cases H
    exact zEv.ret zm_X11_becomes rfl rfl rfl rfl
def f_X11_isMuch (x0 : Int32) (h : zM) : Option (Int32 × zM) := ((f_X11_in x0 1 999 h).bind fun q5 => (if (isB q5.1 && true) = true then (some (q5.1, q5.2)) else none))
set_option maxRecDepth 20000 in
theorem ev_X11_isMuch {d : Nat} (hd : 1 ≤ d) {x0 : Int32} {h : zM} {r : Int32 × zM} (H : f_X11_isMuch x0 h = some r) : zEv zmt d 155 0 ([some (vI x0)], [], h, true) (some (vI r.1), r.2) := by
  obtain ⟨q5, hq, H⟩ := bnd H
  refine zEv.call (k := 127) (as := [vI x0, vI 1, vI 999]) (L2 := [some (vI x0)]) (st2 := []) (h2 := h) (v := some (vI q5.1)) (h1 := q5.2) (st3 := [vI q5.1]) zm_X11_isMuch rfl rfl rfl rfl rfl zm_X11_in rfl (by omega) (ev_X11_in (by omega) hq) rfl ?_
  obtain ⟨hg, H⟩ := ifg H
  cases H
  exact zEv.ret zm_X11_isMuch rfl (and2 hg).2 rfl hg
def f_X11_help_47 (x2 : Int32) (x3 : Int32) (s1 : Int32) (s2 : Int32) (h : zM) : Option (Int32 × zM) := ((f_X11_becomes s1 s2 x2 x3 h).bind fun q49 => (some (q49.1, q49.2)))
set_option maxRecDepth 20000 in
theorem ev_X11_help_47 {d : Nat} (hd : 2 ≤ d) {w0 : Option zV} {w1 : Option zV} {x2 : Int32} {x3 : Int32} {s1 : Int32} {s2 : Int32} {h : zM} {r : Int32 × zM} (H : f_X11_help_47 x2 x3 s1 s2 h = some r) : zEv zmt d 156 47 ([w0, w1, some (vI x2), some (vI x3)], [vI s2, vI s1, vR (some (11, 0))], h, true) (some (vI r.1), r.2) := by
  obtain ⟨q49, hq, H⟩ := bnd H
  refine zEv.call (k := 154) (as := [vR (some (11, 0)), vI s1, vI s2, vI x2, vI x3]) (L2 := [w0, w1, some (vI x2), some (vI x3)]) (st2 := []) (h2 := h) (v := some (vI q49.1)) (h1 := q49.2) (st3 := [vI q49.1]) zm_X11_help rfl rfl rfl rfl rfl zm_X11_becomes rfl (by omega) (ev_X11_becomes (by omega) hq) rfl ?_
  cases H
  exact zEv.ret zm_X11_help rfl rfl rfl rfl
def f_X11_help_33 (x1 : Int32) (x2 : Int32) (x3 : Int32) (h : zM) : Option (Int32 × zM) := (if ¬ x3 = (-9999) then (f_X11_help_47  x2 x3 x1 2 h) else (f_X11_help_47  x2 x3 x1 1 h))
set_option maxRecDepth 20000 in
theorem ev_X11_help_33 {d : Nat} (hd : 2 ≤ d) {x1 : Int32} {x2 : Int32} {x3 : Int32} {h : zM} {r : Int32 × zM} (H : f_X11_help_33 x1 x2 x3 h = some r) : zEv zmt d 156 33 ([some (vR (some (11, 0))), some (vI x1), some (vI x2), some (vI x3)], [], h, true) (some (vI r.1), r.2) := by
  rcases ifc H with ⟨hc, H⟩ | ⟨hc, H⟩
  · refine zEv.iteT (L2 := [some (vR (some (11, 0))), some (vI x1), some (vI x2), some (vI x3)]) (st2 := [vI x1, vR (some (11, 0))]) (h2 := h) zm_X11_help rfl rfl rfl rfl (decide_eq_true hc) ?_
    refine zEv.loc (L2 := [some (vR (some (11, 0))), some (vI x1), some (vI x2), some (vI x3)]) (st2 := [vI 2, vI x1, vR (some (11, 0))]) (h2 := h) zm_X11_help rfl rfl rfl rfl (fun h => (nomatch h)) ?_
    exact ev_X11_help_47 (by omega)  H
  · refine zEv.iteF (L2 := [some (vR (some (11, 0))), some (vI x1), some (vI x2), some (vI x3)]) (st2 := [vI x1, vR (some (11, 0))]) (h2 := h) zm_X11_help rfl rfl rfl rfl (decide_eq_false hc) ?_
    refine zEv.loc (L2 := [some (vR (some (11, 0))), some (vI x1), some (vI x2), some (vI x3)]) (st2 := [vI 1, vI x1, vR (some (11, 0))]) (h2 := h) zm_X11_help rfl rfl rfl rfl (fun h => (nomatch h)) ?_
    exact ev_X11_help_47 (by omega)  H
def f_X11_help (x1 : Int32) (x2 : Int32) (x3 : Int32) (h : zM) : Option (Int32 × zM) := ((f_X11_isMark x1 h).bind fun q2 => (if q2.1 = 0 then (some ((-1), q2.2)) else ((f_X11_isMuch x2 q2.2).bind fun q9 => (if q9.1 = 0 then (some ((-1), q9.2)) else (if x3 = (-9999) then (f_X11_help_33  x1 x2 x3 q9.2) else ((f_X11_in x3 0 5 q9.2).bind fun q25 => (if ¬ q25.1 = 0 then (f_X11_help_33  x1 x2 x3 q25.2) else (some ((-1), q25.2)))))))))
set_option maxRecDepth 20000 in
theorem ev_X11_help {d : Nat} (hd : 2 ≤ d) {x1 : Int32} {x2 : Int32} {x3 : Int32} {h : zM} {r : Int32 × zM} (H : f_X11_help x1 x2 x3 h = some r) : zEv zmt d 156 0 ([some (vR (some (11, 0))), some (vI x1), some (vI x2), some (vI x3)], [], h, true) (some (vI r.1), r.2) := by
  obtain ⟨q2, hq, H⟩ := bnd H
  refine zEv.call (k := 147) (as := [vR (some (11, 0)), vI x1]) (L2 := [some (vR (some (11, 0))), some (vI x1), some (vI x2), some (vI x3)]) (st2 := []) (h2 := h) (v := some (vI q2.1)) (h1 := q2.2) (st3 := [vI q2.1]) zm_X11_help rfl rfl rfl rfl rfl zm_X11_isMark rfl (by omega) (ev_X11_isMark (by omega) hq) rfl ?_
  rcases ifc H with ⟨hc, H⟩ | ⟨hc, H⟩
  · refine zEv.iteT (L2 := [some (vR (some (11, 0))), some (vI x1), some (vI x2), some (vI x3)]) (st2 := []) (h2 := q2.2) zm_X11_help rfl rfl rfl rfl (decide_eq_true hc) ?_
    cases H
    exact zEv.ret zm_X11_help rfl rfl rfl rfl
  · refine zEv.iteF (L2 := [some (vR (some (11, 0))), some (vI x1), some (vI x2), some (vI x3)]) (st2 := []) (h2 := q2.2) zm_X11_help rfl rfl rfl rfl (decide_eq_false hc) ?_
    obtain ⟨q9, hq, H⟩ := bnd H
    refine zEv.call (k := 155) (as := [vI x2]) (L2 := [some (vR (some (11, 0))), some (vI x1), some (vI x2), some (vI x3)]) (st2 := []) (h2 := q2.2) (v := some (vI q9.1)) (h1 := q9.2) (st3 := [vI q9.1]) zm_X11_help rfl rfl rfl rfl rfl zm_X11_isMuch rfl (by omega) (ev_X11_isMuch (by omega) hq) rfl ?_
    rcases ifc H with ⟨hc, H⟩ | ⟨hc, H⟩
    · refine zEv.iteT (L2 := [some (vR (some (11, 0))), some (vI x1), some (vI x2), some (vI x3)]) (st2 := []) (h2 := q9.2) zm_X11_help rfl rfl rfl rfl (decide_eq_true hc) ?_
      cases H
      exact zEv.ret zm_X11_help rfl rfl rfl rfl
    · refine zEv.iteF (L2 := [some (vR (some (11, 0))), some (vI x1), some (vI x2), some (vI x3)]) (st2 := []) (h2 := q9.2) zm_X11_help rfl rfl rfl rfl (decide_eq_false hc) ?_
      rcases ifc H with ⟨hc, H⟩ | ⟨hc, H⟩
      · refine zEv.iteT (L2 := [some (vR (some (11, 0))), some (vI x1), some (vI x2), some (vI x3)]) (st2 := []) (h2 := q9.2) zm_X11_help rfl rfl rfl rfl (decide_eq_true hc) ?_
        exact ev_X11_help_33 (by omega)  H
      · refine zEv.iteF (L2 := [some (vR (some (11, 0))), some (vI x1), some (vI x2), some (vI x3)]) (st2 := []) (h2 := q9.2) zm_X11_help rfl rfl rfl rfl (decide_eq_false hc) ?_
        obtain ⟨q25, hq, H⟩ := bnd H
        refine zEv.call (k := 127) (as := [vI x3, vI 0, vI 5]) (L2 := [some (vR (some (11, 0))), some (vI x1), some (vI x2), some (vI x3)]) (st2 := []) (h2 := q9.2) (v := some (vI q25.1)) (h1 := q25.2) (st3 := [vI q25.1]) zm_X11_help rfl rfl rfl rfl rfl zm_X11_in rfl (by omega) (ev_X11_in (by omega) hq) rfl ?_
        rcases ifc H with ⟨hc, H⟩ | ⟨hc, H⟩
        · refine zEv.iteT (L2 := [some (vR (some (11, 0))), some (vI x1), some (vI x2), some (vI x3)]) (st2 := []) (h2 := q25.2) zm_X11_help rfl rfl rfl rfl (decide_eq_true hc) ?_
          exact ev_X11_help_33 (by omega)  H
        · refine zEv.iteF (L2 := [some (vR (some (11, 0))), some (vI x1), some (vI x2), some (vI x3)]) (st2 := []) (h2 := q25.2) zm_X11_help rfl rfl rfl rfl (decide_eq_false hc) ?_
          cases H
          exact zEv.ret zm_X11_help rfl rfl rfl rfl
def f_X11_paper_29 (h : zM) : Option (Int32 × zM) := (some ((-1), h))
set_option maxRecDepth 20000 in
theorem ev_X11_paper_29 {d : Nat} (hd : 2 ≤ d) {w0 : Option zV} {w1 : Option zV} {w2 : Option zV} {h : zM} {r : Int32 × zM} (H : f_X11_paper_29  h = some r) : zEv zmt d 157 29 ([w0, w1, w2], [], h, true) (some (vI r.1), r.2) := by
  refine zEv.loc (L2 := [w0, w1, w2]) (st2 := [vI (-1)]) (h2 := h) zm_X11_paper rfl rfl rfl rfl (fun h => (nomatch h)) ?_
  cases H
  exact zEv.ret zm_X11_paper rfl rfl rfl rfl
def f_X11_paper (x1 : Int32) (x2 : Int32) (h : zM) : Option (Int32 × zM) := ((f_X11_isMark x1 h).bind fun q2 => (if q2.1 = 0 then (f_X11_paper_29  q2.2) else ((f_X11_isMuch x2 q2.2).bind fun q9 => (if q9.1 = 0 then (f_X11_paper_29  q9.2) else ((f_X11_becomes x1 3 x2 (rI q9.2 11 0 5) q9.2).bind fun q23 => (some (q23.1, q23.2)))))))
set_option maxRecDepth 20000 in
theorem ev_X11_paper {d : Nat} (hd : 2 ≤ d) {x1 : Int32} {x2 : Int32} {h : zM} {r : Int32 × zM} (H : f_X11_paper x1 x2 h = some r) : zEv zmt d 157 0 ([some (vR (some (11, 0))), some (vI x1), some (vI x2)], [], h, true) (some (vI r.1), r.2) := by
  obtain ⟨q2, hq, H⟩ := bnd H
  refine zEv.call (k := 147) (as := [vR (some (11, 0)), vI x1]) (L2 := [some (vR (some (11, 0))), some (vI x1), some (vI x2)]) (st2 := []) (h2 := h) (v := some (vI q2.1)) (h1 := q2.2) (st3 := [vI q2.1]) zm_X11_paper rfl rfl rfl rfl rfl zm_X11_isMark rfl (by omega) (ev_X11_isMark (by omega) hq) rfl ?_
  rcases ifc H with ⟨hc, H⟩ | ⟨hc, H⟩
  · refine zEv.iteT (L2 := [some (vR (some (11, 0))), some (vI x1), some (vI x2)]) (st2 := []) (h2 := q2.2) zm_X11_paper rfl rfl rfl rfl (decide_eq_true hc) ?_
    exact ev_X11_paper_29 (by omega)  H
  · refine zEv.iteF (L2 := [some (vR (some (11, 0))), some (vI x1), some (vI x2)]) (st2 := []) (h2 := q2.2) zm_X11_paper rfl rfl rfl rfl (decide_eq_false hc) ?_
    obtain ⟨q9, hq, H⟩ := bnd H
    refine zEv.call (k := 155) (as := [vI x2]) (L2 := [some (vR (some (11, 0))), some (vI x1), some (vI x2)]) (st2 := []) (h2 := q2.2) (v := some (vI q9.1)) (h1 := q9.2) (st3 := [vI q9.1]) zm_X11_paper rfl rfl rfl rfl rfl zm_X11_isMuch rfl (by omega) (ev_X11_isMuch (by omega) hq) rfl ?_
    rcases ifc H with ⟨hc, H⟩ | ⟨hc, H⟩
    · refine zEv.iteT (L2 := [some (vR (some (11, 0))), some (vI x1), some (vI x2)]) (st2 := []) (h2 := q9.2) zm_X11_paper rfl rfl rfl rfl (decide_eq_true hc) ?_
      exact ev_X11_paper_29 (by omega)  H
    · refine zEv.iteF (L2 := [some (vR (some (11, 0))), some (vI x1), some (vI x2)]) (st2 := []) (h2 := q9.2) zm_X11_paper rfl rfl rfl rfl (decide_eq_false hc) ?_
      obtain ⟨q23, hq, H⟩ := bnd H
      refine zEv.call (k := 154) (as := [vR (some (11, 0)), vI x1, vI 3, vI x2, vI (rI q9.2 11 0 5)]) (L2 := [some (vR (some (11, 0))), some (vI x1), some (vI x2)]) (st2 := []) (h2 := q9.2) (v := some (vI q23.1)) (h1 := q23.2) (st3 := [vI q23.1]) zm_X11_paper rfl rfl rfl rfl rfl zm_X11_becomes rfl (by omega) (ev_X11_becomes (by omega) hq) rfl ?_
      refine zEv.loc (L2 := [some (vR (some (11, 0))), some (vI x1), some (vI x2)]) (st2 := [vI q23.1]) (h2 := q23.2) zm_X11_paper rfl rfl rfl rfl (fun h => (nomatch h)) ?_
      cases H
      exact zEv.ret zm_X11_paper rfl rfl rfl rfl
def f_X11_cut_26 (h : zM) : Option (Int32 × zM) := (some ((-1), h))
set_option maxRecDepth 20000 in
theorem ev_X11_cut_26 {d : Nat} (hd : 2 ≤ d) {w0 : Option zV} {w1 : Option zV} {w2 : Option zV} {h : zM} {r : Int32 × zM} (H : f_X11_cut_26  h = some r) : zEv zmt d 158 26 ([w0, w1, w2], [], h, true) (some (vI r.1), r.2) := by
  refine zEv.loc (L2 := [w0, w1, w2]) (st2 := [vI (-1)]) (h2 := h) zm_X11_cut rfl rfl rfl rfl (fun h => (nomatch h)) ?_
  cases H
  exact zEv.ret zm_X11_cut rfl rfl rfl rfl
def f_X11_cut (x1 : Int32) (x2 : Int32) (h : zM) : Option (Int32 × zM) := ((f_X11_isMark x1 h).bind fun q2 => (if q2.1 = 0 then (f_X11_cut_26  q2.2) else ((f_X11_isMuch x2 q2.2).bind fun q9 => (if q9.1 = 0 then (f_X11_cut_26  q9.2) else ((f_X11_becomes x1 4 x2 0 q9.2).bind fun q20 => (some (q20.1, q20.2)))))))
set_option maxRecDepth 20000 in
theorem ev_X11_cut {d : Nat} (hd : 2 ≤ d) {x1 : Int32} {x2 : Int32} {h : zM} {r : Int32 × zM} (H : f_X11_cut x1 x2 h = some r) : zEv zmt d 158 0 ([some (vR (some (11, 0))), some (vI x1), some (vI x2)], [], h, true) (some (vI r.1), r.2) := by
  obtain ⟨q2, hq, H⟩ := bnd H
  refine zEv.call (k := 147) (as := [vR (some (11, 0)), vI x1]) (L2 := [some (vR (some (11, 0))), some (vI x1), some (vI x2)]) (st2 := []) (h2 := h) (v := some (vI q2.1)) (h1 := q2.2) (st3 := [vI q2.1]) zm_X11_cut rfl rfl rfl rfl rfl zm_X11_isMark rfl (by omega) (ev_X11_isMark (by omega) hq) rfl ?_
  rcases ifc H with ⟨hc, H⟩ | ⟨hc, H⟩
  · refine zEv.iteT (L2 := [some (vR (some (11, 0))), some (vI x1), some (vI x2)]) (st2 := []) (h2 := q2.2) zm_X11_cut rfl rfl rfl rfl (decide_eq_true hc) ?_
    exact ev_X11_cut_26 (by omega)  H
  · refine zEv.iteF (L2 := [some (vR (some (11, 0))), some (vI x1), some (vI x2)]) (st2 := []) (h2 := q2.2) zm_X11_cut rfl rfl rfl rfl (decide_eq_false hc) ?_
    obtain ⟨q9, hq, H⟩ := bnd H
    refine zEv.call (k := 155) (as := [vI x2]) (L2 := [some (vR (some (11, 0))), some (vI x1), some (vI x2)]) (st2 := []) (h2 := q2.2) (v := some (vI q9.1)) (h1 := q9.2) (st3 := [vI q9.1]) zm_X11_cut rfl rfl rfl rfl rfl zm_X11_isMuch rfl (by omega) (ev_X11_isMuch (by omega) hq) rfl ?_
    rcases ifc H with ⟨hc, H⟩ | ⟨hc, H⟩
    · refine zEv.iteT (L2 := [some (vR (some (11, 0))), some (vI x1), some (vI x2)]) (st2 := []) (h2 := q9.2) zm_X11_cut rfl rfl rfl rfl (decide_eq_true hc) ?_
      exact ev_X11_cut_26 (by omega)  H
    · refine zEv.iteF (L2 := [some (vR (some (11, 0))), some (vI x1), some (vI x2)]) (st2 := []) (h2 := q9.2) zm_X11_cut rfl rfl rfl rfl (decide_eq_false hc) ?_
      obtain ⟨q20, hq, H⟩ := bnd H
      refine zEv.call (k := 154) (as := [vR (some (11, 0)), vI x1, vI 4, vI x2, vI 0]) (L2 := [some (vR (some (11, 0))), some (vI x1), some (vI x2)]) (st2 := []) (h2 := q9.2) (v := some (vI q20.1)) (h1 := q20.2) (st3 := [vI q20.1]) zm_X11_cut rfl rfl rfl rfl rfl zm_X11_becomes rfl (by omega) (ev_X11_becomes (by omega) hq) rfl ?_
      refine zEv.loc (L2 := [some (vR (some (11, 0))), some (vI x1), some (vI x2)]) (st2 := [vI q20.1]) (h2 := q20.2) zm_X11_cut rfl rfl rfl rfl (fun h => (nomatch h)) ?_
      cases H
      exact zEv.ret zm_X11_cut rfl rfl rfl rfl
def f_X11_strike (x1 : Int32) (x2 : Int32) (h : zM) : Option (Int32 × zM) := ((f_X11_isMark x1 h).bind fun q2 => (if q2.1 = 0 then (some ((-1), q2.2)) else ((f_X11_in x2 0 9 q2.2).bind fun q12 => (if ¬ q12.1 = 0 then ((f_X11_part x1 0 q12.2).bind fun q23 => (if ¬ q23.1 = 5 then (if (true && (ixOk 40 x1 && (true && (true && (decide (rR q23.2 11 0 16 = (some (41, 0))) && (true && (ixOk 40 x1 && (true && (decide (rR q23.2 11 0 15 = (some (40, 0))) && (true && (ixOk 280 (7 * x1) && (true && (decide (rR q23.2 11 0 14 = (some (39, 0))) && true))))))))))))) = true then (some (q23.1, (wI (wI (wI q23.2 39 0 (Int32.toNatClampNeg (7 * x1)) 5) 40 0 (Int32.toNatClampNeg x1) 0) 41 0 (Int32.toNatClampNeg x1) ((10000 * x2) + (rI (wI (wI q23.2 39 0 (Int32.toNatClampNeg (7 * x1)) 5) 40 0 (Int32.toNatClampNeg x1) 0) 11 0 5))))) else none) else ((f_X11_meets 3 q23.2).bind fun q34 => (some (q34.1, q34.2))))) else (some ((-1), q12.2))))))
set_option maxRecDepth 20000 in
theorem ev_X11_strike {d : Nat} (hd : 2 ≤ d) {w3 : Option zV} {x1 : Int32} {x2 : Int32} {h : zM} {r : Int32 × zM} (H : f_X11_strike x1 x2 h = some r) : zEv zmt d 159 0 ([some (vR (some (11, 0))), some (vI x1), some (vI x2), w3], [], h, true) (some (vI r.1), r.2) := by
  obtain ⟨q2, hq, H⟩ := bnd H
  refine zEv.call (k := 147) (as := [vR (some (11, 0)), vI x1]) (L2 := [some (vR (some (11, 0))), some (vI x1), some (vI x2), w3]) (st2 := []) (h2 := h) (v := some (vI q2.1)) (h1 := q2.2) (st3 := [vI q2.1]) zm_X11_strike rfl rfl rfl rfl rfl zm_X11_isMark rfl (by omega) (ev_X11_isMark (by omega) hq) rfl ?_
  rcases ifc H with ⟨hc, H⟩ | ⟨hc, H⟩
  · refine zEv.iteT (L2 := [some (vR (some (11, 0))), some (vI x1), some (vI x2), w3]) (st2 := []) (h2 := q2.2) zm_X11_strike rfl rfl rfl rfl (decide_eq_true hc) ?_
    cases H
    exact zEv.ret zm_X11_strike rfl rfl rfl rfl
  · refine zEv.iteF (L2 := [some (vR (some (11, 0))), some (vI x1), some (vI x2), w3]) (st2 := []) (h2 := q2.2) zm_X11_strike rfl rfl rfl rfl (decide_eq_false hc) ?_
    obtain ⟨q12, hq, H⟩ := bnd H
    refine zEv.call (k := 127) (as := [vI x2, vI 0, vI 9]) (L2 := [some (vR (some (11, 0))), some (vI x1), some (vI x2), w3]) (st2 := []) (h2 := q2.2) (v := some (vI q12.1)) (h1 := q12.2) (st3 := [vI q12.1]) zm_X11_strike rfl rfl rfl rfl rfl zm_X11_in rfl (by omega) (ev_X11_in (by omega) hq) rfl ?_
    rcases ifc H with ⟨hc, H⟩ | ⟨hc, H⟩
    · refine zEv.iteT (L2 := [some (vR (some (11, 0))), some (vI x1), some (vI x2), w3]) (st2 := []) (h2 := q12.2) zm_X11_strike rfl rfl rfl rfl (decide_eq_true hc) ?_
      obtain ⟨q23, hq, H⟩ := bnd H
      refine zEv.call (k := 148) (as := [vR (some (11, 0)), vI x1, vI 0]) (L2 := [some (vR (some (11, 0))), some (vI x1), some (vI x2), w3]) (st2 := []) (h2 := q12.2) (v := some (vI q23.1)) (h1 := q23.2) (st3 := [vI q23.1]) zm_X11_strike rfl rfl rfl rfl rfl zm_X11_part rfl (by omega) (ev_X11_part (by omega) hq) rfl ?_
      rcases ifc H with ⟨hc, H⟩ | ⟨hc, H⟩
      · refine zEv.iteT (L2 := [some (vR (some (11, 0))), some (vI x1), some (vI x2), some (vI q23.1)]) (st2 := []) (h2 := q23.2) zm_X11_strike rfl rfl rfl rfl (decide_eq_true hc) ?_
        obtain ⟨hg, H⟩ := ifg H
        cases H
        exact zEv.ret zm_X11_strike rfl hg rfl hg
      · refine zEv.iteF (L2 := [some (vR (some (11, 0))), some (vI x1), some (vI x2), some (vI q23.1)]) (st2 := []) (h2 := q23.2) zm_X11_strike rfl rfl rfl rfl (decide_eq_false hc) ?_
        obtain ⟨q34, hq, H⟩ := bnd H
        refine zEv.call (k := 128) (as := [vR (some (11, 0)), vI 3]) (L2 := [some (vR (some (11, 0))), some (vI x1), some (vI x2), some (vI q23.1)]) (st2 := []) (h2 := q23.2) (v := some (vI q34.1)) (h1 := q34.2) (st3 := [vI q34.1]) zm_X11_strike rfl rfl rfl rfl rfl zm_X11_meets rfl (by omega) (ev_X11_meets (by omega) hq) rfl ?_
        cases H
        exact zEv.ret zm_X11_strike rfl rfl rfl rfl
    · refine zEv.iteF (L2 := [some (vR (some (11, 0))), some (vI x1), some (vI x2), w3]) (st2 := []) (h2 := q12.2) zm_X11_strike rfl rfl rfl rfl (decide_eq_false hc) ?_
      cases H
      exact zEv.ret zm_X11_strike rfl rfl rfl rfl
def f_X11_told_32 (h : zM) : Option (Int32 × zM) := (some ((-1), h))
set_option maxRecDepth 20000 in
theorem ev_X11_told_32 {d : Nat} (hd : 2 ≤ d) {w0 : Option zV} {w1 : Option zV} {w2 : Option zV} {h : zM} {r : Int32 × zM} (H : f_X11_told_32  h = some r) : zEv zmt d 160 32 ([w0, w1, w2], [], h, true) (some (vI r.1), r.2) := by
  refine zEv.loc (L2 := [w0, w1, w2]) (st2 := [vI (-1)]) (h2 := h) zm_X11_told rfl rfl rfl rfl (fun h => (nomatch h)) ?_
  cases H
  exact zEv.ret zm_X11_told rfl rfl rfl rfl
def f_X11_told (x1 : Int32) (x2 : Int32) (h : zM) : Option (Int32 × zM) := ((f_X11_isMark x1 h).bind fun q2 => (if q2.1 = 0 then (f_X11_told_32  q2.2) else ((f_X11_in x2 0 6 q2.2).bind fun q12 => (if q12.1 = 0 then (f_X11_told_32  q12.2) else ((f_X11_part x1 x2 q12.2).bind fun q22 => ((f_X11_ask q22.1 1 q22.2).bind fun q26 => (some (q26.1, q26.2))))))))
set_option maxRecDepth 20000 in
theorem ev_X11_told {d : Nat} (hd : 2 ≤ d) {x1 : Int32} {x2 : Int32} {h : zM} {r : Int32 × zM} (H : f_X11_told x1 x2 h = some r) : zEv zmt d 160 0 ([some (vR (some (11, 0))), some (vI x1), some (vI x2)], [], h, true) (some (vI r.1), r.2) := by
  obtain ⟨q2, hq, H⟩ := bnd H
  refine zEv.call (k := 147) (as := [vR (some (11, 0)), vI x1]) (L2 := [some (vR (some (11, 0))), some (vI x1), some (vI x2)]) (st2 := []) (h2 := h) (v := some (vI q2.1)) (h1 := q2.2) (st3 := [vI q2.1]) zm_X11_told rfl rfl rfl rfl rfl zm_X11_isMark rfl (by omega) (ev_X11_isMark (by omega) hq) rfl ?_
  rcases ifc H with ⟨hc, H⟩ | ⟨hc, H⟩
  · refine zEv.iteT (L2 := [some (vR (some (11, 0))), some (vI x1), some (vI x2)]) (st2 := []) (h2 := q2.2) zm_X11_told rfl rfl rfl rfl (decide_eq_true hc) ?_
    exact ev_X11_told_32 (by omega)  H
  · refine zEv.iteF (L2 := [some (vR (some (11, 0))), some (vI x1), some (vI x2)]) (st2 := []) (h2 := q2.2) zm_X11_told rfl rfl rfl rfl (decide_eq_false hc) ?_
    obtain ⟨q12, hq, H⟩ := bnd H
    refine zEv.call (k := 127) (as := [vI x2, vI 0, vI 6]) (L2 := [some (vR (some (11, 0))), some (vI x1), some (vI x2)]) (st2 := []) (h2 := q2.2) (v := some (vI q12.1)) (h1 := q12.2) (st3 := [vI q12.1]) zm_X11_told rfl rfl rfl rfl rfl zm_X11_in rfl (by omega) (ev_X11_in (by omega) hq) rfl ?_
    rcases ifc H with ⟨hc, H⟩ | ⟨hc, H⟩
    · refine zEv.iteT (L2 := [some (vR (some (11, 0))), some (vI x1), some (vI x2)]) (st2 := []) (h2 := q12.2) zm_X11_told rfl rfl rfl rfl (decide_eq_true hc) ?_
      exact ev_X11_told_32 (by omega)  H
    · refine zEv.iteF (L2 := [some (vR (some (11, 0))), some (vI x1), some (vI x2)]) (st2 := []) (h2 := q12.2) zm_X11_told rfl rfl rfl rfl (decide_eq_false hc) ?_
      obtain ⟨q22, hq, H⟩ := bnd H
      refine zEv.call (k := 148) (as := [vR (some (11, 0)), vI x1, vI x2]) (L2 := [some (vR (some (11, 0))), some (vI x1), some (vI x2)]) (st2 := [vR (some (11, 0))]) (h2 := q12.2) (v := some (vI q22.1)) (h1 := q22.2) (st3 := [vI q22.1, vR (some (11, 0))]) zm_X11_told rfl rfl rfl rfl rfl zm_X11_part rfl (by omega) (ev_X11_part (by omega) hq) rfl ?_
      obtain ⟨q26, hq, H⟩ := bnd H
      refine zEv.call (k := 129) (as := [vR (some (11, 0)), vI q22.1, vI 1]) (L2 := [some (vR (some (11, 0))), some (vI x1), some (vI x2)]) (st2 := []) (h2 := q22.2) (v := some (vI q26.1)) (h1 := q26.2) (st3 := [vI q26.1]) zm_X11_told rfl rfl rfl rfl rfl zm_X11_ask rfl (by omega) (ev_X11_ask (by omega) hq) rfl ?_
      refine zEv.loc (L2 := [some (vR (some (11, 0))), some (vI x1), some (vI x2)]) (st2 := [vI q26.1]) (h2 := q26.2) zm_X11_told rfl rfl rfl rfl (fun h => (nomatch h)) ?_
      cases H
      exact zEv.ret zm_X11_told rfl rfl rfl rfl
def f_X11_tellsOf_10 (x1 : Int32) (h : zM) : Option (Int32 × zM) := (if (true && (ixOk 40 x1 && (true && (decide (rR h 11 0 15 = (some (40, 0))) && true)))) = true then (some ((rI h 40 0 (Int32.toNatClampNeg x1)), h)) else none)
set_option maxRecDepth 20000 in
theorem ev_X11_tellsOf_10 {d : Nat} (hd : 0 ≤ d) {w2 : Option zV} {x1 : Int32} {h : zM} {r : Int32 × zM} (H : f_X11_tellsOf_10 x1 h = some r) : zEv zmt d 161 10 ([some (vR (some (11, 0))), some (vI x1), w2], [], h, true) (some (vI r.1), r.2) := by
  obtain ⟨hg, H⟩ := ifg H
  refine zEv.loc (L2 := [some (vR (some (11, 0))), some (vI x1), w2]) (st2 := [vI (rI h 40 0 (Int32.toNatClampNeg x1))]) (h2 := h) zm_X11_tellsOf rfl hg rfl hg (fun h => (nomatch h)) ?_
  cases H
  exact zEv.ret zm_X11_tellsOf rfl rfl rfl rfl
def f_X11_tellsOf (x1 : Int32) (x2 : Int32) (h : zM) : Option (Int32 × zM) := (if x2 = 1 then (f_X11_tellsOf_10  x1 h) else (if ¬ x2 = 4 then (if ¬ x2 = 0 then (if (true && (ixOk 40 x1 && (true && (decide (rR h 11 0 16 = (some (41, 0))) && true)))) = true then (some ((rI h 41 0 (Int32.toNatClampNeg x1)), h)) else none) else (some (0, h))) else (f_X11_tellsOf_10  x1 h)))
set_option maxRecDepth 20000 in
theorem ev_X11_tellsOf {d : Nat} (hd : 0 ≤ d) {x1 : Int32} {x2 : Int32} {h : zM} {r : Int32 × zM} (H : f_X11_tellsOf x1 x2 h = some r) : zEv zmt d 161 0 ([some (vR (some (11, 0))), some (vI x1), some (vI x2)], [], h, true) (some (vI r.1), r.2) := by
  rcases ifc H with ⟨hc, H⟩ | ⟨hc, H⟩
  · refine zEv.iteT (L2 := [some (vR (some (11, 0))), some (vI x1), some (vI x2)]) (st2 := []) (h2 := h) zm_X11_tellsOf rfl rfl rfl rfl (decide_eq_true hc) ?_
    exact ev_X11_tellsOf_10 (by omega)  H
  · refine zEv.iteF (L2 := [some (vR (some (11, 0))), some (vI x1), some (vI x2)]) (st2 := []) (h2 := h) zm_X11_tellsOf rfl rfl rfl rfl (decide_eq_false hc) ?_
    rcases ifc H with ⟨hc, H⟩ | ⟨hc, H⟩
    · refine zEv.iteT (L2 := [some (vR (some (11, 0))), some (vI x1), some (vI x2)]) (st2 := []) (h2 := h) zm_X11_tellsOf rfl rfl rfl rfl (decide_eq_true hc) ?_
      rcases ifc H with ⟨hc, H⟩ | ⟨hc, H⟩
      · refine zEv.iteT (L2 := [some (vR (some (11, 0))), some (vI x1), some (vI x2)]) (st2 := []) (h2 := h) zm_X11_tellsOf rfl rfl rfl rfl (decide_eq_true hc) ?_
        obtain ⟨hg, H⟩ := ifg H
        refine zEv.loc (L2 := [some (vR (some (11, 0))), some (vI x1), some (vI x2)]) (st2 := [vI (rI h 41 0 (Int32.toNatClampNeg x1))]) (h2 := h) zm_X11_tellsOf rfl hg rfl hg (fun h => (nomatch h)) ?_
        cases H
        exact zEv.ret zm_X11_tellsOf rfl rfl rfl rfl
      · refine zEv.iteF (L2 := [some (vR (some (11, 0))), some (vI x1), some (vI x2)]) (st2 := []) (h2 := h) zm_X11_tellsOf rfl rfl rfl rfl (decide_eq_false hc) ?_
        refine zEv.loc (L2 := [some (vR (some (11, 0))), some (vI x1), some (vI x2)]) (st2 := [vI 0]) (h2 := h) zm_X11_tellsOf rfl rfl rfl rfl (fun h => (nomatch h)) ?_
        cases H
        exact zEv.ret zm_X11_tellsOf rfl rfl rfl rfl
    · refine zEv.iteF (L2 := [some (vR (some (11, 0))), some (vI x1), some (vI x2)]) (st2 := []) (h2 := h) zm_X11_tellsOf rfl rfl rfl rfl (decide_eq_false hc) ?_
      exact ev_X11_tellsOf_10 (by omega)  H
def f_X11_tells_45 (x1 : Int32) (x2 : Int32) (h : zM) : Option (Int32 × zM) := ((f_X11_tellsOf x1 x2 h).bind fun q48 => (some (q48.1, q48.2)))
set_option maxRecDepth 20000 in
theorem ev_X11_tells_45 {d : Nat} (hd : 2 ≤ d) {w3 : Option zV} {x1 : Int32} {x2 : Int32} {h : zM} {r : Int32 × zM} (H : f_X11_tells_45 x1 x2 h = some r) : zEv zmt d 162 45 ([some (vR (some (11, 0))), some (vI x1), some (vI x2), w3], [], h, true) (some (vI r.1), r.2) := by
  obtain ⟨q48, hq, H⟩ := bnd H
  refine zEv.call (k := 161) (as := [vR (some (11, 0)), vI x1, vI x2]) (L2 := [some (vR (some (11, 0))), some (vI x1), some (vI x2), w3]) (st2 := []) (h2 := h) (v := some (vI q48.1)) (h1 := q48.2) (st3 := [vI q48.1]) zm_X11_tells rfl rfl rfl rfl rfl zm_X11_tellsOf rfl (by omega) (ev_X11_tellsOf (by omega) hq) rfl ?_
  refine zEv.loc (L2 := [some (vR (some (11, 0))), some (vI x1), some (vI x2), w3]) (st2 := [vI q48.1]) (h2 := q48.2) zm_X11_tells rfl rfl rfl rfl (fun h => (nomatch h)) ?_
  cases H
  exact zEv.ret zm_X11_tells rfl rfl rfl rfl
def f_X11_tells_54 (h : zM) : Option (Int32 × zM) := ((f_X11_meets 3 h).bind fun q56 => (some (q56.1, q56.2)))
set_option maxRecDepth 20000 in
theorem ev_X11_tells_54 {d : Nat} (hd : 2 ≤ d) {w1 : Option zV} {w2 : Option zV} {w3 : Option zV} {h : zM} {r : Int32 × zM} (H : f_X11_tells_54  h = some r) : zEv zmt d 162 54 ([some (vR (some (11, 0))), w1, w2, w3], [], h, true) (some (vI r.1), r.2) := by
  obtain ⟨q56, hq, H⟩ := bnd H
  refine zEv.call (k := 128) (as := [vR (some (11, 0)), vI 3]) (L2 := [some (vR (some (11, 0))), w1, w2, w3]) (st2 := []) (h2 := h) (v := some (vI q56.1)) (h1 := q56.2) (st3 := [vI q56.1]) zm_X11_tells rfl rfl rfl rfl rfl zm_X11_meets rfl (by omega) (ev_X11_meets (by omega) hq) rfl ?_
  cases H
  exact zEv.ret zm_X11_tells rfl rfl rfl rfl
def f_X11_tells (x1 : Int32) (x2 : Int32) (h : zM) : Option (Int32 × zM) := ((f_X11_isMark x1 h).bind fun q2 => (if q2.1 = 0 then (some ((-1), q2.2)) else ((f_X11_in x2 1 5 q2.2).bind fun q11 => (if ¬ q11.1 = 0 then ((f_X11_part x1 0 q11.2).bind fun q22 => (if q22.1 = x2 then (f_X11_tells_45  x1 x2 q22.2) else (if ¬ x2 = 1 then (f_X11_tells_54  q22.2) else ((f_X11_in q22.1 2 3 q22.2).bind fun q39 => (if q39.1 = 0 then (f_X11_tells_54  q39.2) else (f_X11_tells_45  x1 x2 q39.2)))))) else (some ((-1), q11.2))))))
set_option maxRecDepth 20000 in
theorem ev_X11_tells {d : Nat} (hd : 2 ≤ d) {w3 : Option zV} {x1 : Int32} {x2 : Int32} {h : zM} {r : Int32 × zM} (H : f_X11_tells x1 x2 h = some r) : zEv zmt d 162 0 ([some (vR (some (11, 0))), some (vI x1), some (vI x2), w3], [], h, true) (some (vI r.1), r.2) := by
  obtain ⟨q2, hq, H⟩ := bnd H
  refine zEv.call (k := 147) (as := [vR (some (11, 0)), vI x1]) (L2 := [some (vR (some (11, 0))), some (vI x1), some (vI x2), w3]) (st2 := []) (h2 := h) (v := some (vI q2.1)) (h1 := q2.2) (st3 := [vI q2.1]) zm_X11_tells rfl rfl rfl rfl rfl zm_X11_isMark rfl (by omega) (ev_X11_isMark (by omega) hq) rfl ?_
  rcases ifc H with ⟨hc, H⟩ | ⟨hc, H⟩
  · refine zEv.iteT (L2 := [some (vR (some (11, 0))), some (vI x1), some (vI x2), w3]) (st2 := []) (h2 := q2.2) zm_X11_tells rfl rfl rfl rfl (decide_eq_true hc) ?_
    cases H
    exact zEv.ret zm_X11_tells rfl rfl rfl rfl
  · refine zEv.iteF (L2 := [some (vR (some (11, 0))), some (vI x1), some (vI x2), w3]) (st2 := []) (h2 := q2.2) zm_X11_tells rfl rfl rfl rfl (decide_eq_false hc) ?_
    obtain ⟨q11, hq, H⟩ := bnd H
    refine zEv.call (k := 127) (as := [vI x2, vI 1, vI 5]) (L2 := [some (vR (some (11, 0))), some (vI x1), some (vI x2), w3]) (st2 := []) (h2 := q2.2) (v := some (vI q11.1)) (h1 := q11.2) (st3 := [vI q11.1]) zm_X11_tells rfl rfl rfl rfl rfl zm_X11_in rfl (by omega) (ev_X11_in (by omega) hq) rfl ?_
    rcases ifc H with ⟨hc, H⟩ | ⟨hc, H⟩
    · refine zEv.iteT (L2 := [some (vR (some (11, 0))), some (vI x1), some (vI x2), w3]) (st2 := []) (h2 := q11.2) zm_X11_tells rfl rfl rfl rfl (decide_eq_true hc) ?_
      obtain ⟨q22, hq, H⟩ := bnd H
      refine zEv.call (k := 148) (as := [vR (some (11, 0)), vI x1, vI 0]) (L2 := [some (vR (some (11, 0))), some (vI x1), some (vI x2), w3]) (st2 := []) (h2 := q11.2) (v := some (vI q22.1)) (h1 := q22.2) (st3 := [vI q22.1]) zm_X11_tells rfl rfl rfl rfl rfl zm_X11_part rfl (by omega) (ev_X11_part (by omega) hq) rfl ?_
      rcases ifc H with ⟨hc, H⟩ | ⟨hc, H⟩
      · refine zEv.iteT (L2 := [some (vR (some (11, 0))), some (vI x1), some (vI x2), some (vI q22.1)]) (st2 := []) (h2 := q22.2) zm_X11_tells rfl rfl rfl rfl (decide_eq_true hc) ?_
        exact ev_X11_tells_45 (by omega)  H
      · refine zEv.iteF (L2 := [some (vR (some (11, 0))), some (vI x1), some (vI x2), some (vI q22.1)]) (st2 := []) (h2 := q22.2) zm_X11_tells rfl rfl rfl rfl (decide_eq_false hc) ?_
        rcases ifc H with ⟨hc, H⟩ | ⟨hc, H⟩
        · refine zEv.iteT (L2 := [some (vR (some (11, 0))), some (vI x1), some (vI x2), some (vI q22.1)]) (st2 := []) (h2 := q22.2) zm_X11_tells rfl rfl rfl rfl (decide_eq_true hc) ?_
          exact ev_X11_tells_54 (by omega)  H
        · refine zEv.iteF (L2 := [some (vR (some (11, 0))), some (vI x1), some (vI x2), some (vI q22.1)]) (st2 := []) (h2 := q22.2) zm_X11_tells rfl rfl rfl rfl (decide_eq_false hc) ?_
          obtain ⟨q39, hq, H⟩ := bnd H
          refine zEv.call (k := 127) (as := [vI q22.1, vI 2, vI 3]) (L2 := [some (vR (some (11, 0))), some (vI x1), some (vI x2), some (vI q22.1)]) (st2 := []) (h2 := q22.2) (v := some (vI q39.1)) (h1 := q39.2) (st3 := [vI q39.1]) zm_X11_tells rfl rfl rfl rfl rfl zm_X11_in rfl (by omega) (ev_X11_in (by omega) hq) rfl ?_
          rcases ifc H with ⟨hc, H⟩ | ⟨hc, H⟩
          · refine zEv.iteT (L2 := [some (vR (some (11, 0))), some (vI x1), some (vI x2), some (vI q22.1)]) (st2 := []) (h2 := q39.2) zm_X11_tells rfl rfl rfl rfl (decide_eq_true hc) ?_
            exact ev_X11_tells_54 (by omega)  H
          · refine zEv.iteF (L2 := [some (vR (some (11, 0))), some (vI x1), some (vI x2), some (vI q22.1)]) (st2 := []) (h2 := q39.2) zm_X11_tells rfl rfl rfl rfl (decide_eq_false hc) ?_
            exact ev_X11_tells_45 (by omega)  H
    · refine zEv.iteF (L2 := [some (vR (some (11, 0))), some (vI x1), some (vI x2), w3]) (st2 := []) (h2 := q11.2) zm_X11_tells rfl rfl rfl rfl (decide_eq_false hc) ?_
      cases H
      exact zEv.ret zm_X11_tells rfl rfl rfl rfl
def f_X11_here (x1 : Int32) (h : zM) : Option (Int32 × zM) := (if (true && (ixOk 4 x1 && (true && (decide (rR h 11 0 9 = (some (36, 0))) && (true && true))))) = true then (if (rI h 36 0 (Int32.toNatClampNeg x1)) ≤ (rI h 11 0 17) then (some ((-9999), h)) else (if (true && (ixOk 160 ((40 * x1) + (rI h 11 0 17)) && (true && (true && (decide (rR h 11 0 10 = (some (37, 0))) && true))))) = true then (some ((rI h 37 0 (Int32.toNatClampNeg ((40 * x1) + (rI h 11 0 17)))), h)) else none)) else none)
set_option maxRecDepth 20000 in
theorem ev_X11_here {d : Nat} (hd : 0 ≤ d) {x1 : Int32} {h : zM} {r : Int32 × zM} (H : f_X11_here x1 h = some r) : zEv zmt d 163 0 ([some (vR (some (11, 0))), some (vI x1)], [], h, true) (some (vI r.1), r.2) := by
  obtain ⟨hg, H⟩ := ifg H
  rcases ifc H with ⟨hc, H⟩ | ⟨hc, H⟩
  · refine zEv.iteT (L2 := [some (vR (some (11, 0))), some (vI x1)]) (st2 := []) (h2 := h) zm_X11_here rfl hg rfl hg (decide_eq_true hc) ?_
    refine zEv.loc (L2 := [some (vR (some (11, 0))), some (vI x1)]) (st2 := [vI (-9999)]) (h2 := h) zm_X11_here rfl rfl rfl rfl (fun h => (nomatch h)) ?_
    cases H
    exact zEv.ret zm_X11_here rfl rfl rfl rfl
  · refine zEv.iteF (L2 := [some (vR (some (11, 0))), some (vI x1)]) (st2 := []) (h2 := h) zm_X11_here rfl hg rfl hg (decide_eq_false hc) ?_
    obtain ⟨hg, H⟩ := ifg H
    refine zEv.loc (L2 := [some (vR (some (11, 0))), some (vI x1)]) (st2 := [vI (rI h 37 0 (Int32.toNatClampNeg ((40 * x1) + (rI h 11 0 17))))]) (h2 := h) zm_X11_here rfl hg rfl hg (fun h => (nomatch h)) ?_
    cases H
    exact zEv.ret zm_X11_here rfl rfl rfl rfl
def f_X11_readsByte_29 (x3 : Int32) (s1 : Int32) (s2 : Int32) (h : zM) : Option (Int32 × zM) := (if (isB x3 && (true && true)) = true then (some (x3, (wI h 11 0 17 (s1 + s2)))) else none)
set_option maxRecDepth 20000 in
theorem ev_X11_readsByte_29 {d : Nat} (hd : 1 ≤ d) {w0 : Option zV} {w1 : Option zV} {w2 : Option zV} {x3 : Int32} {s1 : Int32} {s2 : Int32} {h : zM} {r : Int32 × zM} (H : f_X11_readsByte_29 x3 s1 s2 h = some r) : zEv zmt d 164 29 ([w0, w1, w2, some (vI x3)], [vI s2, vI s1, vR (some (11, 0))], h, true) (some (vI r.1), r.2) := by
  obtain ⟨hg, H⟩ := ifg H
  cases H
  exact zEv.ret zm_X11_readsByte rfl (and2 hg).2 rfl hg
def f_X11_readsByte_14 (s0 : Int32) (h : zM) : Option (Int32 × zM) := (if s0 = 0 then (f_X11_readsByte_29  s0 (rI h 11 0 17) 0 h) else (f_X11_readsByte_29  s0 (rI h 11 0 17) 1 h))
set_option maxRecDepth 20000 in
theorem ev_X11_readsByte_14 {d : Nat} (hd : 1 ≤ d) {w1 : Option zV} {w2 : Option zV} {w3 : Option zV} {s0 : Int32} {h : zM} {r : Int32 × zM} (H : f_X11_readsByte_14 s0 h = some r) : zEv zmt d 164 14 ([some (vR (some (11, 0))), w1, w2, w3], [vI s0], h, true) (some (vI r.1), r.2) := by
  rcases ifc H with ⟨hc, H⟩ | ⟨hc, H⟩
  · refine zEv.iteT (L2 := [some (vR (some (11, 0))), w1, none, some (vI s0)]) (st2 := [vI (rI h 11 0 17), vR (some (11, 0))]) (h2 := h) zm_X11_readsByte rfl rfl rfl rfl (decide_eq_true hc) ?_
    refine zEv.loc (L2 := [some (vR (some (11, 0))), w1, none, some (vI s0)]) (st2 := [vI 0, vI (rI h 11 0 17), vR (some (11, 0))]) (h2 := h) zm_X11_readsByte rfl rfl rfl rfl (fun h => (nomatch h)) ?_
    exact ev_X11_readsByte_29 (by omega)  H
  · refine zEv.iteF (L2 := [some (vR (some (11, 0))), w1, none, some (vI s0)]) (st2 := [vI (rI h 11 0 17), vR (some (11, 0))]) (h2 := h) zm_X11_readsByte rfl rfl rfl rfl (decide_eq_false hc) ?_
    refine zEv.loc (L2 := [some (vR (some (11, 0))), w1, none, some (vI s0)]) (st2 := [vI 1, vI (rI h 11 0 17), vR (some (11, 0))]) (h2 := h) zm_X11_readsByte rfl rfl rfl rfl (fun h => (nomatch h)) ?_
    exact ev_X11_readsByte_29 (by omega)  H
def f_X11_readsByte (x1 : Int32) (x2 : Int32) (h : zM) : Option (Int32 × zM) := ((f_X11_here x1 h).bind fun q2 => (if ¬ q2.1 = x2 then (f_X11_readsByte_14  0 q2.2) else (f_X11_readsByte_14  1 q2.2)))
set_option maxRecDepth 20000 in
theorem ev_X11_readsByte {d : Nat} (hd : 1 ≤ d) {w3 : Option zV} {x1 : Int32} {x2 : Int32} {h : zM} {r : Int32 × zM} (H : f_X11_readsByte x1 x2 h = some r) : zEv zmt d 164 0 ([some (vR (some (11, 0))), some (vI x1), some (vI x2), w3], [], h, true) (some (vI r.1), r.2) := by
  obtain ⟨q2, hq, H⟩ := bnd H
  refine zEv.call (k := 163) (as := [vR (some (11, 0)), vI x1]) (L2 := [some (vR (some (11, 0))), some (vI x1), some (vI x2), w3]) (st2 := []) (h2 := h) (v := some (vI q2.1)) (h1 := q2.2) (st3 := [vI q2.1]) zm_X11_readsByte rfl rfl rfl rfl rfl zm_X11_here rfl (by omega) (ev_X11_here (by omega) hq) rfl ?_
  rcases ifc H with ⟨hc, H⟩ | ⟨hc, H⟩
  · refine zEv.iteT (L2 := [some (vR (some (11, 0))), some (vI x1), some (vI x2), w3]) (st2 := []) (h2 := q2.2) zm_X11_readsByte rfl rfl rfl rfl (decide_eq_true hc) ?_
    refine zEv.loc (L2 := [some (vR (some (11, 0))), some (vI x1), some (vI x2), w3]) (st2 := [vI 0]) (h2 := q2.2) zm_X11_readsByte rfl rfl rfl rfl (fun h => (nomatch h)) ?_
    exact ev_X11_readsByte_14 (by omega)  H
  · refine zEv.iteF (L2 := [some (vR (some (11, 0))), some (vI x1), some (vI x2), w3]) (st2 := []) (h2 := q2.2) zm_X11_readsByte rfl rfl rfl rfl (decide_eq_false hc) ?_
    refine zEv.loc (L2 := [some (vR (some (11, 0))), some (vI x1), some (vI x2), w3]) (st2 := [vI 1]) (h2 := q2.2) zm_X11_readsByte rfl rfl rfl rfl (fun h => (nomatch h)) ?_
    exact ev_X11_readsByte_14 (by omega)  H
