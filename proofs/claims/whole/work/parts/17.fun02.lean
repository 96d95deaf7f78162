def f_X10_row (x1 : Int32) (x2 : Int32) (h : zM) : Option (Int32 × zM) := ((f_X10_rowAt x1 h).bind fun q2 => (if q2.1 = none then (some ((-1), q2.2)) else (if x2 ≤ 40 then (if 0 ≤ x2 then (if (memN [6] (clR q2.1) && (true && true)) = true then ((f_X6_begin q2.1 x2 q2.2).bind fun q30 => (some (x2, q30))) else none) else ((f_X10_found 5 q2.2).bind fun q24 => (some (q24.1, q24.2)))) else (some ((-1), q2.2)))))
set_option maxRecDepth 20000 in
theorem ev_X10_row {d : Nat} (hd : 2 ≤ d) {w3 : Option zV} {x1 : Int32} {x2 : Int32} {h : zM} {r : Int32 × zM} (H : f_X10_row x1 x2 h = some r) : zEv zmt d 57 0 ([some (vR (some (10, 0))), some (vI x1), some (vI x2), w3], [], h, true) (some (vI r.1), r.2) := by
  obtain ⟨q2, hq, H⟩ := bnd H
  refine zEv.call (k := 101) (as := [vR (some (10, 0)), vI x1]) (L2 := [some (vR (some (10, 0))), some (vI x1), some (vI x2), w3]) (st2 := []) (h2 := h) (v := some (vR q2.1)) (h1 := q2.2) (st3 := [vR q2.1]) zm_X10_row rfl rfl rfl rfl rfl zm_X10_rowAt rfl (by omega) (ev_X10_rowAt (by omega) hq) rfl ?_
  rcases ifc H with ⟨hc, H⟩ | ⟨hc, H⟩
  · refine zEv.iteT (L2 := [some (vR (some (10, 0))), some (vI x1), some (vI x2), some (vR q2.1)]) (st2 := []) (h2 := q2.2) zm_X10_row rfl rfl rfl rfl (nnT hc) ?_
    cases H
    exact zEv.ret zm_X10_row rfl rfl rfl rfl
  · refine zEv.iteF (L2 := [some (vR (some (10, 0))), some (vI x1), some (vI x2), some (vR q2.1)]) (st2 := []) (h2 := q2.2) zm_X10_row rfl rfl rfl rfl (nnF hc) ?_
    rcases ifc H with ⟨hc, H⟩ | ⟨hc, H⟩
    · refine zEv.iteT (L2 := [some (vR (some (10, 0))), some (vI x1), some (vI x2), some (vR q2.1)]) (st2 := []) (h2 := q2.2) zm_X10_row rfl rfl rfl rfl (decide_eq_true hc) ?_
      rcases ifc H with ⟨hc, H⟩ | ⟨hc, H⟩
      · refine zEv.iteT (L2 := [some (vR (some (10, 0))), some (vI x1), some (vI x2), some (vR q2.1)]) (st2 := []) (h2 := q2.2) zm_X10_row rfl rfl rfl rfl (decide_eq_true hc) ?_
        obtain ⟨hg, H⟩ := ifg H
        obtain ⟨q30, hq, H⟩ := bnd H
        refine zEv.call (k := 38) (as := [vR q2.1, vI x2]) (L2 := [some (vR (some (10, 0))), some (vI x1), some (vI x2), some (vR q2.1)]) (st2 := []) (h2 := q2.2) (v := none) (h1 := q30) (st3 := []) zm_X10_row rfl (and2 (and2 hg).2).2 rfl hg rfl zm_X6_begin rfl (by omega) (ev_X6_begin (by omega) hq) rfl ?_
        cases H
        exact zEv.ret zm_X10_row rfl rfl rfl rfl
      · refine zEv.iteF (L2 := [some (vR (some (10, 0))), some (vI x1), some (vI x2), some (vR q2.1)]) (st2 := []) (h2 := q2.2) zm_X10_row rfl rfl rfl rfl (decide_eq_false hc) ?_
        obtain ⟨q24, hq, H⟩ := bnd H
        refine zEv.call (k := 105) (as := [vR (some (10, 0)), vI 5]) (L2 := [some (vR (some (10, 0))), some (vI x1), some (vI x2), some (vR q2.1)]) (st2 := []) (h2 := q2.2) (v := some (vI q24.1)) (h1 := q24.2) (st3 := [vI q24.1]) zm_X10_row rfl rfl rfl rfl rfl zm_X10_found rfl (by omega) (ev_X10_found (by omega) hq) rfl ?_
        cases H
        exact zEv.ret zm_X10_row rfl rfl rfl rfl
    · refine zEv.iteF (L2 := [some (vR (some (10, 0))), some (vI x1), some (vI x2), some (vR q2.1)]) (st2 := []) (h2 := q2.2) zm_X10_row rfl rfl rfl rfl (decide_eq_false hc) ?_
      cases H
      exact zEv.ret zm_X10_row rfl rfl rfl rfl
def f_X10_tell (x1 : Int32) (h : zM) : Option (Int32 × zM) := (some (1, (wI h 10 0 11 x1)))
set_option maxRecDepth 20000 in
theorem ev_X10_tell {d : Nat} (hd : 0 ≤ d) {x1 : Int32} {h : zM} {r : Int32 × zM} (H : f_X10_tell x1 h = some r) : zEv zmt d 106 0 ([some (vR (some (10, 0))), some (vI x1)], [], h, true) (some (vI r.1), r.2) := by
  cases H
  exact zEv.ret zm_X10_tell rfl rfl rfl rfl
def f_X10_lay (x1 : Int32) (x2 : Int32) (x3 : Int32) (h : zM) : Option (Int32 × zM) := ((f_X10_rowAt x1 h).bind fun q2 => (if q2.1 = none then (some ((-1), q2.2)) else (if (memN [6] (clR q2.1) && (true && true)) = true then ((f_X8_isMissing q2.1 q2.2).bind fun q16 => (if q16.1 = 0 then (if (memN [6] (clR q2.1) && (true && true)) = true then ((f_X8_has q2.1 x2 q16.2).bind fun q31 => (if ¬ q31.1 = 0 then (if (true && (true && (true && (ixOk 40 x2 && (memN [6] (clR q2.1) && (decide (rR q31.2 (clR q2.1) (ixR q2.1) 1 = (some (24, (ixR q2.1)))) && (true && (true && (ixOk 40 x2 && (memN [6] (clR q2.1) && (decide (rR q31.2 (clR q2.1) (ixR q2.1) 1 = (some (24, (ixR q2.1)))) && true))))))))))) = true then ((f_X10_tell (rI q31.2 24 (ixR q2.1) (Int32.toNatClampNeg x2)) (wI q31.2 24 (ixR q2.1) (Int32.toNatClampNeg x2) x3)).bind fun q63 => (some (q63.1, q63.2))) else none) else ((f_X10_found 2 q31.2).bind fun q39 => (some (q39.1, q39.2))))) else none) else ((f_X10_found 1 q16.2).bind fun q24 => (some (q24.1, q24.2))))) else none)))
set_option maxRecDepth 20000 in
theorem ev_X10_lay {d : Nat} (hd : 2 ≤ d) {w4 : Option zV} {w5 : Option zV} {x1 : Int32} {x2 : Int32} {x3 : Int32} {h : zM} {r : Int32 × zM} (H : f_X10_lay x1 x2 x3 h = some r) : zEv zmt d 58 0 ([some (vR (some (10, 0))), some (vI x1), some (vI x2), some (vI x3), w4, w5], [], h, true) (some (vI r.1), r.2) := by
  obtain ⟨q2, hq, H⟩ := bnd H
  refine zEv.call (k := 101) (as := [vR (some (10, 0)), vI x1]) (L2 := [some (vR (some (10, 0))), some (vI x1), some (vI x2), some (vI x3), w4, w5]) (st2 := []) (h2 := h) (v := some (vR q2.1)) (h1 := q2.2) (st3 := [vR q2.1]) zm_X10_lay rfl rfl rfl rfl rfl zm_X10_rowAt rfl (by omega) (ev_X10_rowAt (by omega) hq) rfl ?_
  rcases ifc H with ⟨hc, H⟩ | ⟨hc, H⟩
  · refine zEv.iteT (L2 := [some (vR (some (10, 0))), some (vI x1), some (vI x2), some (vI x3), some (vR q2.1), w5]) (st2 := []) (h2 := q2.2) zm_X10_lay rfl rfl rfl rfl (nnT hc) ?_
    cases H
    exact zEv.ret zm_X10_lay rfl rfl rfl rfl
  · refine zEv.iteF (L2 := [some (vR (some (10, 0))), some (vI x1), some (vI x2), some (vI x3), some (vR q2.1), w5]) (st2 := []) (h2 := q2.2) zm_X10_lay rfl rfl rfl rfl (nnF hc) ?_
    obtain ⟨hg, H⟩ := ifg H
    obtain ⟨q16, hq, H⟩ := bnd H
    refine zEv.call (k := 49) (as := [vR q2.1]) (L2 := [some (vR (some (10, 0))), some (vI x1), some (vI x2), some (vI x3), some (vR q2.1), w5]) (st2 := []) (h2 := q2.2) (v := some (vI q16.1)) (h1 := q16.2) (st3 := [vI q16.1]) zm_X10_lay rfl (and2 (and2 hg).2).2 rfl hg rfl zm_X8_isMissing rfl (by omega) (ev_X8_isMissing (by omega) hq) rfl ?_
    rcases ifc H with ⟨hc, H⟩ | ⟨hc, H⟩
    · refine zEv.iteT (L2 := [some (vR (some (10, 0))), some (vI x1), some (vI x2), some (vI x3), some (vR q2.1), w5]) (st2 := []) (h2 := q16.2) zm_X10_lay rfl rfl rfl rfl (decide_eq_true hc) ?_
      obtain ⟨hg, H⟩ := ifg H
      obtain ⟨q31, hq, H⟩ := bnd H
      refine zEv.call (k := 50) (as := [vR q2.1, vI x2]) (L2 := [some (vR (some (10, 0))), some (vI x1), some (vI x2), some (vI x3), some (vR q2.1), w5]) (st2 := []) (h2 := q16.2) (v := some (vI q31.1)) (h1 := q31.2) (st3 := [vI q31.1]) zm_X10_lay rfl (and2 (and2 hg).2).2 rfl hg rfl zm_X8_has rfl (by omega) (ev_X8_has (by omega) hq) rfl ?_
      rcases ifc H with ⟨hc, H⟩ | ⟨hc, H⟩
      · refine zEv.iteT (L2 := [some (vR (some (10, 0))), some (vI x1), some (vI x2), some (vI x3), some (vR q2.1), w5]) (st2 := []) (h2 := q31.2) zm_X10_lay rfl rfl rfl rfl (decide_eq_true hc) ?_
        obtain ⟨hg, H⟩ := ifg H
        obtain ⟨q63, hq, H⟩ := bnd H
        refine zEv.call (k := 106) (as := [vR (some (10, 0)), vI (rI q31.2 24 (ixR q2.1) (Int32.toNatClampNeg x2))]) (L2 := [some (vR (some (10, 0))), some (vI x1), some (vI x2), some (vI x3), some (vR q2.1), some (vI (rI q31.2 24 (ixR q2.1) (Int32.toNatClampNeg x2)))]) (st2 := []) (h2 := (wI q31.2 24 (ixR q2.1) (Int32.toNatClampNeg x2) x3)) (v := some (vI q63.1)) (h1 := q63.2) (st3 := [vI q63.1]) zm_X10_lay rfl (and2 (and2 hg).2).2 rfl hg rfl zm_X10_tell rfl (by omega) (ev_X10_tell (by omega) hq) rfl ?_
        cases H
        exact zEv.ret zm_X10_lay rfl rfl rfl rfl
      · refine zEv.iteF (L2 := [some (vR (some (10, 0))), some (vI x1), some (vI x2), some (vI x3), some (vR q2.1), w5]) (st2 := []) (h2 := q31.2) zm_X10_lay rfl rfl rfl rfl (decide_eq_false hc) ?_
        obtain ⟨q39, hq, H⟩ := bnd H
        refine zEv.call (k := 105) (as := [vR (some (10, 0)), vI 2]) (L2 := [some (vR (some (10, 0))), some (vI x1), some (vI x2), some (vI x3), some (vR q2.1), w5]) (st2 := []) (h2 := q31.2) (v := some (vI q39.1)) (h1 := q39.2) (st3 := [vI q39.1]) zm_X10_lay rfl rfl rfl rfl rfl zm_X10_found rfl (by omega) (ev_X10_found (by omega) hq) rfl ?_
        cases H
        exact zEv.ret zm_X10_lay rfl rfl rfl rfl
    · refine zEv.iteF (L2 := [some (vR (some (10, 0))), some (vI x1), some (vI x2), some (vI x3), some (vR q2.1), w5]) (st2 := []) (h2 := q16.2) zm_X10_lay rfl rfl rfl rfl (decide_eq_false hc) ?_
      obtain ⟨q24, hq, H⟩ := bnd H
      refine zEv.call (k := 105) (as := [vR (some (10, 0)), vI 1]) (L2 := [some (vR (some (10, 0))), some (vI x1), some (vI x2), some (vI x3), some (vR q2.1), w5]) (st2 := []) (h2 := q16.2) (v := some (vI q24.1)) (h1 := q24.2) (st3 := [vI q24.1]) zm_X10_lay rfl rfl rfl rfl rfl zm_X10_found rfl (by omega) (ev_X10_found (by omega) hq) rfl ?_
      cases H
      exact zEv.ret zm_X10_lay rfl rfl rfl rfl
def f_X10_tear (x1 : Int32) (h : zM) : Option (Int32 × zM) := ((f_X10_rowAt x1 h).bind fun q2 => (if q2.1 = none then (some ((-1), q2.2)) else (if (memN [6] (clR q2.1) && (true && true)) = true then ((f_X8_isMissing q2.1 q2.2).bind fun q13 => (if q13.1 = 0 then (if (memN [6] (clR q2.1) && true) = true then (some (1, (wI q13.2 (clR q2.1) (ixR q2.1) 0 (-1)))) else none) else ((f_X10_found 1 q13.2).bind fun q21 => (some (q21.1, q21.2))))) else none)))
set_option maxRecDepth 20000 in
theorem ev_X10_tear {d : Nat} (hd : 2 ≤ d) {w2 : Option zV} {x1 : Int32} {h : zM} {r : Int32 × zM} (H : f_X10_tear x1 h = some r) : zEv zmt d 59 0 ([some (vR (some (10, 0))), some (vI x1), w2], [], h, true) (some (vI r.1), r.2) := by
  obtain ⟨q2, hq, H⟩ := bnd H
  refine zEv.call (k := 101) (as := [vR (some (10, 0)), vI x1]) (L2 := [some (vR (some (10, 0))), some (vI x1), w2]) (st2 := []) (h2 := h) (v := some (vR q2.1)) (h1 := q2.2) (st3 := [vR q2.1]) zm_X10_tear rfl rfl rfl rfl rfl zm_X10_rowAt rfl (by omega) (ev_X10_rowAt (by omega) hq) rfl ?_
  rcases ifc H with ⟨hc, H⟩ | ⟨hc, H⟩
  · refine zEv.iteT (L2 := [some (vR (some (10, 0))), none, some (vR q2.1)]) (st2 := []) (h2 := q2.2) zm_X10_tear rfl rfl rfl rfl (nnT hc) ?_
    cases H
    exact zEv.ret zm_X10_tear rfl rfl rfl rfl
  · refine zEv.iteF (L2 := [some (vR (some (10, 0))), none, some (vR q2.1)]) (st2 := []) (h2 := q2.2) zm_X10_tear rfl rfl rfl rfl (nnF hc) ?_
    obtain ⟨hg, H⟩ := ifg H
    obtain ⟨q13, hq, H⟩ := bnd H
    refine zEv.call (k := 49) (as := [vR q2.1]) (L2 := [some (vR (some (10, 0))), none, some (vR q2.1)]) (st2 := []) (h2 := q2.2) (v := some (vI q13.1)) (h1 := q13.2) (st3 := [vI q13.1]) zm_X10_tear rfl (and2 (and2 hg).2).2 rfl hg rfl zm_X8_isMissing rfl (by omega) (ev_X8_isMissing (by omega) hq) rfl ?_
    rcases ifc H with ⟨hc, H⟩ | ⟨hc, H⟩
    · refine zEv.iteT (L2 := [some (vR (some (10, 0))), none, some (vR q2.1)]) (st2 := []) (h2 := q13.2) zm_X10_tear rfl rfl rfl rfl (decide_eq_true hc) ?_
      obtain ⟨hg, H⟩ := ifg H
      cases H
      exact zEv.ret zm_X10_tear rfl hg rfl hg
    · refine zEv.iteF (L2 := [some (vR (some (10, 0))), none, some (vR q2.1)]) (st2 := []) (h2 := q13.2) zm_X10_tear rfl rfl rfl rfl (decide_eq_false hc) ?_
      obtain ⟨q21, hq, H⟩ := bnd H
      refine zEv.call (k := 105) (as := [vR (some (10, 0)), vI 1]) (L2 := [some (vR (some (10, 0))), none, some (vR q2.1)]) (st2 := []) (h2 := q13.2) (v := some (vI q21.1)) (h1 := q21.2) (st3 := [vI q21.1]) zm_X10_tear rfl rfl rfl rfl rfl zm_X10_found rfl (by omega) (ev_X10_found (by omega) hq) rfl ?_
      cases H
      exact zEv.ret zm_X10_tear rfl rfl rfl rfl
def f_X10_copy_53 (h : zM) : Option (Int32 × zM) := ((f_X10_found 1 h).bind fun q55 => (some (q55.1, q55.2)))
set_option maxRecDepth 20000 in
theorem ev_X10_copy_53 {d : Nat} (hd : 2 ≤ d) {w1 : Option zV} {w2 : Option zV} {w3 : Option zV} {w4 : Option zV} {w5 : Option zV} {w6 : Option zV} {w7 : Option zV} {h : zM} {r : Int32 × zM} (H : f_X10_copy_53  h = some r) : zEv zmt d 60 53 ([some (vR (some (10, 0))), w1, w2, w3, w4, w5, w6, w7], [], h, true) (some (vI r.1), r.2) := by
  obtain ⟨q55, hq, H⟩ := bnd H
  refine zEv.call (k := 105) (as := [vR (some (10, 0)), vI 1]) (L2 := [some (vR (some (10, 0))), w1, w2, w3, w4, w5, w6, w7]) (st2 := []) (h2 := h) (v := some (vI q55.1)) (h1 := q55.2) (st3 := [vI q55.1]) zm_X10_copy rfl rfl rfl rfl rfl zm_X10_found rfl (by omega) (ev_X10_found (by omega) hq) rfl ?_
  cases H
  exact zEv.ret zm_X10_copy rfl rfl rfl rfl
def f_X10_copy_82 (h : zM) : Option (Int32 × zM) := ((f_X10_found 2 h).bind fun q84 => (some (q84.1, q84.2)))
set_option maxRecDepth 20000 in
theorem ev_X10_copy_82 {d : Nat} (hd : 2 ≤ d) {w1 : Option zV} {w2 : Option zV} {w3 : Option zV} {w4 : Option zV} {w5 : Option zV} {w6 : Option zV} {w7 : Option zV} {h : zM} {r : Int32 × zM} (H : f_X10_copy_82  h = some r) : zEv zmt d 60 82 ([some (vR (some (10, 0))), w1, w2, w3, w4, w5, w6, w7], [], h, true) (some (vI r.1), r.2) := by
  obtain ⟨q84, hq, H⟩ := bnd H
  refine zEv.call (k := 105) (as := [vR (some (10, 0)), vI 2]) (L2 := [some (vR (some (10, 0))), w1, w2, w3, w4, w5, w6, w7]) (st2 := []) (h2 := h) (v := some (vI q84.1)) (h1 := q84.2) (st3 := [vI q84.1]) zm_X10_copy rfl rfl rfl rfl rfl zm_X10_found rfl (by omega) (ev_X10_found (by omega) hq) rfl ?_
  cases H
  exact zEv.ret zm_X10_copy rfl rfl rfl rfl
def f_X10_copy (x1 : Int32) (x2 : Int32) (x3 : Int32) (x4 : Int32) (x5 : Int32) (h : zM) : Option (Int32 × zM) := ((f_X10_rowAt x1 h).bind fun q2 => ((f_X10_rowAt x3 q2.2).bind fun q9 => (if q2.1 = none then (some ((-1), q9.2)) else (if q9.1 = none then (some ((-1), q9.2)) else (if 0 ≤ x5 then (if (memN [6] (clR q2.1) && (true && true)) = true then ((f_X8_isMissing q2.1 q9.2).bind fun q39 => (if ¬ q39.1 = 0 then (f_X10_copy_53  q39.2) else (if (memN [6] (clR q9.1) && (true && true)) = true then ((f_X8_isMissing q9.1 q39.2).bind fun q47 => (if q47.1 = 0 then (if (memN [6] (clR q2.1) && (true && true)) = true then ((f_X8_hasRun q2.1 x2 x5 q47.2).bind fun q64 => (if q64.1 = 0 then (f_X10_copy_82  q64.2) else (if (memN [6] (clR q9.1) && (true && true)) = true then ((f_X8_hasRun q9.1 x4 x5 q64.2).bind fun q76 => (if ¬ q76.1 = 0 then (if (true && (true && (!decide (x5 < 0) && (!decide (x2 < 0) && (!decide (x4 < 0) && (decide ((Int32.toNatClampNeg x2) + (Int32.toNatClampNeg x5) ≤ aln 24) && (decide ((Int32.toNatClampNeg x4) + (Int32.toNatClampNeg x5) ≤ aln 24) && (true && (memN [6] (clR q9.1) && (decide (rR q76.2 (clR q9.1) (ixR q9.1) 1 = (some (24, (ixR q9.1)))) && (memN [6] (clR q2.1) && (decide (rR q76.2 (clR q2.1) (ixR q2.1) 1 = (some (24, (ixR q2.1)))) && true)))))))))))) = true then (some (1, (cpM q76.2 24 (ixR q2.1) (Int32.toNatClampNeg x2) 24 (ixR q9.1) (Int32.toNatClampNeg x4) (Int32.toNatClampNeg x5)))) else none) else (f_X10_copy_82  q76.2))) else none))) else none) else (f_X10_copy_53  q47.2))) else none))) else none) else ((f_X10_found 5 q9.2).bind fun q33 => (some (q33.1, q33.2))))))))
set_option maxRecDepth 20000 in
theorem ev_X10_copy {d : Nat} (hd : 2 ≤ d) {w6 : Option zV} {w7 : Option zV} {x1 : Int32} {x2 : Int32} {x3 : Int32} {x4 : Int32} {x5 : Int32} {h : zM} {r : Int32 × zM} (H : f_X10_copy x1 x2 x3 x4 x5 h = some r) : zEv zmt d 60 0 ([some (vR (some (10, 0))), some (vI x1), some (vI x2), some (vI x3), some (vI x4), some (vI x5), w6, w7], [], h, true) (some (vI r.1), r.2) := by
  obtain ⟨q2, hq, H⟩ := bnd H
  refine zEv.call (k := 101) (as := [vR (some (10, 0)), vI x1]) (L2 := [some (vR (some (10, 0))), some (vI x1), some (vI x2), some (vI x3), some (vI x4), some (vI x5), w6, w7]) (st2 := []) (h2 := h) (v := some (vR q2.1)) (h1 := q2.2) (st3 := [vR q2.1]) zm_X10_copy rfl rfl rfl rfl rfl zm_X10_rowAt rfl (by omega) (ev_X10_rowAt (by omega) hq) rfl ?_
  obtain ⟨q9, hq, H⟩ := bnd H
  refine zEv.call (k := 101) (as := [vR (some (10, 0)), vI x3]) (L2 := [some (vR (some (10, 0))), some (vI x1), some (vI x2), some (vI x3), some (vI x4), some (vI x5), some (vR q2.1), w7]) (st2 := []) (h2 := q2.2) (v := some (vR q9.1)) (h1 := q9.2) (st3 := [vR q9.1]) zm_X10_copy rfl rfl rfl rfl rfl zm_X10_rowAt rfl (by omega) (ev_X10_rowAt (by omega) hq) rfl ?_
  rcases ifc H with ⟨hc, H⟩ | ⟨hc, H⟩
  · refine zEv.iteT (L2 := [some (vR (some (10, 0))), some (vI x1), some (vI x2), some (vI x3), some (vI x4), some (vI x5), some (vR q2.1), some (vR q9.1)]) (st2 := []) (h2 := q9.2) zm_X10_copy rfl rfl rfl rfl (nnT hc) ?_
    cases H
    exact zEv.ret zm_X10_copy rfl rfl rfl rfl
  · refine zEv.iteF (L2 := [some (vR (some (10, 0))), some (vI x1), some (vI x2), some (vI x3), some (vI x4), some (vI x5), some (vR q2.1), some (vR q9.1)]) (st2 := []) (h2 := q9.2) zm_X10_copy rfl rfl rfl rfl (nnF hc) ?_
    rcases ifc H with ⟨hc, H⟩ | ⟨hc, H⟩
    · refine zEv.iteT (L2 := [some (vR (some (10, 0))), some (vI x1), some (vI x2), some (vI x3), some (vI x4), some (vI x5), some (vR q2.1), some (vR q9.1)]) (st2 := []) (h2 := q9.2) zm_X10_copy rfl rfl rfl rfl (nnT hc) ?_
      cases H
      exact zEv.ret zm_X10_copy rfl rfl rfl rfl
    · refine zEv.iteF (L2 := [some (vR (some (10, 0))), some (vI x1), some (vI x2), some (vI x3), some (vI x4), some (vI x5), some (vR q2.1), some (vR q9.1)]) (st2 := []) (h2 := q9.2) zm_X10_copy rfl rfl rfl rfl (nnF hc) ?_
      rcases ifc H with ⟨hc, H⟩ | ⟨hc, H⟩
      · refine zEv.iteT (L2 := [some (vR (some (10, 0))), some (vI x1), some (vI x2), some (vI x3), some (vI x4), some (vI x5), some (vR q2.1), some (vR q9.1)]) (st2 := []) (h2 := q9.2) zm_X10_copy rfl rfl rfl rfl (decide_eq_true hc) ?_
        obtain ⟨hg, H⟩ := ifg H
        obtain ⟨q39, hq, H⟩ := bnd H
        refine zEv.call (k := 49) (as := [vR q2.1]) (L2 := [some (vR (some (10, 0))), some (vI x1), some (vI x2), some (vI x3), some (vI x4), some (vI x5), some (vR q2.1), some (vR q9.1)]) (st2 := []) (h2 := q9.2) (v := some (vI q39.1)) (h1 := q39.2) (st3 := [vI q39.1]) zm_X10_copy rfl (and2 (and2 hg).2).2 rfl hg rfl zm_X8_isMissing rfl (by omega) (ev_X8_isMissing (by omega) hq) rfl ?_
        rcases ifc H with ⟨hc, H⟩ | ⟨hc, H⟩
        · refine zEv.iteT (L2 := [some (vR (some (10, 0))), some (vI x1), some (vI x2), some (vI x3), some (vI x4), some (vI x5), some (vR q2.1), some (vR q9.1)]) (st2 := []) (h2 := q39.2) zm_X10_copy rfl rfl rfl rfl (decide_eq_true hc) ?_
          exact ev_X10_copy_53 (by omega)  H
        · refine zEv.iteF (L2 := [some (vR (some (10, 0))), some (vI x1), some (vI x2), some (vI x3), some (vI x4), some (vI x5), some (vR q2.1), some (vR q9.1)]) (st2 := []) (h2 := q39.2) zm_X10_copy rfl rfl rfl rfl (decide_eq_false hc) ?_
          obtain ⟨hg, H⟩ := ifg H
          obtain ⟨q47, hq, H⟩ := bnd H
          refine zEv.call (k := 49) (as := [vR q9.1]) (L2 := [some (vR (some (10, 0))), some (vI x1), some (vI x2), some (vI x3), some (vI x4), some (vI x5), some (vR q2.1), some (vR q9.1)]) (st2 := []) (h2 := q39.2) (v := some (vI q47.1)) (h1 := q47.2) (st3 := [vI q47.1]) zm_X10_copy rfl (and2 (and2 hg).2).2 rfl hg rfl zm_X8_isMissing rfl (by omega) (ev_X8_isMissing (by omega) hq) rfl ?_
          rcases ifc H with ⟨hc, H⟩ | ⟨hc, H⟩
          · refine zEv.iteT (L2 := [some (vR (some (10, 0))), some (vI x1), some (vI x2), some (vI x3), some (vI x4), some (vI x5), some (vR q2.1), some (vR q9.1)]) (st2 := []) (h2 := q47.2) zm_X10_copy rfl rfl rfl rfl (decide_eq_true hc) ?_
            obtain ⟨hg, H⟩ := ifg H
            obtain ⟨q64, hq, H⟩ := bnd H
            refine zEv.call (k := 51) (as := [vR q2.1, vI x2, vI x5]) (L2 := [some (vR (some (10, 0))), some (vI x1), some (vI x2), some (vI x3), some (vI x4), some (vI x5), some (vR q2.1), some (vR q9.1)]) (st2 := []) (h2 := q47.2) (v := some (vI q64.1)) (h1 := q64.2) (st3 := [vI q64.1]) zm_X10_copy rfl (and2 (and2 hg).2).2 rfl hg rfl zm_X8_hasRun rfl (by omega) (ev_X8_hasRun (by omega) hq) rfl ?_
            rcases ifc H with ⟨hc, H⟩ | ⟨hc, H⟩
            · refine zEv.iteT (L2 := [some (vR (some (10, 0))), some (vI x1), some (vI x2), some (vI x3), some (vI x4), some (vI x5), some (vR q2.1), some (vR q9.1)]) (st2 := []) (h2 := q64.2) zm_X10_copy rfl rfl rfl rfl (decide_eq_true hc) ?_
              exact ev_X10_copy_82 (by omega)  H
            · refine zEv.iteF (L2 := [some (vR (some (10, 0))), some (vI x1), some (vI x2), some (vI x3), some (vI x4), some (vI x5), some (vR q2.1), some (vR q9.1)]) (st2 := []) (h2 := q64.2) zm_X10_copy rfl rfl rfl rfl (decide_eq_false hc) ?_
              obtain ⟨hg, H⟩ := ifg H
              obtain ⟨q76, hq, H⟩ := bnd H
              refine zEv.call (k := 51) (as := [vR q9.1, vI x4, vI x5]) (L2 := [some (vR (some (10, 0))), some (vI x1), some (vI x2), some (vI x3), some (vI x4), some (vI x5), some (vR q2.1), some (vR q9.1)]) (st2 := []) (h2 := q64.2) (v := some (vI q76.1)) (h1 := q76.2) (st3 := [vI q76.1]) zm_X10_copy rfl (and2 (and2 hg).2).2 rfl hg rfl zm_X8_hasRun rfl (by omega) (ev_X8_hasRun (by omega) hq) rfl ?_
              rcases ifc H with ⟨hc, H⟩ | ⟨hc, H⟩
              · refine zEv.iteT (L2 := [some (vR (some (10, 0))), some (vI x1), some (vI x2), some (vI x3), some (vI x4), some (vI x5), some (vR q2.1), some (vR q9.1)]) (st2 := []) (h2 := q76.2) zm_X10_copy rfl rfl rfl rfl (decide_eq_true hc) ?_
                obtain ⟨hg, H⟩ := ifg H
                refine zEv.loc (L2 := [some (vR (some (10, 0))), some (vI x1), some (vI x2), some (vI x3), some (vI x4), some (vI x5), some (vR q2.1), some (vR q9.1)]) (st2 := []) (h2 := (cpM q76.2 24 (ixR q2.1) (Int32.toNatClampNeg x2) 24 (ixR q9.1) (Int32.toNatClampNeg x4) (Int32.toNatClampNeg x5))) zm_X10_copy rfl (and2 (and2 (and2 (and2 (and2 (and2 (and2 (and2 hg).2).2).2).2).2).2).2).2 rfl hg (fun _ => by omega) ?_
                cases H
                exact zEv.ret zm_X10_copy rfl rfl rfl rfl
              · refine zEv.iteF (L2 := [some (vR (some (10, 0))), some (vI x1), some (vI x2), some (vI x3), some (vI x4), some (vI x5), some (vR q2.1), some (vR q9.1)]) (st2 := []) (h2 := q76.2) zm_X10_copy rfl rfl rfl rfl (decide_eq_false hc) ?_
                exact ev_X10_copy_82 (by omega)  H
          · refine zEv.iteF (L2 := [some (vR (some (10, 0))), some (vI x1), some (vI x2), some (vI x3), some (vI x4), some (vI x5), some (vR q2.1), some (vR q9.1)]) (st2 := []) (h2 := q47.2) zm_X10_copy rfl rfl rfl rfl (decide_eq_false hc) ?_
            exact ev_X10_copy_53 (by omega)  H
      · refine zEv.iteF (L2 := [some (vR (some (10, 0))), some (vI x1), some (vI x2), some (vI x3), some (vI x4), some (vI x5), some (vR q2.1), some (vR q9.1)]) (st2 := []) (h2 := q9.2) zm_X10_copy rfl rfl rfl rfl (decide_eq_false hc) ?_
        obtain ⟨q33, hq, H⟩ := bnd H
        refine zEv.call (k := 105) (as := [vR (some (10, 0)), vI 5]) (L2 := [some (vR (some (10, 0))), some (vI x1), some (vI x2), some (vI x3), some (vI x4), some (vI x5), some (vR q2.1), some (vR q9.1)]) (st2 := []) (h2 := q9.2) (v := some (vI q33.1)) (h1 := q33.2) (st3 := [vI q33.1]) zm_X10_copy rfl rfl rfl rfl rfl zm_X10_found rfl (by omega) (ev_X10_found (by omega) hq) rfl ?_
        cases H
        exact zEv.ret zm_X10_copy rfl rfl rfl rfl
def f_X10_mean (x1 : Int32) (h : zM) : Option (Int32 × zM) := ((f_X10_rowAt x1 h).bind fun q2 => (if q2.1 = none then (some ((-1), q2.2)) else (if (memN [6] (clR q2.1) && (true && true)) = true then ((f_X8_isMissing q2.1 q2.2).bind fun q13 => (if q13.1 = 0 then (if (memN [6] (clR q2.1) && true) = true then (if ¬ (rI q13.2 (clR q2.1) (ixR q2.1) 0) = 0 then (if (memN [6] (clR q2.1) && (true && true)) = true then ((f_X6_sum q2.1 q13.2).bind fun q40 => (if (true && (true && (!decide ((Int32.toInt64 (rI q40.2 (clR q2.1) (ixR q2.1) 0)) = 0) && (memN [6] (clR q2.1) && true)))) = true then ((f_X10_tell (Int64.toInt32 (q40.1 / (Int32.toInt64 (rI q40.2 (clR q2.1) (ixR q2.1) 0)))) q40.2).bind fun q50 => (some (q50.1, q50.2))) else none)) else none) else ((f_X10_found 4 q13.2).bind fun q34 => (some (q34.1, q34.2)))) else none) else ((f_X10_found 1 q13.2).bind fun q21 => (some (q21.1, q21.2))))) else none)))
set_option maxRecDepth 20000 in
theorem ev_X10_mean {d : Nat} (hd : 3 ≤ d) {w2 : Option zV} {x1 : Int32} {h : zM} {r : Int32 × zM} (H : f_X10_mean x1 h = some r) : zEv zmt d 61 0 ([some (vR (some (10, 0))), some (vI x1), w2], [], h, true) (some (vI r.1), r.2) := by
  obtain ⟨q2, hq, H⟩ := bnd H
  refine zEv.call (k := 101) (as := [vR (some (10, 0)), vI x1]) (L2 := [some (vR (some (10, 0))), some (vI x1), w2]) (st2 := []) (h2 := h) (v := some (vR q2.1)) (h1 := q2.2) (st3 := [vR q2.1]) zm_X10_mean rfl rfl rfl rfl rfl zm_X10_rowAt rfl (by omega) (ev_X10_rowAt (by omega) hq) rfl ?_
  rcases ifc H with ⟨hc, H⟩ | ⟨hc, H⟩
  · refine zEv.iteT (L2 := [some (vR (some (10, 0))), none, some (vR q2.1)]) (st2 := []) (h2 := q2.2) zm_X10_mean rfl rfl rfl rfl (nnT hc) ?_
    cases H
    exact zEv.ret zm_X10_mean rfl rfl rfl rfl
  · refine zEv.iteF (L2 := [some (vR (some (10, 0))), none, some (vR q2.1)]) (st2 := []) (h2 := q2.2) zm_X10_mean rfl rfl rfl rfl (nnF hc) ?_
    obtain ⟨hg, H⟩ := ifg H
    obtain ⟨q13, hq, H⟩ := bnd H
    refine zEv.call (k := 49) (as := [vR q2.1]) (L2 := [some (vR (some (10, 0))), none, some (vR q2.1)]) (st2 := []) (h2 := q2.2) (v := some (vI q13.1)) (h1 := q13.2) (st3 := [vI q13.1]) zm_X10_mean rfl (and2 (and2 hg).2).2 rfl hg rfl zm_X8_isMissing rfl (by omega) (ev_X8_isMissing (by omega) hq) rfl ?_
    rcases ifc H with ⟨hc, H⟩ | ⟨hc, H⟩
    · refine zEv.iteT (L2 := [some (vR (some (10, 0))), none, some (vR q2.1)]) (st2 := []) (h2 := q13.2) zm_X10_mean rfl rfl rfl rfl (decide_eq_true hc) ?_
      obtain ⟨hg, H⟩ := ifg H
      rcases ifc H with ⟨hc, H⟩ | ⟨hc, H⟩
      · refine zEv.iteT (L2 := [some (vR (some (10, 0))), none, some (vR q2.1)]) (st2 := []) (h2 := q13.2) zm_X10_mean rfl hg rfl hg (decide_eq_true hc) ?_
        obtain ⟨hg, H⟩ := ifg H
        obtain ⟨q40, hq, H⟩ := bnd H
        refine zEv.call (k := 39) (as := [vR q2.1]) (L2 := [some (vR (some (10, 0))), none, some (vR q2.1)]) (st2 := [vR (some (10, 0))]) (h2 := q13.2) (v := some (vL q40.1)) (h1 := q40.2) (st3 := [vL q40.1, vR (some (10, 0))]) zm_X10_mean rfl (and2 (and2 hg).2).2 rfl hg rfl zm_X6_sum rfl (by omega) (ev_X6_sum (by omega) hq) rfl ?_
        obtain ⟨hg, H⟩ := ifg H
        obtain ⟨q50, hq, H⟩ := bnd H
        refine zEv.call (k := 106) (as := [vR (some (10, 0)), vI (Int64.toInt32 (q40.1 / (Int32.toInt64 (rI q40.2 (clR q2.1) (ixR q2.1) 0))))]) (L2 := [some (vR (some (10, 0))), none, some (vR q2.1)]) (st2 := []) (h2 := q40.2) (v := some (vI q50.1)) (h1 := q50.2) (st3 := [vI q50.1]) zm_X10_mean rfl (and2 (and2 hg).2).2 rfl hg rfl zm_X10_tell rfl (by omega) (ev_X10_tell (by omega) hq) rfl ?_
        cases H
        exact zEv.ret zm_X10_mean rfl rfl rfl rfl
      · refine zEv.iteF (L2 := [some (vR (some (10, 0))), none, some (vR q2.1)]) (st2 := []) (h2 := q13.2) zm_X10_mean rfl hg rfl hg (decide_eq_false hc) ?_
        obtain ⟨q34, hq, H⟩ := bnd H
        refine zEv.call (k := 105) (as := [vR (some (10, 0)), vI 4]) (L2 := [some (vR (some (10, 0))), none, some (vR q2.1)]) (st2 := []) (h2 := q13.2) (v := some (vI q34.1)) (h1 := q34.2) (st3 := [vI q34.1]) zm_X10_mean rfl rfl rfl rfl rfl zm_X10_found rfl (by omega) (ev_X10_found (by omega) hq) rfl ?_
        cases H
        exact zEv.ret zm_X10_mean rfl rfl rfl rfl
    · refine zEv.iteF (L2 := [some (vR (some (10, 0))), none, some (vR q2.1)]) (st2 := []) (h2 := q13.2) zm_X10_mean rfl rfl rfl rfl (decide_eq_false hc) ?_
      obtain ⟨q21, hq, H⟩ := bnd H
      refine zEv.call (k := 105) (as := [vR (some (10, 0)), vI 1]) (L2 := [some (vR (some (10, 0))), none, some (vR q2.1)]) (st2 := []) (h2 := q13.2) (v := some (vI q21.1)) (h1 := q21.2) (st3 := [vI q21.1]) zm_X10_mean rfl rfl rfl rfl rfl zm_X10_found rfl (by omega) (ev_X10_found (by omega) hq) rfl ?_
      cases H
      exact zEv.ret zm_X10_mean rfl rfl rfl rfl
def f_X10_textAt (x1 : Int32) (h : zM) : Option (zR × zM) := ((f_X10_within x1 0 3 h).bind fun q3 => (if q3.1 = 0 then (some (none, q3.2)) else (if (true && (ixOk 4 x1 && (decide (rR q3.2 27 0 (Int32.toNatClampNeg x1) = (some (9, (Int32.toNatClampNeg x1)))) && (true && (decide (rR q3.2 10 0 1 = (some (27, 0))) && true))))) = true then (some ((some (9, (Int32.toNatClampNeg x1))), q3.2)) else none)))
set_option maxRecDepth 20000 in
theorem ev_X10_textAt {d : Nat} (hd : 1 ≤ d) {x1 : Int32} {h : zM} {r : zR × zM} (H : f_X10_textAt x1 h = some r) : zEv zmt d 102 0 ([some (vR (some (10, 0))), some (vI x1)], [], h, true) (some (vR r.1), r.2) := by
  obtain ⟨q3, hq, H⟩ := bnd H
  refine zEv.call (k := 100) (as := [vI x1, vI 0, vI 3]) (L2 := [some (vR (some (10, 0))), some (vI x1)]) (st2 := []) (h2 := h) (v := some (vI q3.1)) (h1 := q3.2) (st3 := [vI q3.1]) zm_X10_textAt rfl rfl rfl rfl rfl zm_X10_within rfl (by omega) (ev_X10_within (by omega) hq) rfl ?_
  rcases ifc H with ⟨hc, H⟩ | ⟨hc, H⟩
  · refine zEv.iteT (L2 := [some (vR (some (10, 0))), some (vI x1)]) (st2 := []) (h2 := q3.2) zm_X10_textAt rfl rfl rfl rfl (decide_eq_true hc) ?_
    refine zEv.loc (L2 := [some (vR (some (10, 0))), some (vI x1)]) (st2 := [vR none]) (h2 := q3.2) zm_X10_textAt rfl rfl rfl rfl (fun h => (nomatch h)) ?_
    cases H
    exact zEv.ret zm_X10_textAt rfl rfl rfl rfl
  · refine zEv.iteF (L2 := [some (vR (some (10, 0))), some (vI x1)]) (st2 := []) (h2 := q3.2) zm_X10_textAt rfl rfl rfl rfl (decide_eq_false hc) ?_
    obtain ⟨hg, H⟩ := ifg H
    refine zEv.loc (L2 := [some (vR (some (10, 0))), some (vI x1)]) (st2 := [vR (some (9, (Int32.toNatClampNeg x1)))]) (h2 := q3.2) zm_X10_textAt rfl hg rfl hg (fun h => (nomatch h)) ?_
    cases H
    exact zEv.ret zm_X10_textAt rfl rfl rfl rfl
def f_X10_text (x1 : Int32) (x2 : Int32) (h : zM) : Option (Int32 × zM) := ((f_X10_textAt x1 h).bind fun q2 => (if q2.1 = none then (some ((-1), q2.2)) else (if x2 ≤ 40 then (if 0 ≤ x2 then (if (memN [9] (clR q2.1) && (true && true)) = true then ((f_X9_begin q2.1 x2 q2.2).bind fun q30 => (some (x2, q30))) else none) else ((f_X10_found 5 q2.2).bind fun q24 => (some (q24.1, q24.2)))) else (some ((-1), q2.2)))))
set_option maxRecDepth 20000 in
theorem ev_X10_text {d : Nat} (hd : 2 ≤ d) {w3 : Option zV} {x1 : Int32} {x2 : Int32} {h : zM} {r : Int32 × zM} (H : f_X10_text x1 x2 h = some r) : zEv zmt d 62 0 ([some (vR (some (10, 0))), some (vI x1), some (vI x2), w3], [], h, true) (some (vI r.1), r.2) := by
  obtain ⟨q2, hq, H⟩ := bnd H
  refine zEv.call (k := 102) (as := [vR (some (10, 0)), vI x1]) (L2 := [some (vR (some (10, 0))), some (vI x1), some (vI x2), w3]) (st2 := []) (h2 := h) (v := some (vR q2.1)) (h1 := q2.2) (st3 := [vR q2.1]) zm_X10_text rfl rfl rfl rfl rfl zm_X10_textAt rfl (by omega) (ev_X10_textAt (by omega) hq) rfl ?_
  rcases ifc H with ⟨hc, H⟩ | ⟨hc, H⟩
  · refine zEv.iteT (L2 := [some (vR (some (10, 0))), some (vI x1), some (vI x2), some (vR q2.1)]) (st2 := []) (h2 := q2.2) zm_X10_text rfl rfl rfl rfl (nnT hc) ?_
    cases H
    exact zEv.ret zm_X10_text rfl rfl rfl rfl
  · refine zEv.iteF (L2 := [some (vR (some (10, 0))), some (vI x1), some (vI x2), some (vR q2.1)]) (st2 := []) (h2 := q2.2) zm_X10_text rfl rfl rfl rfl (nnF hc) ?_
    rcases ifc H with ⟨hc, H⟩ | ⟨hc, H⟩
    · refine zEv.iteT (L2 := [some (vR (some (10, 0))), some (vI x1), some (vI x2), some (vR q2.1)]) (st2 := []) (h2 := q2.2) zm_X10_text rfl rfl rfl rfl (decide_eq_true hc) ?_
      rcases ifc H with ⟨hc, H⟩ | ⟨hc, H⟩
      · refine zEv.iteT (L2 := [some (vR (some (10, 0))), some (vI x1), some (vI x2), some (vR q2.1)]) (st2 := []) (h2 := q2.2) zm_X10_text rfl rfl rfl rfl (decide_eq_true hc) ?_
        obtain ⟨hg, H⟩ := ifg H
        obtain ⟨q30, hq, H⟩ := bnd H
        refine zEv.call (k := 55) (as := [vR q2.1, vI x2]) (L2 := [some (vR (some (10, 0))), some (vI x1), some (vI x2), some (vR q2.1)]) (st2 := []) (h2 := q2.2) (v := none) (h1 := q30) (st3 := []) zm_X10_text rfl (and2 (and2 hg).2).2 rfl hg rfl zm_X9_begin rfl (by omega) (ev_X9_begin (by omega) hq) rfl ?_
        cases H
        exact zEv.ret zm_X10_text rfl rfl rfl rfl
      · refine zEv.iteF (L2 := [some (vR (some (10, 0))), some (vI x1), some (vI x2), some (vR q2.1)]) (st2 := []) (h2 := q2.2) zm_X10_text rfl rfl rfl rfl (decide_eq_false hc) ?_
        obtain ⟨q24, hq, H⟩ := bnd H
        refine zEv.call (k := 105) (as := [vR (some (10, 0)), vI 5]) (L2 := [some (vR (some (10, 0))), some (vI x1), some (vI x2), some (vR q2.1)]) (st2 := []) (h2 := q2.2) (v := some (vI q24.1)) (h1 := q24.2) (st3 := [vI q24.1]) zm_X10_text rfl rfl rfl rfl rfl zm_X10_found rfl (by omega) (ev_X10_found (by omega) hq) rfl ?_
        cases H
        exact zEv.ret zm_X10_text rfl rfl rfl rfl
    · refine zEv.iteF (L2 := [some (vR (some (10, 0))), some (vI x1), some (vI x2), some (vR q2.1)]) (st2 := []) (h2 := q2.2) zm_X10_text rfl rfl rfl rfl (decide_eq_false hc) ?_
      cases H
      exact zEv.ret zm_X10_text rfl rfl rfl rfl
def f_X10_put (x1 : Int32) (x2 : Int32) (x3 : Int32) (h : zM) : Option (Int32 × zM) := ((f_X10_textAt x1 h).bind fun q2 => (if q2.1 = none then (some ((-1), q2.2)) else (if (memN [9] (clR q2.1) && (true && true)) = true then ((f_X8_isMissing q2.1 q2.2).bind fun q16 => (if q16.1 = 0 then (if (memN [9] (clR q2.1) && (true && true)) = true then ((f_X8_has q2.1 x2 q16.2).bind fun q31 => (if ¬ q31.1 = 0 then (if (true && (ixOk 40 x2 && (memN [9] (clR q2.1) && (decide (rR q31.2 (clR q2.1) (ixR q2.1) 1 = (some (25, (ixR q2.1)))) && (true && (true && (ixOk 40 x2 && (memN [9] (clR q2.1) && (decide (rR q31.2 (clR q2.1) (ixR q2.1) 1 = (some (25, (ixR q2.1)))) && true))))))))) = true then (some (((rI q31.2 25 (ixR q2.1) (Int32.toNatClampNeg x2)) + 1000), (wI q31.2 25 (ixR q2.1) (Int32.toNatClampNeg x2) (Int8.toInt32 (Int32.toInt8 (Int8.toInt32 (Int32.toInt8 x3))))))) else none) else ((f_X10_found 2 q31.2).bind fun q39 => (some (q39.1, q39.2))))) else none) else ((f_X10_found 1 q16.2).bind fun q24 => (some (q24.1, q24.2))))) else none)))
set_option maxRecDepth 20000 in
theorem ev_X10_put {d : Nat} (hd : 2 ≤ d) {w4 : Option zV} {w5 : Option zV} {x1 : Int32} {x2 : Int32} {x3 : Int32} {h : zM} {r : Int32 × zM} (H : f_X10_put x1 x2 x3 h = some r) : zEv zmt d 63 0 ([some (vR (some (10, 0))), some (vI x1), some (vI x2), some (vI x3), w4, w5], [], h, true) (some (vI r.1), r.2) := by
  obtain ⟨q2, hq, H⟩ := bnd H
  refine zEv.call (k := 102) (as := [vR (some (10, 0)), vI x1]) (L2 := [some (vR (some (10, 0))), some (vI x1), some (vI x2), some (vI x3), w4, w5]) (st2 := []) (h2 := h) (v := some (vR q2.1)) (h1 := q2.2) (st3 := [vR q2.1]) zm_X10_put rfl rfl rfl rfl rfl zm_X10_textAt rfl (by omega) (ev_X10_textAt (by omega) hq) rfl ?_
  rcases ifc H with ⟨hc, H⟩ | ⟨hc, H⟩
  · refine zEv.iteT (L2 := [some (vR (some (10, 0))), some (vI x1), some (vI x2), some (vI x3), some (vR q2.1), w5]) (st2 := []) (h2 := q2.2) zm_X10_put rfl rfl rfl rfl (nnT hc) ?_
    cases H
    exact zEv.ret zm_X10_put rfl rfl rfl rfl
  · refine zEv.iteF (L2 := [some (vR (some (10, 0))), some (vI x1), some (vI x2), some (vI x3), some (vR q2.1), w5]) (st2 := []) (h2 := q2.2) zm_X10_put rfl rfl rfl rfl (nnF hc) ?_
    obtain ⟨hg, H⟩ := ifg H
    obtain ⟨q16, hq, H⟩ := bnd H
    refine zEv.call (k := 49) (as := [vR q2.1]) (L2 := [some (vR (some (10, 0))), some (vI x1), some (vI x2), some (vI x3), some (vR q2.1), w5]) (st2 := []) (h2 := q2.2) (v := some (vI q16.1)) (h1 := q16.2) (st3 := [vI q16.1]) zm_X10_put rfl (and2 (and2 hg).2).2 rfl hg rfl zm_X8_isMissing rfl (by omega) (ev_X8_isMissing (by omega) hq) rfl ?_
    rcases ifc H with ⟨hc, H⟩ | ⟨hc, H⟩
    · refine zEv.iteT (L2 := [some (vR (some (10, 0))), some (vI x1), some (vI x2), some (vI x3), some (vR q2.1), w5]) (st2 := []) (h2 := q16.2) zm_X10_put rfl rfl rfl rfl (decide_eq_true hc) ?_
      obtain ⟨hg, H⟩ := ifg H
      obtain ⟨q31, hq, H⟩ := bnd H
      refine zEv.call (k := 50) (as := [vR q2.1, vI x2]) (L2 := [some (vR (some (10, 0))), some (vI x1), some (vI x2), some (vI x3), some (vR q2.1), w5]) (st2 := []) (h2 := q16.2) (v := some (vI q31.1)) (h1 := q31.2) (st3 := [vI q31.1]) zm_X10_put rfl (and2 (and2 hg).2).2 rfl hg rfl zm_X8_has rfl (by omega) (ev_X8_has (by omega) hq) rfl ?_
      rcases ifc H with ⟨hc, H⟩ | ⟨hc, H⟩
      · refine zEv.iteT (L2 := [some (vR (some (10, 0))), some (vI x1), some (vI x2), some (vI x3), some (vR q2.1), w5]) (st2 := []) (h2 := q31.2) zm_X10_put rfl rfl rfl rfl (decide_eq_true hc) ?_
        obtain ⟨hg, H⟩ := ifg H
        cases H
        exact zEv.ret zm_X10_put rfl hg rfl hg
      · refine zEv.iteF (L2 := [some (vR (some (10, 0))), some (vI x1), some (vI x2), some (vI x3), some (vR q2.1), w5]) (st2 := []) (h2 := q31.2) zm_X10_put rfl rfl rfl rfl (decide_eq_false hc) ?_
        obtain ⟨q39, hq, H⟩ := bnd H
        refine zEv.call (k := 105) (as := [vR (some (10, 0)), vI 2]) (L2 := [some (vR (some (10, 0))), some (vI x1), some (vI x2), some (vI x3), some (vR q2.1), w5]) (st2 := []) (h2 := q31.2) (v := some (vI q39.1)) (h1 := q39.2) (st3 := [vI q39.1]) zm_X10_put rfl rfl rfl rfl rfl zm_X10_found rfl (by omega) (ev_X10_found (by omega) hq) rfl ?_
        cases H
        exact zEv.ret zm_X10_put rfl rfl rfl rfl
    · refine zEv.iteF (L2 := [some (vR (some (10, 0))), some (vI x1), some (vI x2), some (vI x3), some (vR q2.1), w5]) (st2 := []) (h2 := q16.2) zm_X10_put rfl rfl rfl rfl (decide_eq_false hc) ?_
      obtain ⟨q24, hq, H⟩ := bnd H
      refine zEv.call (k := 105) (as := [vR (some (10, 0)), vI 1]) (L2 := [some (vR (some (10, 0))), some (vI x1), some (vI x2), some (vI x3), some (vR q2.1), w5]) (st2 := []) (h2 := q16.2) (v := some (vI q24.1)) (h1 := q24.2) (st3 := [vI q24.1]) zm_X10_put rfl rfl rfl rfl rfl zm_X10_found rfl (by omega) (ev_X10_found (by omega) hq) rfl ?_
      cases H
      exact zEv.ret zm_X10_put rfl rfl rfl rfl
def f_X10_later (x1 : Int32) (h : zM) : Option (Int32 × zM) := (if x1 < 0 then (some ((-1), h)) else (if x1 ≤ (9999 - (rI h 10 0 8)) then (some ((rI (wI h 10 0 8 ((rI h 10 0 8) + x1)) 10 0 8), (wI h 10 0 8 ((rI h 10 0 8) + x1)))) else (some ((-1), h))))
set_option maxRecDepth 20000 in
theorem ev_X10_later {d : Nat} (hd : 0 ≤ d) {x1 : Int32} {h : zM} {r : Int32 × zM} (H : f_X10_later x1 h = some r) : zEv zmt d 64 0 ([some (vR (some (10, 0))), some (vI x1)], [], h, true) (some (vI r.1), r.2) := by
  rcases ifc H with ⟨hc, H⟩ | ⟨hc, H⟩
  · refine zEv.iteT (L2 := [some (vR (some (10, 0))), some (vI x1)]) (st2 := []) (h2 := h) zm_X10_later rfl rfl rfl rfl (decide_eq_true hc) ?_
    cases H
    exact zEv.ret zm_X10_later rfl rfl rfl rfl
  · refine zEv.iteF (L2 := [some (vR (some (10, 0))), some (vI x1)]) (st2 := []) (h2 := h) zm_X10_later rfl rfl rfl rfl (decide_eq_false hc) ?_
    rcases ifc H with ⟨hc, H⟩ | ⟨hc, H⟩
    · refine zEv.iteT (L2 := [some (vR (some (10, 0))), some (vI x1)]) (st2 := []) (h2 := h) zm_X10_later rfl rfl rfl rfl (decide_eq_true hc) ?_
      cases H
      exact zEv.ret zm_X10_later rfl rfl rfl rfl
    · refine zEv.iteF (L2 := [some (vR (some (10, 0))), some (vI x1)]) (st2 := []) (h2 := h) zm_X10_later rfl rfl rfl rfl (decide_eq_false hc) ?_
      cases H
      exact zEv.ret zm_X10_later rfl rfl rfl rfl
def f_X10_place (x1 : Int32) (x2 : Int32) (x3 : Int32) (x4 : Int32) (h : zM) : Option (Int32 × zM) := ((f_X10_within x1 0 40 h).bind fun q4 => (if q4.1 = 0 then (some ((-1), q4.2)) else ((f_X10_within x2 (-20) 50 q4.2).bind fun q15 => (if q15.1 = 0 then (some ((-1), q15.2)) else ((f_X10_within x3 0 1 q15.2).bind fun q24 => (if q24.1 = 0 then (some ((-1), q24.2)) else ((f_X10_within x4 0 3 q24.2).bind fun q34 => (if ¬ q34.1 = 0 then (if (rI q34.2 10 0 9) < 8 then (if (true && (true && (true && (true && (true && (decide (rR q34.2 10 0 2 = (some (28, 0))) && true)))))) = true then ((f_X3_init (some (3, (cnM q34.2 3))) x1 x2 x3 x4 (nwM q34.2 3 4)).bind fun q71 => (if (true && (true && (true && (true && (true && (true && (ixOk 8 (rI q34.2 10 0 9) && true))))))) = true then (some (((rI (wI (wR q71 28 0 (Int32.toNatClampNeg (rI q34.2 10 0 9)) (some (3, (cnM q34.2 3)))) 10 0 9 ((rI q71 10 0 9) + 1)) 10 0 9) - 1), (wI (wR q71 28 0 (Int32.toNatClampNeg (rI q34.2 10 0 9)) (some (3, (cnM q34.2 3)))) 10 0 9 ((rI q71 10 0 9) + 1)))) else none)) else none) else (some ((-2), q34.2))) else (some ((-1), q34.2))))))))))
set_option maxRecDepth 20000 in
theorem ev_X10_place {d : Nat} (hd : 2 ≤ d) {x1 : Int32} {x2 : Int32} {x3 : Int32} {x4 : Int32} {h : zM} {r : Int32 × zM} (H : f_X10_place x1 x2 x3 x4 h = some r) : zEv zmt d 65 0 ([some (vR (some (10, 0))), some (vI x1), some (vI x2), some (vI x3), some (vI x4)], [], h, true) (some (vI r.1), r.2) := by
  obtain ⟨q4, hq, H⟩ := bnd H
  refine zEv.call (k := 100) (as := [vI x1, vI 0, vI 40]) (L2 := [some (vR (some (10, 0))), some (vI x1), some (vI x2), some (vI x3), some (vI x4)]) (st2 := []) (h2 := h) (v := some (vI q4.1)) (h1 := q4.2) (st3 := [vI q4.1]) zm_X10_place rfl rfl rfl rfl rfl zm_X10_within rfl (by omega) (ev_X10_within (by omega) hq) rfl ?_
  rcases ifc H with ⟨hc, H⟩ | ⟨hc, H⟩
  · refine zEv.iteT (L2 := [some (vR (some (10, 0))), some (vI x1), some (vI x2), some (vI x3), some (vI x4)]) (st2 := []) (h2 := q4.2) zm_X10_place rfl rfl rfl rfl (decide_eq_true hc) ?_
    cases H
    exact zEv.ret zm_X10_place rfl rfl rfl rfl
  · refine zEv.iteF (L2 := [some (vR (some (10, 0))), some (vI x1), some (vI x2), some (vI x3), some (vI x4)]) (st2 := []) (h2 := q4.2) zm_X10_place rfl rfl rfl rfl (decide_eq_false hc) ?_
    obtain ⟨q15, hq, H⟩ := bnd H
    refine zEv.call (k := 100) (as := [vI x2, vI (-20), vI 50]) (L2 := [some (vR (some (10, 0))), some (vI x1), some (vI x2), some (vI x3), some (vI x4)]) (st2 := []) (h2 := q4.2) (v := some (vI q15.1)) (h1 := q15.2) (st3 := [vI q15.1]) zm_X10_place rfl rfl rfl rfl rfl zm_X10_within rfl (by omega) (ev_X10_within (by omega) hq) rfl ?_
    rcases ifc H with ⟨hc, H⟩ | ⟨hc, H⟩
    · refine zEv.iteT (L2 := [some (vR (some (10, 0))), some (vI x1), some (vI x2), some (vI x3), some (vI x4)]) (st2 := []) (h2 := q15.2) zm_X10_place rfl rfl rfl rfl (decide_eq_true hc) ?_
      cases H
      exact zEv.ret zm_X10_place rfl rfl rfl rfl
    · refine zEv.iteF (L2 := [some (vR (some (10, 0))), some (vI x1), some (vI x2), some (vI x3), some (vI x4)]) (st2 := []) (h2 := q15.2) zm_X10_place rfl rfl rfl rfl (decide_eq_false hc) ?_
      obtain ⟨q24, hq, H⟩ := bnd H
      refine zEv.call (k := 100) (as := [vI x3, vI 0, vI 1]) (L2 := [some (vR (some (10, 0))), some (vI x1), some (vI x2), some (vI x3), some (vI x4)]) (st2 := []) (h2 := q15.2) (v := some (vI q24.1)) (h1 := q24.2) (st3 := [vI q24.1]) zm_X10_place rfl rfl rfl rfl rfl zm_X10_within rfl (by omega) (ev_X10_within (by omega) hq) rfl ?_
      rcases ifc H with ⟨hc, H⟩ | ⟨hc, H⟩
      · refine zEv.iteT (L2 := [some (vR (some (10, 0))), some (vI x1), some (vI x2), some (vI x3), some (vI x4)]) (st2 := []) (h2 := q24.2) zm_X10_place rfl rfl rfl rfl (decide_eq_true hc) ?_
        cases H
        exact zEv.ret zm_X10_place rfl rfl rfl rfl
      · refine zEv.iteF (L2 := [some (vR (some (10, 0))), some (vI x1), some (vI x2), some (vI x3), some (vI x4)]) (st2 := []) (h2 := q24.2) zm_X10_place rfl rfl rfl rfl (decide_eq_false hc) ?_
        obtain ⟨q34, hq, H⟩ := bnd H
        refine zEv.call (k := 100) (as := [vI x4, vI 0, vI 3]) (L2 := [some (vR (some (10, 0))), some (vI x1), some (vI x2), some (vI x3), some (vI x4)]) (st2 := []) (h2 := q24.2) (v := some (vI q34.1)) (h1 := q34.2) (st3 := [vI q34.1]) zm_X10_place rfl rfl rfl rfl rfl zm_X10_within rfl (by omega) (ev_X10_within (by omega) hq) rfl ?_
        rcases ifc H with ⟨hc, H⟩ | ⟨hc, H⟩
        · refine zEv.iteT (L2 := [some (vR (some (10, 0))), some (vI x1), some (vI x2), some (vI x3), some (vI x4)]) (st2 := []) (h2 := q34.2) zm_X10_place rfl rfl rfl rfl (decide_eq_true hc) ?_
          rcases ifc H with ⟨hc, H⟩ | ⟨hc, H⟩
          · refine zEv.iteT (L2 := [some (vR (some (10, 0))), some (vI x1), some (vI x2), some (vI x3), some (vI x4)]) (st2 := []) (h2 := q34.2) zm_X10_place rfl rfl rfl rfl (decide_eq_true hc) ?_
            obtain ⟨hg, H⟩ := ifg H
            obtain ⟨q71, hq, H⟩ := bnd H
            refine zEv.call (k := 24) (as := [vR (some (3, (cnM q34.2 3))), vI x1, vI x2, vI x3, vI x4]) (L2 := [some (vR (some (10, 0))), some (vI x1), some (vI x2), some (vI x3), some (vI x4)]) (st2 := [vR (some (3, (cnM q34.2 3))), vI (rI q34.2 10 0 9), vR (some (28, 0))]) (h2 := (nwM q34.2 3 4)) (v := none) (h1 := q71) (st3 := [vR (some (3, (cnM q34.2 3))), vI (rI q34.2 10 0 9), vR (some (28, 0))]) zm_X10_place rfl (and2 (and2 hg).2).2 rfl hg rfl zm_X3_init rfl (by omega) (ev_X3_init (by omega) hq) rfl ?_
            obtain ⟨hg, H⟩ := ifg H
            cases H
            exact zEv.ret zm_X10_place rfl hg rfl hg
          · refine zEv.iteF (L2 := [some (vR (some (10, 0))), some (vI x1), some (vI x2), some (vI x3), some (vI x4)]) (st2 := []) (h2 := q34.2) zm_X10_place rfl rfl rfl rfl (decide_eq_false hc) ?_
            cases H
            exact zEv.ret zm_X10_place rfl rfl rfl rfl
        · refine zEv.iteF (L2 := [some (vR (some (10, 0))), some (vI x1), some (vI x2), some (vI x3), some (vI x4)]) (st2 := []) (h2 := q34.2) zm_X10_place rfl rfl rfl rfl (decide_eq_false hc) ?_
          cases H
          exact zEv.ret zm_X10_place rfl rfl rfl rfl
def f_X10_placeAt (x1 : Int32) (h : zM) : Option (zR × zM) := ((f_X10_within x1 0 ((rI h 10 0 9) - 1) h).bind fun q8 => (if q8.1 = 0 then (some (none, q8.2)) else (if (true && (ixOk 8 x1 && (true && (decide (rR q8.2 10 0 2 = (some (28, 0))) && true)))) = true then (some ((rR q8.2 28 0 (Int32.toNatClampNeg x1)), q8.2)) else none)))
set_option maxRecDepth 20000 in
theorem ev_X10_placeAt {d : Nat} (hd : 1 ≤ d) {x1 : Int32} {h : zM} {r : zR × zM} (H : f_X10_placeAt x1 h = some r) : zEv zmt d 103 0 ([some (vR (some (10, 0))), some (vI x1)], [], h, true) (some (vR r.1), r.2) := by
  obtain ⟨q8, hq, H⟩ := bnd H
  refine zEv.call (k := 100) (as := [vI x1, vI 0, vI ((rI h 10 0 9) - 1)]) (L2 := [some (vR (some (10, 0))), some (vI x1)]) (st2 := []) (h2 := h) (v := some (vI q8.1)) (h1 := q8.2) (st3 := [vI q8.1]) zm_X10_placeAt rfl rfl rfl rfl rfl zm_X10_within rfl (by omega) (ev_X10_within (by omega) hq) rfl ?_
  rcases ifc H with ⟨hc, H⟩ | ⟨hc, H⟩
  · refine zEv.iteT (L2 := [some (vR (some (10, 0))), some (vI x1)]) (st2 := []) (h2 := q8.2) zm_X10_placeAt rfl rfl rfl rfl (decide_eq_true hc) ?_
    refine zEv.loc (L2 := [some (vR (some (10, 0))), some (vI x1)]) (st2 := [vR none]) (h2 := q8.2) zm_X10_placeAt rfl rfl rfl rfl (fun h => (nomatch h)) ?_
    cases H
    exact zEv.ret zm_X10_placeAt rfl rfl rfl rfl
  · refine zEv.iteF (L2 := [some (vR (some (10, 0))), some (vI x1)]) (st2 := []) (h2 := q8.2) zm_X10_placeAt rfl rfl rfl rfl (decide_eq_false hc) ?_
    obtain ⟨hg, H⟩ := ifg H
    refine zEv.loc (L2 := [some (vR (some (10, 0))), some (vI x1)]) (st2 := [vR (rR q8.2 28 0 (Int32.toNatClampNeg x1))]) (h2 := q8.2) zm_X10_placeAt rfl hg rfl hg (fun h => (nomatch h)) ?_
    cases H
    exact zEv.ret zm_X10_placeAt rfl rfl rfl rfl
def f_X10_canBeMark_42 (h : zM) : Option (Int32 × zM) := (some (0, h))
set_option maxRecDepth 20000 in
theorem ev_X10_canBeMark_42 {d : Nat} (hd : 1 ≤ d) {w0 : Option zV} {w1 : Option zV} {w2 : Option zV} {h : zM} {r : Int32 × zM} (H : f_X10_canBeMark_42  h = some r) : zEv zmt d 113 42 ([w0, w1, w2], [], h, true) (some (vI r.1), r.2) := by
  refine zEv.loc (L2 := [w0, w1, w2]) (st2 := [vI 0]) (h2 := h) zm_X10_canBeMark rfl rfl rfl rfl (fun h => (nomatch h)) ?_
  cases H
  exact zEv.ret zm_X10_canBeMark rfl rfl rfl rfl
def f_X10_canBeMark_29 (x2 : Int32) (h : zM) : Option (Int32 × zM) := ((f_X10_within x2 0 3 h).bind fun q32 => (if q32.1 = 0 then (f_X10_canBeMark_42  q32.2) else (some (1, q32.2))))
set_option maxRecDepth 20000 in
theorem ev_X10_canBeMark_29 {d : Nat} (hd : 1 ≤ d) {w0 : Option zV} {w1 : Option zV} {x2 : Int32} {h : zM} {r : Int32 × zM} (H : f_X10_canBeMark_29 x2 h = some r) : zEv zmt d 113 29 ([w0, w1, some (vI x2)], [], h, true) (some (vI r.1), r.2) := by
  obtain ⟨q32, hq, H⟩ := bnd H
  refine zEv.call (k := 100) (as := [vI x2, vI 0, vI 3]) (L2 := [w0, w1, some (vI x2)]) (st2 := []) (h2 := h) (v := some (vI q32.1)) (h1 := q32.2) (st3 := [vI q32.1]) zm_X10_canBeMark rfl rfl rfl rfl rfl zm_X10_within rfl (by omega) (ev_X10_within (by omega) hq) rfl ?_
  rcases ifc H with ⟨hc, H⟩ | ⟨hc, H⟩
  · refine zEv.iteT (L2 := [w0, w1, some (vI x2)]) (st2 := []) (h2 := q32.2) zm_X10_canBeMark rfl rfl rfl rfl (decide_eq_true hc) ?_
    exact ev_X10_canBeMark_42 (by omega)  H
  · refine zEv.iteF (L2 := [w0, w1, some (vI x2)]) (st2 := []) (h2 := q32.2) zm_X10_canBeMark rfl rfl rfl rfl (decide_eq_false hc) ?_
    refine zEv.loc (L2 := [w0, w1, some (vI x2)]) (st2 := [vI 1]) (h2 := q32.2) zm_X10_canBeMark rfl rfl rfl rfl (fun h => (nomatch h)) ?_
    cases H
    exact zEv.ret zm_X10_canBeMark rfl rfl rfl rfl
def f_X10_canBeMark (x0 : Int32) (x1 : Int32) (x2 : Int32) (h : zM) : Option (Int32 × zM) := ((f_X10_within x0 1 9999 h).bind fun q5 => (if q5.1 = 0 then (f_X10_canBeMark_42  q5.2) else (if x1 = (-9999) then (f_X10_canBeMark_29  x2 q5.2) else ((f_X10_within x1 (-60) 60 q5.2).bind fun q23 => (if q23.1 = 0 then (f_X10_canBeMark_42  q23.2) else (f_X10_canBeMark_29  x2 q23.2))))))
set_option maxRecDepth 20000 in
theorem ev_X10_canBeMark {d : Nat} (hd : 1 ≤ d) {x0 : Int32} {x1 : Int32} {x2 : Int32} {h : zM} {r : Int32 × zM} (H : f_X10_canBeMark x0 x1 x2 h = some r) : zEv zmt d 113 0 ([some (vI x0), some (vI x1), some (vI x2)], [], h, true) (some (vI r.1), r.2) := by
  obtain ⟨q5, hq, H⟩ := bnd H
  refine zEv.call (k := 100) (as := [vI x0, vI 1, vI 9999]) (L2 := [some (vI x0), some (vI x1), some (vI x2)]) (st2 := []) (h2 := h) (v := some (vI q5.1)) (h1 := q5.2) (st3 := [vI q5.1]) zm_X10_canBeMark rfl rfl rfl rfl rfl zm_X10_within rfl (by omega) (ev_X10_within (by omega) hq) rfl ?_
  rcases ifc H with ⟨hc, H⟩ | ⟨hc, H⟩
  · refine zEv.iteT (L2 := [some (vI x0), some (vI x1), some (vI x2)]) (st2 := []) (h2 := q5.2) zm_X10_canBeMark rfl rfl rfl rfl (decide_eq_true hc) ?_
    exact ev_X10_canBeMark_42 (by omega)  H
  · refine zEv.iteF (L2 := [some (vI x0), some (vI x1), some (vI x2)]) (st2 := []) (h2 := q5.2) zm_X10_canBeMark rfl rfl rfl rfl (decide_eq_false hc) ?_
    rcases ifc H with ⟨hc, H⟩ | ⟨hc, H⟩
    · refine zEv.iteT (L2 := [some (vI x0), some (vI x1), some (vI x2)]) (st2 := []) (h2 := q5.2) zm_X10_canBeMark rfl rfl rfl rfl (decide_eq_true hc) ?_
      exact ev_X10_canBeMark_29 (by omega)  H
    · refine zEv.iteF (L2 := [some (vI x0), some (vI x1), some (vI x2)]) (st2 := []) (h2 := q5.2) zm_X10_canBeMark rfl rfl rfl rfl (decide_eq_false hc) ?_
      obtain ⟨q23, hq, H⟩ := bnd H
      refine zEv.call (k := 100) (as := [vI x1, vI (-60), vI 60]) (L2 := [some (vI x0), some (vI x1), some (vI x2)]) (st2 := []) (h2 := q5.2) (v := some (vI q23.1)) (h1 := q23.2) (st3 := [vI q23.1]) zm_X10_canBeMark rfl rfl rfl rfl rfl zm_X10_within rfl (by omega) (ev_X10_within (by omega) hq) rfl ?_
      rcases ifc H with ⟨hc, H⟩ | ⟨hc, H⟩
      · refine zEv.iteT (L2 := [some (vI x0), some (vI x1), some (vI x2)]) (st2 := []) (h2 := q23.2) zm_X10_canBeMark rfl rfl rfl rfl (decide_eq_true hc) ?_
        exact ev_X10_canBeMark_42 (by omega)  H
      · refine zEv.iteF (L2 := [some (vI x0), some (vI x1), some (vI x2)]) (st2 := []) (h2 := q23.2) zm_X10_canBeMark rfl rfl rfl rfl (decide_eq_false hc) ?_
        exact ev_X10_canBeMark_29 (by omega)  H
def f_X10_addMark (x1 : Int32) (x2 : Int32) (x3 : Int32) (x4 : Int32) (x5 : Int32) (h : zM) : Option (Int32 × zM) := ((f_X10_placeAt x2 h).bind fun q2 => (if q2.1 = none then (some ((-1), q2.2)) else (if (rI q2.2 10 0 10) < 40 then (if (true && (true && (true && (true && (true && (true && (decide (rR q2.2 10 0 3 = (some (29, 0))) && true))))))) = true then ((f_X2_init (some (2, (cnM q2.2 2))) x1 x2 q2.1 (rI (nwM q2.2 2 10) 10 0 8) x3 x4 x5 (nwM q2.2 2 10)).bind fun q48 => (if (true && (true && (true && (true && (true && (true && (ixOk 40 (rI q2.2 10 0 10) && true))))))) = true then (some (((rI (wI (wR q48 29 0 (Int32.toNatClampNeg (rI q2.2 10 0 10)) (some (2, (cnM q2.2 2)))) 10 0 10 ((rI q48 10 0 10) + 1)) 10 0 10) - 1), (wI (wR q48 29 0 (Int32.toNatClampNeg (rI q2.2 10 0 10)) (some (2, (cnM q2.2 2)))) 10 0 10 ((rI q48 10 0 10) + 1)))) else none)) else none) else (some ((-1), q2.2)))))
set_option maxRecDepth 20000 in
theorem ev_X10_addMark {d : Nat} (hd : 2 ≤ d) {w6 : Option zV} {x1 : Int32} {x2 : Int32} {x3 : Int32} {x4 : Int32} {x5 : Int32} {h : zM} {r : Int32 × zM} (H : f_X10_addMark x1 x2 x3 x4 x5 h = some r) : zEv zmt d 114 0 ([some (vR (some (10, 0))), some (vI x1), some (vI x2), some (vI x3), some (vI x4), some (vI x5), w6], [], h, true) (some (vI r.1), r.2) := by
  obtain ⟨q2, hq, H⟩ := bnd H
  refine zEv.call (k := 103) (as := [vR (some (10, 0)), vI x2]) (L2 := [some (vR (some (10, 0))), some (vI x1), some (vI x2), some (vI x3), some (vI x4), some (vI x5), w6]) (st2 := []) (h2 := h) (v := some (vR q2.1)) (h1 := q2.2) (st3 := [vR q2.1]) zm_X10_addMark rfl rfl rfl rfl rfl zm_X10_placeAt rfl (by omega) (ev_X10_placeAt (by omega) hq) rfl ?_
  rcases ifc H with ⟨hc, H⟩ | ⟨hc, H⟩
  · refine zEv.iteT (L2 := [some (vR (some (10, 0))), some (vI x1), some (vI x2), some (vI x3), some (vI x4), some (vI x5), some (vR q2.1)]) (st2 := []) (h2 := q2.2) zm_X10_addMark rfl rfl rfl rfl (nnT hc) ?_
    cases H
    exact zEv.ret zm_X10_addMark rfl rfl rfl rfl
  · refine zEv.iteF (L2 := [some (vR (some (10, 0))), some (vI x1), some (vI x2), some (vI x3), some (vI x4), some (vI x5), some (vR q2.1)]) (st2 := []) (h2 := q2.2) zm_X10_addMark rfl rfl rfl rfl (nnF hc) ?_
    rcases ifc H with ⟨hc, H⟩ | ⟨hc, H⟩
    · refine zEv.iteT (L2 := [some (vR (some (10, 0))), some (vI x1), some (vI x2), some (vI x3), some (vI x4), some (vI x5), some (vR q2.1)]) (st2 := []) (h2 := q2.2) zm_X10_addMark rfl rfl rfl rfl (decide_eq_true hc) ?_
      obtain ⟨hg, H⟩ := ifg H
      obtain ⟨q48, hq, H⟩ := bnd H
      refine zEv.call (k := 18) (as := [vR (some (2, (cnM q2.2 2))), vI x1, vI x2, vR q2.1, vI (rI (nwM q2.2 2 10) 10 0 8), vI x3, vI x4, vI x5]) (L2 := [some (vR (some (10, 0))), some (vI x1), some (vI x2), some (vI x3), some (vI x4), some (vI x5), some (vR q2.1)]) (st2 := [vR (some (2, (cnM q2.2 2))), vI (rI q2.2 10 0 10), vR (some (29, 0))]) (h2 := (nwM q2.2 2 10)) (v := none) (h1 := q48) (st3 := [vR (some (2, (cnM q2.2 2))), vI (rI q2.2 10 0 10), vR (some (29, 0))]) zm_X10_addMark rfl (and2 (and2 hg).2).2 rfl hg rfl zm_X2_init rfl (by omega) (ev_X2_init (by omega) hq) rfl ?_
      obtain ⟨hg, H⟩ := ifg H
      cases H
      exact zEv.ret zm_X10_addMark rfl hg rfl hg
    · refine zEv.iteF (L2 := [some (vR (some (10, 0))), some (vI x1), some (vI x2), some (vI x3), some (vI x4), some (vI x5), some (vR q2.1)]) (st2 := []) (h2 := q2.2) zm_X10_addMark rfl rfl rfl rfl (decide_eq_false hc) ?_
      cases H
      exact zEv.ret zm_X10_addMark rfl rfl rfl rfl
def f_X10_mark (x1 : Int32) (x2 : Int32) (x3 : Int32) (x4 : Int32) (x5 : Int32) (h : zM) : Option (Int32 × zM) := ((f_X10_within x1 0 11 h).bind fun q4 => (if q4.1 = 0 then (some ((-1), q4.2)) else ((f_X10_placeAt x2 q4.2).bind fun q12 => (if q12.1 = none then (some ((-1), q12.2)) else ((f_X10_canBeMark x3 x4 x5 q12.2).bind fun q23 => (if ¬ q23.1 = 0 then (if (rI q23.2 10 0 10) < 40 then ((f_X10_addMark x1 x2 x3 x4 x5 q23.2).bind fun q51 => (some (q51.1, q51.2))) else (some ((-2), q23.2))) else (some ((-1), q23.2))))))))
set_option maxRecDepth 20000 in
theorem ev_X10_mark {d : Nat} (hd : 3 ≤ d) {x1 : Int32} {x2 : Int32} {x3 : Int32} {x4 : Int32} {x5 : Int32} {h : zM} {r : Int32 × zM} (H : f_X10_mark x1 x2 x3 x4 x5 h = some r) : zEv zmt d 66 0 ([some (vR (some (10, 0))), some (vI x1), some (vI x2), some (vI x3), some (vI x4), some (vI x5)], [], h, true) (some (vI r.1), r.2) := by
  obtain ⟨q4, hq, H⟩ := bnd H
  refine zEv.call (k := 100) (as := [vI x1, vI 0, vI 11]) (L2 := [some (vR (some (10, 0))), some (vI x1), some (vI x2), some (vI x3), some (vI x4), some (vI x5)]) (st2 := []) (h2 := h) (v := some (vI q4.1)) (h1 := q4.2) (st3 := [vI q4.1]) zm_X10_mark rfl rfl rfl rfl rfl zm_X10_within rfl (by omega) (ev_X10_within (by omega) hq) rfl ?_
  rcases ifc H with ⟨hc, H⟩ | ⟨hc, H⟩
  · refine zEv.iteT (L2 := [some (vR (some (10, 0))), some (vI x1), some (vI x2), some (vI x3), some (vI x4), some (vI x5)]) (st2 := []) (h2 := q4.2) zm_X10_mark rfl rfl rfl rfl (decide_eq_true hc) ?_
    cases H
    exact zEv.ret zm_X10_mark rfl rfl rfl rfl
  · refine zEv.iteF (L2 := [some (vR (some (10, 0))), some (vI x1), some (vI x2), some (vI x3), some (vI x4), some (vI x5)]) (st2 := []) (h2 := q4.2) zm_X10_mark rfl rfl rfl rfl (decide_eq_false hc) ?_
    obtain ⟨q12, hq, H⟩ := bnd H
    refine zEv.call (k := 103) (as := [vR (some (10, 0)), vI x2]) (L2 := [some (vR (some (10, 0))), some (vI x1), some (vI x2), some (vI x3), some (vI x4), some (vI x5)]) (st2 := []) (h2 := q4.2) (v := some (vR q12.1)) (h1 := q12.2) (st3 := [vR q12.1]) zm_X10_mark rfl rfl rfl rfl rfl zm_X10_placeAt rfl (by omega) (ev_X10_placeAt (by omega) hq) rfl ?_
    rcases ifc H with ⟨hc, H⟩ | ⟨hc, H⟩
    · refine zEv.iteT (L2 := [some (vR (some (10, 0))), some (vI x1), some (vI x2), some (vI x3), some (vI x4), some (vI x5)]) (st2 := []) (h2 := q12.2) zm_X10_mark rfl rfl rfl rfl (nnT hc) ?_
      cases H
      exact zEv.ret zm_X10_mark rfl rfl rfl rfl
    · refine zEv.iteF (L2 := [some (vR (some (10, 0))), some (vI x1), some (vI x2), some (vI x3), some (vI x4), some (vI x5)]) (st2 := []) (h2 := q12.2) zm_X10_mark rfl rfl rfl rfl (nnF hc) ?_
      obtain ⟨q23, hq, H⟩ := bnd H
      refine zEv.call (k := 113) (as := [vI x3, vI x4, vI x5]) (L2 := [some (vR (some (10, 0))), some (vI x1), some (vI x2), some (vI x3), some (vI x4), some (vI x5)]) (st2 := []) (h2 := q12.2) (v := some (vI q23.1)) (h1 := q23.2) (st3 := [vI q23.1]) zm_X10_mark rfl rfl rfl rfl rfl zm_X10_canBeMark rfl (by omega) (ev_X10_canBeMark (by omega) hq) rfl ?_
      rcases ifc H with ⟨hc, H⟩ | ⟨hc, H⟩
      · refine zEv.iteT (L2 := [some (vR (some (10, 0))), some (vI x1), some (vI x2), some (vI x3), some (vI x4), some (vI x5)]) (st2 := []) (h2 := q23.2) zm_X10_mark rfl rfl rfl rfl (decide_eq_true hc) ?_
        rcases ifc H with ⟨hc, H⟩ | ⟨hc, H⟩
        · refine zEv.iteT (L2 := [some (vR (some (10, 0))), some (vI x1), some (vI x2), some (vI x3), some (vI x4), some (vI x5)]) (st2 := []) (h2 := q23.2) zm_X10_mark rfl rfl rfl rfl (decide_eq_true hc) ?_
          obtain ⟨q51, hq, H⟩ := bnd H
          refine zEv.call (k := 114) (as := [vR (some (10, 0)), vI x1, vI x2, vI x3, vI x4, vI x5]) (L2 := [some (vR (some (10, 0))), some (vI x1), some (vI x2), some (vI x3), some (vI x4), some (vI x5)]) (st2 := []) (h2 := q23.2) (v := some (vI q51.1)) (h1 := q51.2) (st3 := [vI q51.1]) zm_X10_mark rfl rfl rfl rfl rfl zm_X10_addMark rfl (by omega) (ev_X10_addMark (by omega) hq) rfl ?_
          cases H
          exact zEv.ret zm_X10_mark rfl rfl rfl rfl
        · refine zEv.iteF (L2 := [some (vR (some (10, 0))), some (vI x1), some (vI x2), some (vI x3), some (vI x4), some (vI x5)]) (st2 := []) (h2 := q23.2) zm_X10_mark rfl rfl rfl rfl (decide_eq_false hc) ?_
          cases H
          exact zEv.ret zm_X10_mark rfl rfl rfl rfl
      · refine zEv.iteF (L2 := [some (vR (some (10, 0))), some (vI x1), some (vI x2), some (vI x3), some (vI x4), some (vI x5)]) (st2 := []) (h2 := q23.2) zm_X10_mark rfl rfl rfl rfl (decide_eq_false hc) ?_
        cases H
        exact zEv.ret zm_X10_mark rfl rfl rfl rfl
def f_X10_marks_146 : Nat → Int32 → Int32 → zR → Int32 → zM → Option (Int32 × zM)
  | 0 => fun _ _ _ _ _ => none
  | k + 1 => fun x1 x2 x4 x5 h => (if (memN [6] (clR x4) && true) = true then (if (rI h (clR x4) (ixR x4) 0) ≤ (x5 + 2) then (if (true && (memN [6] (clR x4) && true)) = true then (some (((rI h (clR x4) (ixR x4) 0) / 3), h)) else none) else (if (true && (true && (true && (ixOk 40 (x5 + 2) && (memN [6] (clR x4) && (decide (rR h (clR x4) (ixR x4) 1 = (some (24, (ixR x4)))) && (true && (ixOk 40 (x5 + 1) && (memN [6] (clR x4) && (decide (rR h (clR x4) (ixR x4) 1 = (some (24, (ixR x4)))) && (true && (ixOk 40 x5 && (memN [6] (clR x4) && (decide (rR h (clR x4) (ixR x4) 1 = (some (24, (ixR x4)))) && true)))))))))))))) = true then ((f_X10_addMark x1 x2 (rI h 24 (ixR x4) (Int32.toNatClampNeg x5)) (rI h 24 (ixR x4) (Int32.toNatClampNeg (x5 + 1))) (rI h 24 (ixR x4) (Int32.toNatClampNeg (x5 + 2))) h).bind fun q189 => (f_X10_marks_146 k x1 x2 x4 (x5 + 3) q189.2)) else none)) else none)
set_option maxRecDepth 20000 in
theorem ev_X10_marks_146 {d : Nat} (hd : 3 ≤ d) : ∀ (k : Nat) {w3 : Option zV} {x1 : Int32} {x2 : Int32} {x4 : zR} {x5 : Int32} {h : zM} {r : Int32 × zM}, f_X10_marks_146 k x1 x2 x4 x5 h = some r → zEv zmt d 67 146 ([some (vR (some (10, 0))), some (vI x1), some (vI x2), w3, some (vR x4), some (vI x5)], [], h, true) (some (vI r.1), r.2) := by
  intro k
  induction k with
  | zero => intro w3 x1 x2 x4 x5 h r H; cases H
  | succ k ih =>
    intro w3 x1 x2 x4 x5 h r H
    obtain ⟨hg, H⟩ := ifg H
    rcases ifc H with ⟨hc, H⟩ | ⟨hc, H⟩
    · refine zEv.iteT (L2 := [some (vR (some (10, 0))), some (vI x1), some (vI x2), w3, some (vR x4), some (vI x5)]) (st2 := []) (h2 := h) zm_X10_marks rfl hg rfl hg (decide_eq_true hc) ?_
      obtain ⟨hg, H⟩ := ifg H
      cases H
      exact zEv.ret zm_X10_marks rfl hg rfl hg
    · refine zEv.iteF (L2 := [some (vR (some (10, 0))), some (vI x1), some (vI x2), w3, some (vR x4), some (vI x5)]) (st2 := []) (h2 := h) zm_X10_marks rfl hg rfl hg (decide_eq_false hc) ?_
      obtain ⟨hg, H⟩ := ifg H
      obtain ⟨q189, hq, H⟩ := bnd H
      refine zEv.call (k := 114) (as := [vR (some (10, 0)), vI x1, vI x2, vI (rI h 24 (ixR x4) (Int32.toNatClampNeg x5)), vI (rI h 24 (ixR x4) (Int32.toNatClampNeg (x5 + 1))), vI (rI h 24 (ixR x4) (Int32.toNatClampNeg (x5 + 2)))]) (L2 := [some (vR (some (10, 0))), some (vI x1), some (vI x2), w3, some (vR x4), some (vI x5)]) (st2 := []) (h2 := h) (v := some (vI q189.1)) (h1 := q189.2) (st3 := [vI q189.1]) zm_X10_marks rfl (and2 (and2 hg).2).2 rfl hg rfl zm_X10_addMark rfl (by omega) (ev_X10_addMark (by omega) hq) rfl ?_
      refine zEv.loc (L2 := [some (vR (some (10, 0))), some (vI x1), some (vI x2), w3, some (vR x4), some (vI (x5 + 3))]) (st2 := []) (h2 := q189.2) zm_X10_marks rfl rfl rfl rfl (fun h => (nomatch h)) ?_
      exact ih H
def f_X10_marks_85 : Nat → Int32 → Int32 → zR → Int32 → zM → Option (Int32 × zM)
  | 0 => fun _ _ _ _ _ => none
  | k + 1 => fun x1 x2 x4 x5 h => (if (memN [6] (clR x4) && true) = true then (if (rI h (clR x4) (ixR x4) 0) ≤ (x5 + 2) then (f_X10_marks_146  1000 x1 x2 x4 0 h) else (if (true && (true && (ixOk 40 (x5 + 2) && (memN [6] (clR x4) && (decide (rR h (clR x4) (ixR x4) 1 = (some (24, (ixR x4)))) && (true && (ixOk 40 (x5 + 1) && (memN [6] (clR x4) && (decide (rR h (clR x4) (ixR x4) 1 = (some (24, (ixR x4)))) && (true && (ixOk 40 x5 && (memN [6] (clR x4) && (decide (rR h (clR x4) (ixR x4) 1 = (some (24, (ixR x4)))) && true))))))))))))) = true then ((f_X10_canBeMark (rI h 24 (ixR x4) (Int32.toNatClampNeg x5)) (rI h 24 (ixR x4) (Int32.toNatClampNeg (x5 + 1))) (rI h 24 (ixR x4) (Int32.toNatClampNeg (x5 + 2))) h).bind fun q125 => (if ¬ q125.1 = 0 then (f_X10_marks_85 k x1 x2 x4 (x5 + 3) q125.2) else ((f_X10_found 3 q125.2).bind fun q133 => (some (q133.1, q133.2))))) else none)) else none)
set_option maxRecDepth 20000 in
theorem ev_X10_marks_85 {d : Nat} (hd : 3 ≤ d) : ∀ (k : Nat) {w3 : Option zV} {x1 : Int32} {x2 : Int32} {x4 : zR} {x5 : Int32} {h : zM} {r : Int32 × zM}, f_X10_marks_85 k x1 x2 x4 x5 h = some r → zEv zmt d 67 85 ([some (vR (some (10, 0))), some (vI x1), some (vI x2), w3, some (vR x4), some (vI x5)], [], h, true) (some (vI r.1), r.2) := by
  intro k
  induction k with
  | zero => intro w3 x1 x2 x4 x5 h r H; cases H
  | succ k ih =>
    intro w3 x1 x2 x4 x5 h r H
    obtain ⟨hg, H⟩ := ifg H
    rcases ifc H with ⟨hc, H⟩ | ⟨hc, H⟩
    · refine zEv.iteT (L2 := [some (vR (some (10, 0))), some (vI x1), some (vI x2), w3, some (vR x4), some (vI x5)]) (st2 := []) (h2 := h) zm_X10_marks rfl hg rfl hg (decide_eq_true hc) ?_
      refine zEv.loc (L2 := [some (vR (some (10, 0))), some (vI x1), some (vI x2), w3, some (vR x4), some (vI 0)]) (st2 := []) (h2 := h) zm_X10_marks rfl rfl rfl rfl (fun h => (nomatch h)) ?_
      exact ev_X10_marks_146 (by omega)  1000 H
    · refine zEv.iteF (L2 := [some (vR (some (10, 0))), some (vI x1), some (vI x2), w3, some (vR x4), some (vI x5)]) (st2 := []) (h2 := h) zm_X10_marks rfl hg rfl hg (decide_eq_false hc) ?_
      obtain ⟨hg, H⟩ := ifg H
      obtain ⟨q125, hq, H⟩ := bnd H
      refine zEv.call (k := 113) (as := [vI (rI h 24 (ixR x4) (Int32.toNatClampNeg x5)), vI (rI h 24 (ixR x4) (Int32.toNatClampNeg (x5 + 1))), vI (rI h 24 (ixR x4) (Int32.toNatClampNeg (x5 + 2)))]) (L2 := [some (vR (some (10, 0))), some (vI x1), some (vI x2), w3, some (vR x4), some (vI x5)]) (st2 := []) (h2 := h) (v := some (vI q125.1)) (h1 := q125.2) (st3 := [vI q125.1]) zm_X10_marks rfl (and2 hg).2 rfl hg rfl zm_X10_canBeMark rfl (by omega) (ev_X10_canBeMark (by omega) hq) rfl ?_
      rcases ifc H with ⟨hc, H⟩ | ⟨hc, H⟩
      · refine zEv.iteT (L2 := [some (vR (some (10, 0))), some (vI x1), some (vI x2), w3, some (vR x4), some (vI x5)]) (st2 := []) (h2 := q125.2) zm_X10_marks rfl rfl rfl rfl (decide_eq_true hc) ?_
        refine zEv.loc (L2 := [some (vR (some (10, 0))), some (vI x1), some (vI x2), w3, some (vR x4), some (vI (x5 + 3))]) (st2 := []) (h2 := q125.2) zm_X10_marks rfl rfl rfl rfl (fun h => (nomatch h)) ?_
        exact ih H
      · refine zEv.iteF (L2 := [some (vR (some (10, 0))), some (vI x1), some (vI x2), w3, some (vR x4), some (vI x5)]) (st2 := []) (h2 := q125.2) zm_X10_marks rfl rfl rfl rfl (decide_eq_false hc) ?_
        obtain ⟨q133, hq, H⟩ := bnd H
        refine zEv.call (k := 105) (as := [vR (some (10, 0)), vI 3]) (L2 := [some (vR (some (10, 0))), some (vI x1), some (vI x2), w3, some (vR x4), some (vI x5)]) (st2 := []) (h2 := q125.2) (v := some (vI q133.1)) (h1 := q133.2) (st3 := [vI q133.1]) zm_X10_marks rfl rfl rfl rfl rfl zm_X10_found rfl (by omega) (ev_X10_found (by omega) hq) rfl ?_
        cases H
        exact zEv.ret zm_X10_marks rfl rfl rfl rfl
def f_X10_marks (x1 : Int32) (x2 : Int32) (x3 : Int32) (h : zM) : Option (Int32 × zM) := ((f_X10_rowAt x3 h).bind fun q2 => ((f_X10_within x1 0 11 q2.2).bind fun q11 => (if q11.1 = 0 then (some ((-1), q11.2)) else ((f_X10_placeAt x2 q11.2).bind fun q19 => (if q19.1 = none then (some ((-1), q19.2)) else (if q2.1 = none then (some ((-1), q19.2)) else (if (memN [6] (clR q2.1) && (true && true)) = true then ((f_X8_isMissing q2.1 q19.2).bind fun q34 => (if q34.1 = 0 then (if (true && (memN [6] (clR q2.1) && true)) = true then (if ((rI q34.2 (clR q2.1) (ixR q2.1) 0) - (rI q34.2 (clR q2.1) (ixR q2.1) 0) / 3 * 3) = 0 then (if (true && (true && (memN [6] (clR q2.1) && true))) = true then (if ((rI q34.2 (clR q2.1) (ixR q2.1) 0) / 3) ≤ (40 - (rI q34.2 10 0 10)) then (f_X10_marks_85  1000 x1 x2 q2.1 0 q34.2) else (some ((-2), q34.2))) else none) else ((f_X10_found 5 q34.2).bind fun q58 => (some (q58.1, q58.2)))) else none) else ((f_X10_found 1 q34.2).bind fun q42 => (some (q42.1, q42.2))))) else none)))))))
set_option maxRecDepth 20000 in
theorem ev_X10_marks {d : Nat} (hd : 3 ≤ d) {w4 : Option zV} {w5 : Option zV} {x1 : Int32} {x2 : Int32} {x3 : Int32} {h : zM} {r : Int32 × zM} (H : f_X10_marks x1 x2 x3 h = some r) : zEv zmt d 67 0 ([some (vR (some (10, 0))), some (vI x1), some (vI x2), some (vI x3), w4, w5], [], h, true) (some (vI r.1), r.2) := by
  obtain ⟨q2, hq, H⟩ := bnd H
  refine zEv.call (k := 101) (as := [vR (some (10, 0)), vI x3]) (L2 := [some (vR (some (10, 0))), some (vI x1), some (vI x2), some (vI x3), w4, w5]) (st2 := []) (h2 := h) (v := some (vR q2.1)) (h1 := q2.2) (st3 := [vR q2.1]) zm_X10_marks rfl rfl rfl rfl rfl zm_X10_rowAt rfl (by omega) (ev_X10_rowAt (by omega) hq) rfl ?_
  obtain ⟨q11, hq, H⟩ := bnd H
  refine zEv.call (k := 100) (as := [vI x1, vI 0, vI 11]) (L2 := [some (vR (some (10, 0))), some (vI x1), some (vI x2), none, some (vR q2.1), w5]) (st2 := []) (h2 := q2.2) (v := some (vI q11.1)) (h1 := q11.2) (st3 := [vI q11.1]) zm_X10_marks rfl rfl rfl rfl rfl zm_X10_within rfl (by omega) (ev_X10_within (by omega) hq) rfl ?_
  rcases ifc H with ⟨hc, H⟩ | ⟨hc, H⟩
  · refine zEv.iteT (L2 := [some (vR (some (10, 0))), some (vI x1), some (vI x2), none, some (vR q2.1), w5]) (st2 := []) (h2 := q11.2) zm_X10_marks rfl rfl rfl rfl (decide_eq_true hc) ?_
    cases H
    exact zEv.ret zm_X10_marks rfl rfl rfl rfl
  · refine zEv.iteF (L2 := [some (vR (some (10, 0))), some (vI x1), some (vI x2), none, some (vR q2.1), w5]) (st2 := []) (h2 := q11.2) zm_X10_marks rfl rfl rfl rfl (decide_eq_false hc) ?_
    obtain ⟨q19, hq, H⟩ := bnd H
    refine zEv.call (k := 103) (as := [vR (some (10, 0)), vI x2]) (L2 := [some (vR (some (10, 0))), some (vI x1), some (vI x2), none, some (vR q2.1), w5]) (st2 := []) (h2 := q11.2) (v := some (vR q19.1)) (h1 := q19.2) (st3 := [vR q19.1]) zm_X10_marks rfl rfl rfl rfl rfl zm_X10_placeAt rfl (by omega) (ev_X10_placeAt (by omega) hq) rfl ?_
    rcases ifc H with ⟨hc, H⟩ | ⟨hc, H⟩
    · refine zEv.iteT (L2 := [some (vR (some (10, 0))), some (vI x1), some (vI x2), none, some (vR q2.1), w5]) (st2 := []) (h2 := q19.2) zm_X10_marks rfl rfl rfl rfl (nnT hc) ?_
      cases H
      exact zEv.ret zm_X10_marks rfl rfl rfl rfl
    · refine zEv.iteF (L2 := [some (vR (some (10, 0))), some (vI x1), some (vI x2), none, some (vR q2.1), w5]) (st2 := []) (h2 := q19.2) zm_X10_marks rfl rfl rfl rfl (nnF hc) ?_
      rcases ifc H with ⟨hc, H⟩ | ⟨hc, H⟩
      · refine zEv.iteT (L2 := [some (vR (some (10, 0))), some (vI x1), some (vI x2), none, some (vR q2.1), w5]) (st2 := []) (h2 := q19.2) zm_X10_marks rfl rfl rfl rfl (nnT hc) ?_
        cases H
        exact zEv.ret zm_X10_marks rfl rfl rfl rfl
      · refine zEv.iteF (L2 := [some (vR (some (10, 0))), some (vI x1), some (vI x2), none, some (vR q2.1), w5]) (st2 := []) (h2 := q19.2) zm_X10_marks rfl rfl rfl rfl (nnF hc) ?_
        obtain ⟨hg, H⟩ := ifg H
        obtain ⟨q34, hq, H⟩ := bnd H
        refine zEv.call (k := 49) (as := [vR q2.1]) (L2 := [some (vR (some (10, 0))), some (vI x1), some (vI x2), none, some (vR q2.1), w5]) (st2 := []) (h2 := q19.2) (v := some (vI q34.1)) (h1 := q34.2) (st3 := [vI q34.1]) zm_X10_marks rfl (and2 (and2 hg).2).2 rfl hg rfl zm_X8_isMissing rfl (by omega) (ev_X8_isMissing (by omega) hq) rfl ?_
        rcases ifc H with ⟨hc, H⟩ | ⟨hc, H⟩
        · refine zEv.iteT (L2 := [some (vR (some (10, 0))), some (vI x1), some (vI x2), none, some (vR q2.1), w5]) (st2 := []) (h2 := q34.2) zm_X10_marks rfl rfl rfl rfl (decide_eq_true hc) ?_
          obtain ⟨hg, H⟩ := ifg H
          rcases ifc H with ⟨hc, H⟩ | ⟨hc, H⟩
          · refine zEv.iteT (L2 := [some (vR (some (10, 0))), some (vI x1), some (vI x2), none, some (vR q2.1), w5]) (st2 := []) (h2 := q34.2) zm_X10_marks rfl hg rfl hg (decide_eq_true hc) ?_
            obtain ⟨hg, H⟩ := ifg H
            rcases ifc H with ⟨hc, H⟩ | ⟨hc, H⟩
            · refine zEv.iteT (L2 := [some (vR (some (10, 0))), some (vI x1), some (vI x2), none, some (vR q2.1), w5]) (st2 := []) (h2 := q34.2) zm_X10_marks rfl hg rfl hg (decide_eq_true hc) ?_
              refine zEv.loc (L2 := [some (vR (some (10, 0))), some (vI x1), some (vI x2), none, some (vR q2.1), some (vI 0)]) (st2 := []) (h2 := q34.2) zm_X10_marks rfl rfl rfl rfl (fun h => (nomatch h)) ?_
              exact ev_X10_marks_85 (by omega)  1000 H
            · refine zEv.iteF (L2 := [some (vR (some (10, 0))), some (vI x1), some (vI x2), none, some (vR q2.1), w5]) (st2 := []) (h2 := q34.2) zm_X10_marks rfl hg rfl hg (decide_eq_false hc) ?_
              cases H
              exact zEv.ret zm_X10_marks rfl rfl rfl rfl
          · refine zEv.iteF (L2 := [some (vR (some (10, 0))), some (vI x1), some (vI x2), none, some (vR q2.1), w5]) (st2 := []) (h2 := q34.2) zm_X10_marks rfl hg rfl hg (decide_eq_false hc) ?_
            obtain ⟨q58, hq, H⟩ := bnd H
            refine zEv.call (k := 105) (as := [vR (some (10, 0)), vI 5]) (L2 := [some (vR (some (10, 0))), some (vI x1), some (vI x2), none, some (vR q2.1), w5]) (st2 := []) (h2 := q34.2) (v := some (vI q58.1)) (h1 := q58.2) (st3 := [vI q58.1]) zm_X10_marks rfl rfl rfl rfl rfl zm_X10_found rfl (by omega) (ev_X10_found (by omega) hq) rfl ?_
            cases H
            exact zEv.ret zm_X10_marks rfl rfl rfl rfl
        · refine zEv.iteF (L2 := [some (vR (some (10, 0))), some (vI x1), some (vI x2), none, some (vR q2.1), w5]) (st2 := []) (h2 := q34.2) zm_X10_marks rfl rfl rfl rfl (decide_eq_false hc) ?_
          obtain ⟨q42, hq, H⟩ := bnd H
          refine zEv.call (k := 105) (as := [vR (some (10, 0)), vI 1]) (L2 := [some (vR (some (10, 0))), some (vI x1), some (vI x2), none, some (vR q2.1), w5]) (st2 := []) (h2 := q34.2) (v := some (vI q42.1)) (h1 := q42.2) (st3 := [vI q42.1]) zm_X10_marks rfl rfl rfl rfl rfl zm_X10_found rfl (by omega) (ev_X10_found (by omega) hq) rfl ?_
          cases H
          exact zEv.ret zm_X10_marks rfl rfl rfl rfl
def f_X10_markAt (x1 : Int32) (h : zM) : Option (zR × zM) := ((f_X10_within x1 0 ((rI h 10 0 10) - 1) h).bind fun q8 => (if q8.1 = 0 then (some (none, q8.2)) else (if (true && (ixOk 40 x1 && (true && (decide (rR q8.2 10 0 3 = (some (29, 0))) && true)))) = true then (some ((rR q8.2 29 0 (Int32.toNatClampNeg x1)), q8.2)) else none)))
set_option maxRecDepth 20000 in
theorem ev_X10_markAt {d : Nat} (hd : 1 ≤ d) {x1 : Int32} {h : zM} {r : zR × zM} (H : f_X10_markAt x1 h = some r) : zEv zmt d 104 0 ([some (vR (some (10, 0))), some (vI x1)], [], h, true) (some (vR r.1), r.2) := by
  obtain ⟨q8, hq, H⟩ := bnd H
  refine zEv.call (k := 100) (as := [vI x1, vI 0, vI ((rI h 10 0 10) - 1)]) (L2 := [some (vR (some (10, 0))), some (vI x1)]) (st2 := []) (h2 := h) (v := some (vI q8.1)) (h1 := q8.2) (st3 := [vI q8.1]) zm_X10_markAt rfl rfl rfl rfl rfl zm_X10_within rfl (by omega) (ev_X10_within (by omega) hq) rfl ?_
  rcases ifc H with ⟨hc, H⟩ | ⟨hc, H⟩
  · refine zEv.iteT (L2 := [some (vR (some (10, 0))), some (vI x1)]) (st2 := []) (h2 := q8.2) zm_X10_markAt rfl rfl rfl rfl (decide_eq_true hc) ?_
    refine zEv.loc (L2 := [some (vR (some (10, 0))), some (vI x1)]) (st2 := [vR none]) (h2 := q8.2) zm_X10_markAt rfl rfl rfl rfl (fun h => (nomatch h)) ?_
    cases H
    exact zEv.ret zm_X10_markAt rfl rfl rfl rfl
  · refine zEv.iteF (L2 := [some (vR (some (10, 0))), some (vI x1)]) (st2 := []) (h2 := q8.2) zm_X10_markAt rfl rfl rfl rfl (decide_eq_false hc) ?_
    obtain ⟨hg, H⟩ := ifg H
    refine zEv.loc (L2 := [some (vR (some (10, 0))), some (vI x1)]) (st2 := [vR (rR q8.2 29 0 (Int32.toNatClampNeg x1))]) (h2 := q8.2) zm_X10_markAt rfl hg rfl hg (fun h => (nomatch h)) ?_
    cases H
    exact zEv.ret zm_X10_markAt rfl rfl rfl rfl
def f_X10_becomes (x1 : Int32) (x2 : Int32) (x3 : Int32) (x4 : Int32) (h : zM) : Option (Int32 × zM) := ((f_X10_markAt x1 h).bind fun q2 => (if q2.1 = none then (some ((-1), q2.2)) else ((f_X10_within x3 1 999 q2.2).bind fun q17 => (if ¬ q17.1 = 0 then (if (memN [2] (clR q2.1) && true) = true then (if (rI q17.2 (clR q2.1) (ixR q2.1) 7) = 0 then (if (memN [2] (clR q2.1) && (true && true)) = true then ((f_X2_turnInto q2.1 x2 x3 x4 q17.2).bind fun q45 => (some (1, q45))) else none) else ((f_X10_found 3 q17.2).bind fun q35 => (some (q35.1, q35.2)))) else none) else (some ((-1), q17.2))))))
set_option maxRecDepth 20000 in
theorem ev_X10_becomes {d : Nat} (hd : 2 ≤ d) {w5 : Option zV} {x1 : Int32} {x2 : Int32} {x3 : Int32} {x4 : Int32} {h : zM} {r : Int32 × zM} (H : f_X10_becomes x1 x2 x3 x4 h = some r) : zEv zmt d 115 0 ([some (vR (some (10, 0))), some (vI x1), some (vI x2), some (vI x3), some (vI x4), w5], [], h, true) (some (vI r.1), r.2) := by
  obtain ⟨q2, hq, H⟩ := bnd H
  refine zEv.call (k := 104) (as := [vR (some (10, 0)), vI x1]) (L2 := [some (vR (some (10, 0))), some (vI x1), some (vI x2), some (vI x3), some (vI x4), w5]) (st2 := []) (h2 := h) (v := some (vR q2.1)) (h1 := q2.2) (st3 := [vR q2.1]) zm_X10_becomes rfl rfl rfl rfl rfl zm_X10_markAt rfl (by omega) (ev_X10_markAt (by omega) hq) rfl ?_
  rcases ifc H with ⟨hc, H⟩ | ⟨hc, H⟩
  · refine zEv.iteT (L2 := [some (vR (some (10, 0))), some (vI x1), some (vI x2), some (vI x3), some (vI x4), some (vR q2.1)]) (st2 := []) (h2 := q2.2) zm_X10_becomes rfl rfl rfl rfl (nnT hc) ?_
    cases H
    exact zEv.ret zm_X10_becomes rfl rfl rfl rfl
  · refine zEv.iteF (L2 := [some (vR (some (10, 0))), some (vI x1), some (vI x2), some (vI x3), some (vI x4), some (vR q2.1)]) (st2 := []) (h2 := q2.2) zm_X10_becomes rfl rfl rfl rfl (nnF hc) ?_
    obtain ⟨q17, hq, H⟩ := bnd H
    refine zEv.call (k := 100) (as := [vI x3, vI 1, vI 999]) (L2 := [some (vR (some (10, 0))), some (vI x1), some (vI x2), some (vI x3), some (vI x4), some (vR q2.1)]) (st2 := []) (h2 := q2.2) (v := some (vI q17.1)) (h1 := q17.2) (st3 := [vI q17.1]) zm_X10_becomes rfl rfl rfl rfl rfl zm_X10_within rfl (by omega) (ev_X10_within (by omega) hq) rfl ?_
    rcases ifc H with ⟨hc, H⟩ | ⟨hc, H⟩
    · refine zEv.iteT (L2 := [some (vR (some (10, 0))), some (vI x1), some (vI x2), some (vI x3), some (vI x4), some (vR q2.1)]) (st2 := []) (h2 := q17.2) zm_X10_becomes rfl rfl rfl rfl (decide_eq_true hc) ?_
      obtain ⟨hg, H⟩ := ifg H
      rcases ifc H with ⟨hc, H⟩ | ⟨hc, H⟩
      · refine zEv.iteT (L2 := [some (vR (some (10, 0))), some (vI x1), some (vI x2), some (vI x3), some (vI x4), some (vR q2.1)]) (st2 := []) (h2 := q17.2) zm_X10_becomes rfl hg rfl hg (decide_eq_true hc) ?_
        obtain ⟨hg, H⟩ := ifg H
        obtain ⟨q45, hq, H⟩ := bnd H
        refine zEv.call (k := 19) (as := [vR q2.1, vI x2, vI x3, vI x4]) (L2 := [some (vR (some (10, 0))), some (vI x1), some (vI x2), some (vI x3), some (vI x4), some (vR q2.1)]) (st2 := []) (h2 := q17.2) (v := none) (h1 := q45) (st3 := []) zm_X10_becomes rfl (and2 (and2 hg).2).2 rfl hg rfl zm_X2_turnInto rfl (by omega) (ev_X2_turnInto (by omega) hq) rfl ?_
        cases H
        exact zEv.ret zm_X10_becomes rfl rfl rfl rfl
      · refine zEv.iteF (L2 := [some (vR (some (10, 0))), some (vI x1), some (vI x2), some (vI x3), some (vI x4), some (vR q2.1)]) (st2 := []) (h2 := q17.2) zm_X10_becomes rfl hg rfl hg (decide_eq_false hc) ?_
        obtain ⟨q35, hq, H⟩ := bnd H
        refine zEv.call (k := 105) (as := [vR (some (10, 0)), vI 3]) (L2 := [some (vR (some (10, 0))), some (vI x1), some (vI x2), some (vI x3), some (vI x4), some (vR q2.1)]) (st2 := []) (h2 := q17.2) (v := some (vI q35.1)) (h1 := q35.2) (st3 := [vI q35.1]) zm_X10_becomes rfl rfl rfl rfl rfl zm_X10_found rfl (by omega) (ev_X10_found (by omega) hq) rfl ?_
        cases H
        exact zEv.ret zm_X10_becomes rfl rfl rfl rfl
    · refine zEv.iteF (L2 := [some (vR (some (10, 0))), some (vI x1), some (vI x2), some (vI x3), some (vI x4), some (vR q2.1)]) (st2 := []) (h2 := q17.2) zm_X10_becomes rfl rfl rfl rfl (decide_eq_false hc) ?_
      cases H
      exact zEv.ret zm_X10_becomes rfl rfl rfl rfl
def f_X10_help (x1 : Int32) (x2 : Int32) (x3 : Int32) (h : zM) : Option (Int32 × zM) := (if ¬ x3 = (-9999) then ((f_X10_within x3 0 5 h).bind fun q19 => (if q19.1 = 0 then (some ((-1), q19.2)) else ((f_X10_becomes x1 2 x2 x3 q19.2).bind fun q30 => (some (q30.1, q30.2))))) else ((f_X10_becomes x1 1 x2 x2 h).bind fun q12 => (some (q12.1, q12.2))))
set_option maxRecDepth 20000 in
theorem ev_X10_help {d : Nat} (hd : 3 ≤ d) {x1 : Int32} {x2 : Int32} {x3 : Int32} {h : zM} {r : Int32 × zM} (H : f_X10_help x1 x2 x3 h = some r) : zEv zmt d 68 0 ([some (vR (some (10, 0))), some (vI x1), some (vI x2), some (vI x3)], [], h, true) (some (vI r.1), r.2) := by
  rcases ifc H with ⟨hc, H⟩ | ⟨hc, H⟩
  · refine zEv.iteT (L2 := [some (vR (some (10, 0))), some (vI x1), some (vI x2), some (vI x3)]) (st2 := []) (h2 := h) zm_X10_help rfl rfl rfl rfl (decide_eq_true hc) ?_
    obtain ⟨q19, hq, H⟩ := bnd H
    refine zEv.call (k := 100) (as := [vI x3, vI 0, vI 5]) (L2 := [some (vR (some (10, 0))), some (vI x1), some (vI x2), some (vI x3)]) (st2 := []) (h2 := h) (v := some (vI q19.1)) (h1 := q19.2) (st3 := [vI q19.1]) zm_X10_help rfl rfl rfl rfl rfl zm_X10_within rfl (by omega) (ev_X10_within (by omega) hq) rfl ?_
    rcases ifc H with ⟨hc, H⟩ | ⟨hc, H⟩
    · refine zEv.iteT (L2 := [some (vR (some (10, 0))), some (vI x1), some (vI x2), some (vI x3)]) (st2 := []) (h2 := q19.2) zm_X10_help rfl rfl rfl rfl (decide_eq_true hc) ?_
      refine zEv.loc (L2 := [some (vR (some (10, 0))), some (vI x1), some (vI x2), some (vI x3)]) (st2 := [vI (-1)]) (h2 := q19.2) zm_X10_help rfl rfl rfl rfl (fun h => (nomatch h)) ?_
      cases H
      exact zEv.ret zm_X10_help rfl rfl rfl rfl
    · refine zEv.iteF (L2 := [some (vR (some (10, 0))), some (vI x1), some (vI x2), some (vI x3)]) (st2 := []) (h2 := q19.2) zm_X10_help rfl rfl rfl rfl (decide_eq_false hc) ?_
      obtain ⟨q30, hq, H⟩ := bnd H
      refine zEv.call (k := 115) (as := [vR (some (10, 0)), vI x1, vI 2, vI x2, vI x3]) (L2 := [some (vR (some (10, 0))), some (vI x1), some (vI x2), some (vI x3)]) (st2 := []) (h2 := q19.2) (v := some (vI q30.1)) (h1 := q30.2) (st3 := [vI q30.1]) zm_X10_help rfl rfl rfl rfl rfl zm_X10_becomes rfl (by omega) (ev_X10_becomes (by omega) hq) rfl ?_
      refine zEv.loc (L2 := [some (vR (some (10, 0))), some (vI x1), some (vI x2), some (vI x3)]) (st2 := [vI q30.1]) (h2 := q30.2) zm_X10_help rfl rfl rfl rfl (fun h => (nomatch h)) ?_
      cases H
      exact zEv.ret zm_X10_help rfl rfl rfl rfl
  · refine zEv.iteF (L2 := [some (vR (some (10, 0))), some (vI x1), some (vI x2), some (vI x3)]) (st2 := []) (h2 := h) zm_X10_help rfl rfl rfl rfl (decide_eq_false hc) ?_
    obtain ⟨q12, hq, H⟩ := bnd H
    refine zEv.call (k := 115) (as := [vR (some (10, 0)), vI x1, vI 1, vI x2, vI x2]) (L2 := [some (vR (some (10, 0))), some (vI x1), some (vI x2), some (vI x3)]) (st2 := []) (h2 := h) (v := some (vI q12.1)) (h1 := q12.2) (st3 := [vI q12.1]) zm_X10_help rfl rfl rfl rfl rfl zm_X10_becomes rfl (by omega) (ev_X10_becomes (by omega) hq) rfl ?_
    cases H
    exact zEv.ret zm_X10_help rfl rfl rfl rfl
def f_X10_paper (x1 : Int32) (x2 : Int32) (h : zM) : Option (Int32 × zM) := ((f_X10_becomes x1 3 x2 (rI h 10 0 8) h).bind fun q8 => (some (q8.1, q8.2)))
set_option maxRecDepth 20000 in
theorem ev_X10_paper {d : Nat} (hd : 3 ≤ d) {x1 : Int32} {x2 : Int32} {h : zM} {r : Int32 × zM} (H : f_X10_paper x1 x2 h = some r) : zEv zmt d 69 0 ([some (vR (some (10, 0))), some (vI x1), some (vI x2)], [], h, true) (some (vI r.1), r.2) := by
  obtain ⟨q8, hq, H⟩ := bnd H
  refine zEv.call (k := 115) (as := [vR (some (10, 0)), vI x1, vI 3, vI x2, vI (rI h 10 0 8)]) (L2 := [some (vR (some (10, 0))), some (vI x1), some (vI x2)]) (st2 := []) (h2 := h) (v := some (vI q8.1)) (h1 := q8.2) (st3 := [vI q8.1]) zm_X10_paper rfl rfl rfl rfl rfl zm_X10_becomes rfl (by omega) (ev_X10_becomes (by omega) hq) rfl ?_
  cases H
  exact zEv.ret zm_X10_paper rfl rfl rfl rfl
def f_X10_cut (x1 : Int32) (x2 : Int32) (h : zM) : Option (Int32 × zM) := ((f_X10_becomes x1 4 x2 x2 h).bind fun q5 => (some (q5.1, q5.2)))
set_option maxRecDepth 20000 in
theorem ev_X10_cut {d : Nat} (hd : 3 ≤ d) {x1 : Int32} {x2 : Int32} {h : zM} {r : Int32 × zM} (H : f_X10_cut x1 x2 h = some r) : zEv zmt d 70 0 ([some (vR (some (10, 0))), some (vI x1), some (vI x2)], [], h, true) (some (vI r.1), r.2) := by
  obtain ⟨q5, hq, H⟩ := bnd H
  refine zEv.call (k := 115) (as := [vR (some (10, 0)), vI x1, vI 4, vI x2, vI x2]) (L2 := [some (vR (some (10, 0))), some (vI x1), some (vI x2)]) (st2 := []) (h2 := h) (v := some (vI q5.1)) (h1 := q5.2) (st3 := [vI q5.1]) zm_X10_cut rfl rfl rfl rfl rfl zm_X10_becomes rfl (by omega) (ev_X10_becomes (by omega) hq) rfl ?_
  cases H
  exact zEv.ret zm_X10_cut rfl rfl rfl rfl
def f_X10_strike (x1 : Int32) (x2 : Int32) (h : zM) : Option (Int32 × zM) := ((f_X10_markAt x1 h).bind fun q2 => (if q2.1 = none then (some ((-1), q2.2)) else ((f_X10_within x2 0 9 q2.2).bind fun q14 => (if ¬ q14.1 = 0 then (if (memN [2] (clR q2.1) && true) = true then (if ¬ (rI q14.2 (clR q2.1) (ixR q2.1) 7) = 5 then (if (memN [2] (clR q2.1) && (true && (true && (true && (memN [2] (clR q2.1) && true))))) = true then ((f_X2_turnInto q2.1 5 0 ((10000 * x2) + (rI q14.2 10 0 8)) q14.2).bind fun q55 => (some ((rI q14.2 (clR q2.1) (ixR q2.1) 7), q55))) else none) else ((f_X10_found 3 q14.2).bind fun q32 => (some (q32.1, q32.2)))) else none) else (some ((-1), q14.2))))))
set_option maxRecDepth 20000 in
theorem ev_X10_strike {d : Nat} (hd : 2 ≤ d) {w3 : Option zV} {w4 : Option zV} {x1 : Int32} {x2 : Int32} {h : zM} {r : Int32 × zM} (H : f_X10_strike x1 x2 h = some r) : zEv zmt d 71 0 ([some (vR (some (10, 0))), some (vI x1), some (vI x2), w3, w4], [], h, true) (some (vI r.1), r.2) := by
  obtain ⟨q2, hq, H⟩ := bnd H
  refine zEv.call (k := 104) (as := [vR (some (10, 0)), vI x1]) (L2 := [some (vR (some (10, 0))), some (vI x1), some (vI x2), w3, w4]) (st2 := []) (h2 := h) (v := some (vR q2.1)) (h1 := q2.2) (st3 := [vR q2.1]) zm_X10_strike rfl rfl rfl rfl rfl zm_X10_markAt rfl (by omega) (ev_X10_markAt (by omega) hq) rfl ?_
  rcases ifc H with ⟨hc, H⟩ | ⟨hc, H⟩
  · refine zEv.iteT (L2 := [some (vR (some (10, 0))), some (vI x1), some (vI x2), some (vR q2.1), w4]) (st2 := []) (h2 := q2.2) zm_X10_strike rfl rfl rfl rfl (nnT hc) ?_
    cases H
    exact zEv.ret zm_X10_strike rfl rfl rfl rfl
  · refine zEv.iteF (L2 := [some (vR (some (10, 0))), some (vI x1), some (vI x2), some (vR q2.1), w4]) (st2 := []) (h2 := q2.2) zm_X10_strike rfl rfl rfl rfl (nnF hc) ?_
    obtain ⟨q14, hq, H⟩ := bnd H
    refine zEv.call (k := 100) (as := [vI x2, vI 0, vI 9]) (L2 := [some (vR (some (10, 0))), some (vI x1), some (vI x2), some (vR q2.1), w4]) (st2 := []) (h2 := q2.2) (v := some (vI q14.1)) (h1 := q14.2) (st3 := [vI q14.1]) zm_X10_strike rfl rfl rfl rfl rfl zm_X10_within rfl (by omega) (ev_X10_within (by omega) hq) rfl ?_
    rcases ifc H with ⟨hc, H⟩ | ⟨hc, H⟩
    · refine zEv.iteT (L2 := [some (vR (some (10, 0))), some (vI x1), some (vI x2), some (vR q2.1), w4]) (st2 := []) (h2 := q14.2) zm_X10_strike rfl rfl rfl rfl (decide_eq_true hc) ?_
      obtain ⟨hg, H⟩ := ifg H
      rcases ifc H with ⟨hc, H⟩ | ⟨hc, H⟩
      · refine zEv.iteT (L2 := [some (vR (some (10, 0))), some (vI x1), some (vI x2), some (vR q2.1), w4]) (st2 := []) (h2 := q14.2) zm_X10_strike rfl hg rfl hg (decide_eq_true hc) ?_
        obtain ⟨hg, H⟩ := ifg H
        obtain ⟨q55, hq, H⟩ := bnd H
        refine zEv.call (k := 19) (as := [vR q2.1, vI 5, vI 0, vI ((10000 * x2) + (rI q14.2 10 0 8))]) (L2 := [some (vR (some (10, 0))), some (vI x1), some (vI x2), some (vR q2.1), some (vI (rI q14.2 (clR q2.1) (ixR q2.1) 7))]) (st2 := []) (h2 := q14.2) (v := none) (h1 := q55) (st3 := []) zm_X10_strike rfl (and2 (and2 hg).2).2 rfl hg rfl zm_X2_turnInto rfl (by omega) (ev_X2_turnInto (by omega) hq) rfl ?_
        cases H
        exact zEv.ret zm_X10_strike rfl rfl rfl rfl
      · refine zEv.iteF (L2 := [some (vR (some (10, 0))), some (vI x1), some (vI x2), some (vR q2.1), w4]) (st2 := []) (h2 := q14.2) zm_X10_strike rfl hg rfl hg (decide_eq_false hc) ?_
        obtain ⟨q32, hq, H⟩ := bnd H
        refine zEv.call (k := 105) (as := [vR (some (10, 0)), vI 3]) (L2 := [some (vR (some (10, 0))), some (vI x1), some (vI x2), some (vR q2.1), w4]) (st2 := []) (h2 := q14.2) (v := some (vI q32.1)) (h1 := q32.2) (st3 := [vI q32.1]) zm_X10_strike rfl rfl rfl rfl rfl zm_X10_found rfl (by omega) (ev_X10_found (by omega) hq) rfl ?_
        cases H
        exact zEv.ret zm_X10_strike rfl rfl rfl rfl
    · refine zEv.iteF (L2 := [some (vR (some (10, 0))), some (vI x1), some (vI x2), some (vR q2.1), w4]) (st2 := []) (h2 := q14.2) zm_X10_strike rfl rfl rfl rfl (decide_eq_false hc) ?_
      cases H
      exact zEv.ret zm_X10_strike rfl rfl rfl rfl
def f_X10_told (x1 : Int32) (x2 : Int32) (h : zM) : Option (Int32 × zM) := ((f_X10_markAt x1 h).bind fun q2 => (if q2.1 = none then (some ((-1), q2.2)) else ((f_X10_within x2 0 6 q2.2).bind fun q14 => (if ¬ q14.1 = 0 then (if (memN [2] (clR q2.1) && (true && true)) = true then ((f_X2_part q2.1 x2 q14.2).bind fun q25 => ((f_X10_tell q25.1 q25.2).bind fun q28 => (some (q28.1, q28.2)))) else none) else (some ((-1), q14.2))))))
set_option maxRecDepth 20000 in
theorem ev_X10_told {d : Nat} (hd : 2 ≤ d) {w3 : Option zV} {x1 : Int32} {x2 : Int32} {h : zM} {r : Int32 × zM} (H : f_X10_told x1 x2 h = some r) : zEv zmt d 72 0 ([some (vR (some (10, 0))), some (vI x1), some (vI x2), w3], [], h, true) (some (vI r.1), r.2) := by
  obtain ⟨q2, hq, H⟩ := bnd H
  refine zEv.call (k := 104) (as := [vR (some (10, 0)), vI x1]) (L2 := [some (vR (some (10, 0))), some (vI x1), some (vI x2), w3]) (st2 := []) (h2 := h) (v := some (vR q2.1)) (h1 := q2.2) (st3 := [vR q2.1]) zm_X10_told rfl rfl rfl rfl rfl zm_X10_markAt rfl (by omega) (ev_X10_markAt (by omega) hq) rfl ?_
  rcases ifc H with ⟨hc, H⟩ | ⟨hc, H⟩
  · refine zEv.iteT (L2 := [some (vR (some (10, 0))), some (vI x1), some (vI x2), some (vR q2.1)]) (st2 := []) (h2 := q2.2) zm_X10_told rfl rfl rfl rfl (nnT hc) ?_
    cases H
    exact zEv.ret zm_X10_told rfl rfl rfl rfl
  · refine zEv.iteF (L2 := [some (vR (some (10, 0))), some (vI x1), some (vI x2), some (vR q2.1)]) (st2 := []) (h2 := q2.2) zm_X10_told rfl rfl rfl rfl (nnF hc) ?_
    obtain ⟨q14, hq, H⟩ := bnd H
    refine zEv.call (k := 100) (as := [vI x2, vI 0, vI 6]) (L2 := [some (vR (some (10, 0))), some (vI x1), some (vI x2), some (vR q2.1)]) (st2 := []) (h2 := q2.2) (v := some (vI q14.1)) (h1 := q14.2) (st3 := [vI q14.1]) zm_X10_told rfl rfl rfl rfl rfl zm_X10_within rfl (by omega) (ev_X10_within (by omega) hq) rfl ?_
    rcases ifc H with ⟨hc, H⟩ | ⟨hc, H⟩
    · refine zEv.iteT (L2 := [some (vR (some (10, 0))), some (vI x1), some (vI x2), some (vR q2.1)]) (st2 := []) (h2 := q14.2) zm_X10_told rfl rfl rfl rfl (decide_eq_true hc) ?_
      obtain ⟨hg, H⟩ := ifg H
      obtain ⟨q25, hq, H⟩ := bnd H
      refine zEv.call (k := 21) (as := [vR q2.1, vI x2]) (L2 := [some (vR (some (10, 0))), some (vI x1), some (vI x2), some (vR q2.1)]) (st2 := [vR (some (10, 0))]) (h2 := q14.2) (v := some (vI q25.1)) (h1 := q25.2) (st3 := [vI q25.1, vR (some (10, 0))]) zm_X10_told rfl (and2 (and2 hg).2).2 rfl hg rfl zm_X2_part rfl (by omega) (ev_X2_part (by omega) hq) rfl ?_
      obtain ⟨q28, hq, H⟩ := bnd H
      refine zEv.call (k := 106) (as := [vR (some (10, 0)), vI q25.1]) (L2 := [some (vR (some (10, 0))), some (vI x1), some (vI x2), some (vR q2.1)]) (st2 := []) (h2 := q25.2) (v := some (vI q28.1)) (h1 := q28.2) (st3 := [vI q28.1]) zm_X10_told rfl rfl rfl rfl rfl zm_X10_tell rfl (by omega) (ev_X10_tell (by omega) hq) rfl ?_
      cases H
      exact zEv.ret zm_X10_told rfl rfl rfl rfl
    · refine zEv.iteF (L2 := [some (vR (some (10, 0))), some (vI x1), some (vI x2), some (vR q2.1)]) (st2 := []) (h2 := q14.2) zm_X10_told rfl rfl rfl rfl (decide_eq_false hc) ?_
      cases H
      exact zEv.ret zm_X10_told rfl rfl rfl rfl
def f_X10_tells_53 (h : zM) : Option (Int32 × zM) := ((f_X10_found 3 h).bind fun q55 => (some (q55.1, q55.2)))
set_option maxRecDepth 20000 in
theorem ev_X10_tells_53 {d : Nat} (hd : 2 ≤ d) {w1 : Option zV} {w2 : Option zV} {w3 : Option zV} {h : zM} {r : Int32 × zM} (H : f_X10_tells_53  h = some r) : zEv zmt d 73 53 ([some (vR (some (10, 0))), w1, w2, w3], [], h, true) (some (vI r.1), r.2) := by
  obtain ⟨q55, hq, H⟩ := bnd H
  refine zEv.call (k := 105) (as := [vR (some (10, 0)), vI 3]) (L2 := [some (vR (some (10, 0))), w1, w2, w3]) (st2 := []) (h2 := h) (v := some (vI q55.1)) (h1 := q55.2) (st3 := [vI q55.1]) zm_X10_tells rfl rfl rfl rfl rfl zm_X10_found rfl (by omega) (ev_X10_found (by omega) hq) rfl ?_
  cases H
  exact zEv.ret zm_X10_tells rfl rfl rfl rfl
def f_X10_tells (x1 : Int32) (x2 : Int32) (h : zM) : Option (Int32 × zM) := ((f_X10_markAt x1 h).bind fun q2 => (if q2.1 = none then (some ((-1), q2.2)) else ((f_X10_within x2 1 5 q2.2).bind fun q13 => (if ¬ q13.1 = 0 then (if (memN [2] (clR q2.1) && true) = true then (if ¬ x2 = (rI q13.2 (clR q2.1) (ixR q2.1) 7) then (if ¬ x2 = 1 then (f_X10_tells_53  q13.2) else (if (memN [2] (clR q2.1) && (true && true)) = true then ((f_X2_isHelped q2.1 q13.2).bind fun q40 => (if q40.1 = 0 then (f_X10_tells_53  q40.2) else (if (memN [2] (clR q2.1) && true) = true then (some ((rI q40.2 (clR q2.1) (ixR q2.1) 8), q40.2)) else none))) else none)) else (if (memN [2] (clR q2.1) && true) = true then (some ((rI q13.2 (clR q2.1) (ixR q2.1) 9), q13.2)) else none)) else none) else (some ((-1), q13.2))))))
set_option maxRecDepth 20000 in
theorem ev_X10_tells {d : Nat} (hd : 2 ≤ d) {w3 : Option zV} {x1 : Int32} {x2 : Int32} {h : zM} {r : Int32 × zM} (H : f_X10_tells x1 x2 h = some r) : zEv zmt d 73 0 ([some (vR (some (10, 0))), some (vI x1), some (vI x2), w3], [], h, true) (some (vI r.1), r.2) := by
  obtain ⟨q2, hq, H⟩ := bnd H
  refine zEv.call (k := 104) (as := [vR (some (10, 0)), vI x1]) (L2 := [some (vR (some (10, 0))), some (vI x1), some (vI x2), w3]) (st2 := []) (h2 := h) (v := some (vR q2.1)) (h1 := q2.2) (st3 := [vR q2.1]) zm_X10_tells rfl rfl rfl rfl rfl zm_X10_markAt rfl (by omega) (ev_X10_markAt (by omega) hq) rfl ?_
  rcases ifc H with ⟨hc, H⟩ | ⟨hc, H⟩
  · refine zEv.iteT (L2 := [some (vR (some (10, 0))), some (vI x1), some (vI x2), some (vR q2.1)]) (st2 := []) (h2 := q2.2) zm_X10_tells rfl rfl rfl rfl (nnT hc) ?_
    cases H
    exact zEv.ret zm_X10_tells rfl rfl rfl rfl
  · refine zEv.iteF (L2 := [some (vR (some (10, 0))), some (vI x1), some (vI x2), some (vR q2.1)]) (st2 := []) (h2 := q2.2) zm_X10_tells rfl rfl rfl rfl (nnF hc) ?_
    obtain ⟨q13, hq, H⟩ := bnd H
    refine zEv.call (k := 100) (as := [vI x2, vI 1, vI 5]) (L2 := [some (vR (some (10, 0))), some (vI x1), some (vI x2), some (vR q2.1)]) (st2 := []) (h2 := q2.2) (v := some (vI q13.1)) (h1 := q13.2) (st3 := [vI q13.1]) zm_X10_tells rfl rfl rfl rfl rfl zm_X10_within rfl (by omega) (ev_X10_within (by omega) hq) rfl ?_
    rcases ifc H with ⟨hc, H⟩ | ⟨hc, H⟩
    · refine zEv.iteT (L2 := [some (vR (some (10, 0))), some (vI x1), some (vI x2), some (vR q2.1)]) (st2 := []) (h2 := q13.2) zm_X10_tells rfl rfl rfl rfl (decide_eq_true hc) ?_
      obtain ⟨hg, H⟩ := ifg H
      rcases ifc H with ⟨hc, H⟩ | ⟨hc, H⟩
      · refine zEv.iteT (L2 := [some (vR (some (10, 0))), some (vI x1), some (vI x2), some (vR q2.1)]) (st2 := []) (h2 := q13.2) zm_X10_tells rfl hg rfl hg (decide_eq_true hc) ?_
        rcases ifc H with ⟨hc, H⟩ | ⟨hc, H⟩
        · refine zEv.iteT (L2 := [some (vR (some (10, 0))), some (vI x1), some (vI x2), some (vR q2.1)]) (st2 := []) (h2 := q13.2) zm_X10_tells rfl rfl rfl rfl (decide_eq_true hc) ?_
          exact ev_X10_tells_53 (by omega)  H
        · refine zEv.iteF (L2 := [some (vR (some (10, 0))), some (vI x1), some (vI x2), some (vR q2.1)]) (st2 := []) (h2 := q13.2) zm_X10_tells rfl rfl rfl rfl (decide_eq_false hc) ?_
          obtain ⟨hg, H⟩ := ifg H
          obtain ⟨q40, hq, H⟩ := bnd H
          refine zEv.call (k := 20) (as := [vR q2.1]) (L2 := [some (vR (some (10, 0))), some (vI x1), some (vI x2), some (vR q2.1)]) (st2 := []) (h2 := q13.2) (v := some (vI q40.1)) (h1 := q40.2) (st3 := [vI q40.1]) zm_X10_tells rfl (and2 (and2 hg).2).2 rfl hg rfl zm_X2_isHelped rfl (by omega) (ev_X2_isHelped (by omega) hq) rfl ?_
          rcases ifc H with ⟨hc, H⟩ | ⟨hc, H⟩
          · refine zEv.iteT (L2 := [some (vR (some (10, 0))), some (vI x1), some (vI x2), some (vR q2.1)]) (st2 := []) (h2 := q40.2) zm_X10_tells rfl rfl rfl rfl (decide_eq_true hc) ?_
            exact ev_X10_tells_53 (by omega)  H
          · refine zEv.iteF (L2 := [some (vR (some (10, 0))), some (vI x1), some (vI x2), some (vR q2.1)]) (st2 := []) (h2 := q40.2) zm_X10_tells rfl rfl rfl rfl (decide_eq_false hc) ?_
            obtain ⟨hg, H⟩ := ifg H
            refine zEv.loc (L2 := [some (vR (some (10, 0))), some (vI x1), some (vI x2), some (vR q2.1)]) (st2 := [vI (rI q40.2 (clR q2.1) (ixR q2.1) 8)]) (h2 := q40.2) zm_X10_tells rfl hg rfl hg (fun h => (nomatch h)) ?_
            cases H
            exact zEv.ret zm_X10_tells rfl rfl rfl rfl
      · refine zEv.iteF (L2 := [some (vR (some (10, 0))), some (vI x1), some (vI x2), some (vR q2.1)]) (st2 := []) (h2 := q13.2) zm_X10_tells rfl hg rfl hg (decide_eq_false hc) ?_
        obtain ⟨hg, H⟩ := ifg H
        cases H
        exact zEv.ret zm_X10_tells rfl hg rfl hg
    · refine zEv.iteF (L2 := [some (vR (some (10, 0))), some (vI x1), some (vI x2), some (vR q2.1)]) (st2 := []) (h2 := q13.2) zm_X10_tells rfl rfl rfl rfl (decide_eq_false hc) ?_
      cases H
      exact zEv.ret zm_X10_tells rfl rfl rfl rfl
