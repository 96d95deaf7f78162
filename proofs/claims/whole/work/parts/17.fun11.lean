def f_L_law_1588 (K18 : Int32 → zM → Option (Int32 × zM)) (x3 : Int32) (h : zM) : Option (Int32 × zM) := (K18 (x3 + 6) h)
set_option maxRecDepth 20000 in
theorem ev_L_law_1588 {d : Nat} (hd : 9 ≤ d) {K18 : Int32 → zM → Option (Int32 × zM)} (hK18 : ∀ {x3 : Int32} {h : zM} {r : Int32 × zM}, K18 x3 h = some r → zEv zmt d 216 18 ([some (vR (some (19, 0))), some (vR (some (10, 0))), some (vR (some (11, 0))), some (vI x3)], [], h, true) (some (vI r.1), r.2)) {x3 : Int32} {h : zM} {r : Int32 × zM} (H : f_L_law_1588 K18 x3 h = some r) : zEv zmt d 216 1588 ([some (vR (some (19, 0))), some (vR (some (10, 0))), some (vR (some (11, 0))), some (vI x3)], [], h, true) (some (vI r.1), r.2) := by
  refine zEv.loc (L2 := [some (vR (some (19, 0))), some (vR (some (10, 0))), some (vR (some (11, 0))), some (vI (x3 + 6))]) (st2 := []) (h2 := h) zm_L_law rfl rfl rfl rfl (fun h => (nomatch h)) ?_
  exact hK18 H
def f_L_law_945 (K18 : Int32 → zM → Option (Int32 × zM)) (x3 : Int32) (s0 : Int32) (s2 : Int32) (s3 : Int32) (h : zM) : Option (Int32 × zM) := ((f_X11_fault s2 s3 h).bind fun q945 => (if s0 = q945.1 then (f_L_law_1588 K18 x3 q945.2) else (some (0, q945.2))))
set_option maxRecDepth 20000 in
theorem ev_L_law_945 {d : Nat} (hd : 9 ≤ d) {K18 : Int32 → zM → Option (Int32 × zM)} (hK18 : ∀ {x3 : Int32} {h : zM} {r : Int32 × zM}, K18 x3 h = some r → zEv zmt d 216 18 ([some (vR (some (19, 0))), some (vR (some (10, 0))), some (vR (some (11, 0))), some (vI x3)], [], h, true) (some (vI r.1), r.2)) {x3 : Int32} {s0 : Int32} {s2 : Int32} {s3 : Int32} {h : zM} {r : Int32 × zM} (H : f_L_law_945 K18 x3 s0 s2 s3 h = some r) : zEv zmt d 216 945 ([some (vR (some (19, 0))), some (vR (some (10, 0))), some (vR (some (11, 0))), some (vI x3)], [vI s3, vI s2, vR (some (11, 0)), vI s0], h, true) (some (vI r.1), r.2) := by
  obtain ⟨q945, hq, H⟩ := bnd H
  refine zEv.call (k := 171) (as := [vR (some (11, 0)), vI s2, vI s3]) (L2 := [some (vR (some (19, 0))), some (vR (some (10, 0))), some (vR (some (11, 0))), some (vI x3)]) (st2 := [vI s0]) (h2 := h) (v := some (vI q945.1)) (h1 := q945.2) (st3 := [vI q945.1, vI s0]) zm_L_law rfl rfl rfl rfl rfl zm_X11_fault rfl (by omega) (ev_X11_fault (by omega) hq) rfl ?_
  rcases ifc H with ⟨hc, H⟩ | ⟨hc, H⟩
  · refine zEv.iteT (L2 := [some (vR (some (19, 0))), some (vR (some (10, 0))), some (vR (some (11, 0))), some (vI x3)]) (st2 := []) (h2 := q945.2) zm_L_law rfl rfl rfl rfl (decide_eq_true hc) ?_
    exact ev_L_law_1588 (by omega) hK18 H
  · refine zEv.iteF (L2 := [some (vR (some (19, 0))), some (vR (some (10, 0))), some (vR (some (11, 0))), some (vI x3)]) (st2 := []) (h2 := q945.2) zm_L_law rfl rfl rfl rfl (decide_eq_false hc) ?_
    cases H
    exact zEv.ret zm_L_law rfl rfl rfl rfl
def f_L_law_923 (K18 : Int32 → zM → Option (Int32 × zM)) (x3 : Int32) (s1 : Int32) (s2 : Int32) (h : zM) : Option (Int32 × zM) := ((f_X10_fault s1 s2 h).bind fun q923 => (if (true && (ixOk (slM q923.2) (x3 + 2) && (true && (ixOk (slM q923.2) (x3 + 1) && true)))) = true then (if (rI q923.2 19 0 (Int32.toNatClampNeg (x3 + 2))) = 0 then (f_L_law_945 K18 x3 q923.1 (rI q923.2 19 0 (Int32.toNatClampNeg (x3 + 1))) 0 q923.2) else (f_L_law_945 K18 x3 q923.1 (rI q923.2 19 0 (Int32.toNatClampNeg (x3 + 1))) 1 q923.2)) else none))
set_option maxRecDepth 20000 in
theorem ev_L_law_923 {d : Nat} (hd : 9 ≤ d) {K18 : Int32 → zM → Option (Int32 × zM)} (hK18 : ∀ {x3 : Int32} {h : zM} {r : Int32 × zM}, K18 x3 h = some r → zEv zmt d 216 18 ([some (vR (some (19, 0))), some (vR (some (10, 0))), some (vR (some (11, 0))), some (vI x3)], [], h, true) (some (vI r.1), r.2)) {x3 : Int32} {s1 : Int32} {s2 : Int32} {h : zM} {r : Int32 × zM} (H : f_L_law_923 K18 x3 s1 s2 h = some r) : zEv zmt d 216 923 ([some (vR (some (19, 0))), some (vR (some (10, 0))), some (vR (some (11, 0))), some (vI x3)], [vI s2, vI s1, vR (some (10, 0))], h, true) (some (vI r.1), r.2) := by
  obtain ⟨q923, hq, H⟩ := bnd H
  refine zEv.call (k := 75) (as := [vR (some (10, 0)), vI s1, vI s2]) (L2 := [some (vR (some (19, 0))), some (vR (some (10, 0))), some (vR (some (11, 0))), some (vI x3)]) (st2 := []) (h2 := h) (v := some (vI q923.1)) (h1 := q923.2) (st3 := [vI q923.1]) zm_L_law rfl rfl rfl rfl rfl zm_X10_fault rfl (by omega) (ev_X10_fault (by omega) hq) rfl ?_
  obtain ⟨hg, H⟩ := ifg H
  rcases ifc H with ⟨hc, H⟩ | ⟨hc, H⟩
  · refine zEv.iteT (L2 := [some (vR (some (19, 0))), some (vR (some (10, 0))), some (vR (some (11, 0))), some (vI x3)]) (st2 := [vI (rI q923.2 19 0 (Int32.toNatClampNeg (x3 + 1))), vR (some (11, 0)), vI q923.1]) (h2 := q923.2) zm_L_law rfl hg rfl hg (decide_eq_true hc) ?_
    refine zEv.loc (L2 := [some (vR (some (19, 0))), some (vR (some (10, 0))), some (vR (some (11, 0))), some (vI x3)]) (st2 := [vI 0, vI (rI q923.2 19 0 (Int32.toNatClampNeg (x3 + 1))), vR (some (11, 0)), vI q923.1]) (h2 := q923.2) zm_L_law rfl rfl rfl rfl (fun h => (nomatch h)) ?_
    exact ev_L_law_945 (by omega) hK18 H
  · refine zEv.iteF (L2 := [some (vR (some (19, 0))), some (vR (some (10, 0))), some (vR (some (11, 0))), some (vI x3)]) (st2 := [vI (rI q923.2 19 0 (Int32.toNatClampNeg (x3 + 1))), vR (some (11, 0)), vI q923.1]) (h2 := q923.2) zm_L_law rfl hg rfl hg (decide_eq_false hc) ?_
    refine zEv.loc (L2 := [some (vR (some (19, 0))), some (vR (some (10, 0))), some (vR (some (11, 0))), some (vI x3)]) (st2 := [vI 1, vI (rI q923.2 19 0 (Int32.toNatClampNeg (x3 + 1))), vR (some (11, 0)), vI q923.1]) (h2 := q923.2) zm_L_law rfl rfl rfl rfl (fun h => (nomatch h)) ?_
    exact ev_L_law_945 (by omega) hK18 H
def f_L_law_18 : Nat → Int32 → zM → Option (Int32 × zM)
  | 0 => fun _ _ => none
  | k + 1 => fun x3 h => (if ((Int32.ofNat (slM h)) - 6) < x3 then (some (1, h)) else (if (true && (ixOk (slM h) x3 && true)) = true then (if ((rI h 19 0 (Int32.toNatClampNeg x3)) &&& 63) = 0 then (if (true && (true && (true && (ixOk (slM h) (x3 + 2) && (true && (ixOk (slM h) (x3 + 1) && true)))))) = true then ((f_X10_row (rI h 19 0 (Int32.toNatClampNeg (x3 + 1))) (rI h 19 0 (Int32.toNatClampNeg (x3 + 2))) h).bind fun q231 => (if (true && (true && (true && (ixOk (slM q231.2) (x3 + 2) && (true && (ixOk (slM q231.2) (x3 + 1) && true)))))) = true then ((f_X11_row (rI q231.2 19 0 (Int32.toNatClampNeg (x3 + 1))) (rI q231.2 19 0 (Int32.toNatClampNeg (x3 + 2))) q231.2).bind fun q245 => (if q231.1 = q245.1 then (f_L_law_1588 (f_L_law_18 k) x3 q245.2) else (some (0, q245.2)))) else none)) else none) else (if ((rI h 19 0 (Int32.toNatClampNeg x3)) &&& 63) = 1 then (if (true && (true && (true && (ixOk (slM h) (x3 + 3) && (true && (ixOk (slM h) (x3 + 2) && (true && (ixOk (slM h) (x3 + 1) && true)))))))) = true then ((f_X10_lay (rI h 19 0 (Int32.toNatClampNeg (x3 + 1))) (rI h 19 0 (Int32.toNatClampNeg (x3 + 2))) (rI h 19 0 (Int32.toNatClampNeg (x3 + 3))) h).bind fun q269 => (if (true && (true && (true && (ixOk (slM q269.2) (x3 + 3) && (true && (ixOk (slM q269.2) (x3 + 2) && (true && (ixOk (slM q269.2) (x3 + 1) && true)))))))) = true then ((f_X11_lay (rI q269.2 19 0 (Int32.toNatClampNeg (x3 + 1))) (rI q269.2 19 0 (Int32.toNatClampNeg (x3 + 2))) (rI q269.2 19 0 (Int32.toNatClampNeg (x3 + 3))) q269.2).bind fun q288 => (if q269.1 = q288.1 then (f_L_law_1588 (f_L_law_18 k) x3 q288.2) else (some (0, q288.2)))) else none)) else none) else (if ((rI h 19 0 (Int32.toNatClampNeg x3)) &&& 63) = 2 then (if (true && (true && (true && (ixOk (slM h) (x3 + 1) && true)))) = true then ((f_X10_tear (rI h 19 0 (Int32.toNatClampNeg (x3 + 1))) h).bind fun q302 => (if (true && (true && (true && (ixOk (slM q302.2) (x3 + 1) && true)))) = true then ((f_X11_tear (rI q302.2 19 0 (Int32.toNatClampNeg (x3 + 1))) q302.2).bind fun q311 => (if q302.1 = q311.1 then (f_L_law_1588 (f_L_law_18 k) x3 q311.2) else (some (0, q311.2)))) else none)) else none) else (if ((rI h 19 0 (Int32.toNatClampNeg x3)) &&& 63) = 3 then (if (true && (true && (true && (ixOk (slM h) (x3 + 5) && (true && (ixOk (slM h) (x3 + 4) && (true && (ixOk (slM h) (x3 + 3) && (true && (ixOk (slM h) (x3 + 2) && (true && (ixOk (slM h) (x3 + 1) && true)))))))))))) = true then ((f_X10_copy (rI h 19 0 (Int32.toNatClampNeg (x3 + 1))) (rI h 19 0 (Int32.toNatClampNeg (x3 + 2))) (rI h 19 0 (Int32.toNatClampNeg (x3 + 3))) (rI h 19 0 (Int32.toNatClampNeg (x3 + 4))) (rI h 19 0 (Int32.toNatClampNeg (x3 + 5))) h).bind fun q345 => (if (true && (true && (true && (ixOk (slM q345.2) (x3 + 5) && (true && (ixOk (slM q345.2) (x3 + 4) && (true && (ixOk (slM q345.2) (x3 + 3) && (true && (ixOk (slM q345.2) (x3 + 2) && (true && (ixOk (slM q345.2) (x3 + 1) && true)))))))))))) = true then ((f_X11_copy (rI q345.2 19 0 (Int32.toNatClampNeg (x3 + 1))) (rI q345.2 19 0 (Int32.toNatClampNeg (x3 + 2))) (rI q345.2 19 0 (Int32.toNatClampNeg (x3 + 3))) (rI q345.2 19 0 (Int32.toNatClampNeg (x3 + 4))) (rI q345.2 19 0 (Int32.toNatClampNeg (x3 + 5))) q345.2).bind fun q374 => (if q345.1 = q374.1 then (f_L_law_1588 (f_L_law_18 k) x3 q374.2) else (some (0, q374.2)))) else none)) else none) else (if ((rI h 19 0 (Int32.toNatClampNeg x3)) &&& 63) = 4 then (if (true && (true && (true && (ixOk (slM h) (x3 + 1) && true)))) = true then ((f_X10_mean (rI h 19 0 (Int32.toNatClampNeg (x3 + 1))) h).bind fun q388 => (if (true && (true && (true && (ixOk (slM q388.2) (x3 + 1) && true)))) = true then ((f_X11_mean (rI q388.2 19 0 (Int32.toNatClampNeg (x3 + 1))) q388.2).bind fun q397 => (if q388.1 = q397.1 then (f_L_law_1588 (f_L_law_18 k) x3 q397.2) else (some (0, q397.2)))) else none)) else none) else (if ((rI h 19 0 (Int32.toNatClampNeg x3)) &&& 63) = 5 then (if (true && (true && (true && (ixOk (slM h) (x3 + 2) && (true && (ixOk (slM h) (x3 + 1) && true)))))) = true then ((f_X10_text (rI h 19 0 (Int32.toNatClampNeg (x3 + 1))) (rI h 19 0 (Int32.toNatClampNeg (x3 + 2))) h).bind fun q416 => (if (true && (true && (true && (ixOk (slM q416.2) (x3 + 2) && (true && (ixOk (slM q416.2) (x3 + 1) && true)))))) = true then ((f_X11_text (rI q416.2 19 0 (Int32.toNatClampNeg (x3 + 1))) (rI q416.2 19 0 (Int32.toNatClampNeg (x3 + 2))) q416.2).bind fun q430 => (if q416.1 = q430.1 then (f_L_law_1588 (f_L_law_18 k) x3 q430.2) else (some (0, q430.2)))) else none)) else none) else (if ((rI h 19 0 (Int32.toNatClampNeg x3)) &&& 63) = 6 then (if (true && (true && (true && (ixOk (slM h) (x3 + 3) && (true && (ixOk (slM h) (x3 + 2) && (true && (ixOk (slM h) (x3 + 1) && true)))))))) = true then ((f_X10_put (rI h 19 0 (Int32.toNatClampNeg (x3 + 1))) (rI h 19 0 (Int32.toNatClampNeg (x3 + 2))) (rI h 19 0 (Int32.toNatClampNeg (x3 + 3))) h).bind fun q454 => (if (true && (true && (true && (ixOk (slM q454.2) (x3 + 3) && (true && (ixOk (slM q454.2) (x3 + 2) && (true && (ixOk (slM q454.2) (x3 + 1) && true)))))))) = true then ((f_X11_put (rI q454.2 19 0 (Int32.toNatClampNeg (x3 + 1))) (rI q454.2 19 0 (Int32.toNatClampNeg (x3 + 2))) (rI q454.2 19 0 (Int32.toNatClampNeg (x3 + 3))) q454.2).bind fun q473 => (if q454.1 = q473.1 then (f_L_law_1588 (f_L_law_18 k) x3 q473.2) else (some (0, q473.2)))) else none)) else none) else (if ((rI h 19 0 (Int32.toNatClampNeg x3)) &&& 63) = 7 then (if (true && (true && (true && (ixOk (slM h) (x3 + 1) && true)))) = true then ((f_X10_later (rI h 19 0 (Int32.toNatClampNeg (x3 + 1))) h).bind fun q487 => (if (true && (true && (true && (ixOk (slM q487.2) (x3 + 1) && true)))) = true then ((f_X11_later (rI q487.2 19 0 (Int32.toNatClampNeg (x3 + 1))) q487.2).bind fun q496 => (if q487.1 = q496.1 then (f_L_law_1588 (f_L_law_18 k) x3 q496.2) else (some (0, q496.2)))) else none)) else none) else (if ((rI h 19 0 (Int32.toNatClampNeg x3)) &&& 63) = 8 then (if (true && (true && (true && (ixOk (slM h) (x3 + 4) && (true && (ixOk (slM h) (x3 + 3) && (true && (ixOk (slM h) (x3 + 2) && (true && (ixOk (slM h) (x3 + 1) && true)))))))))) = true then ((f_X10_place (rI h 19 0 (Int32.toNatClampNeg (x3 + 1))) (rI h 19 0 (Int32.toNatClampNeg (x3 + 2))) (rI h 19 0 (Int32.toNatClampNeg (x3 + 3))) (rI h 19 0 (Int32.toNatClampNeg (x3 + 4))) h).bind fun q525 => (if (true && (true && (true && (ixOk (slM q525.2) (x3 + 4) && (true && (ixOk (slM q525.2) (x3 + 3) && (true && (ixOk (slM q525.2) (x3 + 2) && (true && (ixOk (slM q525.2) (x3 + 1) && true)))))))))) = true then ((f_X11_place (rI q525.2 19 0 (Int32.toNatClampNeg (x3 + 1))) (rI q525.2 19 0 (Int32.toNatClampNeg (x3 + 2))) (rI q525.2 19 0 (Int32.toNatClampNeg (x3 + 3))) (rI q525.2 19 0 (Int32.toNatClampNeg (x3 + 4))) q525.2).bind fun q549 => (if q525.1 = q549.1 then (f_L_law_1588 (f_L_law_18 k) x3 q549.2) else (some (0, q549.2)))) else none)) else none) else (if ((rI h 19 0 (Int32.toNatClampNeg x3)) &&& 63) = 9 then (if (true && (true && (true && (ixOk (slM h) (x3 + 5) && (true && (ixOk (slM h) (x3 + 4) && (true && (ixOk (slM h) (x3 + 3) && (true && (ixOk (slM h) (x3 + 2) && (true && (ixOk (slM h) (x3 + 1) && true)))))))))))) = true then ((f_X10_mark (rI h 19 0 (Int32.toNatClampNeg (x3 + 1))) (rI h 19 0 (Int32.toNatClampNeg (x3 + 2))) (rI h 19 0 (Int32.toNatClampNeg (x3 + 3))) (rI h 19 0 (Int32.toNatClampNeg (x3 + 4))) (rI h 19 0 (Int32.toNatClampNeg (x3 + 5))) h).bind fun q583 => (if (true && (true && (true && (ixOk (slM q583.2) (x3 + 5) && (true && (ixOk (slM q583.2) (x3 + 4) && (true && (ixOk (slM q583.2) (x3 + 3) && (true && (ixOk (slM q583.2) (x3 + 2) && (true && (ixOk (slM q583.2) (x3 + 1) && true)))))))))))) = true then ((f_X11_mark (rI q583.2 19 0 (Int32.toNatClampNeg (x3 + 1))) (rI q583.2 19 0 (Int32.toNatClampNeg (x3 + 2))) (rI q583.2 19 0 (Int32.toNatClampNeg (x3 + 3))) (rI q583.2 19 0 (Int32.toNatClampNeg (x3 + 4))) (rI q583.2 19 0 (Int32.toNatClampNeg (x3 + 5))) q583.2).bind fun q612 => (if q583.1 = q612.1 then (f_L_law_1588 (f_L_law_18 k) x3 q612.2) else (some (0, q612.2)))) else none)) else none) else (if ((rI h 19 0 (Int32.toNatClampNeg x3)) &&& 63) = 10 then (if (true && (true && (true && (ixOk (slM h) (x3 + 3) && (true && (ixOk (slM h) (x3 + 2) && (true && (ixOk (slM h) (x3 + 1) && true)))))))) = true then ((f_X10_marks (rI h 19 0 (Int32.toNatClampNeg (x3 + 1))) (rI h 19 0 (Int32.toNatClampNeg (x3 + 2))) (rI h 19 0 (Int32.toNatClampNeg (x3 + 3))) h).bind fun q636 => (if (true && (true && (true && (ixOk (slM q636.2) (x3 + 3) && (true && (ixOk (slM q636.2) (x3 + 2) && (true && (ixOk (slM q636.2) (x3 + 1) && true)))))))) = true then ((f_X11_marks (rI q636.2 19 0 (Int32.toNatClampNeg (x3 + 1))) (rI q636.2 19 0 (Int32.toNatClampNeg (x3 + 2))) (rI q636.2 19 0 (Int32.toNatClampNeg (x3 + 3))) q636.2).bind fun q655 => (if q636.1 = q655.1 then (f_L_law_1588 (f_L_law_18 k) x3 q655.2) else (some (0, q655.2)))) else none)) else none) else (if ((rI h 19 0 (Int32.toNatClampNeg x3)) &&& 63) = 11 then (if (true && (true && (true && (ixOk (slM h) (x3 + 3) && (true && (ixOk (slM h) (x3 + 2) && (true && (ixOk (slM h) (x3 + 1) && true)))))))) = true then ((f_X10_help (rI h 19 0 (Int32.toNatClampNeg (x3 + 1))) (rI h 19 0 (Int32.toNatClampNeg (x3 + 2))) (rI h 19 0 (Int32.toNatClampNeg (x3 + 3))) h).bind fun q679 => (if (true && (true && (true && (ixOk (slM q679.2) (x3 + 3) && (true && (ixOk (slM q679.2) (x3 + 2) && (true && (ixOk (slM q679.2) (x3 + 1) && true)))))))) = true then ((f_X11_help (rI q679.2 19 0 (Int32.toNatClampNeg (x3 + 1))) (rI q679.2 19 0 (Int32.toNatClampNeg (x3 + 2))) (rI q679.2 19 0 (Int32.toNatClampNeg (x3 + 3))) q679.2).bind fun q698 => (if q679.1 = q698.1 then (f_L_law_1588 (f_L_law_18 k) x3 q698.2) else (some (0, q698.2)))) else none)) else none) else (if ((rI h 19 0 (Int32.toNatClampNeg x3)) &&& 63) = 12 then (if (true && (true && (true && (ixOk (slM h) (x3 + 2) && (true && (ixOk (slM h) (x3 + 1) && true)))))) = true then ((f_X10_paper (rI h 19 0 (Int32.toNatClampNeg (x3 + 1))) (rI h 19 0 (Int32.toNatClampNeg (x3 + 2))) h).bind fun q717 => (if (true && (true && (true && (ixOk (slM q717.2) (x3 + 2) && (true && (ixOk (slM q717.2) (x3 + 1) && true)))))) = true then ((f_X11_paper (rI q717.2 19 0 (Int32.toNatClampNeg (x3 + 1))) (rI q717.2 19 0 (Int32.toNatClampNeg (x3 + 2))) q717.2).bind fun q731 => (if q717.1 = q731.1 then (f_L_law_1588 (f_L_law_18 k) x3 q731.2) else (some (0, q731.2)))) else none)) else none) else (if ((rI h 19 0 (Int32.toNatClampNeg x3)) &&& 63) = 13 then (if (true && (true && (true && (ixOk (slM h) (x3 + 2) && (true && (ixOk (slM h) (x3 + 1) && true)))))) = true then ((f_X10_cut (rI h 19 0 (Int32.toNatClampNeg (x3 + 1))) (rI h 19 0 (Int32.toNatClampNeg (x3 + 2))) h).bind fun q750 => (if (true && (true && (true && (ixOk (slM q750.2) (x3 + 2) && (true && (ixOk (slM q750.2) (x3 + 1) && true)))))) = true then ((f_X11_cut (rI q750.2 19 0 (Int32.toNatClampNeg (x3 + 1))) (rI q750.2 19 0 (Int32.toNatClampNeg (x3 + 2))) q750.2).bind fun q764 => (if q750.1 = q764.1 then (f_L_law_1588 (f_L_law_18 k) x3 q764.2) else (some (0, q764.2)))) else none)) else none) else (if ((rI h 19 0 (Int32.toNatClampNeg x3)) &&& 63) = 14 then (if (true && (true && (true && (ixOk (slM h) (x3 + 2) && (true && (ixOk (slM h) (x3 + 1) && true)))))) = true then ((f_X10_strike (rI h 19 0 (Int32.toNatClampNeg (x3 + 1))) (rI h 19 0 (Int32.toNatClampNeg (x3 + 2))) h).bind fun q783 => (if (true && (true && (true && (ixOk (slM q783.2) (x3 + 2) && (true && (ixOk (slM q783.2) (x3 + 1) && true)))))) = true then ((f_X11_strike (rI q783.2 19 0 (Int32.toNatClampNeg (x3 + 1))) (rI q783.2 19 0 (Int32.toNatClampNeg (x3 + 2))) q783.2).bind fun q797 => (if q783.1 = q797.1 then (f_L_law_1588 (f_L_law_18 k) x3 q797.2) else (some (0, q797.2)))) else none)) else none) else (if ((rI h 19 0 (Int32.toNatClampNeg x3)) &&& 63) = 15 then (if (true && (true && (true && (ixOk (slM h) (x3 + 2) && (true && (ixOk (slM h) (x3 + 1) && true)))))) = true then ((f_X10_told (rI h 19 0 (Int32.toNatClampNeg (x3 + 1))) (rI h 19 0 (Int32.toNatClampNeg (x3 + 2))) h).bind fun q816 => (if (true && (true && (true && (ixOk (slM q816.2) (x3 + 2) && (true && (ixOk (slM q816.2) (x3 + 1) && true)))))) = true then ((f_X11_told (rI q816.2 19 0 (Int32.toNatClampNeg (x3 + 1))) (rI q816.2 19 0 (Int32.toNatClampNeg (x3 + 2))) q816.2).bind fun q830 => (if q816.1 = q830.1 then (f_L_law_1588 (f_L_law_18 k) x3 q830.2) else (some (0, q830.2)))) else none)) else none) else (if ((rI h 19 0 (Int32.toNatClampNeg x3)) &&& 63) = 16 then (if (true && (true && (true && (ixOk (slM h) (x3 + 2) && (true && (ixOk (slM h) (x3 + 1) && true)))))) = true then ((f_X10_tells (rI h 19 0 (Int32.toNatClampNeg (x3 + 1))) (rI h 19 0 (Int32.toNatClampNeg (x3 + 2))) h).bind fun q849 => (if (true && (true && (true && (ixOk (slM q849.2) (x3 + 2) && (true && (ixOk (slM q849.2) (x3 + 1) && true)))))) = true then ((f_X11_tells (rI q849.2 19 0 (Int32.toNatClampNeg (x3 + 1))) (rI q849.2 19 0 (Int32.toNatClampNeg (x3 + 2))) q849.2).bind fun q863 => (if q849.1 = q863.1 then (f_L_law_1588 (f_L_law_18 k) x3 q863.2) else (some (0, q863.2)))) else none)) else none) else (if ((rI h 19 0 (Int32.toNatClampNeg x3)) &&& 63) = 17 then (if (true && (true && (true && (ixOk (slM h) (x3 + 2) && (true && (ixOk (slM h) (x3 + 1) && true)))))) = true then ((f_X10_about (rI h 19 0 (Int32.toNatClampNeg (x3 + 1))) (rI h 19 0 (Int32.toNatClampNeg (x3 + 2))) h).bind fun q882 => (if (true && (true && (true && (ixOk (slM q882.2) (x3 + 2) && (true && (ixOk (slM q882.2) (x3 + 1) && true)))))) = true then ((f_X11_about (rI q882.2 19 0 (Int32.toNatClampNeg (x3 + 1))) (rI q882.2 19 0 (Int32.toNatClampNeg (x3 + 2))) q882.2).bind fun q896 => (if q882.1 = q896.1 then (f_L_law_1588 (f_L_law_18 k) x3 q896.2) else (some (0, q896.2)))) else none)) else none) else (if ((rI h 19 0 (Int32.toNatClampNeg x3)) &&& 63) = 18 then (if (true && (ixOk (slM h) (x3 + 2) && (true && (ixOk (slM h) (x3 + 1) && true)))) = true then (if (rI h 19 0 (Int32.toNatClampNeg (x3 + 2))) = 0 then (f_L_law_923 (f_L_law_18 k) x3 (rI h 19 0 (Int32.toNatClampNeg (x3 + 1))) 0 h) else (f_L_law_923 (f_L_law_18 k) x3 (rI h 19 0 (Int32.toNatClampNeg (x3 + 1))) 1 h)) else none) else (if ((rI h 19 0 (Int32.toNatClampNeg x3)) &&& 63) = 19 then (if (true && (true && (true && (ixOk (slM h) (x3 + 2) && (true && (ixOk (slM h) (x3 + 1) && true)))))) = true then ((f_X10_laws (rI h 19 0 (Int32.toNatClampNeg (x3 + 1))) (rI h 19 0 (Int32.toNatClampNeg (x3 + 2))) h).bind fun q964 => (if (true && (true && (true && (ixOk (slM q964.2) (x3 + 2) && (true && (ixOk (slM q964.2) (x3 + 1) && true)))))) = true then ((f_X11_laws (rI q964.2 19 0 (Int32.toNatClampNeg (x3 + 1))) (rI q964.2 19 0 (Int32.toNatClampNeg (x3 + 2))) q964.2).bind fun q978 => (if q964.1 = q978.1 then (f_L_law_1588 (f_L_law_18 k) x3 q978.2) else (some (0, q978.2)))) else none)) else none) else (if ((rI h 19 0 (Int32.toNatClampNeg x3)) &&& 63) = 20 then (if (true && (true && (true && (ixOk (slM h) (x3 + 2) && (true && (ixOk (slM h) (x3 + 1) && true)))))) = true then ((f_X10_number (rI h 19 0 (Int32.toNatClampNeg (x3 + 1))) (rI h 19 0 (Int32.toNatClampNeg (x3 + 2))) h).bind fun q997 => (if (true && (true && (true && (ixOk (slM q997.2) (x3 + 2) && (true && (ixOk (slM q997.2) (x3 + 1) && true)))))) = true then ((f_X11_number (rI q997.2 19 0 (Int32.toNatClampNeg (x3 + 1))) (rI q997.2 19 0 (Int32.toNatClampNeg (x3 + 2))) q997.2).bind fun q1011 => (if q997.1 = q1011.1 then (f_L_law_1588 (f_L_law_18 k) x3 q1011.2) else (some (0, q1011.2)))) else none)) else none) else (if ((rI h 19 0 (Int32.toNatClampNeg x3)) &&& 63) = 21 then (if (true && (true && (true && (ixOk (slM h) (x3 + 2) && (true && (ixOk (slM h) (x3 + 1) && true)))))) = true then ((f_X10_gives (rI h 19 0 (Int32.toNatClampNeg (x3 + 1))) (rI h 19 0 (Int32.toNatClampNeg (x3 + 2))) h).bind fun q1030 => (if (true && (true && (true && (ixOk (slM q1030.2) (x3 + 2) && (true && (ixOk (slM q1030.2) (x3 + 1) && true)))))) = true then ((f_X11_gives (rI q1030.2 19 0 (Int32.toNatClampNeg (x3 + 1))) (rI q1030.2 19 0 (Int32.toNatClampNeg (x3 + 2))) q1030.2).bind fun q1044 => (if q1030.1 = q1044.1 then (f_L_law_1588 (f_L_law_18 k) x3 q1044.2) else (some (0, q1044.2)))) else none)) else none) else (if ((rI h 19 0 (Int32.toNatClampNeg x3)) &&& 63) = 22 then (if (true && (true && (true && (ixOk (slM h) (x3 + 2) && (true && (ixOk (slM h) (x3 + 1) && true)))))) = true then ((f_X10_home (rI h 19 0 (Int32.toNatClampNeg (x3 + 1))) (rI h 19 0 (Int32.toNatClampNeg (x3 + 2))) h).bind fun q1063 => (if (true && (true && (true && (ixOk (slM q1063.2) (x3 + 2) && (true && (ixOk (slM q1063.2) (x3 + 1) && true)))))) = true then ((f_X11_home (rI q1063.2 19 0 (Int32.toNatClampNeg (x3 + 1))) (rI q1063.2 19 0 (Int32.toNatClampNeg (x3 + 2))) q1063.2).bind fun q1077 => (if q1063.1 = q1077.1 then (f_L_law_1588 (f_L_law_18 k) x3 q1077.2) else (some (0, q1077.2)))) else none)) else none) else (if ((rI h 19 0 (Int32.toNatClampNeg x3)) &&& 63) = 23 then (if (true && (true && (true && (ixOk (slM h) (x3 + 2) && (true && (ixOk (slM h) (x3 + 1) && true)))))) = true then ((f_X10_span (rI h 19 0 (Int32.toNatClampNeg (x3 + 1))) (rI h 19 0 (Int32.toNatClampNeg (x3 + 2))) h).bind fun q1096 => (if (true && (true && (true && (ixOk (slM q1096.2) (x3 + 2) && (true && (ixOk (slM q1096.2) (x3 + 1) && true)))))) = true then ((f_X11_span (rI q1096.2 19 0 (Int32.toNatClampNeg (x3 + 1))) (rI q1096.2 19 0 (Int32.toNatClampNeg (x3 + 2))) q1096.2).bind fun q1110 => (if q1096.1 = q1110.1 then (f_L_law_1588 (f_L_law_18 k) x3 q1110.2) else (some (0, q1110.2)))) else none)) else none) else (if ((rI h 19 0 (Int32.toNatClampNeg x3)) &&& 63) = 24 then (if (true && (true && (true && (ixOk (slM h) (x3 + 3) && (true && (ixOk (slM h) (x3 + 2) && (true && (ixOk (slM h) (x3 + 1) && true)))))))) = true then ((f_X10_sure (rI h 19 0 (Int32.toNatClampNeg (x3 + 1))) (rI h 19 0 (Int32.toNatClampNeg (x3 + 2))) (rI h 19 0 (Int32.toNatClampNeg (x3 + 3))) h).bind fun q1134 => (if (true && (true && (true && (ixOk (slM q1134.2) (x3 + 3) && (true && (ixOk (slM q1134.2) (x3 + 2) && (true && (ixOk (slM q1134.2) (x3 + 1) && true)))))))) = true then ((f_X11_sure (rI q1134.2 19 0 (Int32.toNatClampNeg (x3 + 1))) (rI q1134.2 19 0 (Int32.toNatClampNeg (x3 + 2))) (rI q1134.2 19 0 (Int32.toNatClampNeg (x3 + 3))) q1134.2).bind fun q1153 => (if q1134.1 = q1153.1 then (f_L_law_1588 (f_L_law_18 k) x3 q1153.2) else (some (0, q1153.2)))) else none)) else none) else (if ((rI h 19 0 (Int32.toNatClampNeg x3)) &&& 63) = 25 then (if (true && (true && (true && (ixOk (slM h) (x3 + 2) && (true && (ixOk (slM h) (x3 + 1) && true)))))) = true then ((f_X10_turns (rI h 19 0 (Int32.toNatClampNeg (x3 + 1))) (rI h 19 0 (Int32.toNatClampNeg (x3 + 2))) h).bind fun q1172 => (if (true && (true && (true && (ixOk (slM q1172.2) (x3 + 2) && (true && (ixOk (slM q1172.2) (x3 + 1) && true)))))) = true then ((f_X11_turns (rI q1172.2 19 0 (Int32.toNatClampNeg (x3 + 1))) (rI q1172.2 19 0 (Int32.toNatClampNeg (x3 + 2))) q1172.2).bind fun q1186 => (if q1172.1 = q1186.1 then (f_L_law_1588 (f_L_law_18 k) x3 q1186.2) else (some (0, q1186.2)))) else none)) else none) else (if ((rI h 19 0 (Int32.toNatClampNeg x3)) &&& 63) = 26 then (if (true && (true && (true && (ixOk (slM h) (x3 + 1) && true)))) = true then ((f_X10_pairs (rI h 19 0 (Int32.toNatClampNeg (x3 + 1))) h).bind fun q1200 => (if (true && (true && (true && (ixOk (slM q1200.2) (x3 + 1) && true)))) = true then ((f_X11_pairs (rI q1200.2 19 0 (Int32.toNatClampNeg (x3 + 1))) q1200.2).bind fun q1209 => (if q1200.1 = q1209.1 then (f_L_law_1588 (f_L_law_18 k) x3 q1209.2) else (some (0, q1209.2)))) else none)) else none) else (if ((rI h 19 0 (Int32.toNatClampNeg x3)) &&& 63) = 27 then (if (true && (true && (true && (ixOk (slM h) (x3 + 1) && true)))) = true then ((f_X10_learn (rI h 19 0 (Int32.toNatClampNeg (x3 + 1))) h).bind fun q1223 => (if (true && (true && (true && (ixOk (slM q1223.2) (x3 + 1) && true)))) = true then ((f_X11_learn (rI q1223.2 19 0 (Int32.toNatClampNeg (x3 + 1))) q1223.2).bind fun q1232 => (if q1223.1 = q1232.1 then (f_L_law_1588 (f_L_law_18 k) x3 q1232.2) else (some (0, q1232.2)))) else none)) else none) else (if ((rI h 19 0 (Int32.toNatClampNeg x3)) &&& 63) = 28 then (if (true && (true && (true && (ixOk (slM h) (x3 + 1) && true)))) = true then ((f_X10_just (rI h 19 0 (Int32.toNatClampNeg (x3 + 1))) h).bind fun q1246 => (if (true && (true && (true && (ixOk (slM q1246.2) (x3 + 1) && true)))) = true then ((f_X11_just (rI q1246.2 19 0 (Int32.toNatClampNeg (x3 + 1))) q1246.2).bind fun q1255 => (if q1246.1 = q1255.1 then (f_L_law_1588 (f_L_law_18 k) x3 q1255.2) else (some (0, q1255.2)))) else none)) else none) else (if ((rI h 19 0 (Int32.toNatClampNeg x3)) &&& 63) = 29 then (if (true && (true && (true && (ixOk (slM h) (x3 + 1) && true)))) = true then ((f_X10_list (rI h 19 0 (Int32.toNatClampNeg (x3 + 1))) h).bind fun q1269 => (if (true && (true && (true && (ixOk (slM q1269.2) (x3 + 1) && true)))) = true then ((f_X11_list (rI q1269.2 19 0 (Int32.toNatClampNeg (x3 + 1))) q1269.2).bind fun q1278 => (if q1269.1 = q1278.1 then (f_L_law_1588 (f_L_law_18 k) x3 q1278.2) else (some (0, q1278.2)))) else none)) else none) else (if ((rI h 19 0 (Int32.toNatClampNeg x3)) &&& 63) = 30 then (if (true && (true && (true && (ixOk (slM h) (x3 + 2) && (true && (ixOk (slM h) (x3 + 1) && true)))))) = true then ((f_X10_listed (rI h 19 0 (Int32.toNatClampNeg (x3 + 1))) (rI h 19 0 (Int32.toNatClampNeg (x3 + 2))) h).bind fun q1297 => (if (true && (true && (true && (ixOk (slM q1297.2) (x3 + 2) && (true && (ixOk (slM q1297.2) (x3 + 1) && true)))))) = true then ((f_X11_listed (rI q1297.2 19 0 (Int32.toNatClampNeg (x3 + 1))) (rI q1297.2 19 0 (Int32.toNatClampNeg (x3 + 2))) q1297.2).bind fun q1311 => (if q1297.1 = q1311.1 then (f_L_law_1588 (f_L_law_18 k) x3 q1311.2) else (some (0, q1311.2)))) else none)) else none) else (if ((rI h 19 0 (Int32.toNatClampNeg x3)) &&& 63) = 31 then (if (true && (true && (true && (ixOk (slM h) (x3 + 2) && (true && (ixOk (slM h) (x3 + 1) && true)))))) = true then ((f_X10_gains (rI h 19 0 (Int32.toNatClampNeg (x3 + 1))) (rI h 19 0 (Int32.toNatClampNeg (x3 + 2))) h).bind fun q1330 => (if (true && (true && (true && (ixOk (slM q1330.2) (x3 + 2) && (true && (ixOk (slM q1330.2) (x3 + 1) && true)))))) = true then ((f_X11_gains (rI q1330.2 19 0 (Int32.toNatClampNeg (x3 + 1))) (rI q1330.2 19 0 (Int32.toNatClampNeg (x3 + 2))) q1330.2).bind fun q1344 => (if q1330.1 = q1344.1 then (f_L_law_1588 (f_L_law_18 k) x3 q1344.2) else (some (0, q1344.2)))) else none)) else none) else (if ((rI h 19 0 (Int32.toNatClampNeg x3)) &&& 63) = 32 then (if (true && (true && (true && (ixOk (slM h) (x3 + 1) && true)))) = true then ((f_X10_far (rI h 19 0 (Int32.toNatClampNeg (x3 + 1))) h).bind fun q1358 => (if (true && (true && (true && (ixOk (slM q1358.2) (x3 + 1) && true)))) = true then ((f_X11_far (rI q1358.2 19 0 (Int32.toNatClampNeg (x3 + 1))) q1358.2).bind fun q1367 => (if q1358.1 = q1367.1 then (f_L_law_1588 (f_L_law_18 k) x3 q1367.2) else (some (0, q1367.2)))) else none)) else none) else (if ((rI h 19 0 (Int32.toNatClampNeg x3)) &&& 63) = 33 then (if (true && (true && (true && (ixOk (slM h) (x3 + 2) && (true && (ixOk (slM h) (x3 + 1) && true)))))) = true then ((f_X10_fall (rI h 19 0 (Int32.toNatClampNeg (x3 + 1))) (rI h 19 0 (Int32.toNatClampNeg (x3 + 2))) h).bind fun q1386 => (if (true && (true && (true && (ixOk (slM q1386.2) (x3 + 2) && (true && (ixOk (slM q1386.2) (x3 + 1) && true)))))) = true then ((f_X11_fall (rI q1386.2 19 0 (Int32.toNatClampNeg (x3 + 1))) (rI q1386.2 19 0 (Int32.toNatClampNeg (x3 + 2))) q1386.2).bind fun q1400 => (if q1386.1 = q1400.1 then (f_L_law_1588 (f_L_law_18 k) x3 q1400.2) else (some (0, q1400.2)))) else none)) else none) else (if ((rI h 19 0 (Int32.toNatClampNeg x3)) &&& 63) = 34 then (if (true && (true && (true && (ixOk (slM h) (x3 + 4) && (true && (ixOk (slM h) (x3 + 3) && (true && (ixOk (slM h) (x3 + 2) && (true && (ixOk (slM h) (x3 + 1) && true)))))))))) = true then ((f_X10_crowd (rI h 19 0 (Int32.toNatClampNeg (x3 + 1))) (rI h 19 0 (Int32.toNatClampNeg (x3 + 2))) (rI h 19 0 (Int32.toNatClampNeg (x3 + 3))) (rI h 19 0 (Int32.toNatClampNeg (x3 + 4))) h).bind fun q1429 => (if (true && (true && (true && (ixOk (slM q1429.2) (x3 + 4) && (true && (ixOk (slM q1429.2) (x3 + 3) && (true && (ixOk (slM q1429.2) (x3 + 2) && (true && (ixOk (slM q1429.2) (x3 + 1) && true)))))))))) = true then ((f_X11_crowd (rI q1429.2 19 0 (Int32.toNatClampNeg (x3 + 1))) (rI q1429.2 19 0 (Int32.toNatClampNeg (x3 + 2))) (rI q1429.2 19 0 (Int32.toNatClampNeg (x3 + 3))) (rI q1429.2 19 0 (Int32.toNatClampNeg (x3 + 4))) q1429.2).bind fun q1453 => (if q1429.1 = q1453.1 then (f_L_law_1588 (f_L_law_18 k) x3 q1453.2) else (some (0, q1453.2)))) else none)) else none) else (if ((rI h 19 0 (Int32.toNatClampNeg x3)) &&& 63) = 35 then ((f_X10_next  h).bind fun q1462 => ((f_X11_next  q1462.2).bind fun q1466 => (if q1462.1 = q1466.1 then (f_L_law_1588 (f_L_law_18 k) x3 q1466.2) else (some (0, q1466.2))))) else (if ((rI h 19 0 (Int32.toNatClampNeg x3)) &&& 63) = 36 then ((f_X10_asked  h).bind fun q1475 => ((f_X11_asked  q1475.2).bind fun q1479 => (if q1475.1 = q1479.1 then (f_L_law_1588 (f_L_law_18 k) x3 q1479.2) else (some (0, q1479.2))))) else (if ((rI h 19 0 (Int32.toNatClampNeg x3)) &&& 63) = 37 then ((f_X10_upper  h).bind fun q1488 => ((f_X11_upper  q1488.2).bind fun q1492 => (if (lg_cmp q1488.1 q1492.1) = 0 then (f_L_law_1588 (f_L_law_18 k) x3 q1492.2) else (some (0, q1492.2))))) else (if ((rI h 19 0 (Int32.toNatClampNeg x3)) &&& 63) = 38 then ((f_X10_lower  h).bind fun q1502 => ((f_X11_lower  q1502.2).bind fun q1506 => (if (lg_cmp q1502.1 q1506.1) = 0 then (f_L_law_1588 (f_L_law_18 k) x3 q1506.2) else (some (0, q1506.2))))) else (if ((rI h 19 0 (Int32.toNatClampNeg x3)) &&& 63) = 39 then (if (true && (true && (true && (ixOk (slM h) (x3 + 1) && true)))) = true then ((f_X10_count (rI h 19 0 (Int32.toNatClampNeg (x3 + 1))) h).bind fun q1521 => (if (true && (true && (true && (ixOk (slM q1521.2) (x3 + 1) && true)))) = true then ((f_X11_count (rI q1521.2 19 0 (Int32.toNatClampNeg (x3 + 1))) q1521.2).bind fun q1530 => (if q1521.1 = q1530.1 then (f_L_law_1588 (f_L_law_18 k) x3 q1530.2) else (some (0, q1530.2)))) else none)) else none) else (if ((rI h 19 0 (Int32.toNatClampNeg x3)) &&& 63) = 40 then ((f_X10_finding  h).bind fun q1539 => ((f_X11_finding  q1539.2).bind fun q1543 => (if q1539.1 = q1543.1 then (f_L_law_1588 (f_L_law_18 k) x3 q1543.2) else (some (0, q1543.2))))) else (if ((rI h 19 0 (Int32.toNatClampNeg x3)) &&& 63) = 41 then (if (true && (true && (true && (ixOk (slM h) (x3 + 1) && true)))) = true then ((f_X10_findings (rI h 19 0 (Int32.toNatClampNeg (x3 + 1))) h).bind fun q1557 => (if (true && (true && (true && (ixOk (slM q1557.2) (x3 + 1) && true)))) = true then ((f_X11_findings (rI q1557.2 19 0 (Int32.toNatClampNeg (x3 + 1))) q1557.2).bind fun q1566 => (if q1557.1 = q1566.1 then (f_L_law_1588 (f_L_law_18 k) x3 q1566.2) else (some (0, q1566.2)))) else none)) else none) else (if ((rI h 19 0 (Int32.toNatClampNeg x3)) &&& 63) = 42 then ((f_X10_digest  h).bind fun q1575 => ((f_X11_digest  q1575.2).bind fun q1579 => (if (lg_cmp q1575.1 q1579.1) = 0 then (f_L_law_1588 (f_L_law_18 k) x3 q1579.2) else (some (0, q1579.2))))) else (f_L_law_1588 (f_L_law_18 k) x3 h)))))))))))))))))))))))))))))))))))))))))))) else none))
set_option maxRecDepth 20000 in
theorem ev_L_law_18 {d : Nat} (hd : 9 ≤ d) : ∀ (k : Nat) {x3 : Int32} {h : zM} {r : Int32 × zM}, f_L_law_18 k x3 h = some r → zEv zmt d 216 18 ([some (vR (some (19, 0))), some (vR (some (10, 0))), some (vR (some (11, 0))), some (vI x3)], [], h, true) (some (vI r.1), r.2) := by
  intro k
  induction k with
  | zero => intro x3 h r H; cases H
  | succ k ih =>
    intro x3 h r H
    rcases ifc H with ⟨hc, H⟩ | ⟨hc, H⟩
    · refine zEv.iteT (L2 := [some (vR (some (19, 0))), some (vR (some (10, 0))), some (vR (some (11, 0))), some (vI x3)]) (st2 := []) (h2 := h) zm_L_law rfl rfl rfl rfl (decide_eq_true hc) ?_
      cases H
      exact zEv.ret zm_L_law rfl rfl rfl rfl
    · refine zEv.iteF (L2 := [some (vR (some (19, 0))), some (vR (some (10, 0))), some (vR (some (11, 0))), some (vI x3)]) (st2 := []) (h2 := h) zm_L_law rfl rfl rfl rfl (decide_eq_false hc) ?_
      obtain ⟨hg, H⟩ := ifg H
      rcases ifc H with ⟨hc0, H⟩ | ⟨hc0, H⟩
      · refine zEv.sw (x := swL 0 42 [220, 253, 296, 319, 382, 405, 438, 481, 504, 557, 620, 663, 706, 739, 772, 805, 838, 871, 904, 953, 986, 1019, 1052, 1085, 1118, 1161, 1194, 1217, 1240, 1263, 1286, 1319, 1352, 1375, 1408, 1461, 1474, 1487, 1501, 1515, 1538, 1551, 1574] 1588 (((rI h 19 0 (Int32.toNatClampNeg x3)) &&& 63))) (L2 := [some (vR (some (19, 0))), some (vR (some (10, 0))), some (vR (some (11, 0))), some (vI x3)]) (st2 := []) (h2 := h) zm_L_law rfl hg rfl hg (lab' := 220) (by rw [hc0]; decide) ?_
        obtain ⟨hg, H⟩ := ifg H
        obtain ⟨q231, hq, H⟩ := bnd H
        refine zEv.call (k := 57) (as := [vR (some (10, 0)), vI (rI h 19 0 (Int32.toNatClampNeg (x3 + 1))), vI (rI h 19 0 (Int32.toNatClampNeg (x3 + 2)))]) (L2 := [some (vR (some (19, 0))), some (vR (some (10, 0))), some (vR (some (11, 0))), some (vI x3)]) (st2 := []) (h2 := h) (v := some (vI q231.1)) (h1 := q231.2) (st3 := [vI q231.1]) zm_L_law rfl (and2 (and2 hg).2).2 rfl hg rfl zm_X10_row rfl (by omega) (ev_X10_row (by omega) hq) rfl ?_
        obtain ⟨hg, H⟩ := ifg H
        obtain ⟨q245, hq, H⟩ := bnd H
        refine zEv.call (k := 136) (as := [vR (some (11, 0)), vI (rI q231.2 19 0 (Int32.toNatClampNeg (x3 + 1))), vI (rI q231.2 19 0 (Int32.toNatClampNeg (x3 + 2)))]) (L2 := [some (vR (some (19, 0))), some (vR (some (10, 0))), some (vR (some (11, 0))), some (vI x3)]) (st2 := [vI q231.1]) (h2 := q231.2) (v := some (vI q245.1)) (h1 := q245.2) (st3 := [vI q245.1, vI q231.1]) zm_L_law rfl (and2 (and2 hg).2).2 rfl hg rfl zm_X11_row rfl (by omega) (ev_X11_row (by omega) hq) rfl ?_
        rcases ifc H with ⟨hc, H⟩ | ⟨hc, H⟩
        · refine zEv.iteT (L2 := [some (vR (some (19, 0))), some (vR (some (10, 0))), some (vR (some (11, 0))), some (vI x3)]) (st2 := []) (h2 := q245.2) zm_L_law rfl rfl rfl rfl (decide_eq_true hc) ?_
          exact ev_L_law_1588 (by omega) ih H
        · refine zEv.iteF (L2 := [some (vR (some (19, 0))), some (vR (some (10, 0))), some (vR (some (11, 0))), some (vI x3)]) (st2 := []) (h2 := q245.2) zm_L_law rfl rfl rfl rfl (decide_eq_false hc) ?_
          cases H
          exact zEv.ret zm_L_law rfl rfl rfl rfl
      rcases ifc H with ⟨hc1, H⟩ | ⟨hc1, H⟩
      · refine zEv.sw (x := swL 0 42 [220, 253, 296, 319, 382, 405, 438, 481, 504, 557, 620, 663, 706, 739, 772, 805, 838, 871, 904, 953, 986, 1019, 1052, 1085, 1118, 1161, 1194, 1217, 1240, 1263, 1286, 1319, 1352, 1375, 1408, 1461, 1474, 1487, 1501, 1515, 1538, 1551, 1574] 1588 (((rI h 19 0 (Int32.toNatClampNeg x3)) &&& 63))) (L2 := [some (vR (some (19, 0))), some (vR (some (10, 0))), some (vR (some (11, 0))), some (vI x3)]) (st2 := []) (h2 := h) zm_L_law rfl hg rfl hg (lab' := 253) (by rw [hc1]; decide) ?_
        obtain ⟨hg, H⟩ := ifg H
        obtain ⟨q269, hq, H⟩ := bnd H
        refine zEv.call (k := 58) (as := [vR (some (10, 0)), vI (rI h 19 0 (Int32.toNatClampNeg (x3 + 1))), vI (rI h 19 0 (Int32.toNatClampNeg (x3 + 2))), vI (rI h 19 0 (Int32.toNatClampNeg (x3 + 3)))]) (L2 := [some (vR (some (19, 0))), some (vR (some (10, 0))), some (vR (some (11, 0))), some (vI x3)]) (st2 := []) (h2 := h) (v := some (vI q269.1)) (h1 := q269.2) (st3 := [vI q269.1]) zm_L_law rfl (and2 (and2 hg).2).2 rfl hg rfl zm_X10_lay rfl (by omega) (ev_X10_lay (by omega) hq) rfl ?_
        obtain ⟨hg, H⟩ := ifg H
        obtain ⟨q288, hq, H⟩ := bnd H
        refine zEv.call (k := 137) (as := [vR (some (11, 0)), vI (rI q269.2 19 0 (Int32.toNatClampNeg (x3 + 1))), vI (rI q269.2 19 0 (Int32.toNatClampNeg (x3 + 2))), vI (rI q269.2 19 0 (Int32.toNatClampNeg (x3 + 3)))]) (L2 := [some (vR (some (19, 0))), some (vR (some (10, 0))), some (vR (some (11, 0))), some (vI x3)]) (st2 := [vI q269.1]) (h2 := q269.2) (v := some (vI q288.1)) (h1 := q288.2) (st3 := [vI q288.1, vI q269.1]) zm_L_law rfl (and2 (and2 hg).2).2 rfl hg rfl zm_X11_lay rfl (by omega) (ev_X11_lay (by omega) hq) rfl ?_
        rcases ifc H with ⟨hc, H⟩ | ⟨hc, H⟩
        · refine zEv.iteT (L2 := [some (vR (some (19, 0))), some (vR (some (10, 0))), some (vR (some (11, 0))), some (vI x3)]) (st2 := []) (h2 := q288.2) zm_L_law rfl rfl rfl rfl (decide_eq_true hc) ?_
          exact ev_L_law_1588 (by omega) ih H
        · refine zEv.iteF (L2 := [some (vR (some (19, 0))), some (vR (some (10, 0))), some (vR (some (11, 0))), some (vI x3)]) (st2 := []) (h2 := q288.2) zm_L_law rfl rfl rfl rfl (decide_eq_false hc) ?_
          cases H
          exact zEv.ret zm_L_law rfl rfl rfl rfl
      rcases ifc H with ⟨hc2, H⟩ | ⟨hc2, H⟩
      · refine zEv.sw (x := swL 0 42 [220, 253, 296, 319, 382, 405, 438, 481, 504, 557, 620, 663, 706, 739, 772, 805, 838, 871, 904, 953, 986, 1019, 1052, 1085, 1118, 1161, 1194, 1217, 1240, 1263, 1286, 1319, 1352, 1375, 1408, 1461, 1474, 1487, 1501, 1515, 1538, 1551, 1574] 1588 (((rI h 19 0 (Int32.toNatClampNeg x3)) &&& 63))) (L2 := [some (vR (some (19, 0))), some (vR (some (10, 0))), some (vR (some (11, 0))), some (vI x3)]) (st2 := []) (h2 := h) zm_L_law rfl hg rfl hg (lab' := 296) (by rw [hc2]; decide) ?_
        obtain ⟨hg, H⟩ := ifg H
        obtain ⟨q302, hq, H⟩ := bnd H
        refine zEv.call (k := 59) (as := [vR (some (10, 0)), vI (rI h 19 0 (Int32.toNatClampNeg (x3 + 1)))]) (L2 := [some (vR (some (19, 0))), some (vR (some (10, 0))), some (vR (some (11, 0))), some (vI x3)]) (st2 := []) (h2 := h) (v := some (vI q302.1)) (h1 := q302.2) (st3 := [vI q302.1]) zm_L_law rfl (and2 (and2 hg).2).2 rfl hg rfl zm_X10_tear rfl (by omega) (ev_X10_tear (by omega) hq) rfl ?_
        obtain ⟨hg, H⟩ := ifg H
        obtain ⟨q311, hq, H⟩ := bnd H
        refine zEv.call (k := 138) (as := [vR (some (11, 0)), vI (rI q302.2 19 0 (Int32.toNatClampNeg (x3 + 1)))]) (L2 := [some (vR (some (19, 0))), some (vR (some (10, 0))), some (vR (some (11, 0))), some (vI x3)]) (st2 := [vI q302.1]) (h2 := q302.2) (v := some (vI q311.1)) (h1 := q311.2) (st3 := [vI q311.1, vI q302.1]) zm_L_law rfl (and2 (and2 hg).2).2 rfl hg rfl zm_X11_tear rfl (by omega) (ev_X11_tear (by omega) hq) rfl ?_
        rcases ifc H with ⟨hc, H⟩ | ⟨hc, H⟩
        · refine zEv.iteT (L2 := [some (vR (some (19, 0))), some (vR (some (10, 0))), some (vR (some (11, 0))), some (vI x3)]) (st2 := []) (h2 := q311.2) zm_L_law rfl rfl rfl rfl (decide_eq_true hc) ?_
          exact ev_L_law_1588 (by omega) ih H
        · refine zEv.iteF (L2 := [some (vR (some (19, 0))), some (vR (some (10, 0))), some (vR (some (11, 0))), some (vI x3)]) (st2 := []) (h2 := q311.2) zm_L_law rfl rfl rfl rfl (decide_eq_false hc) ?_
          cases H
          exact zEv.ret zm_L_law rfl rfl rfl rfl
      rcases ifc H with ⟨hc3, H⟩ | ⟨hc3, H⟩
      · refine zEv.sw (x := swL 0 42 [220, 253, 296, 319, 382, 405, 438, 481, 504, 557, 620, 663, 706, 739, 772, 805, 838, 871, 904, 953, 986, 1019, 1052, 1085, 1118, 1161, 1194, 1217, 1240, 1263, 1286, 1319, 1352, 1375, 1408, 1461, 1474, 1487, 1501, 1515, 1538, 1551, 1574] 1588 (((rI h 19 0 (Int32.toNatClampNeg x3)) &&& 63))) (L2 := [some (vR (some (19, 0))), some (vR (some (10, 0))), some (vR (some (11, 0))), some (vI x3)]) (st2 := []) (h2 := h) zm_L_law rfl hg rfl hg (lab' := 319) (by rw [hc3]; decide) ?_
        obtain ⟨hg, H⟩ := ifg H
        obtain ⟨q345, hq, H⟩ := bnd H
        refine zEv.call (k := 60) (as := [vR (some (10, 0)), vI (rI h 19 0 (Int32.toNatClampNeg (x3 + 1))), vI (rI h 19 0 (Int32.toNatClampNeg (x3 + 2))), vI (rI h 19 0 (Int32.toNatClampNeg (x3 + 3))), vI (rI h 19 0 (Int32.toNatClampNeg (x3 + 4))), vI (rI h 19 0 (Int32.toNatClampNeg (x3 + 5)))]) (L2 := [some (vR (some (19, 0))), some (vR (some (10, 0))), some (vR (some (11, 0))), some (vI x3)]) (st2 := []) (h2 := h) (v := some (vI q345.1)) (h1 := q345.2) (st3 := [vI q345.1]) zm_L_law rfl (and2 (and2 hg).2).2 rfl hg rfl zm_X10_copy rfl (by omega) (ev_X10_copy (by omega) hq) rfl ?_
        obtain ⟨hg, H⟩ := ifg H
        obtain ⟨q374, hq, H⟩ := bnd H
        refine zEv.call (k := 139) (as := [vR (some (11, 0)), vI (rI q345.2 19 0 (Int32.toNatClampNeg (x3 + 1))), vI (rI q345.2 19 0 (Int32.toNatClampNeg (x3 + 2))), vI (rI q345.2 19 0 (Int32.toNatClampNeg (x3 + 3))), vI (rI q345.2 19 0 (Int32.toNatClampNeg (x3 + 4))), vI (rI q345.2 19 0 (Int32.toNatClampNeg (x3 + 5)))]) (L2 := [some (vR (some (19, 0))), some (vR (some (10, 0))), some (vR (some (11, 0))), some (vI x3)]) (st2 := [vI q345.1]) (h2 := q345.2) (v := some (vI q374.1)) (h1 := q374.2) (st3 := [vI q374.1, vI q345.1]) zm_L_law rfl (and2 (and2 hg).2).2 rfl hg rfl zm_X11_copy rfl (by omega) (ev_X11_copy (by omega) hq) rfl ?_
        rcases ifc H with ⟨hc, H⟩ | ⟨hc, H⟩
        · refine zEv.iteT (L2 := [some (vR (some (19, 0))), some (vR (some (10, 0))), some (vR (some (11, 0))), some (vI x3)]) (st2 := []) (h2 := q374.2) zm_L_law rfl rfl rfl rfl (decide_eq_true hc) ?_
          exact ev_L_law_1588 (by omega) ih H
        · refine zEv.iteF (L2 := [some (vR (some (19, 0))), some (vR (some (10, 0))), some (vR (some (11, 0))), some (vI x3)]) (st2 := []) (h2 := q374.2) zm_L_law rfl rfl rfl rfl (decide_eq_false hc) ?_
          cases H
          exact zEv.ret zm_L_law rfl rfl rfl rfl
      rcases ifc H with ⟨hc4, H⟩ | ⟨hc4, H⟩
      · refine zEv.sw (x := swL 0 42 [220, 253, 296, 319, 382, 405, 438, 481, 504, 557, 620, 663, 706, 739, 772, 805, 838, 871, 904, 953, 986, 1019, 1052, 1085, 1118, 1161, 1194, 1217, 1240, 1263, 1286, 1319, 1352, 1375, 1408, 1461, 1474, 1487, 1501, 1515, 1538, 1551, 1574] 1588 (((rI h 19 0 (Int32.toNatClampNeg x3)) &&& 63))) (L2 := [some (vR (some (19, 0))), some (vR (some (10, 0))), some (vR (some (11, 0))), some (vI x3)]) (st2 := []) (h2 := h) zm_L_law rfl hg rfl hg (lab' := 382) (by rw [hc4]; decide) ?_
        obtain ⟨hg, H⟩ := ifg H
        obtain ⟨q388, hq, H⟩ := bnd H
        refine zEv.call (k := 61) (as := [vR (some (10, 0)), vI (rI h 19 0 (Int32.toNatClampNeg (x3 + 1)))]) (L2 := [some (vR (some (19, 0))), some (vR (some (10, 0))), some (vR (some (11, 0))), some (vI x3)]) (st2 := []) (h2 := h) (v := some (vI q388.1)) (h1 := q388.2) (st3 := [vI q388.1]) zm_L_law rfl (and2 (and2 hg).2).2 rfl hg rfl zm_X10_mean rfl (by omega) (ev_X10_mean (by omega) hq) rfl ?_
        obtain ⟨hg, H⟩ := ifg H
        obtain ⟨q397, hq, H⟩ := bnd H
        refine zEv.call (k := 140) (as := [vR (some (11, 0)), vI (rI q388.2 19 0 (Int32.toNatClampNeg (x3 + 1)))]) (L2 := [some (vR (some (19, 0))), some (vR (some (10, 0))), some (vR (some (11, 0))), some (vI x3)]) (st2 := [vI q388.1]) (h2 := q388.2) (v := some (vI q397.1)) (h1 := q397.2) (st3 := [vI q397.1, vI q388.1]) zm_L_law rfl (and2 (and2 hg).2).2 rfl hg rfl zm_X11_mean rfl (by omega) (ev_X11_mean (by omega) hq) rfl ?_
        rcases ifc H with ⟨hc, H⟩ | ⟨hc, H⟩
        · refine zEv.iteT (L2 := [some (vR (some (19, 0))), some (vR (some (10, 0))), some (vR (some (11, 0))), some (vI x3)]) (st2 := []) (h2 := q397.2) zm_L_law rfl rfl rfl rfl (decide_eq_true hc) ?_
          exact ev_L_law_1588 (by omega) ih H
        · refine zEv.iteF (L2 := [some (vR (some (19, 0))), some (vR (some (10, 0))), some (vR (some (11, 0))), some (vI x3)]) (st2 := []) (h2 := q397.2) zm_L_law rfl rfl rfl rfl (decide_eq_false hc) ?_
          cases H
          exact zEv.ret zm_L_law rfl rfl rfl rfl
      rcases ifc H with ⟨hc5, H⟩ | ⟨hc5, H⟩
      · refine zEv.sw (x := swL 0 42 [220, 253, 296, 319, 382, 405, 438, 481, 504, 557, 620, 663, 706, 739, 772, 805, 838, 871, 904, 953, 986, 1019, 1052, 1085, 1118, 1161, 1194, 1217, 1240, 1263, 1286, 1319, 1352, 1375, 1408, 1461, 1474, 1487, 1501, 1515, 1538, 1551, 1574] 1588 (((rI h 19 0 (Int32.toNatClampNeg x3)) &&& 63))) (L2 := [some (vR (some (19, 0))), some (vR (some (10, 0))), some (vR (some (11, 0))), some (vI x3)]) (st2 := []) (h2 := h) zm_L_law rfl hg rfl hg (lab' := 405) (by rw [hc5]; decide) ?_
        obtain ⟨hg, H⟩ := ifg H
        obtain ⟨q416, hq, H⟩ := bnd H
        refine zEv.call (k := 62) (as := [vR (some (10, 0)), vI (rI h 19 0 (Int32.toNatClampNeg (x3 + 1))), vI (rI h 19 0 (Int32.toNatClampNeg (x3 + 2)))]) (L2 := [some (vR (some (19, 0))), some (vR (some (10, 0))), some (vR (some (11, 0))), some (vI x3)]) (st2 := []) (h2 := h) (v := some (vI q416.1)) (h1 := q416.2) (st3 := [vI q416.1]) zm_L_law rfl (and2 (and2 hg).2).2 rfl hg rfl zm_X10_text rfl (by omega) (ev_X10_text (by omega) hq) rfl ?_
        obtain ⟨hg, H⟩ := ifg H
        obtain ⟨q430, hq, H⟩ := bnd H
        refine zEv.call (k := 141) (as := [vR (some (11, 0)), vI (rI q416.2 19 0 (Int32.toNatClampNeg (x3 + 1))), vI (rI q416.2 19 0 (Int32.toNatClampNeg (x3 + 2)))]) (L2 := [some (vR (some (19, 0))), some (vR (some (10, 0))), some (vR (some (11, 0))), some (vI x3)]) (st2 := [vI q416.1]) (h2 := q416.2) (v := some (vI q430.1)) (h1 := q430.2) (st3 := [vI q430.1, vI q416.1]) zm_L_law rfl (and2 (and2 hg).2).2 rfl hg rfl zm_X11_text rfl (by omega) (ev_X11_text (by omega) hq) rfl ?_
        rcases ifc H with ⟨hc, H⟩ | ⟨hc, H⟩
        · refine zEv.iteT (L2 := [some (vR (some (19, 0))), some (vR (some (10, 0))), some (vR (some (11, 0))), some (vI x3)]) (st2 := []) (h2 := q430.2) zm_L_law rfl rfl rfl rfl (decide_eq_true hc) ?_
          exact ev_L_law_1588 (by omega) ih H
        · refine zEv.iteF (L2 := [some (vR (some (19, 0))), some (vR (some (10, 0))), some (vR (some (11, 0))), some (vI x3)]) (st2 := []) (h2 := q430.2) zm_L_law rfl rfl rfl rfl (decide_eq_false hc) ?_
          cases H
          exact zEv.ret zm_L_law rfl rfl rfl rfl
      rcases ifc H with ⟨hc6, H⟩ | ⟨hc6, H⟩
      · refine zEv.sw (x := swL 0 42 [220, 253, 296, 319, 382, 405, 438, 481, 504, 557, 620, 663, 706, 739, 772, 805, 838, 871, 904, 953, 986, 1019, 1052, 1085, 1118, 1161, 1194, 1217, 1240, 1263, 1286, 1319, 1352, 1375, 1408, 1461, 1474, 1487, 1501, 1515, 1538, 1551, 1574] 1588 (((rI h 19 0 (Int32.toNatClampNeg x3)) &&& 63))) (L2 := [some (vR (some (19, 0))), some (vR (some (10, 0))), some (vR (some (11, 0))), some (vI x3)]) (st2 := []) (h2 := h) zm_L_law rfl hg rfl hg (lab' := 438) (by rw [hc6]; decide) ?_
        obtain ⟨hg, H⟩ := ifg H
        obtain ⟨q454, hq, H⟩ := bnd H
        refine zEv.call (k := 63) (as := [vR (some (10, 0)), vI (rI h 19 0 (Int32.toNatClampNeg (x3 + 1))), vI (rI h 19 0 (Int32.toNatClampNeg (x3 + 2))), vI (rI h 19 0 (Int32.toNatClampNeg (x3 + 3)))]) (L2 := [some (vR (some (19, 0))), some (vR (some (10, 0))), some (vR (some (11, 0))), some (vI x3)]) (st2 := []) (h2 := h) (v := some (vI q454.1)) (h1 := q454.2) (st3 := [vI q454.1]) zm_L_law rfl (and2 (and2 hg).2).2 rfl hg rfl zm_X10_put rfl (by omega) (ev_X10_put (by omega) hq) rfl ?_
        obtain ⟨hg, H⟩ := ifg H
        obtain ⟨q473, hq, H⟩ := bnd H
        refine zEv.call (k := 142) (as := [vR (some (11, 0)), vI (rI q454.2 19 0 (Int32.toNatClampNeg (x3 + 1))), vI (rI q454.2 19 0 (Int32.toNatClampNeg (x3 + 2))), vI (rI q454.2 19 0 (Int32.toNatClampNeg (x3 + 3)))]) (L2 := [some (vR (some (19, 0))), some (vR (some (10, 0))), some (vR (some (11, 0))), some (vI x3)]) (st2 := [vI q454.1]) (h2 := q454.2) (v := some (vI q473.1)) (h1 := q473.2) (st3 := [vI q473.1, vI q454.1]) zm_L_law rfl (and2 (and2 hg).2).2 rfl hg rfl zm_X11_put rfl (by omega) (ev_X11_put (by omega) hq) rfl ?_
        rcases ifc H with ⟨hc, H⟩ | ⟨hc, H⟩
        · refine zEv.iteT (L2 := [some (vR (some (19, 0))), some (vR (some (10, 0))), some (vR (some (11, 0))), some (vI x3)]) (st2 := []) (h2 := q473.2) zm_L_law rfl rfl rfl rfl (decide_eq_true hc) ?_
          exact ev_L_law_1588 (by omega) ih H
        · refine zEv.iteF (L2 := [some (vR (some (19, 0))), some (vR (some (10, 0))), some (vR (some (11, 0))), some (vI x3)]) (st2 := []) (h2 := q473.2) zm_L_law rfl rfl rfl rfl (decide_eq_false hc) ?_
          cases H
          exact zEv.ret zm_L_law rfl rfl rfl rfl
      rcases ifc H with ⟨hc7, H⟩ | ⟨hc7, H⟩
      · refine zEv.sw (x := swL 0 42 [220, 253, 296, 319, 382, 405, 438, 481, 504, 557, 620, 663, 706, 739, 772, 805, 838, 871, 904, 953, 986, 1019, 1052, 1085, 1118, 1161, 1194, 1217, 1240, 1263, 1286, 1319, 1352, 1375, 1408, 1461, 1474, 1487, 1501, 1515, 1538, 1551, 1574] 1588 (((rI h 19 0 (Int32.toNatClampNeg x3)) &&& 63))) (L2 := [some (vR (some (19, 0))), some (vR (some (10, 0))), some (vR (some (11, 0))), some (vI x3)]) (st2 := []) (h2 := h) zm_L_law rfl hg rfl hg (lab' := 481) (by rw [hc7]; decide) ?_
        obtain ⟨hg, H⟩ := ifg H
        obtain ⟨q487, hq, H⟩ := bnd H
        refine zEv.call (k := 64) (as := [vR (some (10, 0)), vI (rI h 19 0 (Int32.toNatClampNeg (x3 + 1)))]) (L2 := [some (vR (some (19, 0))), some (vR (some (10, 0))), some (vR (some (11, 0))), some (vI x3)]) (st2 := []) (h2 := h) (v := some (vI q487.1)) (h1 := q487.2) (st3 := [vI q487.1]) zm_L_law rfl (and2 (and2 hg).2).2 rfl hg rfl zm_X10_later rfl (by omega) (ev_X10_later (by omega) hq) rfl ?_
        obtain ⟨hg, H⟩ := ifg H
        obtain ⟨q496, hq, H⟩ := bnd H
        refine zEv.call (k := 143) (as := [vR (some (11, 0)), vI (rI q487.2 19 0 (Int32.toNatClampNeg (x3 + 1)))]) (L2 := [some (vR (some (19, 0))), some (vR (some (10, 0))), some (vR (some (11, 0))), some (vI x3)]) (st2 := [vI q487.1]) (h2 := q487.2) (v := some (vI q496.1)) (h1 := q496.2) (st3 := [vI q496.1, vI q487.1]) zm_L_law rfl (and2 (and2 hg).2).2 rfl hg rfl zm_X11_later rfl (by omega) (ev_X11_later (by omega) hq) rfl ?_
        rcases ifc H with ⟨hc, H⟩ | ⟨hc, H⟩
        · refine zEv.iteT (L2 := [some (vR (some (19, 0))), some (vR (some (10, 0))), some (vR (some (11, 0))), some (vI x3)]) (st2 := []) (h2 := q496.2) zm_L_law rfl rfl rfl rfl (decide_eq_true hc) ?_
          exact ev_L_law_1588 (by omega) ih H
        · refine zEv.iteF (L2 := [some (vR (some (19, 0))), some (vR (some (10, 0))), some (vR (some (11, 0))), some (vI x3)]) (st2 := []) (h2 := q496.2) zm_L_law rfl rfl rfl rfl (decide_eq_false hc) ?_
          cases H
          exact zEv.ret zm_L_law rfl rfl rfl rfl
      rcases ifc H with ⟨hc8, H⟩ | ⟨hc8, H⟩
      · refine zEv.sw (x := swL 0 42 [220, 253, 296, 319, 382, 405, 438, 481, 504, 557, 620, 663, 706, 739, 772, 805, 838, 871, 904, 953, 986, 1019, 1052, 1085, 1118, 1161, 1194, 1217, 1240, 1263, 1286, 1319, 1352, 1375, 1408, 1461, 1474, 1487, 1501, 1515, 1538, 1551, 1574] 1588 (((rI h 19 0 (Int32.toNatClampNeg x3)) &&& 63))) (L2 := [some (vR (some (19, 0))), some (vR (some (10, 0))), some (vR (some (11, 0))), some (vI x3)]) (st2 := []) (h2 := h) zm_L_law rfl hg rfl hg (lab' := 504) (by rw [hc8]; decide) ?_
        obtain ⟨hg, H⟩ := ifg H
        obtain ⟨q525, hq, H⟩ := bnd H
        refine zEv.call (k := 65) (as := [vR (some (10, 0)), vI (rI h 19 0 (Int32.toNatClampNeg (x3 + 1))), vI (rI h 19 0 (Int32.toNatClampNeg (x3 + 2))), vI (rI h 19 0 (Int32.toNatClampNeg (x3 + 3))), vI (rI h 19 0 (Int32.toNatClampNeg (x3 + 4)))]) (L2 := [some (vR (some (19, 0))), some (vR (some (10, 0))), some (vR (some (11, 0))), some (vI x3)]) (st2 := []) (h2 := h) (v := some (vI q525.1)) (h1 := q525.2) (st3 := [vI q525.1]) zm_L_law rfl (and2 (and2 hg).2).2 rfl hg rfl zm_X10_place rfl (by omega) (ev_X10_place (by omega) hq) rfl ?_
        obtain ⟨hg, H⟩ := ifg H
        obtain ⟨q549, hq, H⟩ := bnd H
        refine zEv.call (k := 145) (as := [vR (some (11, 0)), vI (rI q525.2 19 0 (Int32.toNatClampNeg (x3 + 1))), vI (rI q525.2 19 0 (Int32.toNatClampNeg (x3 + 2))), vI (rI q525.2 19 0 (Int32.toNatClampNeg (x3 + 3))), vI (rI q525.2 19 0 (Int32.toNatClampNeg (x3 + 4)))]) (L2 := [some (vR (some (19, 0))), some (vR (some (10, 0))), some (vR (some (11, 0))), some (vI x3)]) (st2 := [vI q525.1]) (h2 := q525.2) (v := some (vI q549.1)) (h1 := q549.2) (st3 := [vI q549.1, vI q525.1]) zm_L_law rfl (and2 (and2 hg).2).2 rfl hg rfl zm_X11_place rfl (by omega) (ev_X11_place (by omega) hq) rfl ?_
        rcases ifc H with ⟨hc, H⟩ | ⟨hc, H⟩
        · refine zEv.iteT (L2 := [some (vR (some (19, 0))), some (vR (some (10, 0))), some (vR (some (11, 0))), some (vI x3)]) (st2 := []) (h2 := q549.2) zm_L_law rfl rfl rfl rfl (decide_eq_true hc) ?_
          exact ev_L_law_1588 (by omega) ih H
        · refine zEv.iteF (L2 := [some (vR (some (19, 0))), some (vR (some (10, 0))), some (vR (some (11, 0))), some (vI x3)]) (st2 := []) (h2 := q549.2) zm_L_law rfl rfl rfl rfl (decide_eq_false hc) ?_
          cases H
          exact zEv.ret zm_L_law rfl rfl rfl rfl
      rcases ifc H with ⟨hc9, H⟩ | ⟨hc9, H⟩
      · refine zEv.sw (x := swL 0 42 [220, 253, 296, 319, 382, 405, 438, 481, 504, 557, 620, 663, 706, 739, 772, 805, 838, 871, 904, 953, 986, 1019, 1052, 1085, 1118, 1161, 1194, 1217, 1240, 1263, 1286, 1319, 1352, 1375, 1408, 1461, 1474, 1487, 1501, 1515, 1538, 1551, 1574] 1588 (((rI h 19 0 (Int32.toNatClampNeg x3)) &&& 63))) (L2 := [some (vR (some (19, 0))), some (vR (some (10, 0))), some (vR (some (11, 0))), some (vI x3)]) (st2 := []) (h2 := h) zm_L_law rfl hg rfl hg (lab' := 557) (by rw [hc9]; decide) ?_
        obtain ⟨hg, H⟩ := ifg H
        obtain ⟨q583, hq, H⟩ := bnd H
        refine zEv.call (k := 66) (as := [vR (some (10, 0)), vI (rI h 19 0 (Int32.toNatClampNeg (x3 + 1))), vI (rI h 19 0 (Int32.toNatClampNeg (x3 + 2))), vI (rI h 19 0 (Int32.toNatClampNeg (x3 + 3))), vI (rI h 19 0 (Int32.toNatClampNeg (x3 + 4))), vI (rI h 19 0 (Int32.toNatClampNeg (x3 + 5)))]) (L2 := [some (vR (some (19, 0))), some (vR (some (10, 0))), some (vR (some (11, 0))), some (vI x3)]) (st2 := []) (h2 := h) (v := some (vI q583.1)) (h1 := q583.2) (st3 := [vI q583.1]) zm_L_law rfl (and2 (and2 hg).2).2 rfl hg rfl zm_X10_mark rfl (by omega) (ev_X10_mark (by omega) hq) rfl ?_
        obtain ⟨hg, H⟩ := ifg H
        obtain ⟨q612, hq, H⟩ := bnd H
        refine zEv.call (k := 152) (as := [vR (some (11, 0)), vI (rI q583.2 19 0 (Int32.toNatClampNeg (x3 + 1))), vI (rI q583.2 19 0 (Int32.toNatClampNeg (x3 + 2))), vI (rI q583.2 19 0 (Int32.toNatClampNeg (x3 + 3))), vI (rI q583.2 19 0 (Int32.toNatClampNeg (x3 + 4))), vI (rI q583.2 19 0 (Int32.toNatClampNeg (x3 + 5)))]) (L2 := [some (vR (some (19, 0))), some (vR (some (10, 0))), some (vR (some (11, 0))), some (vI x3)]) (st2 := [vI q583.1]) (h2 := q583.2) (v := some (vI q612.1)) (h1 := q612.2) (st3 := [vI q612.1, vI q583.1]) zm_L_law rfl (and2 (and2 hg).2).2 rfl hg rfl zm_X11_mark rfl (by omega) (ev_X11_mark (by omega) hq) rfl ?_
        rcases ifc H with ⟨hc, H⟩ | ⟨hc, H⟩
        · refine zEv.iteT (L2 := [some (vR (some (19, 0))), some (vR (some (10, 0))), some (vR (some (11, 0))), some (vI x3)]) (st2 := []) (h2 := q612.2) zm_L_law rfl rfl rfl rfl (decide_eq_true hc) ?_
          exact ev_L_law_1588 (by omega) ih H
        · refine zEv.iteF (L2 := [some (vR (some (19, 0))), some (vR (some (10, 0))), some (vR (some (11, 0))), some (vI x3)]) (st2 := []) (h2 := q612.2) zm_L_law rfl rfl rfl rfl (decide_eq_false hc) ?_
          cases H
          exact zEv.ret zm_L_law rfl rfl rfl rfl
      rcases ifc H with ⟨hc10, H⟩ | ⟨hc10, H⟩
      · refine zEv.sw (x := swL 0 42 [220, 253, 296, 319, 382, 405, 438, 481, 504, 557, 620, 663, 706, 739, 772, 805, 838, 871, 904, 953, 986, 1019, 1052, 1085, 1118, 1161, 1194, 1217, 1240, 1263, 1286, 1319, 1352, 1375, 1408, 1461, 1474, 1487, 1501, 1515, 1538, 1551, 1574] 1588 (((rI h 19 0 (Int32.toNatClampNeg x3)) &&& 63))) (L2 := [some (vR (some (19, 0))), some (vR (some (10, 0))), some (vR (some (11, 0))), some (vI x3)]) (st2 := []) (h2 := h) zm_L_law rfl hg rfl hg (lab' := 620) (by rw [hc10]; decide) ?_
        obtain ⟨hg, H⟩ := ifg H
        obtain ⟨q636, hq, H⟩ := bnd H
        refine zEv.call (k := 67) (as := [vR (some (10, 0)), vI (rI h 19 0 (Int32.toNatClampNeg (x3 + 1))), vI (rI h 19 0 (Int32.toNatClampNeg (x3 + 2))), vI (rI h 19 0 (Int32.toNatClampNeg (x3 + 3)))]) (L2 := [some (vR (some (19, 0))), some (vR (some (10, 0))), some (vR (some (11, 0))), some (vI x3)]) (st2 := []) (h2 := h) (v := some (vI q636.1)) (h1 := q636.2) (st3 := [vI q636.1]) zm_L_law rfl (and2 (and2 hg).2).2 rfl hg rfl zm_X10_marks rfl (by omega) (ev_X10_marks (by omega) hq) rfl ?_
        obtain ⟨hg, H⟩ := ifg H
        obtain ⟨q655, hq, H⟩ := bnd H
        refine zEv.call (k := 153) (as := [vR (some (11, 0)), vI (rI q636.2 19 0 (Int32.toNatClampNeg (x3 + 1))), vI (rI q636.2 19 0 (Int32.toNatClampNeg (x3 + 2))), vI (rI q636.2 19 0 (Int32.toNatClampNeg (x3 + 3)))]) (L2 := [some (vR (some (19, 0))), some (vR (some (10, 0))), some (vR (some (11, 0))), some (vI x3)]) (st2 := [vI q636.1]) (h2 := q636.2) (v := some (vI q655.1)) (h1 := q655.2) (st3 := [vI q655.1, vI q636.1]) zm_L_law rfl (and2 (and2 hg).2).2 rfl hg rfl zm_X11_marks rfl (by omega) (ev_X11_marks (by omega) hq) rfl ?_
        rcases ifc H with ⟨hc, H⟩ | ⟨hc, H⟩
        · refine zEv.iteT (L2 := [some (vR (some (19, 0))), some (vR (some (10, 0))), some (vR (some (11, 0))), some (vI x3)]) (st2 := []) (h2 := q655.2) zm_L_law rfl rfl rfl rfl (decide_eq_true hc) ?_
          exact ev_L_law_1588 (by omega) ih H
        · refine zEv.iteF (L2 := [some (vR (some (19, 0))), some (vR (some (10, 0))), some (vR (some (11, 0))), some (vI x3)]) (st2 := []) (h2 := q655.2) zm_L_law rfl rfl rfl rfl (decide_eq_false hc) ?_
          cases H
          exact zEv.ret zm_L_law rfl rfl rfl rfl
      rcases ifc H with ⟨hc11, H⟩ | ⟨hc11, H⟩
      · refine zEv.sw (x := swL 0 42 [220, 253, 296, 319, 382, 405, 438, 481, 504, 557, 620, 663, 706, 739, 772, 805, 838, 871, 904, 953, 986, 1019, 1052, 1085, 1118, 1161, 1194, 1217, 1240, 1263, 1286, 1319, 1352, 1375, 1408, 1461, 1474, 1487, 1501, 1515, 1538, 1551, 1574] 1588 (((rI h 19 0 (Int32.toNatClampNeg x3)) &&& 63))) (L2 := [some (vR (some (19, 0))), some (vR (some (10, 0))), some (vR (some (11, 0))), some (vI x3)]) (st2 := []) (h2 := h) zm_L_law rfl hg rfl hg (lab' := 663) (by rw [hc11]; decide) ?_
        obtain ⟨hg, H⟩ := ifg H
        obtain ⟨q679, hq, H⟩ := bnd H
        refine zEv.call (k := 68) (as := [vR (some (10, 0)), vI (rI h 19 0 (Int32.toNatClampNeg (x3 + 1))), vI (rI h 19 0 (Int32.toNatClampNeg (x3 + 2))), vI (rI h 19 0 (Int32.toNatClampNeg (x3 + 3)))]) (L2 := [some (vR (some (19, 0))), some (vR (some (10, 0))), some (vR (some (11, 0))), some (vI x3)]) (st2 := []) (h2 := h) (v := some (vI q679.1)) (h1 := q679.2) (st3 := [vI q679.1]) zm_L_law rfl (and2 (and2 hg).2).2 rfl hg rfl zm_X10_help rfl (by omega) (ev_X10_help (by omega) hq) rfl ?_
        obtain ⟨hg, H⟩ := ifg H
        obtain ⟨q698, hq, H⟩ := bnd H
        refine zEv.call (k := 156) (as := [vR (some (11, 0)), vI (rI q679.2 19 0 (Int32.toNatClampNeg (x3 + 1))), vI (rI q679.2 19 0 (Int32.toNatClampNeg (x3 + 2))), vI (rI q679.2 19 0 (Int32.toNatClampNeg (x3 + 3)))]) (L2 := [some (vR (some (19, 0))), some (vR (some (10, 0))), some (vR (some (11, 0))), some (vI x3)]) (st2 := [vI q679.1]) (h2 := q679.2) (v := some (vI q698.1)) (h1 := q698.2) (st3 := [vI q698.1, vI q679.1]) zm_L_law rfl (and2 (and2 hg).2).2 rfl hg rfl zm_X11_help rfl (by omega) (ev_X11_help (by omega) hq) rfl ?_
        rcases ifc H with ⟨hc, H⟩ | ⟨hc, H⟩
        · refine zEv.iteT (L2 := [some (vR (some (19, 0))), some (vR (some (10, 0))), some (vR (some (11, 0))), some (vI x3)]) (st2 := []) (h2 := q698.2) zm_L_law rfl rfl rfl rfl (decide_eq_true hc) ?_
          exact ev_L_law_1588 (by omega) ih H
        · refine zEv.iteF (L2 := [some (vR (some (19, 0))), some (vR (some (10, 0))), some (vR (some (11, 0))), some (vI x3)]) (st2 := []) (h2 := q698.2) zm_L_law rfl rfl rfl rfl (decide_eq_false hc) ?_
          cases H
          exact zEv.ret zm_L_law rfl rfl rfl rfl
      rcases ifc H with ⟨hc12, H⟩ | ⟨hc12, H⟩
      · refine zEv.sw (x := swL 0 42 [220, 253, 296, 319, 382, 405, 438, 481, 504, 557, 620, 663, 706, 739, 772, 805, 838, 871, 904, 953, 986, 1019, 1052, 1085, 1118, 1161, 1194, 1217, 1240, 1263, 1286, 1319, 1352, 1375, 1408, 1461, 1474, 1487, 1501, 1515, 1538, 1551, 1574] 1588 (((rI h 19 0 (Int32.toNatClampNeg x3)) &&& 63))) (L2 := [some (vR (some (19, 0))), some (vR (some (10, 0))), some (vR (some (11, 0))), some (vI x3)]) (st2 := []) (h2 := h) zm_L_law rfl hg rfl hg (lab' := 706) (by rw [hc12]; decide) ?_
        obtain ⟨hg, H⟩ := ifg H
        obtain ⟨q717, hq, H⟩ := bnd H
        refine zEv.call (k := 69) (as := [vR (some (10, 0)), vI (rI h 19 0 (Int32.toNatClampNeg (x3 + 1))), vI (rI h 19 0 (Int32.toNatClampNeg (x3 + 2)))]) (L2 := [some (vR (some (19, 0))), some (vR (some (10, 0))), some (vR (some (11, 0))), some (vI x3)]) (st2 := []) (h2 := h) (v := some (vI q717.1)) (h1 := q717.2) (st3 := [vI q717.1]) zm_L_law rfl (and2 (and2 hg).2).2 rfl hg rfl zm_X10_paper rfl (by omega) (ev_X10_paper (by omega) hq) rfl ?_
        obtain ⟨hg, H⟩ := ifg H
        obtain ⟨q731, hq, H⟩ := bnd H
        refine zEv.call (k := 157) (as := [vR (some (11, 0)), vI (rI q717.2 19 0 (Int32.toNatClampNeg (x3 + 1))), vI (rI q717.2 19 0 (Int32.toNatClampNeg (x3 + 2)))]) (L2 := [some (vR (some (19, 0))), some (vR (some (10, 0))), some (vR (some (11, 0))), some (vI x3)]) (st2 := [vI q717.1]) (h2 := q717.2) (v := some (vI q731.1)) (h1 := q731.2) (st3 := [vI q731.1, vI q717.1]) zm_L_law rfl (and2 (and2 hg).2).2 rfl hg rfl zm_X11_paper rfl (by omega) (ev_X11_paper (by omega) hq) rfl ?_
        rcases ifc H with ⟨hc, H⟩ | ⟨hc, H⟩
        · refine zEv.iteT (L2 := [some (vR (some (19, 0))), some (vR (some (10, 0))), some (vR (some (11, 0))), some (vI x3)]) (st2 := []) (h2 := q731.2) zm_L_law rfl rfl rfl rfl (decide_eq_true hc) ?_
          exact ev_L_law_1588 (by omega) ih H
        · refine zEv.iteF (L2 := [some (vR (some (19, 0))), some (vR (some (10, 0))), some (vR (some (11, 0))), some (vI x3)]) (st2 := []) (h2 := q731.2) zm_L_law rfl rfl rfl rfl (decide_eq_false hc) ?_
          cases H
          exact zEv.ret zm_L_law rfl rfl rfl rfl
      rcases ifc H with ⟨hc13, H⟩ | ⟨hc13, H⟩
      · refine zEv.sw (x := swL 0 42 [220, 253, 296, 319, 382, 405, 438, 481, 504, 557, 620, 663, 706, 739, 772, 805, 838, 871, 904, 953, 986, 1019, 1052, 1085, 1118, 1161, 1194, 1217, 1240, 1263, 1286, 1319, 1352, 1375, 1408, 1461, 1474, 1487, 1501, 1515, 1538, 1551, 1574] 1588 (((rI h 19 0 (Int32.toNatClampNeg x3)) &&& 63))) (L2 := [some (vR (some (19, 0))), some (vR (some (10, 0))), some (vR (some (11, 0))), some (vI x3)]) (st2 := []) (h2 := h) zm_L_law rfl hg rfl hg (lab' := 739) (by rw [hc13]; decide) ?_
        obtain ⟨hg, H⟩ := ifg H
        obtain ⟨q750, hq, H⟩ := bnd H
        refine zEv.call (k := 70) (as := [vR (some (10, 0)), vI (rI h 19 0 (Int32.toNatClampNeg (x3 + 1))), vI (rI h 19 0 (Int32.toNatClampNeg (x3 + 2)))]) (L2 := [some (vR (some (19, 0))), some (vR (some (10, 0))), some (vR (some (11, 0))), some (vI x3)]) (st2 := []) (h2 := h) (v := some (vI q750.1)) (h1 := q750.2) (st3 := [vI q750.1]) zm_L_law rfl (and2 (and2 hg).2).2 rfl hg rfl zm_X10_cut rfl (by omega) (ev_X10_cut (by omega) hq) rfl ?_
        obtain ⟨hg, H⟩ := ifg H
        obtain ⟨q764, hq, H⟩ := bnd H
        refine zEv.call (k := 158) (as := [vR (some (11, 0)), vI (rI q750.2 19 0 (Int32.toNatClampNeg (x3 + 1))), vI (rI q750.2 19 0 (Int32.toNatClampNeg (x3 + 2)))]) (L2 := [some (vR (some (19, 0))), some (vR (some (10, 0))), some (vR (some (11, 0))), some (vI x3)]) (st2 := [vI q750.1]) (h2 := q750.2) (v := some (vI q764.1)) (h1 := q764.2) (st3 := [vI q764.1, vI q750.1]) zm_L_law rfl (and2 (and2 hg).2).2 rfl hg rfl zm_X11_cut rfl (by omega) (ev_X11_cut (by omega) hq) rfl ?_
        rcases ifc H with ⟨hc, H⟩ | ⟨hc, H⟩
        · refine zEv.iteT (L2 := [some (vR (some (19, 0))), some (vR (some (10, 0))), some (vR (some (11, 0))), some (vI x3)]) (st2 := []) (h2 := q764.2) zm_L_law rfl rfl rfl rfl (decide_eq_true hc) ?_
          exact ev_L_law_1588 (by omega) ih H
        · refine zEv.iteF (L2 := [some (vR (some (19, 0))), some (vR (some (10, 0))), some (vR (some (11, 0))), some (vI x3)]) (st2 := []) (h2 := q764.2) zm_L_law rfl rfl rfl rfl (decide_eq_false hc) ?_
          cases H
          exact zEv.ret zm_L_law rfl rfl rfl rfl
      rcases ifc H with ⟨hc14, H⟩ | ⟨hc14, H⟩
      · refine zEv.sw (x := swL 0 42 [220, 253, 296, 319, 382, 405, 438, 481, 504, 557, 620, 663, 706, 739, 772, 805, 838, 871, 904, 953, 986, 1019, 1052, 1085, 1118, 1161, 1194, 1217, 1240, 1263, 1286, 1319, 1352, 1375, 1408, 1461, 1474, 1487, 1501, 1515, 1538, 1551, 1574] 1588 (((rI h 19 0 (Int32.toNatClampNeg x3)) &&& 63))) (L2 := [some (vR (some (19, 0))), some (vR (some (10, 0))), some (vR (some (11, 0))), some (vI x3)]) (st2 := []) (h2 := h) zm_L_law rfl hg rfl hg (lab' := 772) (by rw [hc14]; decide) ?_
        obtain ⟨hg, H⟩ := ifg H
        obtain ⟨q783, hq, H⟩ := bnd H
        refine zEv.call (k := 71) (as := [vR (some (10, 0)), vI (rI h 19 0 (Int32.toNatClampNeg (x3 + 1))), vI (rI h 19 0 (Int32.toNatClampNeg (x3 + 2)))]) (L2 := [some (vR (some (19, 0))), some (vR (some (10, 0))), some (vR (some (11, 0))), some (vI x3)]) (st2 := []) (h2 := h) (v := some (vI q783.1)) (h1 := q783.2) (st3 := [vI q783.1]) zm_L_law rfl (and2 (and2 hg).2).2 rfl hg rfl zm_X10_strike rfl (by omega) (ev_X10_strike (by omega) hq) rfl ?_
        obtain ⟨hg, H⟩ := ifg H
        obtain ⟨q797, hq, H⟩ := bnd H
        refine zEv.call (k := 159) (as := [vR (some (11, 0)), vI (rI q783.2 19 0 (Int32.toNatClampNeg (x3 + 1))), vI (rI q783.2 19 0 (Int32.toNatClampNeg (x3 + 2)))]) (L2 := [some (vR (some (19, 0))), some (vR (some (10, 0))), some (vR (some (11, 0))), some (vI x3)]) (st2 := [vI q783.1]) (h2 := q783.2) (v := some (vI q797.1)) (h1 := q797.2) (st3 := [vI q797.1, vI q783.1]) zm_L_law rfl (and2 (and2 hg).2).2 rfl hg rfl zm_X11_strike rfl (by omega) (ev_X11_strike (by omega) hq) rfl ?_
        rcases ifc H with ⟨hc, H⟩ | ⟨hc, H⟩
        · refine zEv.iteT (L2 := [some (vR (some (19, 0))), some (vR (some (10, 0))), some (vR (some (11, 0))), some (vI x3)]) (st2 := []) (h2 := q797.2) zm_L_law rfl rfl rfl rfl (decide_eq_true hc) ?_
          exact ev_L_law_1588 (by omega) ih H
        · refine zEv.iteF (L2 := [some (vR (some (19, 0))), some (vR (some (10, 0))), some (vR (some (11, 0))), some (vI x3)]) (st2 := []) (h2 := q797.2) zm_L_law rfl rfl rfl rfl (decide_eq_false hc) ?_
          cases H
          exact zEv.ret zm_L_law rfl rfl rfl rfl
      rcases ifc H with ⟨hc15, H⟩ | ⟨hc15, H⟩
      · refine zEv.sw (x := swL 0 42 [220, 253, 296, 319, 382, 405, 438, 481, 504, 557, 620, 663, 706, 739, 772, 805, 838, 871, 904, 953, 986, 1019, 1052, 1085, 1118, 1161, 1194, 1217, 1240, 1263, 1286, 1319, 1352, 1375, 1408, 1461, 1474, 1487, 1501, 1515, 1538, 1551, 1574] 1588 (((rI h 19 0 (Int32.toNatClampNeg x3)) &&& 63))) (L2 := [some (vR (some (19, 0))), some (vR (some (10, 0))), some (vR (some (11, 0))), some (vI x3)]) (st2 := []) (h2 := h) zm_L_law rfl hg rfl hg (lab' := 805) (by rw [hc15]; decide) ?_
        obtain ⟨hg, H⟩ := ifg H
        obtain ⟨q816, hq, H⟩ := bnd H
        refine zEv.call (k := 72) (as := [vR (some (10, 0)), vI (rI h 19 0 (Int32.toNatClampNeg (x3 + 1))), vI (rI h 19 0 (Int32.toNatClampNeg (x3 + 2)))]) (L2 := [some (vR (some (19, 0))), some (vR (some (10, 0))), some (vR (some (11, 0))), some (vI x3)]) (st2 := []) (h2 := h) (v := some (vI q816.1)) (h1 := q816.2) (st3 := [vI q816.1]) zm_L_law rfl (and2 (and2 hg).2).2 rfl hg rfl zm_X10_told rfl (by omega) (ev_X10_told (by omega) hq) rfl ?_
        obtain ⟨hg, H⟩ := ifg H
        obtain ⟨q830, hq, H⟩ := bnd H
        refine zEv.call (k := 160) (as := [vR (some (11, 0)), vI (rI q816.2 19 0 (Int32.toNatClampNeg (x3 + 1))), vI (rI q816.2 19 0 (Int32.toNatClampNeg (x3 + 2)))]) (L2 := [some (vR (some (19, 0))), some (vR (some (10, 0))), some (vR (some (11, 0))), some (vI x3)]) (st2 := [vI q816.1]) (h2 := q816.2) (v := some (vI q830.1)) (h1 := q830.2) (st3 := [vI q830.1, vI q816.1]) zm_L_law rfl (and2 (and2 hg).2).2 rfl hg rfl zm_X11_told rfl (by omega) (ev_X11_told (by omega) hq) rfl ?_
        rcases ifc H with ⟨hc, H⟩ | ⟨hc, H⟩
        · refine zEv.iteT (L2 := [some (vR (some (19, 0))), some (vR (some (10, 0))), some (vR (some (11, 0))), some (vI x3)]) (st2 := []) (h2 := q830.2) zm_L_law rfl rfl rfl rfl (decide_eq_true hc) ?_
          exact ev_L_law_1588 (by omega) ih H
        · refine zEv.iteF (L2 := [some (vR (some (19, 0))), some (vR (some (10, 0))), some (vR (some (11, 0))), some (vI x3)]) (st2 := []) (h2 := q830.2) zm_L_law rfl rfl rfl rfl (decide_eq_false hc) ?_
          cases H
          exact zEv.ret zm_L_law rfl rfl rfl rfl
      rcases ifc H with ⟨hc16, H⟩ | ⟨hc16, H⟩
      · refine zEv.sw (x := swL 0 42 [220, 253, 296, 319, 382, 405, 438, 481, 504, 557, 620, 663, 706, 739, 772, 805, 838, 871, 904, 953, 986, 1019, 1052, 1085, 1118, 1161, 1194, 1217, 1240, 1263, 1286, 1319, 1352, 1375, 1408, 1461, 1474, 1487, 1501, 1515, 1538, 1551, 1574] 1588 (((rI h 19 0 (Int32.toNatClampNeg x3)) &&& 63))) (L2 := [some (vR (some (19, 0))), some (vR (some (10, 0))), some (vR (some (11, 0))), some (vI x3)]) (st2 := []) (h2 := h) zm_L_law rfl hg rfl hg (lab' := 838) (by rw [hc16]; decide) ?_
        obtain ⟨hg, H⟩ := ifg H
        obtain ⟨q849, hq, H⟩ := bnd H
        refine zEv.call (k := 73) (as := [vR (some (10, 0)), vI (rI h 19 0 (Int32.toNatClampNeg (x3 + 1))), vI (rI h 19 0 (Int32.toNatClampNeg (x3 + 2)))]) (L2 := [some (vR (some (19, 0))), some (vR (some (10, 0))), some (vR (some (11, 0))), some (vI x3)]) (st2 := []) (h2 := h) (v := some (vI q849.1)) (h1 := q849.2) (st3 := [vI q849.1]) zm_L_law rfl (and2 (and2 hg).2).2 rfl hg rfl zm_X10_tells rfl (by omega) (ev_X10_tells (by omega) hq) rfl ?_
        obtain ⟨hg, H⟩ := ifg H
        obtain ⟨q863, hq, H⟩ := bnd H
        refine zEv.call (k := 162) (as := [vR (some (11, 0)), vI (rI q849.2 19 0 (Int32.toNatClampNeg (x3 + 1))), vI (rI q849.2 19 0 (Int32.toNatClampNeg (x3 + 2)))]) (L2 := [some (vR (some (19, 0))), some (vR (some (10, 0))), some (vR (some (11, 0))), some (vI x3)]) (st2 := [vI q849.1]) (h2 := q849.2) (v := some (vI q863.1)) (h1 := q863.2) (st3 := [vI q863.1, vI q849.1]) zm_L_law rfl (and2 (and2 hg).2).2 rfl hg rfl zm_X11_tells rfl (by omega) (ev_X11_tells (by omega) hq) rfl ?_
        rcases ifc H with ⟨hc, H⟩ | ⟨hc, H⟩
        · refine zEv.iteT (L2 := [some (vR (some (19, 0))), some (vR (some (10, 0))), some (vR (some (11, 0))), some (vI x3)]) (st2 := []) (h2 := q863.2) zm_L_law rfl rfl rfl rfl (decide_eq_true hc) ?_
          exact ev_L_law_1588 (by omega) ih H
        · refine zEv.iteF (L2 := [some (vR (some (19, 0))), some (vR (some (10, 0))), some (vR (some (11, 0))), some (vI x3)]) (st2 := []) (h2 := q863.2) zm_L_law rfl rfl rfl rfl (decide_eq_false hc) ?_
          cases H
          exact zEv.ret zm_L_law rfl rfl rfl rfl
      rcases ifc H with ⟨hc17, H⟩ | ⟨hc17, H⟩
      · refine zEv.sw (x := swL 0 42 [220, 253, 296, 319, 382, 405, 438, 481, 504, 557, 620, 663, 706, 739, 772, 805, 838, 871, 904, 953, 986, 1019, 1052, 1085, 1118, 1161, 1194, 1217, 1240, 1263, 1286, 1319, 1352, 1375, 1408, 1461, 1474, 1487, 1501, 1515, 1538, 1551, 1574] 1588 (((rI h 19 0 (Int32.toNatClampNeg x3)) &&& 63))) (L2 := [some (vR (some (19, 0))), some (vR (some (10, 0))), some (vR (some (11, 0))), some (vI x3)]) (st2 := []) (h2 := h) zm_L_law rfl hg rfl hg (lab' := 871) (by rw [hc17]; decide) ?_
        obtain ⟨hg, H⟩ := ifg H
        obtain ⟨q882, hq, H⟩ := bnd H
        refine zEv.call (k := 74) (as := [vR (some (10, 0)), vI (rI h 19 0 (Int32.toNatClampNeg (x3 + 1))), vI (rI h 19 0 (Int32.toNatClampNeg (x3 + 2)))]) (L2 := [some (vR (some (19, 0))), some (vR (some (10, 0))), some (vR (some (11, 0))), some (vI x3)]) (st2 := []) (h2 := h) (v := some (vI q882.1)) (h1 := q882.2) (st3 := [vI q882.1]) zm_L_law rfl (and2 (and2 hg).2).2 rfl hg rfl zm_X10_about rfl (by omega) (ev_X10_about (by omega) hq) rfl ?_
        obtain ⟨hg, H⟩ := ifg H
        obtain ⟨q896, hq, H⟩ := bnd H
        refine zEv.call (k := 146) (as := [vR (some (11, 0)), vI (rI q882.2 19 0 (Int32.toNatClampNeg (x3 + 1))), vI (rI q882.2 19 0 (Int32.toNatClampNeg (x3 + 2)))]) (L2 := [some (vR (some (19, 0))), some (vR (some (10, 0))), some (vR (some (11, 0))), some (vI x3)]) (st2 := [vI q882.1]) (h2 := q882.2) (v := some (vI q896.1)) (h1 := q896.2) (st3 := [vI q896.1, vI q882.1]) zm_L_law rfl (and2 (and2 hg).2).2 rfl hg rfl zm_X11_about rfl (by omega) (ev_X11_about (by omega) hq) rfl ?_
        rcases ifc H with ⟨hc, H⟩ | ⟨hc, H⟩
        · refine zEv.iteT (L2 := [some (vR (some (19, 0))), some (vR (some (10, 0))), some (vR (some (11, 0))), some (vI x3)]) (st2 := []) (h2 := q896.2) zm_L_law rfl rfl rfl rfl (decide_eq_true hc) ?_
          exact ev_L_law_1588 (by omega) ih H
        · refine zEv.iteF (L2 := [some (vR (some (19, 0))), some (vR (some (10, 0))), some (vR (some (11, 0))), some (vI x3)]) (st2 := []) (h2 := q896.2) zm_L_law rfl rfl rfl rfl (decide_eq_false hc) ?_
          cases H
          exact zEv.ret zm_L_law rfl rfl rfl rfl
      rcases ifc H with ⟨hc18, H⟩ | ⟨hc18, H⟩
      · refine zEv.sw (x := swL 0 42 [220, 253, 296, 319, 382, 405, 438, 481, 504, 557, 620, 663, 706, 739, 772, 805, 838, 871, 904, 953, 986, 1019, 1052, 1085, 1118, 1161, 1194, 1217, 1240, 1263, 1286, 1319, 1352, 1375, 1408, 1461, 1474, 1487, 1501, 1515, 1538, 1551, 1574] 1588 (((rI h 19 0 (Int32.toNatClampNeg x3)) &&& 63))) (L2 := [some (vR (some (19, 0))), some (vR (some (10, 0))), some (vR (some (11, 0))), some (vI x3)]) (st2 := []) (h2 := h) zm_L_law rfl hg rfl hg (lab' := 904) (by rw [hc18]; decide) ?_
        obtain ⟨hg, H⟩ := ifg H
        rcases ifc H with ⟨hc, H⟩ | ⟨hc, H⟩
        · refine zEv.iteT (L2 := [some (vR (some (19, 0))), some (vR (some (10, 0))), some (vR (some (11, 0))), some (vI x3)]) (st2 := [vI (rI h 19 0 (Int32.toNatClampNeg (x3 + 1))), vR (some (10, 0))]) (h2 := h) zm_L_law rfl hg rfl hg (decide_eq_true hc) ?_
          refine zEv.loc (L2 := [some (vR (some (19, 0))), some (vR (some (10, 0))), some (vR (some (11, 0))), some (vI x3)]) (st2 := [vI 0, vI (rI h 19 0 (Int32.toNatClampNeg (x3 + 1))), vR (some (10, 0))]) (h2 := h) zm_L_law rfl rfl rfl rfl (fun h => (nomatch h)) ?_
          exact ev_L_law_923 (by omega) ih H
        · refine zEv.iteF (L2 := [some (vR (some (19, 0))), some (vR (some (10, 0))), some (vR (some (11, 0))), some (vI x3)]) (st2 := [vI (rI h 19 0 (Int32.toNatClampNeg (x3 + 1))), vR (some (10, 0))]) (h2 := h) zm_L_law rfl hg rfl hg (decide_eq_false hc) ?_
          refine zEv.loc (L2 := [some (vR (some (19, 0))), some (vR (some (10, 0))), some (vR (some (11, 0))), some (vI x3)]) (st2 := [vI 1, vI (rI h 19 0 (Int32.toNatClampNeg (x3 + 1))), vR (some (10, 0))]) (h2 := h) zm_L_law rfl rfl rfl rfl (fun h => (nomatch h)) ?_
          exact ev_L_law_923 (by omega) ih H
      rcases ifc H with ⟨hc19, H⟩ | ⟨hc19, H⟩
      · refine zEv.sw (x := swL 0 42 [220, 253, 296, 319, 382, 405, 438, 481, 504, 557, 620, 663, 706, 739, 772, 805, 838, 871, 904, 953, 986, 1019, 1052, 1085, 1118, 1161, 1194, 1217, 1240, 1263, 1286, 1319, 1352, 1375, 1408, 1461, 1474, 1487, 1501, 1515, 1538, 1551, 1574] 1588 (((rI h 19 0 (Int32.toNatClampNeg x3)) &&& 63))) (L2 := [some (vR (some (19, 0))), some (vR (some (10, 0))), some (vR (some (11, 0))), some (vI x3)]) (st2 := []) (h2 := h) zm_L_law rfl hg rfl hg (lab' := 953) (by rw [hc19]; decide) ?_
        obtain ⟨hg, H⟩ := ifg H
        obtain ⟨q964, hq, H⟩ := bnd H
        refine zEv.call (k := 76) (as := [vR (some (10, 0)), vI (rI h 19 0 (Int32.toNatClampNeg (x3 + 1))), vI (rI h 19 0 (Int32.toNatClampNeg (x3 + 2)))]) (L2 := [some (vR (some (19, 0))), some (vR (some (10, 0))), some (vR (some (11, 0))), some (vI x3)]) (st2 := []) (h2 := h) (v := some (vI q964.1)) (h1 := q964.2) (st3 := [vI q964.1]) zm_L_law rfl (and2 (and2 hg).2).2 rfl hg rfl zm_X10_laws rfl (by omega) (ev_X10_laws (by omega) hq) rfl ?_
        obtain ⟨hg, H⟩ := ifg H
        obtain ⟨q978, hq, H⟩ := bnd H
        refine zEv.call (k := 174) (as := [vR (some (11, 0)), vI (rI q964.2 19 0 (Int32.toNatClampNeg (x3 + 1))), vI (rI q964.2 19 0 (Int32.toNatClampNeg (x3 + 2)))]) (L2 := [some (vR (some (19, 0))), some (vR (some (10, 0))), some (vR (some (11, 0))), some (vI x3)]) (st2 := [vI q964.1]) (h2 := q964.2) (v := some (vI q978.1)) (h1 := q978.2) (st3 := [vI q978.1, vI q964.1]) zm_L_law rfl (and2 (and2 hg).2).2 rfl hg rfl zm_X11_laws rfl (by omega) (ev_X11_laws (by omega) hq) rfl ?_
        rcases ifc H with ⟨hc, H⟩ | ⟨hc, H⟩
        · refine zEv.iteT (L2 := [some (vR (some (19, 0))), some (vR (some (10, 0))), some (vR (some (11, 0))), some (vI x3)]) (st2 := []) (h2 := q978.2) zm_L_law rfl rfl rfl rfl (decide_eq_true hc) ?_
          exact ev_L_law_1588 (by omega) ih H
        · refine zEv.iteF (L2 := [some (vR (some (19, 0))), some (vR (some (10, 0))), some (vR (some (11, 0))), some (vI x3)]) (st2 := []) (h2 := q978.2) zm_L_law rfl rfl rfl rfl (decide_eq_false hc) ?_
          cases H
          exact zEv.ret zm_L_law rfl rfl rfl rfl
      rcases ifc H with ⟨hc20, H⟩ | ⟨hc20, H⟩
      · refine zEv.sw (x := swL 0 42 [220, 253, 296, 319, 382, 405, 438, 481, 504, 557, 620, 663, 706, 739, 772, 805, 838, 871, 904, 953, 986, 1019, 1052, 1085, 1118, 1161, 1194, 1217, 1240, 1263, 1286, 1319, 1352, 1375, 1408, 1461, 1474, 1487, 1501, 1515, 1538, 1551, 1574] 1588 (((rI h 19 0 (Int32.toNatClampNeg x3)) &&& 63))) (L2 := [some (vR (some (19, 0))), some (vR (some (10, 0))), some (vR (some (11, 0))), some (vI x3)]) (st2 := []) (h2 := h) zm_L_law rfl hg rfl hg (lab' := 986) (by rw [hc20]; decide) ?_
        obtain ⟨hg, H⟩ := ifg H
        obtain ⟨q997, hq, H⟩ := bnd H
        refine zEv.call (k := 77) (as := [vR (some (10, 0)), vI (rI h 19 0 (Int32.toNatClampNeg (x3 + 1))), vI (rI h 19 0 (Int32.toNatClampNeg (x3 + 2)))]) (L2 := [some (vR (some (19, 0))), some (vR (some (10, 0))), some (vR (some (11, 0))), some (vI x3)]) (st2 := []) (h2 := h) (v := some (vI q997.1)) (h1 := q997.2) (st3 := [vI q997.1]) zm_L_law rfl (and2 (and2 hg).2).2 rfl hg rfl zm_X10_number rfl (by omega) (ev_X10_number (by omega) hq) rfl ?_
        obtain ⟨hg, H⟩ := ifg H
        obtain ⟨q1011, hq, H⟩ := bnd H
        refine zEv.call (k := 175) (as := [vR (some (11, 0)), vI (rI q997.2 19 0 (Int32.toNatClampNeg (x3 + 1))), vI (rI q997.2 19 0 (Int32.toNatClampNeg (x3 + 2)))]) (L2 := [some (vR (some (19, 0))), some (vR (some (10, 0))), some (vR (some (11, 0))), some (vI x3)]) (st2 := [vI q997.1]) (h2 := q997.2) (v := some (vI q1011.1)) (h1 := q1011.2) (st3 := [vI q1011.1, vI q997.1]) zm_L_law rfl (and2 (and2 hg).2).2 rfl hg rfl zm_X11_number rfl (by omega) (ev_X11_number (by omega) hq) rfl ?_
        rcases ifc H with ⟨hc, H⟩ | ⟨hc, H⟩
        · refine zEv.iteT (L2 := [some (vR (some (19, 0))), some (vR (some (10, 0))), some (vR (some (11, 0))), some (vI x3)]) (st2 := []) (h2 := q1011.2) zm_L_law rfl rfl rfl rfl (decide_eq_true hc) ?_
          exact ev_L_law_1588 (by omega) ih H
        · refine zEv.iteF (L2 := [some (vR (some (19, 0))), some (vR (some (10, 0))), some (vR (some (11, 0))), some (vI x3)]) (st2 := []) (h2 := q1011.2) zm_L_law rfl rfl rfl rfl (decide_eq_false hc) ?_
          cases H
          exact zEv.ret zm_L_law rfl rfl rfl rfl
      rcases ifc H with ⟨hc21, H⟩ | ⟨hc21, H⟩
      · refine zEv.sw (x := swL 0 42 [220, 253, 296, 319, 382, 405, 438, 481, 504, 557, 620, 663, 706, 739, 772, 805, 838, 871, 904, 953, 986, 1019, 1052, 1085, 1118, 1161, 1194, 1217, 1240, 1263, 1286, 1319, 1352, 1375, 1408, 1461, 1474, 1487, 1501, 1515, 1538, 1551, 1574] 1588 (((rI h 19 0 (Int32.toNatClampNeg x3)) &&& 63))) (L2 := [some (vR (some (19, 0))), some (vR (some (10, 0))), some (vR (some (11, 0))), some (vI x3)]) (st2 := []) (h2 := h) zm_L_law rfl hg rfl hg (lab' := 1019) (by rw [hc21]; decide) ?_
        obtain ⟨hg, H⟩ := ifg H
        obtain ⟨q1030, hq, H⟩ := bnd H
        refine zEv.call (k := 78) (as := [vR (some (10, 0)), vI (rI h 19 0 (Int32.toNatClampNeg (x3 + 1))), vI (rI h 19 0 (Int32.toNatClampNeg (x3 + 2)))]) (L2 := [some (vR (some (19, 0))), some (vR (some (10, 0))), some (vR (some (11, 0))), some (vI x3)]) (st2 := []) (h2 := h) (v := some (vI q1030.1)) (h1 := q1030.2) (st3 := [vI q1030.1]) zm_L_law rfl (and2 (and2 hg).2).2 rfl hg rfl zm_X10_gives rfl (by omega) (ev_X10_gives (by omega) hq) rfl ?_
        obtain ⟨hg, H⟩ := ifg H
        obtain ⟨q1044, hq, H⟩ := bnd H
        refine zEv.call (k := 182) (as := [vR (some (11, 0)), vI (rI q1030.2 19 0 (Int32.toNatClampNeg (x3 + 1))), vI (rI q1030.2 19 0 (Int32.toNatClampNeg (x3 + 2)))]) (L2 := [some (vR (some (19, 0))), some (vR (some (10, 0))), some (vR (some (11, 0))), some (vI x3)]) (st2 := [vI q1030.1]) (h2 := q1030.2) (v := some (vI q1044.1)) (h1 := q1044.2) (st3 := [vI q1044.1, vI q1030.1]) zm_L_law rfl (and2 (and2 hg).2).2 rfl hg rfl zm_X11_gives rfl (by omega) (ev_X11_gives (by omega) hq) rfl ?_
        rcases ifc H with ⟨hc, H⟩ | ⟨hc, H⟩
        · refine zEv.iteT (L2 := [some (vR (some (19, 0))), some (vR (some (10, 0))), some (vR (some (11, 0))), some (vI x3)]) (st2 := []) (h2 := q1044.2) zm_L_law rfl rfl rfl rfl (decide_eq_true hc) ?_
          exact ev_L_law_1588 (by omega) ih H
        · refine zEv.iteF (L2 := [some (vR (some (19, 0))), some (vR (some (10, 0))), some (vR (some (11, 0))), some (vI x3)]) (st2 := []) (h2 := q1044.2) zm_L_law rfl rfl rfl rfl (decide_eq_false hc) ?_
          cases H
          exact zEv.ret zm_L_law rfl rfl rfl rfl
      rcases ifc H with ⟨hc22, H⟩ | ⟨hc22, H⟩
      · refine zEv.sw (x := swL 0 42 [220, 253, 296, 319, 382, 405, 438, 481, 504, 557, 620, 663, 706, 739, 772, 805, 838, 871, 904, 953, 986, 1019, 1052, 1085, 1118, 1161, 1194, 1217, 1240, 1263, 1286, 1319, 1352, 1375, 1408, 1461, 1474, 1487, 1501, 1515, 1538, 1551, 1574] 1588 (((rI h 19 0 (Int32.toNatClampNeg x3)) &&& 63))) (L2 := [some (vR (some (19, 0))), some (vR (some (10, 0))), some (vR (some (11, 0))), some (vI x3)]) (st2 := []) (h2 := h) zm_L_law rfl hg rfl hg (lab' := 1052) (by rw [hc22]; decide) ?_
        obtain ⟨hg, H⟩ := ifg H
        obtain ⟨q1063, hq, H⟩ := bnd H
        refine zEv.call (k := 79) (as := [vR (some (10, 0)), vI (rI h 19 0 (Int32.toNatClampNeg (x3 + 1))), vI (rI h 19 0 (Int32.toNatClampNeg (x3 + 2)))]) (L2 := [some (vR (some (19, 0))), some (vR (some (10, 0))), some (vR (some (11, 0))), some (vI x3)]) (st2 := []) (h2 := h) (v := some (vI q1063.1)) (h1 := q1063.2) (st3 := [vI q1063.1]) zm_L_law rfl (and2 (and2 hg).2).2 rfl hg rfl zm_X10_home rfl (by omega) (ev_X10_home (by omega) hq) rfl ?_
        obtain ⟨hg, H⟩ := ifg H
        obtain ⟨q1077, hq, H⟩ := bnd H
        refine zEv.call (k := 183) (as := [vR (some (11, 0)), vI (rI q1063.2 19 0 (Int32.toNatClampNeg (x3 + 1))), vI (rI q1063.2 19 0 (Int32.toNatClampNeg (x3 + 2)))]) (L2 := [some (vR (some (19, 0))), some (vR (some (10, 0))), some (vR (some (11, 0))), some (vI x3)]) (st2 := [vI q1063.1]) (h2 := q1063.2) (v := some (vI q1077.1)) (h1 := q1077.2) (st3 := [vI q1077.1, vI q1063.1]) zm_L_law rfl (and2 (and2 hg).2).2 rfl hg rfl zm_X11_home rfl (by omega) (ev_X11_home (by omega) hq) rfl ?_
        rcases ifc H with ⟨hc, H⟩ | ⟨hc, H⟩
        · refine zEv.iteT (L2 := [some (vR (some (19, 0))), some (vR (some (10, 0))), some (vR (some (11, 0))), some (vI x3)]) (st2 := []) (h2 := q1077.2) zm_L_law rfl rfl rfl rfl (decide_eq_true hc) ?_
          exact ev_L_law_1588 (by omega) ih H
        · refine zEv.iteF (L2 := [some (vR (some (19, 0))), some (vR (some (10, 0))), some (vR (some (11, 0))), some (vI x3)]) (st2 := []) (h2 := q1077.2) zm_L_law rfl rfl rfl rfl (decide_eq_false hc) ?_
          cases H
          exact zEv.ret zm_L_law rfl rfl rfl rfl
      rcases ifc H with ⟨hc23, H⟩ | ⟨hc23, H⟩
      · refine zEv.sw (x := swL 0 42 [220, 253, 296, 319, 382, 405, 438, 481, 504, 557, 620, 663, 706, 739, 772, 805, 838, 871, 904, 953, 986, 1019, 1052, 1085, 1118, 1161, 1194, 1217, 1240, 1263, 1286, 1319, 1352, 1375, 1408, 1461, 1474, 1487, 1501, 1515, 1538, 1551, 1574] 1588 (((rI h 19 0 (Int32.toNatClampNeg x3)) &&& 63))) (L2 := [some (vR (some (19, 0))), some (vR (some (10, 0))), some (vR (some (11, 0))), some (vI x3)]) (st2 := []) (h2 := h) zm_L_law rfl hg rfl hg (lab' := 1085) (by rw [hc23]; decide) ?_
        obtain ⟨hg, H⟩ := ifg H
        obtain ⟨q1096, hq, H⟩ := bnd H
        refine zEv.call (k := 80) (as := [vR (some (10, 0)), vI (rI h 19 0 (Int32.toNatClampNeg (x3 + 1))), vI (rI h 19 0 (Int32.toNatClampNeg (x3 + 2)))]) (L2 := [some (vR (some (19, 0))), some (vR (some (10, 0))), some (vR (some (11, 0))), some (vI x3)]) (st2 := []) (h2 := h) (v := some (vI q1096.1)) (h1 := q1096.2) (st3 := [vI q1096.1]) zm_L_law rfl (and2 (and2 hg).2).2 rfl hg rfl zm_X10_span rfl (by omega) (ev_X10_span (by omega) hq) rfl ?_
        obtain ⟨hg, H⟩ := ifg H
        obtain ⟨q1110, hq, H⟩ := bnd H
        refine zEv.call (k := 185) (as := [vR (some (11, 0)), vI (rI q1096.2 19 0 (Int32.toNatClampNeg (x3 + 1))), vI (rI q1096.2 19 0 (Int32.toNatClampNeg (x3 + 2)))]) (L2 := [some (vR (some (19, 0))), some (vR (some (10, 0))), some (vR (some (11, 0))), some (vI x3)]) (st2 := [vI q1096.1]) (h2 := q1096.2) (v := some (vI q1110.1)) (h1 := q1110.2) (st3 := [vI q1110.1, vI q1096.1]) zm_L_law rfl (and2 (and2 hg).2).2 rfl hg rfl zm_X11_span rfl (by omega) (ev_X11_span (by omega) hq) rfl ?_
        rcases ifc H with ⟨hc, H⟩ | ⟨hc, H⟩
        · refine zEv.iteT (L2 := [some (vR (some (19, 0))), some (vR (some (10, 0))), some (vR (some (11, 0))), some (vI x3)]) (st2 := []) (h2 := q1110.2) zm_L_law rfl rfl rfl rfl (decide_eq_true hc) ?_
          exact ev_L_law_1588 (by omega) ih H
        · refine zEv.iteF (L2 := [some (vR (some (19, 0))), some (vR (some (10, 0))), some (vR (some (11, 0))), some (vI x3)]) (st2 := []) (h2 := q1110.2) zm_L_law rfl rfl rfl rfl (decide_eq_false hc) ?_
          cases H
          exact zEv.ret zm_L_law rfl rfl rfl rfl
      rcases ifc H with ⟨hc24, H⟩ | ⟨hc24, H⟩
      · refine zEv.sw (x := swL 0 42 [220, 253, 296, 319, 382, 405, 438, 481, 504, 557, 620, 663, 706, 739, 772, 805, 838, 871, 904, 953, 986, 1019, 1052, 1085, 1118, 1161, 1194, 1217, 1240, 1263, 1286, 1319, 1352, 1375, 1408, 1461, 1474, 1487, 1501, 1515, 1538, 1551, 1574] 1588 (((rI h 19 0 (Int32.toNatClampNeg x3)) &&& 63))) (L2 := [some (vR (some (19, 0))), some (vR (some (10, 0))), some (vR (some (11, 0))), some (vI x3)]) (st2 := []) (h2 := h) zm_L_law rfl hg rfl hg (lab' := 1118) (by rw [hc24]; decide) ?_
        obtain ⟨hg, H⟩ := ifg H
        obtain ⟨q1134, hq, H⟩ := bnd H
        refine zEv.call (k := 81) (as := [vR (some (10, 0)), vI (rI h 19 0 (Int32.toNatClampNeg (x3 + 1))), vI (rI h 19 0 (Int32.toNatClampNeg (x3 + 2))), vI (rI h 19 0 (Int32.toNatClampNeg (x3 + 3)))]) (L2 := [some (vR (some (19, 0))), some (vR (some (10, 0))), some (vR (some (11, 0))), some (vI x3)]) (st2 := []) (h2 := h) (v := some (vI q1134.1)) (h1 := q1134.2) (st3 := [vI q1134.1]) zm_L_law rfl (and2 (and2 hg).2).2 rfl hg rfl zm_X10_sure rfl (by omega) (ev_X10_sure (by omega) hq) rfl ?_
        obtain ⟨hg, H⟩ := ifg H
        obtain ⟨q1153, hq, H⟩ := bnd H
        refine zEv.call (k := 186) (as := [vR (some (11, 0)), vI (rI q1134.2 19 0 (Int32.toNatClampNeg (x3 + 1))), vI (rI q1134.2 19 0 (Int32.toNatClampNeg (x3 + 2))), vI (rI q1134.2 19 0 (Int32.toNatClampNeg (x3 + 3)))]) (L2 := [some (vR (some (19, 0))), some (vR (some (10, 0))), some (vR (some (11, 0))), some (vI x3)]) (st2 := [vI q1134.1]) (h2 := q1134.2) (v := some (vI q1153.1)) (h1 := q1153.2) (st3 := [vI q1153.1, vI q1134.1]) zm_L_law rfl (and2 (and2 hg).2).2 rfl hg rfl zm_X11_sure rfl (by omega) (ev_X11_sure (by omega) hq) rfl ?_
        rcases ifc H with ⟨hc, H⟩ | ⟨hc, H⟩
        · refine zEv.iteT (L2 := [some (vR (some (19, 0))), some (vR (some (10, 0))), some (vR (some (11, 0))), some (vI x3)]) (st2 := []) (h2 := q1153.2) zm_L_law rfl rfl rfl rfl (decide_eq_true hc) ?_
          exact ev_L_law_1588 (by omega) ih H
        · refine zEv.iteF (L2 := [some (vR (some (19, 0))), some (vR (some (10, 0))), some (vR (some (11, 0))), some (vI x3)]) (st2 := []) (h2 := q1153.2) zm_L_law rfl rfl rfl rfl (decide_eq_false hc) ?_
          cases H
          exact zEv.ret zm_L_law rfl rfl rfl rfl
      rcases ifc H with ⟨hc25, H⟩ | ⟨hc25, H⟩
      · refine zEv.sw (x := swL 0 42 [220, 253, 296, 319, 382, 405, 438, 481, 504, 557, 620, 663, 706, 739, 772, 805, 838, 871, 904, 953, 986, 1019, 1052, 1085, 1118, 1161, 1194, 1217, 1240, 1263, 1286, 1319, 1352, 1375, 1408, 1461, 1474, 1487, 1501, 1515, 1538, 1551, 1574] 1588 (((rI h 19 0 (Int32.toNatClampNeg x3)) &&& 63))) (L2 := [some (vR (some (19, 0))), some (vR (some (10, 0))), some (vR (some (11, 0))), some (vI x3)]) (st2 := []) (h2 := h) zm_L_law rfl hg rfl hg (lab' := 1161) (by rw [hc25]; decide) ?_
        obtain ⟨hg, H⟩ := ifg H
        obtain ⟨q1172, hq, H⟩ := bnd H
        refine zEv.call (k := 82) (as := [vR (some (10, 0)), vI (rI h 19 0 (Int32.toNatClampNeg (x3 + 1))), vI (rI h 19 0 (Int32.toNatClampNeg (x3 + 2)))]) (L2 := [some (vR (some (19, 0))), some (vR (some (10, 0))), some (vR (some (11, 0))), some (vI x3)]) (st2 := []) (h2 := h) (v := some (vI q1172.1)) (h1 := q1172.2) (st3 := [vI q1172.1]) zm_L_law rfl (and2 (and2 hg).2).2 rfl hg rfl zm_X10_turns rfl (by omega) (ev_X10_turns (by omega) hq) rfl ?_
        obtain ⟨hg, H⟩ := ifg H
        obtain ⟨q1186, hq, H⟩ := bnd H
        refine zEv.call (k := 187) (as := [vR (some (11, 0)), vI (rI q1172.2 19 0 (Int32.toNatClampNeg (x3 + 1))), vI (rI q1172.2 19 0 (Int32.toNatClampNeg (x3 + 2)))]) (L2 := [some (vR (some (19, 0))), some (vR (some (10, 0))), some (vR (some (11, 0))), some (vI x3)]) (st2 := [vI q1172.1]) (h2 := q1172.2) (v := some (vI q1186.1)) (h1 := q1186.2) (st3 := [vI q1186.1, vI q1172.1]) zm_L_law rfl (and2 (and2 hg).2).2 rfl hg rfl zm_X11_turns rfl (by omega) (ev_X11_turns (by omega) hq) rfl ?_
        rcases ifc H with ⟨hc, H⟩ | ⟨hc, H⟩
        · refine zEv.iteT (L2 := [some (vR (some (19, 0))), some (vR (some (10, 0))), some (vR (some (11, 0))), some (vI x3)]) (st2 := []) (h2 := q1186.2) zm_L_law rfl rfl rfl rfl (decide_eq_true hc) ?_
          exact ev_L_law_1588 (by omega) ih H
        · refine zEv.iteF (L2 := [some (vR (some (19, 0))), some (vR (some (10, 0))), some (vR (some (11, 0))), some (vI x3)]) (st2 := []) (h2 := q1186.2) zm_L_law rfl rfl rfl rfl (decide_eq_false hc) ?_
          cases H
          exact zEv.ret zm_L_law rfl rfl rfl rfl
      rcases ifc H with ⟨hc26, H⟩ | ⟨hc26, H⟩
      · refine zEv.sw (x := swL 0 42 [220, 253, 296, 319, 382, 405, 438, 481, 504, 557, 620, 663, 706, 739, 772, 805, 838, 871, 904, 953, 986, 1019, 1052, 1085, 1118, 1161, 1194, 1217, 1240, 1263, 1286, 1319, 1352, 1375, 1408, 1461, 1474, 1487, 1501, 1515, 1538, 1551, 1574] 1588 (((rI h 19 0 (Int32.toNatClampNeg x3)) &&& 63))) (L2 := [some (vR (some (19, 0))), some (vR (some (10, 0))), some (vR (some (11, 0))), some (vI x3)]) (st2 := []) (h2 := h) zm_L_law rfl hg rfl hg (lab' := 1194) (by rw [hc26]; decide) ?_
        obtain ⟨hg, H⟩ := ifg H
        obtain ⟨q1200, hq, H⟩ := bnd H
        refine zEv.call (k := 83) (as := [vR (some (10, 0)), vI (rI h 19 0 (Int32.toNatClampNeg (x3 + 1)))]) (L2 := [some (vR (some (19, 0))), some (vR (some (10, 0))), some (vR (some (11, 0))), some (vI x3)]) (st2 := []) (h2 := h) (v := some (vI q1200.1)) (h1 := q1200.2) (st3 := [vI q1200.1]) zm_L_law rfl (and2 (and2 hg).2).2 rfl hg rfl zm_X10_pairs rfl (by omega) (ev_X10_pairs (by omega) hq) rfl ?_
        obtain ⟨hg, H⟩ := ifg H
        obtain ⟨q1209, hq, H⟩ := bnd H
        refine zEv.call (k := 190) (as := [vR (some (11, 0)), vI (rI q1200.2 19 0 (Int32.toNatClampNeg (x3 + 1)))]) (L2 := [some (vR (some (19, 0))), some (vR (some (10, 0))), some (vR (some (11, 0))), some (vI x3)]) (st2 := [vI q1200.1]) (h2 := q1200.2) (v := some (vI q1209.1)) (h1 := q1209.2) (st3 := [vI q1209.1, vI q1200.1]) zm_L_law rfl (and2 (and2 hg).2).2 rfl hg rfl zm_X11_pairs rfl (by omega) (ev_X11_pairs (by omega) hq) rfl ?_
        rcases ifc H with ⟨hc, H⟩ | ⟨hc, H⟩
        · refine zEv.iteT (L2 := [some (vR (some (19, 0))), some (vR (some (10, 0))), some (vR (some (11, 0))), some (vI x3)]) (st2 := []) (h2 := q1209.2) zm_L_law rfl rfl rfl rfl (decide_eq_true hc) ?_
          exact ev_L_law_1588 (by omega) ih H
        · refine zEv.iteF (L2 := [some (vR (some (19, 0))), some (vR (some (10, 0))), some (vR (some (11, 0))), some (vI x3)]) (st2 := []) (h2 := q1209.2) zm_L_law rfl rfl rfl rfl (decide_eq_false hc) ?_
          cases H
          exact zEv.ret zm_L_law rfl rfl rfl rfl
      rcases ifc H with ⟨hc27, H⟩ | ⟨hc27, H⟩
      · refine zEv.sw (x := swL 0 42 [220, 253, 296, 319, 382, 405, 438, 481, 504, 557, 620, 663, 706, 739, 772, 805, 838, 871, 904, 953, 986, 1019, 1052, 1085, 1118, 1161, 1194, 1217, 1240, 1263, 1286, 1319, 1352, 1375, 1408, 1461, 1474, 1487, 1501, 1515, 1538, 1551, 1574] 1588 (((rI h 19 0 (Int32.toNatClampNeg x3)) &&& 63))) (L2 := [some (vR (some (19, 0))), some (vR (some (10, 0))), some (vR (some (11, 0))), some (vI x3)]) (st2 := []) (h2 := h) zm_L_law rfl hg rfl hg (lab' := 1217) (by rw [hc27]; decide) ?_
        obtain ⟨hg, H⟩ := ifg H
        obtain ⟨q1223, hq, H⟩ := bnd H
        refine zEv.call (k := 84) (as := [vR (some (10, 0)), vI (rI h 19 0 (Int32.toNatClampNeg (x3 + 1)))]) (L2 := [some (vR (some (19, 0))), some (vR (some (10, 0))), some (vR (some (11, 0))), some (vI x3)]) (st2 := []) (h2 := h) (v := some (vI q1223.1)) (h1 := q1223.2) (st3 := [vI q1223.1]) zm_L_law rfl (and2 (and2 hg).2).2 rfl hg rfl zm_X10_learn rfl (by omega) (ev_X10_learn (by omega) hq) rfl ?_
        obtain ⟨hg, H⟩ := ifg H
        obtain ⟨q1232, hq, H⟩ := bnd H
        refine zEv.call (k := 191) (as := [vR (some (11, 0)), vI (rI q1223.2 19 0 (Int32.toNatClampNeg (x3 + 1)))]) (L2 := [some (vR (some (19, 0))), some (vR (some (10, 0))), some (vR (some (11, 0))), some (vI x3)]) (st2 := [vI q1223.1]) (h2 := q1223.2) (v := some (vI q1232.1)) (h1 := q1232.2) (st3 := [vI q1232.1, vI q1223.1]) zm_L_law rfl (and2 (and2 hg).2).2 rfl hg rfl zm_X11_learn rfl (by omega) (ev_X11_learn (by omega) hq) rfl ?_
        rcases ifc H with ⟨hc, H⟩ | ⟨hc, H⟩
        · refine zEv.iteT (L2 := [some (vR (some (19, 0))), some (vR (some (10, 0))), some (vR (some (11, 0))), some (vI x3)]) (st2 := []) (h2 := q1232.2) zm_L_law rfl rfl rfl rfl (decide_eq_true hc) ?_
          exact ev_L_law_1588 (by omega) ih H
        · refine zEv.iteF (L2 := [some (vR (some (19, 0))), some (vR (some (10, 0))), some (vR (some (11, 0))), some (vI x3)]) (st2 := []) (h2 := q1232.2) zm_L_law rfl rfl rfl rfl (decide_eq_false hc) ?_
          cases H
          exact zEv.ret zm_L_law rfl rfl rfl rfl
      rcases ifc H with ⟨hc28, H⟩ | ⟨hc28, H⟩
      · refine zEv.sw (x := swL 0 42 [220, 253, 296, 319, 382, 405, 438, 481, 504, 557, 620, 663, 706, 739, 772, 805, 838, 871, 904, 953, 986, 1019, 1052, 1085, 1118, 1161, 1194, 1217, 1240, 1263, 1286, 1319, 1352, 1375, 1408, 1461, 1474, 1487, 1501, 1515, 1538, 1551, 1574] 1588 (((rI h 19 0 (Int32.toNatClampNeg x3)) &&& 63))) (L2 := [some (vR (some (19, 0))), some (vR (some (10, 0))), some (vR (some (11, 0))), some (vI x3)]) (st2 := []) (h2 := h) zm_L_law rfl hg rfl hg (lab' := 1240) (by rw [hc28]; decide) ?_
        obtain ⟨hg, H⟩ := ifg H
        obtain ⟨q1246, hq, H⟩ := bnd H
        refine zEv.call (k := 85) (as := [vR (some (10, 0)), vI (rI h 19 0 (Int32.toNatClampNeg (x3 + 1)))]) (L2 := [some (vR (some (19, 0))), some (vR (some (10, 0))), some (vR (some (11, 0))), some (vI x3)]) (st2 := []) (h2 := h) (v := some (vI q1246.1)) (h1 := q1246.2) (st3 := [vI q1246.1]) zm_L_law rfl (and2 (and2 hg).2).2 rfl hg rfl zm_X10_just rfl (by omega) (ev_X10_just (by omega) hq) rfl ?_
        obtain ⟨hg, H⟩ := ifg H
        obtain ⟨q1255, hq, H⟩ := bnd H
        refine zEv.call (k := 193) (as := [vR (some (11, 0)), vI (rI q1246.2 19 0 (Int32.toNatClampNeg (x3 + 1)))]) (L2 := [some (vR (some (19, 0))), some (vR (some (10, 0))), some (vR (some (11, 0))), some (vI x3)]) (st2 := [vI q1246.1]) (h2 := q1246.2) (v := some (vI q1255.1)) (h1 := q1255.2) (st3 := [vI q1255.1, vI q1246.1]) zm_L_law rfl (and2 (and2 hg).2).2 rfl hg rfl zm_X11_just rfl (by omega) (ev_X11_just (by omega) hq) rfl ?_
        rcases ifc H with ⟨hc, H⟩ | ⟨hc, H⟩
        · refine zEv.iteT (L2 := [some (vR (some (19, 0))), some (vR (some (10, 0))), some (vR (some (11, 0))), some (vI x3)]) (st2 := []) (h2 := q1255.2) zm_L_law rfl rfl rfl rfl (decide_eq_true hc) ?_
          exact ev_L_law_1588 (by omega) ih H
        · refine zEv.iteF (L2 := [some (vR (some (19, 0))), some (vR (some (10, 0))), some (vR (some (11, 0))), some (vI x3)]) (st2 := []) (h2 := q1255.2) zm_L_law rfl rfl rfl rfl (decide_eq_false hc) ?_
          cases H
          exact zEv.ret zm_L_law rfl rfl rfl rfl
      rcases ifc H with ⟨hc29, H⟩ | ⟨hc29, H⟩
      · refine zEv.sw (x := swL 0 42 [220, 253, 296, 319, 382, 405, 438, 481, 504, 557, 620, 663, 706, 739, 772, 805, 838, 871, 904, 953, 986, 1019, 1052, 1085, 1118, 1161, 1194, 1217, 1240, 1263, 1286, 1319, 1352, 1375, 1408, 1461, 1474, 1487, 1501, 1515, 1538, 1551, 1574] 1588 (((rI h 19 0 (Int32.toNatClampNeg x3)) &&& 63))) (L2 := [some (vR (some (19, 0))), some (vR (some (10, 0))), some (vR (some (11, 0))), some (vI x3)]) (st2 := []) (h2 := h) zm_L_law rfl hg rfl hg (lab' := 1263) (by rw [hc29]; decide) ?_
        obtain ⟨hg, H⟩ := ifg H
        obtain ⟨q1269, hq, H⟩ := bnd H
        refine zEv.call (k := 86) (as := [vR (some (10, 0)), vI (rI h 19 0 (Int32.toNatClampNeg (x3 + 1)))]) (L2 := [some (vR (some (19, 0))), some (vR (some (10, 0))), some (vR (some (11, 0))), some (vI x3)]) (st2 := []) (h2 := h) (v := some (vI q1269.1)) (h1 := q1269.2) (st3 := [vI q1269.1]) zm_L_law rfl (and2 (and2 hg).2).2 rfl hg rfl zm_X10_list rfl (by omega) (ev_X10_list (by omega) hq) rfl ?_
        obtain ⟨hg, H⟩ := ifg H
        obtain ⟨q1278, hq, H⟩ := bnd H
        refine zEv.call (k := 198) (as := [vR (some (11, 0)), vI (rI q1269.2 19 0 (Int32.toNatClampNeg (x3 + 1)))]) (L2 := [some (vR (some (19, 0))), some (vR (some (10, 0))), some (vR (some (11, 0))), some (vI x3)]) (st2 := [vI q1269.1]) (h2 := q1269.2) (v := some (vI q1278.1)) (h1 := q1278.2) (st3 := [vI q1278.1, vI q1269.1]) zm_L_law rfl (and2 (and2 hg).2).2 rfl hg rfl zm_X11_list rfl (by omega) (ev_X11_list (by omega) hq) rfl ?_
        rcases ifc H with ⟨hc, H⟩ | ⟨hc, H⟩
        · refine zEv.iteT (L2 := [some (vR (some (19, 0))), some (vR (some (10, 0))), some (vR (some (11, 0))), some (vI x3)]) (st2 := []) (h2 := q1278.2) zm_L_law rfl rfl rfl rfl (decide_eq_true hc) ?_
          exact ev_L_law_1588 (by omega) ih H
        · refine zEv.iteF (L2 := [some (vR (some (19, 0))), some (vR (some (10, 0))), some (vR (some (11, 0))), some (vI x3)]) (st2 := []) (h2 := q1278.2) zm_L_law rfl rfl rfl rfl (decide_eq_false hc) ?_
          cases H
          exact zEv.ret zm_L_law rfl rfl rfl rfl
      rcases ifc H with ⟨hc30, H⟩ | ⟨hc30, H⟩
      · refine zEv.sw (x := swL 0 42 [220, 253, 296, 319, 382, 405, 438, 481, 504, 557, 620, 663, 706, 739, 772, 805, 838, 871, 904, 953, 986, 1019, 1052, 1085, 1118, 1161, 1194, 1217, 1240, 1263, 1286, 1319, 1352, 1375, 1408, 1461, 1474, 1487, 1501, 1515, 1538, 1551, 1574] 1588 (((rI h 19 0 (Int32.toNatClampNeg x3)) &&& 63))) (L2 := [some (vR (some (19, 0))), some (vR (some (10, 0))), some (vR (some (11, 0))), some (vI x3)]) (st2 := []) (h2 := h) zm_L_law rfl hg rfl hg (lab' := 1286) (by rw [hc30]; decide) ?_
        obtain ⟨hg, H⟩ := ifg H
        obtain ⟨q1297, hq, H⟩ := bnd H
        refine zEv.call (k := 87) (as := [vR (some (10, 0)), vI (rI h 19 0 (Int32.toNatClampNeg (x3 + 1))), vI (rI h 19 0 (Int32.toNatClampNeg (x3 + 2)))]) (L2 := [some (vR (some (19, 0))), some (vR (some (10, 0))), some (vR (some (11, 0))), some (vI x3)]) (st2 := []) (h2 := h) (v := some (vI q1297.1)) (h1 := q1297.2) (st3 := [vI q1297.1]) zm_L_law rfl (and2 (and2 hg).2).2 rfl hg rfl zm_X10_listed rfl (by omega) (ev_X10_listed (by omega) hq) rfl ?_
        obtain ⟨hg, H⟩ := ifg H
        obtain ⟨q1311, hq, H⟩ := bnd H
        refine zEv.call (k := 199) (as := [vR (some (11, 0)), vI (rI q1297.2 19 0 (Int32.toNatClampNeg (x3 + 1))), vI (rI q1297.2 19 0 (Int32.toNatClampNeg (x3 + 2)))]) (L2 := [some (vR (some (19, 0))), some (vR (some (10, 0))), some (vR (some (11, 0))), some (vI x3)]) (st2 := [vI q1297.1]) (h2 := q1297.2) (v := some (vI q1311.1)) (h1 := q1311.2) (st3 := [vI q1311.1, vI q1297.1]) zm_L_law rfl (and2 (and2 hg).2).2 rfl hg rfl zm_X11_listed rfl (by omega) (ev_X11_listed (by omega) hq) rfl ?_
        rcases ifc H with ⟨hc, H⟩ | ⟨hc, H⟩
        · refine zEv.iteT (L2 := [some (vR (some (19, 0))), some (vR (some (10, 0))), some (vR (some (11, 0))), some (vI x3)]) (st2 := []) (h2 := q1311.2) zm_L_law rfl rfl rfl rfl (decide_eq_true hc) ?_
          exact ev_L_law_1588 (by omega) ih H
        · refine zEv.iteF (L2 := [some (vR (some (19, 0))), some (vR (some (10, 0))), some (vR (some (11, 0))), some (vI x3)]) (st2 := []) (h2 := q1311.2) zm_L_law rfl rfl rfl rfl (decide_eq_false hc) ?_
          cases H
          exact zEv.ret zm_L_law rfl rfl rfl rfl
      rcases ifc H with ⟨hc31, H⟩ | ⟨hc31, H⟩
      · refine zEv.sw (x := swL 0 42 [220, 253, 296, 319, 382, 405, 438, 481, 504, 557, 620, 663, 706, 739, 772, 805, 838, 871, 904, 953, 986, 1019, 1052, 1085, 1118, 1161, 1194, 1217, 1240, 1263, 1286, 1319, 1352, 1375, 1408, 1461, 1474, 1487, 1501, 1515, 1538, 1551, 1574] 1588 (((rI h 19 0 (Int32.toNatClampNeg x3)) &&& 63))) (L2 := [some (vR (some (19, 0))), some (vR (some (10, 0))), some (vR (some (11, 0))), some (vI x3)]) (st2 := []) (h2 := h) zm_L_law rfl hg rfl hg (lab' := 1319) (by rw [hc31]; decide) ?_
        obtain ⟨hg, H⟩ := ifg H
        obtain ⟨q1330, hq, H⟩ := bnd H
        refine zEv.call (k := 88) (as := [vR (some (10, 0)), vI (rI h 19 0 (Int32.toNatClampNeg (x3 + 1))), vI (rI h 19 0 (Int32.toNatClampNeg (x3 + 2)))]) (L2 := [some (vR (some (19, 0))), some (vR (some (10, 0))), some (vR (some (11, 0))), some (vI x3)]) (st2 := []) (h2 := h) (v := some (vI q1330.1)) (h1 := q1330.2) (st3 := [vI q1330.1]) zm_L_law rfl (and2 (and2 hg).2).2 rfl hg rfl zm_X10_gains rfl (by omega) (ev_X10_gains (by omega) hq) rfl ?_
        obtain ⟨hg, H⟩ := ifg H
        obtain ⟨q1344, hq, H⟩ := bnd H
        refine zEv.call (k := 201) (as := [vR (some (11, 0)), vI (rI q1330.2 19 0 (Int32.toNatClampNeg (x3 + 1))), vI (rI q1330.2 19 0 (Int32.toNatClampNeg (x3 + 2)))]) (L2 := [some (vR (some (19, 0))), some (vR (some (10, 0))), some (vR (some (11, 0))), some (vI x3)]) (st2 := [vI q1330.1]) (h2 := q1330.2) (v := some (vI q1344.1)) (h1 := q1344.2) (st3 := [vI q1344.1, vI q1330.1]) zm_L_law rfl (and2 (and2 hg).2).2 rfl hg rfl zm_X11_gains rfl (by omega) (ev_X11_gains (by omega) hq) rfl ?_
        rcases ifc H with ⟨hc, H⟩ | ⟨hc, H⟩
        · refine zEv.iteT (L2 := [some (vR (some (19, 0))), some (vR (some (10, 0))), some (vR (some (11, 0))), some (vI x3)]) (st2 := []) (h2 := q1344.2) zm_L_law rfl rfl rfl rfl (decide_eq_true hc) ?_
          exact ev_L_law_1588 (by omega) ih H
        · refine zEv.iteF (L2 := [some (vR (some (19, 0))), some (vR (some (10, 0))), some (vR (some (11, 0))), some (vI x3)]) (st2 := []) (h2 := q1344.2) zm_L_law rfl rfl rfl rfl (decide_eq_false hc) ?_
          cases H
          exact zEv.ret zm_L_law rfl rfl rfl rfl
      rcases ifc H with ⟨hc32, H⟩ | ⟨hc32, H⟩
      · refine zEv.sw (x := swL 0 42 [220, 253, 296, 319, 382, 405, 438, 481, 504, 557, 620, 663, 706, 739, 772, 805, 838, 871, 904, 953, 986, 1019, 1052, 1085, 1118, 1161, 1194, 1217, 1240, 1263, 1286, 1319, 1352, 1375, 1408, 1461, 1474, 1487, 1501, 1515, 1538, 1551, 1574] 1588 (((rI h 19 0 (Int32.toNatClampNeg x3)) &&& 63))) (L2 := [some (vR (some (19, 0))), some (vR (some (10, 0))), some (vR (some (11, 0))), some (vI x3)]) (st2 := []) (h2 := h) zm_L_law rfl hg rfl hg (lab' := 1352) (by rw [hc32]; decide) ?_
        obtain ⟨hg, H⟩ := ifg H
        obtain ⟨q1358, hq, H⟩ := bnd H
        refine zEv.call (k := 89) (as := [vR (some (10, 0)), vI (rI h 19 0 (Int32.toNatClampNeg (x3 + 1)))]) (L2 := [some (vR (some (19, 0))), some (vR (some (10, 0))), some (vR (some (11, 0))), some (vI x3)]) (st2 := []) (h2 := h) (v := some (vI q1358.1)) (h1 := q1358.2) (st3 := [vI q1358.1]) zm_L_law rfl (and2 (and2 hg).2).2 rfl hg rfl zm_X10_far rfl (by omega) (ev_X10_far (by omega) hq) rfl ?_
        obtain ⟨hg, H⟩ := ifg H
        obtain ⟨q1367, hq, H⟩ := bnd H
        refine zEv.call (k := 202) (as := [vR (some (11, 0)), vI (rI q1358.2 19 0 (Int32.toNatClampNeg (x3 + 1)))]) (L2 := [some (vR (some (19, 0))), some (vR (some (10, 0))), some (vR (some (11, 0))), some (vI x3)]) (st2 := [vI q1358.1]) (h2 := q1358.2) (v := some (vI q1367.1)) (h1 := q1367.2) (st3 := [vI q1367.1, vI q1358.1]) zm_L_law rfl (and2 (and2 hg).2).2 rfl hg rfl zm_X11_far rfl (by omega) (ev_X11_far (by omega) hq) rfl ?_
        rcases ifc H with ⟨hc, H⟩ | ⟨hc, H⟩
        · refine zEv.iteT (L2 := [some (vR (some (19, 0))), some (vR (some (10, 0))), some (vR (some (11, 0))), some (vI x3)]) (st2 := []) (h2 := q1367.2) zm_L_law rfl rfl rfl rfl (decide_eq_true hc) ?_
          exact ev_L_law_1588 (by omega) ih H
        · refine zEv.iteF (L2 := [some (vR (some (19, 0))), some (vR (some (10, 0))), some (vR (some (11, 0))), some (vI x3)]) (st2 := []) (h2 := q1367.2) zm_L_law rfl rfl rfl rfl (decide_eq_false hc) ?_
          cases H
          exact zEv.ret zm_L_law rfl rfl rfl rfl
      rcases ifc H with ⟨hc33, H⟩ | ⟨hc33, H⟩
      · refine zEv.sw (x := swL 0 42 [220, 253, 296, 319, 382, 405, 438, 481, 504, 557, 620, 663, 706, 739, 772, 805, 838, 871, 904, 953, 986, 1019, 1052, 1085, 1118, 1161, 1194, 1217, 1240, 1263, 1286, 1319, 1352, 1375, 1408, 1461, 1474, 1487, 1501, 1515, 1538, 1551, 1574] 1588 (((rI h 19 0 (Int32.toNatClampNeg x3)) &&& 63))) (L2 := [some (vR (some (19, 0))), some (vR (some (10, 0))), some (vR (some (11, 0))), some (vI x3)]) (st2 := []) (h2 := h) zm_L_law rfl hg rfl hg (lab' := 1375) (by rw [hc33]; decide) ?_
        obtain ⟨hg, H⟩ := ifg H
        obtain ⟨q1386, hq, H⟩ := bnd H
        refine zEv.call (k := 90) (as := [vR (some (10, 0)), vI (rI h 19 0 (Int32.toNatClampNeg (x3 + 1))), vI (rI h 19 0 (Int32.toNatClampNeg (x3 + 2)))]) (L2 := [some (vR (some (19, 0))), some (vR (some (10, 0))), some (vR (some (11, 0))), some (vI x3)]) (st2 := []) (h2 := h) (v := some (vI q1386.1)) (h1 := q1386.2) (st3 := [vI q1386.1]) zm_L_law rfl (and2 (and2 hg).2).2 rfl hg rfl zm_X10_fall rfl (by omega) (ev_X10_fall (by omega) hq) rfl ?_
        obtain ⟨hg, H⟩ := ifg H
        obtain ⟨q1400, hq, H⟩ := bnd H
        refine zEv.call (k := 203) (as := [vR (some (11, 0)), vI (rI q1386.2 19 0 (Int32.toNatClampNeg (x3 + 1))), vI (rI q1386.2 19 0 (Int32.toNatClampNeg (x3 + 2)))]) (L2 := [some (vR (some (19, 0))), some (vR (some (10, 0))), some (vR (some (11, 0))), some (vI x3)]) (st2 := [vI q1386.1]) (h2 := q1386.2) (v := some (vI q1400.1)) (h1 := q1400.2) (st3 := [vI q1400.1, vI q1386.1]) zm_L_law rfl (and2 (and2 hg).2).2 rfl hg rfl zm_X11_fall rfl (by omega) (ev_X11_fall (by omega) hq) rfl ?_
        rcases ifc H with ⟨hc, H⟩ | ⟨hc, H⟩
        · refine zEv.iteT (L2 := [some (vR (some (19, 0))), some (vR (some (10, 0))), some (vR (some (11, 0))), some (vI x3)]) (st2 := []) (h2 := q1400.2) zm_L_law rfl rfl rfl rfl (decide_eq_true hc) ?_
          exact ev_L_law_1588 (by omega) ih H
        · refine zEv.iteF (L2 := [some (vR (some (19, 0))), some (vR (some (10, 0))), some (vR (some (11, 0))), some (vI x3)]) (st2 := []) (h2 := q1400.2) zm_L_law rfl rfl rfl rfl (decide_eq_false hc) ?_
          cases H
          exact zEv.ret zm_L_law rfl rfl rfl rfl
      rcases ifc H with ⟨hc34, H⟩ | ⟨hc34, H⟩
      · refine zEv.sw (x := swL 0 42 [220, 253, 296, 319, 382, 405, 438, 481, 504, 557, 620, 663, 706, 739, 772, 805, 838, 871, 904, 953, 986, 1019, 1052, 1085, 1118, 1161, 1194, 1217, 1240, 1263, 1286, 1319, 1352, 1375, 1408, 1461, 1474, 1487, 1501, 1515, 1538, 1551, 1574] 1588 (((rI h 19 0 (Int32.toNatClampNeg x3)) &&& 63))) (L2 := [some (vR (some (19, 0))), some (vR (some (10, 0))), some (vR (some (11, 0))), some (vI x3)]) (st2 := []) (h2 := h) zm_L_law rfl hg rfl hg (lab' := 1408) (by rw [hc34]; decide) ?_
        obtain ⟨hg, H⟩ := ifg H
        obtain ⟨q1429, hq, H⟩ := bnd H
        refine zEv.call (k := 91) (as := [vR (some (10, 0)), vI (rI h 19 0 (Int32.toNatClampNeg (x3 + 1))), vI (rI h 19 0 (Int32.toNatClampNeg (x3 + 2))), vI (rI h 19 0 (Int32.toNatClampNeg (x3 + 3))), vI (rI h 19 0 (Int32.toNatClampNeg (x3 + 4)))]) (L2 := [some (vR (some (19, 0))), some (vR (some (10, 0))), some (vR (some (11, 0))), some (vI x3)]) (st2 := []) (h2 := h) (v := some (vI q1429.1)) (h1 := q1429.2) (st3 := [vI q1429.1]) zm_L_law rfl (and2 (and2 hg).2).2 rfl hg rfl zm_X10_crowd rfl (by omega) (ev_X10_crowd (by omega) hq) rfl ?_
        obtain ⟨hg, H⟩ := ifg H
        obtain ⟨q1453, hq, H⟩ := bnd H
        refine zEv.call (k := 204) (as := [vR (some (11, 0)), vI (rI q1429.2 19 0 (Int32.toNatClampNeg (x3 + 1))), vI (rI q1429.2 19 0 (Int32.toNatClampNeg (x3 + 2))), vI (rI q1429.2 19 0 (Int32.toNatClampNeg (x3 + 3))), vI (rI q1429.2 19 0 (Int32.toNatClampNeg (x3 + 4)))]) (L2 := [some (vR (some (19, 0))), some (vR (some (10, 0))), some (vR (some (11, 0))), some (vI x3)]) (st2 := [vI q1429.1]) (h2 := q1429.2) (v := some (vI q1453.1)) (h1 := q1453.2) (st3 := [vI q1453.1, vI q1429.1]) zm_L_law rfl (and2 (and2 hg).2).2 rfl hg rfl zm_X11_crowd rfl (by omega) (ev_X11_crowd (by omega) hq) rfl ?_
        rcases ifc H with ⟨hc, H⟩ | ⟨hc, H⟩
        · refine zEv.iteT (L2 := [some (vR (some (19, 0))), some (vR (some (10, 0))), some (vR (some (11, 0))), some (vI x3)]) (st2 := []) (h2 := q1453.2) zm_L_law rfl rfl rfl rfl (decide_eq_true hc) ?_
          exact ev_L_law_1588 (by omega) ih H
        · refine zEv.iteF (L2 := [some (vR (some (19, 0))), some (vR (some (10, 0))), some (vR (some (11, 0))), some (vI x3)]) (st2 := []) (h2 := q1453.2) zm_L_law rfl rfl rfl rfl (decide_eq_false hc) ?_
          cases H
          exact zEv.ret zm_L_law rfl rfl rfl rfl
      rcases ifc H with ⟨hc35, H⟩ | ⟨hc35, H⟩
      · refine zEv.sw (x := swL 0 42 [220, 253, 296, 319, 382, 405, 438, 481, 504, 557, 620, 663, 706, 739, 772, 805, 838, 871, 904, 953, 986, 1019, 1052, 1085, 1118, 1161, 1194, 1217, 1240, 1263, 1286, 1319, 1352, 1375, 1408, 1461, 1474, 1487, 1501, 1515, 1538, 1551, 1574] 1588 (((rI h 19 0 (Int32.toNatClampNeg x3)) &&& 63))) (L2 := [some (vR (some (19, 0))), some (vR (some (10, 0))), some (vR (some (11, 0))), some (vI x3)]) (st2 := []) (h2 := h) zm_L_law rfl hg rfl hg (lab' := 1461) (by rw [hc35]; decide) ?_
        obtain ⟨q1462, hq, H⟩ := bnd H
        refine zEv.call (k := 92) (as := [vR (some (10, 0))]) (L2 := [some (vR (some (19, 0))), some (vR (some (10, 0))), some (vR (some (11, 0))), some (vI x3)]) (st2 := []) (h2 := h) (v := some (vI q1462.1)) (h1 := q1462.2) (st3 := [vI q1462.1]) zm_L_law rfl rfl rfl rfl rfl zm_X10_next rfl (by omega) (ev_X10_next (by omega) hq) rfl ?_
        obtain ⟨q1466, hq, H⟩ := bnd H
        refine zEv.call (k := 205) (as := [vR (some (11, 0))]) (L2 := [some (vR (some (19, 0))), some (vR (some (10, 0))), some (vR (some (11, 0))), some (vI x3)]) (st2 := [vI q1462.1]) (h2 := q1462.2) (v := some (vI q1466.1)) (h1 := q1466.2) (st3 := [vI q1466.1, vI q1462.1]) zm_L_law rfl rfl rfl rfl rfl zm_X11_next rfl (by omega) (ev_X11_next (by omega) hq) rfl ?_
        rcases ifc H with ⟨hc, H⟩ | ⟨hc, H⟩
        · refine zEv.iteT (L2 := [some (vR (some (19, 0))), some (vR (some (10, 0))), some (vR (some (11, 0))), some (vI x3)]) (st2 := []) (h2 := q1466.2) zm_L_law rfl rfl rfl rfl (decide_eq_true hc) ?_
          exact ev_L_law_1588 (by omega) ih H
        · refine zEv.iteF (L2 := [some (vR (some (19, 0))), some (vR (some (10, 0))), some (vR (some (11, 0))), some (vI x3)]) (st2 := []) (h2 := q1466.2) zm_L_law rfl rfl rfl rfl (decide_eq_false hc) ?_
          cases H
          exact zEv.ret zm_L_law rfl rfl rfl rfl
      rcases ifc H with ⟨hc36, H⟩ | ⟨hc36, H⟩
      · refine zEv.sw (x := swL 0 42 [220, 253, 296, 319, 382, 405, 438, 481, 504, 557, 620, 663, 706, 739, 772, 805, 838, 871, 904, 953, 986, 1019, 1052, 1085, 1118, 1161, 1194, 1217, 1240, 1263, 1286, 1319, 1352, 1375, 1408, 1461, 1474, 1487, 1501, 1515, 1538, 1551, 1574] 1588 (((rI h 19 0 (Int32.toNatClampNeg x3)) &&& 63))) (L2 := [some (vR (some (19, 0))), some (vR (some (10, 0))), some (vR (some (11, 0))), some (vI x3)]) (st2 := []) (h2 := h) zm_L_law rfl hg rfl hg (lab' := 1474) (by rw [hc36]; decide) ?_
        obtain ⟨q1475, hq, H⟩ := bnd H
        refine zEv.call (k := 93) (as := [vR (some (10, 0))]) (L2 := [some (vR (some (19, 0))), some (vR (some (10, 0))), some (vR (some (11, 0))), some (vI x3)]) (st2 := []) (h2 := h) (v := some (vI q1475.1)) (h1 := q1475.2) (st3 := [vI q1475.1]) zm_L_law rfl rfl rfl rfl rfl zm_X10_asked rfl (by omega) (ev_X10_asked (by omega) hq) rfl ?_
        obtain ⟨q1479, hq, H⟩ := bnd H
        refine zEv.call (k := 206) (as := [vR (some (11, 0))]) (L2 := [some (vR (some (19, 0))), some (vR (some (10, 0))), some (vR (some (11, 0))), some (vI x3)]) (st2 := [vI q1475.1]) (h2 := q1475.2) (v := some (vI q1479.1)) (h1 := q1479.2) (st3 := [vI q1479.1, vI q1475.1]) zm_L_law rfl rfl rfl rfl rfl zm_X11_asked rfl (by omega) (ev_X11_asked (by omega) hq) rfl ?_
        rcases ifc H with ⟨hc, H⟩ | ⟨hc, H⟩
        · refine zEv.iteT (L2 := [some (vR (some (19, 0))), some (vR (some (10, 0))), some (vR (some (11, 0))), some (vI x3)]) (st2 := []) (h2 := q1479.2) zm_L_law rfl rfl rfl rfl (decide_eq_true hc) ?_
          exact ev_L_law_1588 (by omega) ih H
        · refine zEv.iteF (L2 := [some (vR (some (19, 0))), some (vR (some (10, 0))), some (vR (some (11, 0))), some (vI x3)]) (st2 := []) (h2 := q1479.2) zm_L_law rfl rfl rfl rfl (decide_eq_false hc) ?_
          cases H
          exact zEv.ret zm_L_law rfl rfl rfl rfl
      rcases ifc H with ⟨hc37, H⟩ | ⟨hc37, H⟩
      · refine zEv.sw (x := swL 0 42 [220, 253, 296, 319, 382, 405, 438, 481, 504, 557, 620, 663, 706, 739, 772, 805, 838, 871, 904, 953, 986, 1019, 1052, 1085, 1118, 1161, 1194, 1217, 1240, 1263, 1286, 1319, 1352, 1375, 1408, 1461, 1474, 1487, 1501, 1515, 1538, 1551, 1574] 1588 (((rI h 19 0 (Int32.toNatClampNeg x3)) &&& 63))) (L2 := [some (vR (some (19, 0))), some (vR (some (10, 0))), some (vR (some (11, 0))), some (vI x3)]) (st2 := []) (h2 := h) zm_L_law rfl hg rfl hg (lab' := 1487) (by rw [hc37]; decide) ?_
        obtain ⟨q1488, hq, H⟩ := bnd H
        refine zEv.call (k := 94) (as := [vR (some (10, 0))]) (L2 := [some (vR (some (19, 0))), some (vR (some (10, 0))), some (vR (some (11, 0))), some (vI x3)]) (st2 := []) (h2 := h) (v := some (vL q1488.1)) (h1 := q1488.2) (st3 := [vL q1488.1]) zm_L_law rfl rfl rfl rfl rfl zm_X10_upper rfl (by omega) (ev_X10_upper (by omega) hq) rfl ?_
        obtain ⟨q1492, hq, H⟩ := bnd H
        refine zEv.call (k := 207) (as := [vR (some (11, 0))]) (L2 := [some (vR (some (19, 0))), some (vR (some (10, 0))), some (vR (some (11, 0))), some (vI x3)]) (st2 := [vL q1488.1]) (h2 := q1488.2) (v := some (vL q1492.1)) (h1 := q1492.2) (st3 := [vL q1492.1, vL q1488.1]) zm_L_law rfl rfl rfl rfl rfl zm_X11_upper rfl (by omega) (ev_X11_upper (by omega) hq) rfl ?_
        rcases ifc H with ⟨hc, H⟩ | ⟨hc, H⟩
        · refine zEv.iteT (L2 := [some (vR (some (19, 0))), some (vR (some (10, 0))), some (vR (some (11, 0))), some (vI x3)]) (st2 := []) (h2 := q1492.2) zm_L_law rfl rfl rfl rfl (decide_eq_true hc) ?_
          exact ev_L_law_1588 (by omega) ih H
        · refine zEv.iteF (L2 := [some (vR (some (19, 0))), some (vR (some (10, 0))), some (vR (some (11, 0))), some (vI x3)]) (st2 := []) (h2 := q1492.2) zm_L_law rfl rfl rfl rfl (decide_eq_false hc) ?_
          cases H
          exact zEv.ret zm_L_law rfl rfl rfl rfl
      rcases ifc H with ⟨hc38, H⟩ | ⟨hc38, H⟩
      · refine zEv.sw (x := swL 0 42 [220, 253, 296, 319, 382, 405, 438, 481, 504, 557, 620, 663, 706, 739, 772, 805, 838, 871, 904, 953, 986, 1019, 1052, 1085, 1118, 1161, 1194, 1217, 1240, 1263, 1286, 1319, 1352, 1375, 1408, 1461, 1474, 1487, 1501, 1515, 1538, 1551, 1574] 1588 (((rI h 19 0 (Int32.toNatClampNeg x3)) &&& 63))) (L2 := [some (vR (some (19, 0))), some (vR (some (10, 0))), some (vR (some (11, 0))), some (vI x3)]) (st2 := []) (h2 := h) zm_L_law rfl hg rfl hg (lab' := 1501) (by rw [hc38]; decide) ?_
        obtain ⟨q1502, hq, H⟩ := bnd H
        refine zEv.call (k := 95) (as := [vR (some (10, 0))]) (L2 := [some (vR (some (19, 0))), some (vR (some (10, 0))), some (vR (some (11, 0))), some (vI x3)]) (st2 := []) (h2 := h) (v := some (vL q1502.1)) (h1 := q1502.2) (st3 := [vL q1502.1]) zm_L_law rfl rfl rfl rfl rfl zm_X10_lower rfl (by omega) (ev_X10_lower (by omega) hq) rfl ?_
        obtain ⟨q1506, hq, H⟩ := bnd H
        refine zEv.call (k := 208) (as := [vR (some (11, 0))]) (L2 := [some (vR (some (19, 0))), some (vR (some (10, 0))), some (vR (some (11, 0))), some (vI x3)]) (st2 := [vL q1502.1]) (h2 := q1502.2) (v := some (vL q1506.1)) (h1 := q1506.2) (st3 := [vL q1506.1, vL q1502.1]) zm_L_law rfl rfl rfl rfl rfl zm_X11_lower rfl (by omega) (ev_X11_lower (by omega) hq) rfl ?_
        rcases ifc H with ⟨hc, H⟩ | ⟨hc, H⟩
        · refine zEv.iteT (L2 := [some (vR (some (19, 0))), some (vR (some (10, 0))), some (vR (some (11, 0))), some (vI x3)]) (st2 := []) (h2 := q1506.2) zm_L_law rfl rfl rfl rfl (decide_eq_true hc) ?_
          exact ev_L_law_1588 (by omega) ih H
        · refine zEv.iteF (L2 := [some (vR (some (19, 0))), some (vR (some (10, 0))), some (vR (some (11, 0))), some (vI x3)]) (st2 := []) (h2 := q1506.2) zm_L_law rfl rfl rfl rfl (decide_eq_false hc) ?_
          cases H
          exact zEv.ret zm_L_law rfl rfl rfl rfl
      rcases ifc H with ⟨hc39, H⟩ | ⟨hc39, H⟩
      · refine zEv.sw (x := swL 0 42 [220, 253, 296, 319, 382, 405, 438, 481, 504, 557, 620, 663, 706, 739, 772, 805, 838, 871, 904, 953, 986, 1019, 1052, 1085, 1118, 1161, 1194, 1217, 1240, 1263, 1286, 1319, 1352, 1375, 1408, 1461, 1474, 1487, 1501, 1515, 1538, 1551, 1574] 1588 (((rI h 19 0 (Int32.toNatClampNeg x3)) &&& 63))) (L2 := [some (vR (some (19, 0))), some (vR (some (10, 0))), some (vR (some (11, 0))), some (vI x3)]) (st2 := []) (h2 := h) zm_L_law rfl hg rfl hg (lab' := 1515) (by rw [hc39]; decide) ?_
        obtain ⟨hg, H⟩ := ifg H
        obtain ⟨q1521, hq, H⟩ := bnd H
        refine zEv.call (k := 96) (as := [vR (some (10, 0)), vI (rI h 19 0 (Int32.toNatClampNeg (x3 + 1)))]) (L2 := [some (vR (some (19, 0))), some (vR (some (10, 0))), some (vR (some (11, 0))), some (vI x3)]) (st2 := []) (h2 := h) (v := some (vI q1521.1)) (h1 := q1521.2) (st3 := [vI q1521.1]) zm_L_law rfl (and2 (and2 hg).2).2 rfl hg rfl zm_X10_count rfl (by omega) (ev_X10_count (by omega) hq) rfl ?_
        obtain ⟨hg, H⟩ := ifg H
        obtain ⟨q1530, hq, H⟩ := bnd H
        refine zEv.call (k := 210) (as := [vR (some (11, 0)), vI (rI q1521.2 19 0 (Int32.toNatClampNeg (x3 + 1)))]) (L2 := [some (vR (some (19, 0))), some (vR (some (10, 0))), some (vR (some (11, 0))), some (vI x3)]) (st2 := [vI q1521.1]) (h2 := q1521.2) (v := some (vI q1530.1)) (h1 := q1530.2) (st3 := [vI q1530.1, vI q1521.1]) zm_L_law rfl (and2 (and2 hg).2).2 rfl hg rfl zm_X11_count rfl (by omega) (ev_X11_count (by omega) hq) rfl ?_
        rcases ifc H with ⟨hc, H⟩ | ⟨hc, H⟩
        · refine zEv.iteT (L2 := [some (vR (some (19, 0))), some (vR (some (10, 0))), some (vR (some (11, 0))), some (vI x3)]) (st2 := []) (h2 := q1530.2) zm_L_law rfl rfl rfl rfl (decide_eq_true hc) ?_
          exact ev_L_law_1588 (by omega) ih H
        · refine zEv.iteF (L2 := [some (vR (some (19, 0))), some (vR (some (10, 0))), some (vR (some (11, 0))), some (vI x3)]) (st2 := []) (h2 := q1530.2) zm_L_law rfl rfl rfl rfl (decide_eq_false hc) ?_
          cases H
          exact zEv.ret zm_L_law rfl rfl rfl rfl
      rcases ifc H with ⟨hc40, H⟩ | ⟨hc40, H⟩
      · refine zEv.sw (x := swL 0 42 [220, 253, 296, 319, 382, 405, 438, 481, 504, 557, 620, 663, 706, 739, 772, 805, 838, 871, 904, 953, 986, 1019, 1052, 1085, 1118, 1161, 1194, 1217, 1240, 1263, 1286, 1319, 1352, 1375, 1408, 1461, 1474, 1487, 1501, 1515, 1538, 1551, 1574] 1588 (((rI h 19 0 (Int32.toNatClampNeg x3)) &&& 63))) (L2 := [some (vR (some (19, 0))), some (vR (some (10, 0))), some (vR (some (11, 0))), some (vI x3)]) (st2 := []) (h2 := h) zm_L_law rfl hg rfl hg (lab' := 1538) (by rw [hc40]; decide) ?_
        obtain ⟨q1539, hq, H⟩ := bnd H
        refine zEv.call (k := 97) (as := [vR (some (10, 0))]) (L2 := [some (vR (some (19, 0))), some (vR (some (10, 0))), some (vR (some (11, 0))), some (vI x3)]) (st2 := []) (h2 := h) (v := some (vI q1539.1)) (h1 := q1539.2) (st3 := [vI q1539.1]) zm_L_law rfl rfl rfl rfl rfl zm_X10_finding rfl (by omega) (ev_X10_finding (by omega) hq) rfl ?_
        obtain ⟨q1543, hq, H⟩ := bnd H
        refine zEv.call (k := 211) (as := [vR (some (11, 0))]) (L2 := [some (vR (some (19, 0))), some (vR (some (10, 0))), some (vR (some (11, 0))), some (vI x3)]) (st2 := [vI q1539.1]) (h2 := q1539.2) (v := some (vI q1543.1)) (h1 := q1543.2) (st3 := [vI q1543.1, vI q1539.1]) zm_L_law rfl rfl rfl rfl rfl zm_X11_finding rfl (by omega) (ev_X11_finding (by omega) hq) rfl ?_
        rcases ifc H with ⟨hc, H⟩ | ⟨hc, H⟩
        · refine zEv.iteT (L2 := [some (vR (some (19, 0))), some (vR (some (10, 0))), some (vR (some (11, 0))), some (vI x3)]) (st2 := []) (h2 := q1543.2) zm_L_law rfl rfl rfl rfl (decide_eq_true hc) ?_
          exact ev_L_law_1588 (by omega) ih H
        · refine zEv.iteF (L2 := [some (vR (some (19, 0))), some (vR (some (10, 0))), some (vR (some (11, 0))), some (vI x3)]) (st2 := []) (h2 := q1543.2) zm_L_law rfl rfl rfl rfl (decide_eq_false hc) ?_
          cases H
          exact zEv.ret zm_L_law rfl rfl rfl rfl
      rcases ifc H with ⟨hc41, H⟩ | ⟨hc41, H⟩
      · refine zEv.sw (x := swL 0 42 [220, 253, 296, 319, 382, 405, 438, 481, 504, 557, 620, 663, 706, 739, 772, 805, 838, 871, 904, 953, 986, 1019, 1052, 1085, 1118, 1161, 1194, 1217, 1240, 1263, 1286, 1319, 1352, 1375, 1408, 1461, 1474, 1487, 1501, 1515, 1538, 1551, 1574] 1588 (((rI h 19 0 (Int32.toNatClampNeg x3)) &&& 63))) (L2 := [some (vR (some (19, 0))), some (vR (some (10, 0))), some (vR (some (11, 0))), some (vI x3)]) (st2 := []) (h2 := h) zm_L_law rfl hg rfl hg (lab' := 1551) (by rw [hc41]; decide) ?_
        obtain ⟨hg, H⟩ := ifg H
        obtain ⟨q1557, hq, H⟩ := bnd H
        refine zEv.call (k := 98) (as := [vR (some (10, 0)), vI (rI h 19 0 (Int32.toNatClampNeg (x3 + 1)))]) (L2 := [some (vR (some (19, 0))), some (vR (some (10, 0))), some (vR (some (11, 0))), some (vI x3)]) (st2 := []) (h2 := h) (v := some (vI q1557.1)) (h1 := q1557.2) (st3 := [vI q1557.1]) zm_L_law rfl (and2 (and2 hg).2).2 rfl hg rfl zm_X10_findings rfl (by omega) (ev_X10_findings (by omega) hq) rfl ?_
        obtain ⟨hg, H⟩ := ifg H
        obtain ⟨q1566, hq, H⟩ := bnd H
        refine zEv.call (k := 212) (as := [vR (some (11, 0)), vI (rI q1557.2 19 0 (Int32.toNatClampNeg (x3 + 1)))]) (L2 := [some (vR (some (19, 0))), some (vR (some (10, 0))), some (vR (some (11, 0))), some (vI x3)]) (st2 := [vI q1557.1]) (h2 := q1557.2) (v := some (vI q1566.1)) (h1 := q1566.2) (st3 := [vI q1566.1, vI q1557.1]) zm_L_law rfl (and2 (and2 hg).2).2 rfl hg rfl zm_X11_findings rfl (by omega) (ev_X11_findings (by omega) hq) rfl ?_
        rcases ifc H with ⟨hc, H⟩ | ⟨hc, H⟩
        · refine zEv.iteT (L2 := [some (vR (some (19, 0))), some (vR (some (10, 0))), some (vR (some (11, 0))), some (vI x3)]) (st2 := []) (h2 := q1566.2) zm_L_law rfl rfl rfl rfl (decide_eq_true hc) ?_
          exact ev_L_law_1588 (by omega) ih H
        · refine zEv.iteF (L2 := [some (vR (some (19, 0))), some (vR (some (10, 0))), some (vR (some (11, 0))), some (vI x3)]) (st2 := []) (h2 := q1566.2) zm_L_law rfl rfl rfl rfl (decide_eq_false hc) ?_
          cases H
          exact zEv.ret zm_L_law rfl rfl rfl rfl
      rcases ifc H with ⟨hc42, H⟩ | ⟨hc42, H⟩
      · refine zEv.sw (x := swL 0 42 [220, 253, 296, 319, 382, 405, 438, 481, 504, 557, 620, 663, 706, 739, 772, 805, 838, 871, 904, 953, 986, 1019, 1052, 1085, 1118, 1161, 1194, 1217, 1240, 1263, 1286, 1319, 1352, 1375, 1408, 1461, 1474, 1487, 1501, 1515, 1538, 1551, 1574] 1588 (((rI h 19 0 (Int32.toNatClampNeg x3)) &&& 63))) (L2 := [some (vR (some (19, 0))), some (vR (some (10, 0))), some (vR (some (11, 0))), some (vI x3)]) (st2 := []) (h2 := h) zm_L_law rfl hg rfl hg (lab' := 1574) (by rw [hc42]; decide) ?_
        obtain ⟨q1575, hq, H⟩ := bnd H
        refine zEv.call (k := 99) (as := [vR (some (10, 0))]) (L2 := [some (vR (some (19, 0))), some (vR (some (10, 0))), some (vR (some (11, 0))), some (vI x3)]) (st2 := []) (h2 := h) (v := some (vL q1575.1)) (h1 := q1575.2) (st3 := [vL q1575.1]) zm_L_law rfl rfl rfl rfl rfl zm_X10_digest rfl (by omega) (ev_X10_digest (by omega) hq) rfl ?_
        obtain ⟨q1579, hq, H⟩ := bnd H
        refine zEv.call (k := 215) (as := [vR (some (11, 0))]) (L2 := [some (vR (some (19, 0))), some (vR (some (10, 0))), some (vR (some (11, 0))), some (vI x3)]) (st2 := [vL q1575.1]) (h2 := q1575.2) (v := some (vL q1579.1)) (h1 := q1579.2) (st3 := [vL q1579.1, vL q1575.1]) zm_L_law rfl rfl rfl rfl rfl zm_X11_digest rfl (by omega) (ev_X11_digest (by omega) hq) rfl ?_
        rcases ifc H with ⟨hc, H⟩ | ⟨hc, H⟩
        · refine zEv.iteT (L2 := [some (vR (some (19, 0))), some (vR (some (10, 0))), some (vR (some (11, 0))), some (vI x3)]) (st2 := []) (h2 := q1579.2) zm_L_law rfl rfl rfl rfl (decide_eq_true hc) ?_
          exact ev_L_law_1588 (by omega) ih H
        · refine zEv.iteF (L2 := [some (vR (some (19, 0))), some (vR (some (10, 0))), some (vR (some (11, 0))), some (vI x3)]) (st2 := []) (h2 := q1579.2) zm_L_law rfl rfl rfl rfl (decide_eq_false hc) ?_
          cases H
          exact zEv.ret zm_L_law rfl rfl rfl rfl
      have hout : ∀ j, j < 43 → ¬ ((rI h 19 0 (Int32.toNatClampNeg x3)) &&& 63) = Int32.ofNat j := by
        intro j hj
        rcases (show j = 0 ∨ j = 1 ∨ j = 2 ∨ j = 3 ∨ j = 4 ∨ j = 5 ∨ j = 6 ∨ j = 7 ∨ j = 8 ∨ j = 9 ∨ j = 10 ∨ j = 11 ∨ j = 12 ∨ j = 13 ∨ j = 14 ∨ j = 15 ∨ j = 16 ∨ j = 17 ∨ j = 18 ∨ j = 19 ∨ j = 20 ∨ j = 21 ∨ j = 22 ∨ j = 23 ∨ j = 24 ∨ j = 25 ∨ j = 26 ∨ j = 27 ∨ j = 28 ∨ j = 29 ∨ j = 30 ∨ j = 31 ∨ j = 32 ∨ j = 33 ∨ j = 34 ∨ j = 35 ∨ j = 36 ∨ j = 37 ∨ j = 38 ∨ j = 39 ∨ j = 40 ∨ j = 41 ∨ j = 42 by omega) with rfl | rfl | rfl | rfl | rfl | rfl | rfl | rfl | rfl | rfl | rfl | rfl | rfl | rfl | rfl | rfl | rfl | rfl | rfl | rfl | rfl | rfl | rfl | rfl | rfl | rfl | rfl | rfl | rfl | rfl | rfl | rfl | rfl | rfl | rfl | rfl | rfl | rfl | rfl | rfl | rfl | rfl | rfl
        · exact hc0
        · exact hc1
        · exact hc2
        · exact hc3
        · exact hc4
        · exact hc5
        · exact hc6
        · exact hc7
        · exact hc8
        · exact hc9
        · exact hc10
        · exact hc11
        · exact hc12
        · exact hc13
        · exact hc14
        · exact hc15
        · exact hc16
        · exact hc17
        · exact hc18
        · exact hc19
        · exact hc20
        · exact hc21
        · exact hc22
        · exact hc23
        · exact hc24
        · exact hc25
        · exact hc26
        · exact hc27
        · exact hc28
        · exact hc29
        · exact hc30
        · exact hc31
        · exact hc32
        · exact hc33
        · exact hc34
        · exact hc35
        · exact hc36
        · exact hc37
        · exact hc38
        · exact hc39
        · exact hc40
        · exact hc41
        · exact hc42
      refine zEv.sw (x := swL 0 42 [220, 253, 296, 319, 382, 405, 438, 481, 504, 557, 620, 663, 706, 739, 772, 805, 838, 871, 904, 953, 986, 1019, 1052, 1085, 1118, 1161, 1194, 1217, 1240, 1263, 1286, 1319, 1352, 1375, 1408, 1461, 1474, 1487, 1501, 1515, 1538, 1551, 1574] 1588 (((rI h 19 0 (Int32.toNatClampNeg x3)) &&& 63))) (L2 := [some (vR (some (19, 0))), some (vR (some (10, 0))), some (vR (some (11, 0))), some (vI x3)]) (st2 := []) (h2 := h) zm_L_law rfl hg rfl hg (lab' := 1588) (swOut (n := 43) (by decide) hout) ?_
      exact ev_L_law_1588 (by omega) ih H
def f_L_law (h : zM) : Option (Int32 × zM) := (if (some (10, (cnM h 10))) = (some (10, 0)) then (f_X10_init  (nwM h 10 15)).bind fun q4 => (if (some (11, (cnM q4 11))) = (some (11, 0)) then (f_X11_init  (nwM q4 11 32)).bind fun q12 => (if (some (11, (cnM q4 11))) = (some (11, 0)) then (if (some (10, (cnM h 10))) = (some (10, 0)) then (f_L_law_18  1000 0 q12) else none) else none) else none) else none)
set_option maxRecDepth 20000 in
theorem ev_L_law {d : Nat} (hd : 9 ≤ d) {w1 : Option zV} {w2 : Option zV} {w3 : Option zV} {h : zM} {r : Int32 × zM} (H : f_L_law  h = some r) : zEv zmt d 216 0 ([some (vR (some (19, 0))), w1, w2, w3], [], h, true) (some (vI r.1), r.2) := by
  obtain ⟨hx, H⟩ := ifp H
  obtain ⟨q4, hq, H⟩ := bnd H
  refine zEv.call (k := 56) (as := [vR (some (10, (cnM h 10)))]) (L2 := [some (vR (some (19, 0))), w1, w2, w3]) (st2 := [vR (some (10, (cnM h 10)))]) (h2 := (nwM h 10 15)) (v := none) (h1 := q4) (st3 := [vR (some (10, (cnM h 10)))]) zm_L_law rfl rfl rfl rfl rfl zm_X10_init rfl (by omega) (by rw [hx]; exact ev_X10_init (by omega) hq) rfl ?_
  obtain ⟨hx, H⟩ := ifp H
  obtain ⟨q12, hq, H⟩ := bnd H
  refine zEv.call (k := 126) (as := [vR (some (11, (cnM q4 11)))]) (L2 := [some (vR (some (19, 0))), some (vR (some (10, (cnM h 10)))), w2, w3]) (st2 := [vR (some (11, (cnM q4 11)))]) (h2 := (nwM q4 11 32)) (v := none) (h1 := q12) (st3 := [vR (some (11, (cnM q4 11)))]) zm_L_law rfl rfl rfl rfl rfl zm_X11_init rfl (by omega) (by rw [hx]; exact ev_X11_init (by omega) hq) rfl ?_
  refine zEv.loc (L2 := [some (vR (some (19, 0))), some (vR (some (10, (cnM h 10)))), some (vR (some (11, (cnM q4 11)))), some (vI 0)]) (st2 := []) (h2 := q12) zm_L_law rfl rfl rfl rfl (fun h => (nomatch h)) ?_
  obtain ⟨hx1, H⟩ := ifp H
  obtain ⟨hx0, H⟩ := ifp H
  rw [hx0]
  rw [hx1]
  exact ev_L_law_18 (by omega)  1000 H
