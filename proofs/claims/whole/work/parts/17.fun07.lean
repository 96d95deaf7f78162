def f_X11_readsFigures_68 (x3 : Int32) (h : zM) : Option (Int32 × zM) := (if (rI h 11 0 17) ≤ x3 then (some (0, h)) else (some (1, h)))
set_option maxRecDepth 20000 in
theorem ev_X11_readsFigures_68 {d : Nat} (hd : 1 ≤ d) {w1 : Option zV} {w2 : Option zV} {x3 : Int32} {h : zM} {r : Int32 × zM} (H : f_X11_readsFigures_68 x3 h = some r) : zEv zmt d 165 68 ([some (vR (some (11, 0))), w1, w2, some (vI x3)], [], h, true) (some (vI r.1), r.2) := by
  rcases ifc H with ⟨hc, H⟩ | ⟨hc, H⟩
  · refine zEv.iteT (L2 := [some (vR (some (11, 0))), w1, w2, some (vI x3)]) (st2 := []) (h2 := h) zm_X11_readsFigures rfl rfl rfl rfl (decide_eq_true hc) ?_
    refine zEv.loc (L2 := [some (vR (some (11, 0))), w1, w2, some (vI x3)]) (st2 := [vI 0]) (h2 := h) zm_X11_readsFigures rfl rfl rfl rfl (fun h => (nomatch h)) ?_
    cases H
    exact zEv.ret zm_X11_readsFigures rfl rfl rfl rfl
  · refine zEv.iteF (L2 := [some (vR (some (11, 0))), w1, w2, some (vI x3)]) (st2 := []) (h2 := h) zm_X11_readsFigures rfl rfl rfl rfl (decide_eq_false hc) ?_
    refine zEv.loc (L2 := [some (vR (some (11, 0))), w1, w2, some (vI x3)]) (st2 := [vI 1]) (h2 := h) zm_X11_readsFigures rfl rfl rfl rfl (fun h => (nomatch h)) ?_
    cases H
    exact zEv.ret zm_X11_readsFigures rfl rfl rfl rfl
def f_X11_readsFigures_10 : Nat → Int32 → Int32 → Int32 → zM → Option (Int32 × zM)
  | 0 => fun _ _ _ _ => none
  | k + 1 => fun x1 x2 x3 h => (if x2 ≤ ((rI h 11 0 17) - x3) then (f_X11_readsFigures_68  x3 h) else ((f_X11_here x1 h).bind fun q22 => ((f_X11_in q22.1 48 57 q22.2).bind fun q29 => (if q29.1 = 0 then (f_X11_readsFigures_68  x3 q29.2) else ((f_X11_here x1 q29.2).bind fun q45 => (f_X11_readsFigures_10 k x1 x2 x3 (wI (wI q45.2 11 0 18 (((10 * (rI q29.2 11 0 18)) + q45.1) - 48)) 11 0 17 ((rI (wI q45.2 11 0 18 (((10 * (rI q29.2 11 0 18)) + q45.1) - 48)) 11 0 17) + 1))))))))
set_option maxRecDepth 20000 in
theorem ev_X11_readsFigures_10 {d : Nat} (hd : 1 ≤ d) : ∀ (k : Nat) {x1 : Int32} {x2 : Int32} {x3 : Int32} {h : zM} {r : Int32 × zM}, f_X11_readsFigures_10 k x1 x2 x3 h = some r → zEv zmt d 165 10 ([some (vR (some (11, 0))), some (vI x1), some (vI x2), some (vI x3)], [], h, true) (some (vI r.1), r.2) := by
  intro k
  induction k with
  | zero => intro x1 x2 x3 h r H; cases H
  | succ k ih =>
    intro x1 x2 x3 h r H
    rcases ifc H with ⟨hc, H⟩ | ⟨hc, H⟩
    · refine zEv.iteT (L2 := [some (vR (some (11, 0))), some (vI x1), some (vI x2), some (vI x3)]) (st2 := []) (h2 := h) zm_X11_readsFigures rfl rfl rfl rfl (decide_eq_true hc) ?_
      exact ev_X11_readsFigures_68 (by omega)  H
    · refine zEv.iteF (L2 := [some (vR (some (11, 0))), some (vI x1), some (vI x2), some (vI x3)]) (st2 := []) (h2 := h) zm_X11_readsFigures rfl rfl rfl rfl (decide_eq_false hc) ?_
      obtain ⟨q22, hq, H⟩ := bnd H
      refine zEv.call (k := 163) (as := [vR (some (11, 0)), vI x1]) (L2 := [some (vR (some (11, 0))), some (vI x1), some (vI x2), some (vI x3)]) (st2 := []) (h2 := h) (v := some (vI q22.1)) (h1 := q22.2) (st3 := [vI q22.1]) zm_X11_readsFigures rfl rfl rfl rfl rfl zm_X11_here rfl (by omega) (ev_X11_here (by omega) hq) rfl ?_
      obtain ⟨q29, hq, H⟩ := bnd H
      refine zEv.call (k := 127) (as := [vI q22.1, vI 48, vI 57]) (L2 := [some (vR (some (11, 0))), some (vI x1), some (vI x2), some (vI x3)]) (st2 := []) (h2 := q22.2) (v := some (vI q29.1)) (h1 := q29.2) (st3 := [vI q29.1]) zm_X11_readsFigures rfl rfl rfl rfl rfl zm_X11_in rfl (by omega) (ev_X11_in (by omega) hq) rfl ?_
      rcases ifc H with ⟨hc, H⟩ | ⟨hc, H⟩
      · refine zEv.iteT (L2 := [some (vR (some (11, 0))), some (vI x1), some (vI x2), some (vI x3)]) (st2 := []) (h2 := q29.2) zm_X11_readsFigures rfl rfl rfl rfl (decide_eq_true hc) ?_
        exact ev_X11_readsFigures_68 (by omega)  H
      · refine zEv.iteF (L2 := [some (vR (some (11, 0))), some (vI x1), some (vI x2), some (vI x3)]) (st2 := []) (h2 := q29.2) zm_X11_readsFigures rfl rfl rfl rfl (decide_eq_false hc) ?_
        obtain ⟨q45, hq, H⟩ := bnd H
        refine zEv.call (k := 163) (as := [vR (some (11, 0)), vI x1]) (L2 := [some (vR (some (11, 0))), some (vI x1), some (vI x2), some (vI x3)]) (st2 := [vI (10 * (rI q29.2 11 0 18)), vR (some (11, 0))]) (h2 := q29.2) (v := some (vI q45.1)) (h1 := q45.2) (st3 := [vI q45.1, vI (10 * (rI q29.2 11 0 18)), vR (some (11, 0))]) zm_X11_readsFigures rfl rfl rfl rfl rfl zm_X11_here rfl (by omega) (ev_X11_here (by omega) hq) rfl ?_
        refine zEv.loc (L2 := [some (vR (some (11, 0))), some (vI x1), some (vI x2), some (vI x3)]) (st2 := []) (h2 := (wI (wI q45.2 11 0 18 (((10 * (rI q29.2 11 0 18)) + q45.1) - 48)) 11 0 17 ((rI (wI q45.2 11 0 18 (((10 * (rI q29.2 11 0 18)) + q45.1) - 48)) 11 0 17) + 1))) zm_X11_readsFigures rfl rfl rfl rfl (fun h => (nomatch h)) ?_
        exact ih H
def f_X11_readsFigures (x1 : Int32) (x2 : Int32) (h : zM) : Option (Int32 × zM) := (f_X11_readsFigures_10  1000 x1 x2 (rI h 11 0 17) (wI h 11 0 18 0))
set_option maxRecDepth 20000 in
theorem ev_X11_readsFigures {d : Nat} (hd : 1 ≤ d) {w3 : Option zV} {x1 : Int32} {x2 : Int32} {h : zM} {r : Int32 × zM} (H : f_X11_readsFigures x1 x2 h = some r) : zEv zmt d 165 0 ([some (vR (some (11, 0))), some (vI x1), some (vI x2), w3], [], h, true) (some (vI r.1), r.2) := by
  refine zEv.loc (L2 := [some (vR (some (11, 0))), some (vI x1), some (vI x2), some (vI (rI h 11 0 17))]) (st2 := []) (h2 := (wI h 11 0 18 0)) zm_X11_readsFigures rfl rfl rfl rfl (fun h => (nomatch h)) ?_
  exact ev_X11_readsFigures_10 (by omega)  1000 H
def f_X11_readsNumber_32 (x3 : Int32) (s1 : Int32) (h : zM) : Option (Int32 × zM) := (if (isB x3 && (true && true)) = true then (some (x3, (wI h 11 0 18 s1))) else none)
set_option maxRecDepth 20000 in
theorem ev_X11_readsNumber_32 {d : Nat} (hd : 2 ≤ d) {w0 : Option zV} {w1 : Option zV} {w2 : Option zV} {x3 : Int32} {s1 : Int32} {h : zM} {r : Int32 × zM} (H : f_X11_readsNumber_32 x3 s1 h = some r) : zEv zmt d 166 32 ([w0, w1, w2, some (vI x3)], [vI s1, vR (some (11, 0))], h, true) (some (vI r.1), r.2) := by
  obtain ⟨hg, H⟩ := ifg H
  cases H
  exact zEv.ret zm_X11_readsNumber rfl (and2 hg).2 rfl hg
def f_X11_readsNumber (x1 : Int32) (h : zM) : Option (Int32 × zM) := ((f_X11_readsByte x1 45 h).bind fun q4 => ((f_X11_readsFigures x1 2 q4.2).bind fun q11 => (if q4.1 = 0 then (f_X11_readsNumber_32  q11.1 (rI q11.2 11 0 18) q11.2) else (f_X11_readsNumber_32  q11.1 (-(rI q11.2 11 0 18)) q11.2))))
set_option maxRecDepth 20000 in
theorem ev_X11_readsNumber {d : Nat} (hd : 2 ≤ d) {w2 : Option zV} {w3 : Option zV} {x1 : Int32} {h : zM} {r : Int32 × zM} (H : f_X11_readsNumber x1 h = some r) : zEv zmt d 166 0 ([some (vR (some (11, 0))), some (vI x1), w2, w3], [], h, true) (some (vI r.1), r.2) := by
  obtain ⟨q4, hq, H⟩ := bnd H
  refine zEv.call (k := 164) (as := [vR (some (11, 0)), vI x1, vI 45]) (L2 := [some (vR (some (11, 0))), some (vI x1), w2, w3]) (st2 := []) (h2 := h) (v := some (vI q4.1)) (h1 := q4.2) (st3 := [vI q4.1]) zm_X11_readsNumber rfl rfl rfl rfl rfl zm_X11_readsByte rfl (by omega) (ev_X11_readsByte (by omega) hq) rfl ?_
  obtain ⟨q11, hq, H⟩ := bnd H
  refine zEv.call (k := 165) (as := [vR (some (11, 0)), vI x1, vI 2]) (L2 := [some (vR (some (11, 0))), some (vI x1), some (vI q4.1), w3]) (st2 := []) (h2 := q4.2) (v := some (vI q11.1)) (h1 := q11.2) (st3 := [vI q11.1]) zm_X11_readsNumber rfl rfl rfl rfl rfl zm_X11_readsFigures rfl (by omega) (ev_X11_readsFigures (by omega) hq) rfl ?_
  rcases ifc H with ⟨hc, H⟩ | ⟨hc, H⟩
  · refine zEv.iteT (L2 := [some (vR (some (11, 0))), some (vI x1), some (vI q4.1), some (vI q11.1)]) (st2 := [vR (some (11, 0))]) (h2 := q11.2) zm_X11_readsNumber rfl rfl rfl rfl (decide_eq_true hc) ?_
    refine zEv.loc (L2 := [some (vR (some (11, 0))), some (vI x1), some (vI q4.1), some (vI q11.1)]) (st2 := [vI (rI q11.2 11 0 18), vR (some (11, 0))]) (h2 := q11.2) zm_X11_readsNumber rfl rfl rfl rfl (fun h => (nomatch h)) ?_
    exact ev_X11_readsNumber_32 (by omega)  H
  · refine zEv.iteF (L2 := [some (vR (some (11, 0))), some (vI x1), some (vI q4.1), some (vI q11.1)]) (st2 := [vR (some (11, 0))]) (h2 := q11.2) zm_X11_readsNumber rfl rfl rfl rfl (decide_eq_false hc) ?_
    refine zEv.loc (L2 := [some (vR (some (11, 0))), some (vI x1), some (vI q4.1), some (vI q11.1)]) (st2 := [vI (-(rI q11.2 11 0 18)), vR (some (11, 0))]) (h2 := q11.2) zm_X11_readsNumber rfl rfl rfl rfl (fun h => (nomatch h)) ?_
    exact ev_X11_readsNumber_32 (by omega)  H
def f_X11_readsLaw_33 (x3 : Int32) (s0 : zR) (s1 : Int32) (h : zM) : Option (Int32 × zM) := (if (isB x3 && (Nat.beq (akd (clR s0)) 1 && (ixOk (aln (clR s0)) s1 && (true && true)))) = true then (some (x3, (wI h (clR s0) (ixR s0) (Int32.toNatClampNeg s1) (rI h 11 0 18)))) else none)
set_option maxRecDepth 20000 in
theorem ev_X11_readsLaw_33 {d : Nat} (hd : 3 ≤ d) {w1 : Option zV} {w2 : Option zV} {w4 : Option zV} {x3 : Int32} {s0 : zR} {s1 : Int32} {h : zM} {r : Int32 × zM} (H : f_X11_readsLaw_33 x3 s0 s1 h = some r) : zEv zmt d 167 33 ([some (vR (some (11, 0))), w1, w2, some (vI x3), w4], [vI s1, vR s0], h, true) (some (vI r.1), r.2) := by
  obtain ⟨hg, H⟩ := ifg H
  cases H
  exact zEv.ret zm_X11_readsLaw rfl (and2 hg).2 rfl hg
def f_X11_readsLaw_12 (x1 : Int32) (x2 : Int32) (h : zM) : Option (Int32 × zM) := ((f_X11_readsNumber x1 h).bind fun q14 => (if (true && (decide (rR q14.2 11 0 20 = (some (42, 0))) && (true && true))) = true then (if ¬ x2 = 84 then (f_X11_readsLaw_33  q14.1 (some (42, 0)) 5 q14.2) else (f_X11_readsLaw_33  q14.1 (some (42, 0)) 4 q14.2)) else none))
set_option maxRecDepth 20000 in
theorem ev_X11_readsLaw_12 {d : Nat} (hd : 3 ≤ d) {w3 : Option zV} {w4 : Option zV} {x1 : Int32} {x2 : Int32} {h : zM} {r : Int32 × zM} (H : f_X11_readsLaw_12 x1 x2 h = some r) : zEv zmt d 167 12 ([some (vR (some (11, 0))), some (vI x1), some (vI x2), w3, w4], [], h, true) (some (vI r.1), r.2) := by
  obtain ⟨q14, hq, H⟩ := bnd H
  refine zEv.call (k := 166) (as := [vR (some (11, 0)), vI x1]) (L2 := [some (vR (some (11, 0))), some (vI x1), some (vI x2), w3, w4]) (st2 := []) (h2 := h) (v := some (vI q14.1)) (h1 := q14.2) (st3 := [vI q14.1]) zm_X11_readsLaw rfl rfl rfl rfl rfl zm_X11_readsNumber rfl (by omega) (ev_X11_readsNumber (by omega) hq) rfl ?_
  obtain ⟨hg, H⟩ := ifg H
  rcases ifc H with ⟨hc, H⟩ | ⟨hc, H⟩
  · refine zEv.iteT (L2 := [some (vR (some (11, 0))), some (vI x1), some (vI x2), some (vI q14.1), w4]) (st2 := [vR (some (42, 0))]) (h2 := q14.2) zm_X11_readsLaw rfl hg rfl hg (decide_eq_true hc) ?_
    refine zEv.loc (L2 := [some (vR (some (11, 0))), some (vI x1), some (vI x2), some (vI q14.1), w4]) (st2 := [vI 5, vR (some (42, 0))]) (h2 := q14.2) zm_X11_readsLaw rfl rfl rfl rfl (fun h => (nomatch h)) ?_
    exact ev_X11_readsLaw_33 (by omega)  H
  · refine zEv.iteF (L2 := [some (vR (some (11, 0))), some (vI x1), some (vI x2), some (vI q14.1), w4]) (st2 := [vR (some (42, 0))]) (h2 := q14.2) zm_X11_readsLaw rfl hg rfl hg (decide_eq_false hc) ?_
    refine zEv.loc (L2 := [some (vR (some (11, 0))), some (vI x1), some (vI x2), some (vI q14.1), w4]) (st2 := [vI 4, vR (some (42, 0))]) (h2 := q14.2) zm_X11_readsLaw rfl rfl rfl rfl (fun h => (nomatch h)) ?_
    exact ev_X11_readsLaw_33 (by omega)  H
def f_X11_readsLaw_128 (x1 : Int32) (s0 : Int32) (h : zM) : Option (Int32 × zM) := ((f_X11_readsNumber x1 h).bind fun q131 => (if ¬ q131.1 = 0 then ((f_X11_readsByte x1 44 q131.2).bind fun q149 => (if q149.1 = 0 then (some (0, q149.2)) else ((f_X11_readsNumber x1 q149.2).bind fun q157 => (if q157.1 = 0 then (some (0, q157.2)) else (if 1 ≤ (rI q157.2 11 0 18) then (if (true && (true && (ixOk 10 (s0 + 1) && (true && (true && (decide (rR q157.2 11 0 20 = (some (42, 0))) && (true && (ixOk 10 s0 && (true && (decide (rR q157.2 11 0 20 = (some (42, 0))) && true)))))))))) = true then (some (1, (wI (wI q157.2 42 0 (Int32.toNatClampNeg s0) (rI q131.2 11 0 18)) 42 0 (Int32.toNatClampNeg (s0 + 1)) (rI (wI q157.2 42 0 (Int32.toNatClampNeg s0) (rI q131.2 11 0 18)) 11 0 18)))) else none) else (some (0, q157.2))))))) else (some (0, q131.2))))
set_option maxRecDepth 20000 in
theorem ev_X11_readsLaw_128 {d : Nat} (hd : 3 ≤ d) {w2 : Option zV} {w3 : Option zV} {w4 : Option zV} {x1 : Int32} {s0 : Int32} {h : zM} {r : Int32 × zM} (H : f_X11_readsLaw_128 x1 s0 h = some r) : zEv zmt d 167 128 ([some (vR (some (11, 0))), some (vI x1), w2, w3, w4], [vI s0], h, true) (some (vI r.1), r.2) := by
  obtain ⟨q131, hq, H⟩ := bnd H
  refine zEv.call (k := 166) (as := [vR (some (11, 0)), vI x1]) (L2 := [some (vR (some (11, 0))), some (vI x1), none, some (vI s0), w4]) (st2 := []) (h2 := h) (v := some (vI q131.1)) (h1 := q131.2) (st3 := [vI q131.1]) zm_X11_readsLaw rfl rfl rfl rfl rfl zm_X11_readsNumber rfl (by omega) (ev_X11_readsNumber (by omega) hq) rfl ?_
  rcases ifc H with ⟨hc, H⟩ | ⟨hc, H⟩
  · refine zEv.iteT (L2 := [some (vR (some (11, 0))), some (vI x1), none, some (vI s0), w4]) (st2 := []) (h2 := q131.2) zm_X11_readsLaw rfl rfl rfl rfl (decide_eq_true hc) ?_
    obtain ⟨q149, hq, H⟩ := bnd H
    refine zEv.call (k := 164) (as := [vR (some (11, 0)), vI x1, vI 44]) (L2 := [some (vR (some (11, 0))), some (vI x1), none, some (vI s0), some (vI (rI q131.2 11 0 18))]) (st2 := []) (h2 := q131.2) (v := some (vI q149.1)) (h1 := q149.2) (st3 := [vI q149.1]) zm_X11_readsLaw rfl rfl rfl rfl rfl zm_X11_readsByte rfl (by omega) (ev_X11_readsByte (by omega) hq) rfl ?_
    rcases ifc H with ⟨hc, H⟩ | ⟨hc, H⟩
    · refine zEv.iteT (L2 := [some (vR (some (11, 0))), some (vI x1), none, some (vI s0), some (vI (rI q131.2 11 0 18))]) (st2 := []) (h2 := q149.2) zm_X11_readsLaw rfl rfl rfl rfl (decide_eq_true hc) ?_
      cases H
      exact zEv.ret zm_X11_readsLaw rfl rfl rfl rfl
    · refine zEv.iteF (L2 := [some (vR (some (11, 0))), some (vI x1), none, some (vI s0), some (vI (rI q131.2 11 0 18))]) (st2 := []) (h2 := q149.2) zm_X11_readsLaw rfl rfl rfl rfl (decide_eq_false hc) ?_
      obtain ⟨q157, hq, H⟩ := bnd H
      refine zEv.call (k := 166) (as := [vR (some (11, 0)), vI x1]) (L2 := [some (vR (some (11, 0))), some (vI x1), none, some (vI s0), some (vI (rI q131.2 11 0 18))]) (st2 := []) (h2 := q149.2) (v := some (vI q157.1)) (h1 := q157.2) (st3 := [vI q157.1]) zm_X11_readsLaw rfl rfl rfl rfl rfl zm_X11_readsNumber rfl (by omega) (ev_X11_readsNumber (by omega) hq) rfl ?_
      rcases ifc H with ⟨hc, H⟩ | ⟨hc, H⟩
      · refine zEv.iteT (L2 := [some (vR (some (11, 0))), some (vI x1), none, some (vI s0), some (vI (rI q131.2 11 0 18))]) (st2 := []) (h2 := q157.2) zm_X11_readsLaw rfl rfl rfl rfl (decide_eq_true hc) ?_
        cases H
        exact zEv.ret zm_X11_readsLaw rfl rfl rfl rfl
      · refine zEv.iteF (L2 := [some (vR (some (11, 0))), some (vI x1), none, some (vI s0), some (vI (rI q131.2 11 0 18))]) (st2 := []) (h2 := q157.2) zm_X11_readsLaw rfl rfl rfl rfl (decide_eq_false hc) ?_
        rcases ifc H with ⟨hc, H⟩ | ⟨hc, H⟩
        · refine zEv.iteT (L2 := [some (vR (some (11, 0))), some (vI x1), none, some (vI s0), some (vI (rI q131.2 11 0 18))]) (st2 := []) (h2 := q157.2) zm_X11_readsLaw rfl rfl rfl rfl (decide_eq_true hc) ?_
          obtain ⟨hg, H⟩ := ifg H
          cases H
          exact zEv.ret zm_X11_readsLaw rfl (and2 hg).2 rfl hg
        · refine zEv.iteF (L2 := [some (vR (some (11, 0))), some (vI x1), none, some (vI s0), some (vI (rI q131.2 11 0 18))]) (st2 := []) (h2 := q157.2) zm_X11_readsLaw rfl rfl rfl rfl (decide_eq_false hc) ?_
          cases H
          exact zEv.ret zm_X11_readsLaw rfl rfl rfl rfl
  · refine zEv.iteF (L2 := [some (vR (some (11, 0))), some (vI x1), none, some (vI s0), w4]) (st2 := []) (h2 := q131.2) zm_X11_readsLaw rfl rfl rfl rfl (decide_eq_false hc) ?_
    cases H
    exact zEv.ret zm_X11_readsLaw rfl rfl rfl rfl
def f_X11_readsLaw (x1 : Int32) (x2 : Int32) (h : zM) : Option (Int32 × zM) := (if x2 = 84 then (f_X11_readsLaw_12  x1 x2 h) else (if ¬ x2 = 70 then (if ¬ x2 = 83 then (if ¬ x2 = 87 then (f_X11_readsLaw_128  x1 2 h) else (f_X11_readsLaw_128  x1 0 h)) else ((f_X11_here x1 h).bind fun q48 => ((f_X11_in q48.1 48 51 q48.2).bind fun q55 => (if ¬ q55.1 = 0 then ((f_X11_here x1 q55.2).bind fun q65 => ((f_X11_readsByte x1 58 (wI q65.2 11 0 17 ((rI q65.2 11 0 17) + 1))).bind fun q86 => (if q86.1 = 0 then (some (0, q86.2)) else ((f_X11_readsNumber x1 q86.2).bind fun q94 => (if ¬ q94.1 = 0 then (if (true && (true && (ixOk 10 (6 + (q65.1 - 48)) && (true && (true && (decide (rR q94.2 11 0 20 = (some (42, 0))) && true)))))) = true then (some (1, (wI q94.2 42 0 (Int32.toNatClampNeg (6 + (q65.1 - 48))) (rI q94.2 11 0 18)))) else none) else (some (0, q94.2))))))) else (some (0, q55.2)))))) else (f_X11_readsLaw_12  x1 x2 h)))
set_option maxRecDepth 20000 in
theorem ev_X11_readsLaw {d : Nat} (hd : 3 ≤ d) {w3 : Option zV} {w4 : Option zV} {x1 : Int32} {x2 : Int32} {h : zM} {r : Int32 × zM} (H : f_X11_readsLaw x1 x2 h = some r) : zEv zmt d 167 0 ([some (vR (some (11, 0))), some (vI x1), some (vI x2), w3, w4], [], h, true) (some (vI r.1), r.2) := by
  rcases ifc H with ⟨hc, H⟩ | ⟨hc, H⟩
  · refine zEv.iteT (L2 := [some (vR (some (11, 0))), some (vI x1), some (vI x2), w3, w4]) (st2 := []) (h2 := h) zm_X11_readsLaw rfl rfl rfl rfl (decide_eq_true hc) ?_
    exact ev_X11_readsLaw_12 (by omega)  H
  · refine zEv.iteF (L2 := [some (vR (some (11, 0))), some (vI x1), some (vI x2), w3, w4]) (st2 := []) (h2 := h) zm_X11_readsLaw rfl rfl rfl rfl (decide_eq_false hc) ?_
    rcases ifc H with ⟨hc, H⟩ | ⟨hc, H⟩
    · refine zEv.iteT (L2 := [some (vR (some (11, 0))), some (vI x1), some (vI x2), w3, w4]) (st2 := []) (h2 := h) zm_X11_readsLaw rfl rfl rfl rfl (decide_eq_true hc) ?_
      rcases ifc H with ⟨hc, H⟩ | ⟨hc, H⟩
      · refine zEv.iteT (L2 := [some (vR (some (11, 0))), some (vI x1), some (vI x2), w3, w4]) (st2 := []) (h2 := h) zm_X11_readsLaw rfl rfl rfl rfl (decide_eq_true hc) ?_
        rcases ifc H with ⟨hc, H⟩ | ⟨hc, H⟩
        · refine zEv.iteT (L2 := [some (vR (some (11, 0))), some (vI x1), some (vI x2), w3, w4]) (st2 := []) (h2 := h) zm_X11_readsLaw rfl rfl rfl rfl (decide_eq_true hc) ?_
          refine zEv.loc (L2 := [some (vR (some (11, 0))), some (vI x1), some (vI x2), w3, w4]) (st2 := [vI 2]) (h2 := h) zm_X11_readsLaw rfl rfl rfl rfl (fun h => (nomatch h)) ?_
          exact ev_X11_readsLaw_128 (by omega)  H
        · refine zEv.iteF (L2 := [some (vR (some (11, 0))), some (vI x1), some (vI x2), w3, w4]) (st2 := []) (h2 := h) zm_X11_readsLaw rfl rfl rfl rfl (decide_eq_false hc) ?_
          refine zEv.loc (L2 := [some (vR (some (11, 0))), some (vI x1), some (vI x2), w3, w4]) (st2 := [vI 0]) (h2 := h) zm_X11_readsLaw rfl rfl rfl rfl (fun h => (nomatch h)) ?_
          exact ev_X11_readsLaw_128 (by omega)  H
      · refine zEv.iteF (L2 := [some (vR (some (11, 0))), some (vI x1), some (vI x2), w3, w4]) (st2 := []) (h2 := h) zm_X11_readsLaw rfl rfl rfl rfl (decide_eq_false hc) ?_
        obtain ⟨q48, hq, H⟩ := bnd H
        refine zEv.call (k := 163) (as := [vR (some (11, 0)), vI x1]) (L2 := [some (vR (some (11, 0))), some (vI x1), some (vI x2), w3, w4]) (st2 := []) (h2 := h) (v := some (vI q48.1)) (h1 := q48.2) (st3 := [vI q48.1]) zm_X11_readsLaw rfl rfl rfl rfl rfl zm_X11_here rfl (by omega) (ev_X11_here (by omega) hq) rfl ?_
        obtain ⟨q55, hq, H⟩ := bnd H
        refine zEv.call (k := 127) (as := [vI q48.1, vI 48, vI 51]) (L2 := [some (vR (some (11, 0))), some (vI x1), some (vI x2), w3, w4]) (st2 := []) (h2 := q48.2) (v := some (vI q55.1)) (h1 := q55.2) (st3 := [vI q55.1]) zm_X11_readsLaw rfl rfl rfl rfl rfl zm_X11_in rfl (by omega) (ev_X11_in (by omega) hq) rfl ?_
        rcases ifc H with ⟨hc, H⟩ | ⟨hc, H⟩
        · refine zEv.iteT (L2 := [some (vR (some (11, 0))), some (vI x1), some (vI x2), w3, w4]) (st2 := []) (h2 := q55.2) zm_X11_readsLaw rfl rfl rfl rfl (decide_eq_true hc) ?_
          obtain ⟨q65, hq, H⟩ := bnd H
          refine zEv.call (k := 163) (as := [vR (some (11, 0)), vI x1]) (L2 := [some (vR (some (11, 0))), some (vI x1), some (vI x2), w3, w4]) (st2 := []) (h2 := q55.2) (v := some (vI q65.1)) (h1 := q65.2) (st3 := [vI q65.1]) zm_X11_readsLaw rfl rfl rfl rfl rfl zm_X11_here rfl (by omega) (ev_X11_here (by omega) hq) rfl ?_
          obtain ⟨q86, hq, H⟩ := bnd H
          refine zEv.call (k := 164) (as := [vR (some (11, 0)), vI x1, vI 58]) (L2 := [some (vR (some (11, 0))), some (vI x1), none, some (vI (q65.1 - 48)), w4]) (st2 := []) (h2 := (wI q65.2 11 0 17 ((rI q65.2 11 0 17) + 1))) (v := some (vI q86.1)) (h1 := q86.2) (st3 := [vI q86.1]) zm_X11_readsLaw rfl rfl rfl rfl rfl zm_X11_readsByte rfl (by omega) (ev_X11_readsByte (by omega) hq) rfl ?_
          rcases ifc H with ⟨hc, H⟩ | ⟨hc, H⟩
          · refine zEv.iteT (L2 := [some (vR (some (11, 0))), some (vI x1), none, some (vI (q65.1 - 48)), w4]) (st2 := []) (h2 := q86.2) zm_X11_readsLaw rfl rfl rfl rfl (decide_eq_true hc) ?_
            cases H
            exact zEv.ret zm_X11_readsLaw rfl rfl rfl rfl
          · refine zEv.iteF (L2 := [some (vR (some (11, 0))), some (vI x1), none, some (vI (q65.1 - 48)), w4]) (st2 := []) (h2 := q86.2) zm_X11_readsLaw rfl rfl rfl rfl (decide_eq_false hc) ?_
            obtain ⟨q94, hq, H⟩ := bnd H
            refine zEv.call (k := 166) (as := [vR (some (11, 0)), vI x1]) (L2 := [some (vR (some (11, 0))), some (vI x1), none, some (vI (q65.1 - 48)), w4]) (st2 := []) (h2 := q86.2) (v := some (vI q94.1)) (h1 := q94.2) (st3 := [vI q94.1]) zm_X11_readsLaw rfl rfl rfl rfl rfl zm_X11_readsNumber rfl (by omega) (ev_X11_readsNumber (by omega) hq) rfl ?_
            rcases ifc H with ⟨hc, H⟩ | ⟨hc, H⟩
            · refine zEv.iteT (L2 := [some (vR (some (11, 0))), some (vI x1), none, some (vI (q65.1 - 48)), w4]) (st2 := []) (h2 := q94.2) zm_X11_readsLaw rfl rfl rfl rfl (decide_eq_true hc) ?_
              obtain ⟨hg, H⟩ := ifg H
              cases H
              exact zEv.ret zm_X11_readsLaw rfl (and2 hg).2 rfl hg
            · refine zEv.iteF (L2 := [some (vR (some (11, 0))), some (vI x1), none, some (vI (q65.1 - 48)), w4]) (st2 := []) (h2 := q94.2) zm_X11_readsLaw rfl rfl rfl rfl (decide_eq_false hc) ?_
              cases H
              exact zEv.ret zm_X11_readsLaw rfl rfl rfl rfl
        · refine zEv.iteF (L2 := [some (vR (some (11, 0))), some (vI x1), some (vI x2), w3, w4]) (st2 := []) (h2 := q55.2) zm_X11_readsLaw rfl rfl rfl rfl (decide_eq_false hc) ?_
          cases H
          exact zEv.ret zm_X11_readsLaw rfl rfl rfl rfl
    · refine zEv.iteF (L2 := [some (vR (some (11, 0))), some (vI x1), some (vI x2), w3, w4]) (st2 := []) (h2 := h) zm_X11_readsLaw rfl rfl rfl rfl (decide_eq_false hc) ?_
      exact ev_X11_readsLaw_12 (by omega)  H
def f_X11_readsRule_243 (h : zM) : Option (Int32 × zM) := (some (1, h))
set_option maxRecDepth 20000 in
theorem ev_X11_readsRule_243 {d : Nat} (hd : 2 ≤ d) {w0 : Option zV} {w1 : Option zV} {w2 : Option zV} {w3 : Option zV} {h : zM} {r : Int32 × zM} (H : f_X11_readsRule_243  h = some r) : zEv zmt d 168 243 ([w0, w1, w2, w3], [], h, true) (some (vI r.1), r.2) := by
  refine zEv.loc (L2 := [w0, w1, w2, w3]) (st2 := [vI 1]) (h2 := h) zm_X11_readsRule rfl rfl rfl rfl (fun h => (nomatch h)) ?_
  cases H
  exact zEv.ret zm_X11_readsRule rfl rfl rfl rfl
def f_X11_readsRule_225 (x2 : Int32) (s1 : Int32) (s2 : Int32) (h : zM) : Option (Int32 × zM) := (if ¬ x2 = 115 then (f_X11_readsRule_243  (wI h 11 0 24 (s1 ||| s2))) else (if 3 < (rI (wI h 11 0 24 (s1 ||| s2)) 11 0 18) then (some (0, (wI h 11 0 24 (s1 ||| s2)))) else (f_X11_readsRule_243  (wI h 11 0 24 (s1 ||| s2)))))
set_option maxRecDepth 20000 in
theorem ev_X11_readsRule_225 {d : Nat} (hd : 2 ≤ d) {w1 : Option zV} {w3 : Option zV} {x2 : Int32} {s1 : Int32} {s2 : Int32} {h : zM} {r : Int32 × zM} (H : f_X11_readsRule_225 x2 s1 s2 h = some r) : zEv zmt d 168 225 ([some (vR (some (11, 0))), w1, some (vI x2), w3], [vI s2, vI s1, vR (some (11, 0))], h, true) (some (vI r.1), r.2) := by
  rcases ifc H with ⟨hc, H⟩ | ⟨hc, H⟩
  · refine zEv.iteT (L2 := [some (vR (some (11, 0))), w1, some (vI x2), w3]) (st2 := []) (h2 := (wI h 11 0 24 (s1 ||| s2))) zm_X11_readsRule rfl rfl rfl rfl (decide_eq_true hc) ?_
    exact ev_X11_readsRule_243 (by omega)  H
  · refine zEv.iteF (L2 := [some (vR (some (11, 0))), w1, some (vI x2), w3]) (st2 := []) (h2 := (wI h 11 0 24 (s1 ||| s2))) zm_X11_readsRule rfl rfl rfl rfl (decide_eq_false hc) ?_
    rcases ifc H with ⟨hc, H⟩ | ⟨hc, H⟩
    · refine zEv.iteT (L2 := [some (vR (some (11, 0))), w1, some (vI x2), w3]) (st2 := []) (h2 := (wI h 11 0 24 (s1 ||| s2))) zm_X11_readsRule rfl rfl rfl rfl (decide_eq_true hc) ?_
      refine zEv.loc (L2 := [some (vR (some (11, 0))), w1, some (vI x2), w3]) (st2 := [vI 0]) (h2 := (wI h 11 0 24 (s1 ||| s2))) zm_X11_readsRule rfl rfl rfl rfl (fun h => (nomatch h)) ?_
      cases H
      exact zEv.ret zm_X11_readsRule rfl rfl rfl rfl
    · refine zEv.iteF (L2 := [some (vR (some (11, 0))), w1, some (vI x2), w3]) (st2 := []) (h2 := (wI h 11 0 24 (s1 ||| s2))) zm_X11_readsRule rfl rfl rfl rfl (decide_eq_false hc) ?_
      exact ev_X11_readsRule_243 (by omega)  H
def f_X11_readsRule_224 (x2 : Int32) (s1 : Int32) (h : zM) : Option (Int32 × zM) := (f_X11_readsRule_225  x2 s1 0 h)
set_option maxRecDepth 20000 in
theorem ev_X11_readsRule_224 {d : Nat} (hd : 2 ≤ d) {w1 : Option zV} {w3 : Option zV} {x2 : Int32} {s1 : Int32} {h : zM} {r : Int32 × zM} (H : f_X11_readsRule_224 x2 s1 h = some r) : zEv zmt d 168 224 ([some (vR (some (11, 0))), w1, some (vI x2), w3], [vI s1, vR (some (11, 0))], h, true) (some (vI r.1), r.2) := by
  refine zEv.loc (L2 := [some (vR (some (11, 0))), w1, some (vI x2), w3]) (st2 := [vI 0, vI s1, vR (some (11, 0))]) (h2 := h) zm_X11_readsRule rfl rfl rfl rfl (fun h => (nomatch h)) ?_
  exact ev_X11_readsRule_225 (by omega)  H
def f_X11_readsRule_193 (x2 : Int32) (s1 : Int32) (h : zM) : Option (Int32 × zM) := (if ¬ x2 = 115 then (f_X11_readsRule_224  x2 (rI (wI h 11 0 23 s1) 11 0 24) (wI h 11 0 23 s1)) else (if 3 < (rI (wI h 11 0 23 s1) 11 0 18) then (f_X11_readsRule_224  x2 (rI (wI h 11 0 23 s1) 11 0 24) (wI h 11 0 23 s1)) else (f_X11_readsRule_225  x2 (rI (wI h 11 0 23 s1) 11 0 24) (1 <<< ((rI (wI h 11 0 23 s1) 11 0 18) &&& 31)) (wI h 11 0 23 s1))))
set_option maxRecDepth 20000 in
theorem ev_X11_readsRule_193 {d : Nat} (hd : 2 ≤ d) {w1 : Option zV} {w3 : Option zV} {x2 : Int32} {s1 : Int32} {h : zM} {r : Int32 × zM} (H : f_X11_readsRule_193 x2 s1 h = some r) : zEv zmt d 168 193 ([some (vR (some (11, 0))), w1, some (vI x2), w3], [vI s1, vR (some (11, 0))], h, true) (some (vI r.1), r.2) := by
  rcases ifc H with ⟨hc, H⟩ | ⟨hc, H⟩
  · refine zEv.iteT (L2 := [some (vR (some (11, 0))), w1, some (vI x2), w3]) (st2 := [vI (rI (wI h 11 0 23 s1) 11 0 24), vR (some (11, 0))]) (h2 := (wI h 11 0 23 s1)) zm_X11_readsRule rfl rfl rfl rfl (decide_eq_true hc) ?_
    exact ev_X11_readsRule_224 (by omega)  H
  · refine zEv.iteF (L2 := [some (vR (some (11, 0))), w1, some (vI x2), w3]) (st2 := [vI (rI (wI h 11 0 23 s1) 11 0 24), vR (some (11, 0))]) (h2 := (wI h 11 0 23 s1)) zm_X11_readsRule rfl rfl rfl rfl (decide_eq_false hc) ?_
    rcases ifc H with ⟨hc, H⟩ | ⟨hc, H⟩
    · refine zEv.iteT (L2 := [some (vR (some (11, 0))), w1, some (vI x2), w3]) (st2 := [vI (rI (wI h 11 0 23 s1) 11 0 24), vR (some (11, 0))]) (h2 := (wI h 11 0 23 s1)) zm_X11_readsRule rfl rfl rfl rfl (decide_eq_true hc) ?_
      exact ev_X11_readsRule_224 (by omega)  H
    · refine zEv.iteF (L2 := [some (vR (some (11, 0))), w1, some (vI x2), w3]) (st2 := [vI (rI (wI h 11 0 23 s1) 11 0 24), vR (some (11, 0))]) (h2 := (wI h 11 0 23 s1)) zm_X11_readsRule rfl rfl rfl rfl (decide_eq_false hc) ?_
      refine zEv.loc (L2 := [some (vR (some (11, 0))), w1, some (vI x2), w3]) (st2 := [vI (1 <<< ((rI (wI h 11 0 23 s1) 11 0 18) &&& 31)), vI (rI (wI h 11 0 23 s1) 11 0 24), vR (some (11, 0))]) (h2 := (wI h 11 0 23 s1)) zm_X11_readsRule rfl rfl rfl rfl (fun h => (nomatch h)) ?_
      exact ev_X11_readsRule_225 (by omega)  H
def f_X11_readsRule_189 (x2 : Int32) (h : zM) : Option (Int32 × zM) := (f_X11_readsRule_193  x2 (rI h 11 0 23) h)
set_option maxRecDepth 20000 in
theorem ev_X11_readsRule_189 {d : Nat} (hd : 2 ≤ d) {w1 : Option zV} {w3 : Option zV} {x2 : Int32} {h : zM} {r : Int32 × zM} (H : f_X11_readsRule_189 x2 h = some r) : zEv zmt d 168 189 ([some (vR (some (11, 0))), w1, some (vI x2), w3], [vR (some (11, 0))], h, true) (some (vI r.1), r.2) := by
  refine zEv.loc (L2 := [some (vR (some (11, 0))), w1, some (vI x2), w3]) (st2 := [vI (rI h 11 0 23), vR (some (11, 0))]) (h2 := h) zm_X11_readsRule rfl rfl rfl rfl (fun h => (nomatch h)) ?_
  exact ev_X11_readsRule_193 (by omega)  H
def f_X11_readsRule_161 (x2 : Int32) (s1 : Int32) (h : zM) : Option (Int32 × zM) := (if ¬ x2 = 121 then (f_X11_readsRule_189  x2 (wI h 11 0 22 s1)) else (if (rI (wI h 11 0 22 s1) 11 0 18) ≤ (rI (wI h 11 0 22 s1) 11 0 23) then (f_X11_readsRule_189  x2 (wI h 11 0 22 s1)) else (f_X11_readsRule_193  x2 (rI (wI h 11 0 22 s1) 11 0 18) (wI h 11 0 22 s1))))
set_option maxRecDepth 20000 in
theorem ev_X11_readsRule_161 {d : Nat} (hd : 2 ≤ d) {w1 : Option zV} {w3 : Option zV} {x2 : Int32} {s1 : Int32} {h : zM} {r : Int32 × zM} (H : f_X11_readsRule_161 x2 s1 h = some r) : zEv zmt d 168 161 ([some (vR (some (11, 0))), w1, some (vI x2), w3], [vI s1, vR (some (11, 0))], h, true) (some (vI r.1), r.2) := by
  rcases ifc H with ⟨hc, H⟩ | ⟨hc, H⟩
  · refine zEv.iteT (L2 := [some (vR (some (11, 0))), w1, some (vI x2), w3]) (st2 := [vR (some (11, 0))]) (h2 := (wI h 11 0 22 s1)) zm_X11_readsRule rfl rfl rfl rfl (decide_eq_true hc) ?_
    exact ev_X11_readsRule_189 (by omega)  H
  · refine zEv.iteF (L2 := [some (vR (some (11, 0))), w1, some (vI x2), w3]) (st2 := [vR (some (11, 0))]) (h2 := (wI h 11 0 22 s1)) zm_X11_readsRule rfl rfl rfl rfl (decide_eq_false hc) ?_
    rcases ifc H with ⟨hc, H⟩ | ⟨hc, H⟩
    · refine zEv.iteT (L2 := [some (vR (some (11, 0))), w1, some (vI x2), w3]) (st2 := [vR (some (11, 0))]) (h2 := (wI h 11 0 22 s1)) zm_X11_readsRule rfl rfl rfl rfl (decide_eq_true hc) ?_
      exact ev_X11_readsRule_189 (by omega)  H
    · refine zEv.iteF (L2 := [some (vR (some (11, 0))), w1, some (vI x2), w3]) (st2 := [vR (some (11, 0))]) (h2 := (wI h 11 0 22 s1)) zm_X11_readsRule rfl rfl rfl rfl (decide_eq_false hc) ?_
      refine zEv.loc (L2 := [some (vR (some (11, 0))), w1, some (vI x2), w3]) (st2 := [vI (rI (wI h 11 0 22 s1) 11 0 18), vR (some (11, 0))]) (h2 := (wI h 11 0 22 s1)) zm_X11_readsRule rfl rfl rfl rfl (fun h => (nomatch h)) ?_
      exact ev_X11_readsRule_193 (by omega)  H
def f_X11_readsRule_157 (x2 : Int32) (h : zM) : Option (Int32 × zM) := (f_X11_readsRule_161  x2 (rI h 11 0 22) h)
set_option maxRecDepth 20000 in
theorem ev_X11_readsRule_157 {d : Nat} (hd : 2 ≤ d) {w1 : Option zV} {w3 : Option zV} {x2 : Int32} {h : zM} {r : Int32 × zM} (H : f_X11_readsRule_157 x2 h = some r) : zEv zmt d 168 157 ([some (vR (some (11, 0))), w1, some (vI x2), w3], [vR (some (11, 0))], h, true) (some (vI r.1), r.2) := by
  refine zEv.loc (L2 := [some (vR (some (11, 0))), w1, some (vI x2), w3]) (st2 := [vI (rI h 11 0 22), vR (some (11, 0))]) (h2 := h) zm_X11_readsRule rfl rfl rfl rfl (fun h => (nomatch h)) ?_
  exact ev_X11_readsRule_161 (by omega)  H
def f_X11_readsRule_150 (x2 : Int32) (h : zM) : Option (Int32 × zM) := (f_X11_readsRule_161  x2 (rI h 11 0 18) h)
set_option maxRecDepth 20000 in
theorem ev_X11_readsRule_150 {d : Nat} (hd : 2 ≤ d) {w1 : Option zV} {w3 : Option zV} {x2 : Int32} {h : zM} {r : Int32 × zM} (H : f_X11_readsRule_150 x2 h = some r) : zEv zmt d 168 150 ([some (vR (some (11, 0))), w1, some (vI x2), w3], [vR (some (11, 0))], h, true) (some (vI r.1), r.2) := by
  refine zEv.loc (L2 := [some (vR (some (11, 0))), w1, some (vI x2), w3]) (st2 := [vI (rI h 11 0 18), vR (some (11, 0))]) (h2 := h) zm_X11_readsRule rfl rfl rfl rfl (fun h => (nomatch h)) ?_
  exact ev_X11_readsRule_161 (by omega)  H
def f_X11_readsRule_119 (x2 : Int32) (s1 : Int32) (h : zM) : Option (Int32 × zM) := (if ¬ x2 = 104 then (f_X11_readsRule_157  x2 (wI h 11 0 21 s1)) else (if (rI (wI h 11 0 21 s1) 11 0 22) = (-9999) then (f_X11_readsRule_150  x2 (wI h 11 0 21 s1)) else (if (rI (wI h 11 0 21 s1) 11 0 22) ≤ (rI (wI h 11 0 21 s1) 11 0 18) then (f_X11_readsRule_157  x2 (wI h 11 0 21 s1)) else (f_X11_readsRule_150  x2 (wI h 11 0 21 s1)))))
set_option maxRecDepth 20000 in
theorem ev_X11_readsRule_119 {d : Nat} (hd : 2 ≤ d) {w1 : Option zV} {w3 : Option zV} {x2 : Int32} {s1 : Int32} {h : zM} {r : Int32 × zM} (H : f_X11_readsRule_119 x2 s1 h = some r) : zEv zmt d 168 119 ([some (vR (some (11, 0))), w1, some (vI x2), w3], [vI s1, vR (some (11, 0))], h, true) (some (vI r.1), r.2) := by
  rcases ifc H with ⟨hc, H⟩ | ⟨hc, H⟩
  · refine zEv.iteT (L2 := [some (vR (some (11, 0))), w1, some (vI x2), w3]) (st2 := [vR (some (11, 0))]) (h2 := (wI h 11 0 21 s1)) zm_X11_readsRule rfl rfl rfl rfl (decide_eq_true hc) ?_
    exact ev_X11_readsRule_157 (by omega)  H
  · refine zEv.iteF (L2 := [some (vR (some (11, 0))), w1, some (vI x2), w3]) (st2 := [vR (some (11, 0))]) (h2 := (wI h 11 0 21 s1)) zm_X11_readsRule rfl rfl rfl rfl (decide_eq_false hc) ?_
    rcases ifc H with ⟨hc, H⟩ | ⟨hc, H⟩
    · refine zEv.iteT (L2 := [some (vR (some (11, 0))), w1, some (vI x2), w3]) (st2 := [vR (some (11, 0))]) (h2 := (wI h 11 0 21 s1)) zm_X11_readsRule rfl rfl rfl rfl (decide_eq_true hc) ?_
      exact ev_X11_readsRule_150 (by omega)  H
    · refine zEv.iteF (L2 := [some (vR (some (11, 0))), w1, some (vI x2), w3]) (st2 := [vR (some (11, 0))]) (h2 := (wI h 11 0 21 s1)) zm_X11_readsRule rfl rfl rfl rfl (decide_eq_false hc) ?_
      rcases ifc H with ⟨hc, H⟩ | ⟨hc, H⟩
      · refine zEv.iteT (L2 := [some (vR (some (11, 0))), w1, some (vI x2), w3]) (st2 := [vR (some (11, 0))]) (h2 := (wI h 11 0 21 s1)) zm_X11_readsRule rfl rfl rfl rfl (decide_eq_true hc) ?_
        exact ev_X11_readsRule_157 (by omega)  H
      · refine zEv.iteF (L2 := [some (vR (some (11, 0))), w1, some (vI x2), w3]) (st2 := [vR (some (11, 0))]) (h2 := (wI h 11 0 21 s1)) zm_X11_readsRule rfl rfl rfl rfl (decide_eq_false hc) ?_
        exact ev_X11_readsRule_150 (by omega)  H
def f_X11_readsRule_115 (x2 : Int32) (h : zM) : Option (Int32 × zM) := (f_X11_readsRule_119  x2 (rI h 11 0 21) h)
set_option maxRecDepth 20000 in
theorem ev_X11_readsRule_115 {d : Nat} (hd : 2 ≤ d) {w1 : Option zV} {w3 : Option zV} {x2 : Int32} {h : zM} {r : Int32 × zM} (H : f_X11_readsRule_115 x2 h = some r) : zEv zmt d 168 115 ([some (vR (some (11, 0))), w1, some (vI x2), w3], [vR (some (11, 0))], h, true) (some (vI r.1), r.2) := by
  refine zEv.loc (L2 := [some (vR (some (11, 0))), w1, some (vI x2), w3]) (st2 := [vI (rI h 11 0 21), vR (some (11, 0))]) (h2 := h) zm_X11_readsRule rfl rfl rfl rfl (fun h => (nomatch h)) ?_
  exact ev_X11_readsRule_119 (by omega)  H
def f_X11_readsRule_108 (x2 : Int32) (h : zM) : Option (Int32 × zM) := (f_X11_readsRule_119  x2 (rI h 11 0 18) h)
set_option maxRecDepth 20000 in
theorem ev_X11_readsRule_108 {d : Nat} (hd : 2 ≤ d) {w1 : Option zV} {w3 : Option zV} {x2 : Int32} {h : zM} {r : Int32 × zM} (H : f_X11_readsRule_108 x2 h = some r) : zEv zmt d 168 108 ([some (vR (some (11, 0))), w1, some (vI x2), w3], [vR (some (11, 0))], h, true) (some (vI r.1), r.2) := by
  refine zEv.loc (L2 := [some (vR (some (11, 0))), w1, some (vI x2), w3]) (st2 := [vI (rI h 11 0 18), vR (some (11, 0))]) (h2 := h) zm_X11_readsRule rfl rfl rfl rfl (fun h => (nomatch h)) ?_
  exact ev_X11_readsRule_119 (by omega)  H
def f_X11_readsRule_72 (x2 : Int32) (s1 : Int32) (s2 : Int32) (h : zM) : Option (Int32 × zM) := ((f_X11_readsFigures s1 s2 h).bind fun q72 => (if ¬ q72.1 = 0 then (if ¬ x2 = 119 then (f_X11_readsRule_115  x2 q72.2) else (if (rI q72.2 11 0 21) = (-9999) then (f_X11_readsRule_108  x2 q72.2) else (if (rI q72.2 11 0 21) ≤ (rI q72.2 11 0 18) then (f_X11_readsRule_115  x2 q72.2) else (f_X11_readsRule_108  x2 q72.2)))) else (some (0, q72.2))))
set_option maxRecDepth 20000 in
theorem ev_X11_readsRule_72 {d : Nat} (hd : 2 ≤ d) {w1 : Option zV} {w3 : Option zV} {x2 : Int32} {s1 : Int32} {s2 : Int32} {h : zM} {r : Int32 × zM} (H : f_X11_readsRule_72 x2 s1 s2 h = some r) : zEv zmt d 168 72 ([some (vR (some (11, 0))), w1, some (vI x2), w3], [vI s2, vI s1, vR (some (11, 0))], h, true) (some (vI r.1), r.2) := by
  obtain ⟨q72, hq, H⟩ := bnd H
  refine zEv.call (k := 165) (as := [vR (some (11, 0)), vI s1, vI s2]) (L2 := [some (vR (some (11, 0))), w1, some (vI x2), w3]) (st2 := []) (h2 := h) (v := some (vI q72.1)) (h1 := q72.2) (st3 := [vI q72.1]) zm_X11_readsRule rfl rfl rfl rfl rfl zm_X11_readsFigures rfl (by omega) (ev_X11_readsFigures (by omega) hq) rfl ?_
  rcases ifc H with ⟨hc, H⟩ | ⟨hc, H⟩
  · refine zEv.iteT (L2 := [some (vR (some (11, 0))), w1, some (vI x2), w3]) (st2 := []) (h2 := q72.2) zm_X11_readsRule rfl rfl rfl rfl (decide_eq_true hc) ?_
    rcases ifc H with ⟨hc, H⟩ | ⟨hc, H⟩
    · refine zEv.iteT (L2 := [some (vR (some (11, 0))), w1, some (vI x2), w3]) (st2 := [vR (some (11, 0))]) (h2 := q72.2) zm_X11_readsRule rfl rfl rfl rfl (decide_eq_true hc) ?_
      exact ev_X11_readsRule_115 (by omega)  H
    · refine zEv.iteF (L2 := [some (vR (some (11, 0))), w1, some (vI x2), w3]) (st2 := [vR (some (11, 0))]) (h2 := q72.2) zm_X11_readsRule rfl rfl rfl rfl (decide_eq_false hc) ?_
      rcases ifc H with ⟨hc, H⟩ | ⟨hc, H⟩
      · refine zEv.iteT (L2 := [some (vR (some (11, 0))), w1, some (vI x2), w3]) (st2 := [vR (some (11, 0))]) (h2 := q72.2) zm_X11_readsRule rfl rfl rfl rfl (decide_eq_true hc) ?_
        exact ev_X11_readsRule_108 (by omega)  H
      · refine zEv.iteF (L2 := [some (vR (some (11, 0))), w1, some (vI x2), w3]) (st2 := [vR (some (11, 0))]) (h2 := q72.2) zm_X11_readsRule rfl rfl rfl rfl (decide_eq_false hc) ?_
        rcases ifc H with ⟨hc, H⟩ | ⟨hc, H⟩
        · refine zEv.iteT (L2 := [some (vR (some (11, 0))), w1, some (vI x2), w3]) (st2 := [vR (some (11, 0))]) (h2 := q72.2) zm_X11_readsRule rfl rfl rfl rfl (decide_eq_true hc) ?_
          exact ev_X11_readsRule_115 (by omega)  H
        · refine zEv.iteF (L2 := [some (vR (some (11, 0))), w1, some (vI x2), w3]) (st2 := [vR (some (11, 0))]) (h2 := q72.2) zm_X11_readsRule rfl rfl rfl rfl (decide_eq_false hc) ?_
          exact ev_X11_readsRule_108 (by omega)  H
  · refine zEv.iteF (L2 := [some (vR (some (11, 0))), w1, some (vI x2), w3]) (st2 := []) (h2 := q72.2) zm_X11_readsRule rfl rfl rfl rfl (decide_eq_false hc) ?_
    cases H
    exact zEv.ret zm_X11_readsRule rfl rfl rfl rfl
def f_X11_readsRule_42 (x1 : Int32) (x2 : Int32) (s0 : Int32) (h : zM) : Option (Int32 × zM) := (if s0 ≤ 0 then (if ¬ x2 = 115 then (f_X11_readsRule_72  x2 x1 2 (wI h 11 0 25 ((rI h 11 0 25) ||| s0))) else (f_X11_readsRule_72  x2 x1 1 (wI h 11 0 25 ((rI h 11 0 25) ||| s0)))) else (some (1, (wI h 11 0 25 ((rI h 11 0 25) ||| s0)))))
set_option maxRecDepth 20000 in
theorem ev_X11_readsRule_42 {d : Nat} (hd : 2 ≤ d) {w3 : Option zV} {x1 : Int32} {x2 : Int32} {s0 : Int32} {h : zM} {r : Int32 × zM} (H : f_X11_readsRule_42 x1 x2 s0 h = some r) : zEv zmt d 168 42 ([some (vR (some (11, 0))), some (vI x1), some (vI x2), w3], [vI s0], h, true) (some (vI r.1), r.2) := by
  rcases ifc H with ⟨hc, H⟩ | ⟨hc, H⟩
  · refine zEv.iteT (L2 := [some (vR (some (11, 0))), some (vI x1), some (vI x2), some (vI s0)]) (st2 := []) (h2 := (wI h 11 0 25 ((rI h 11 0 25) ||| s0))) zm_X11_readsRule rfl rfl rfl rfl (decide_eq_true hc) ?_
    rcases ifc H with ⟨hc, H⟩ | ⟨hc, H⟩
    · refine zEv.iteT (L2 := [some (vR (some (11, 0))), some (vI x1), some (vI x2), some (vI s0)]) (st2 := [vI x1, vR (some (11, 0))]) (h2 := (wI h 11 0 25 ((rI h 11 0 25) ||| s0))) zm_X11_readsRule rfl rfl rfl rfl (decide_eq_true hc) ?_
      refine zEv.loc (L2 := [some (vR (some (11, 0))), some (vI x1), some (vI x2), some (vI s0)]) (st2 := [vI 2, vI x1, vR (some (11, 0))]) (h2 := (wI h 11 0 25 ((rI h 11 0 25) ||| s0))) zm_X11_readsRule rfl rfl rfl rfl (fun h => (nomatch h)) ?_
      exact ev_X11_readsRule_72 (by omega)  H
    · refine zEv.iteF (L2 := [some (vR (some (11, 0))), some (vI x1), some (vI x2), some (vI s0)]) (st2 := [vI x1, vR (some (11, 0))]) (h2 := (wI h 11 0 25 ((rI h 11 0 25) ||| s0))) zm_X11_readsRule rfl rfl rfl rfl (decide_eq_false hc) ?_
      refine zEv.loc (L2 := [some (vR (some (11, 0))), some (vI x1), some (vI x2), some (vI s0)]) (st2 := [vI 1, vI x1, vR (some (11, 0))]) (h2 := (wI h 11 0 25 ((rI h 11 0 25) ||| s0))) zm_X11_readsRule rfl rfl rfl rfl (fun h => (nomatch h)) ?_
      exact ev_X11_readsRule_72 (by omega)  H
  · refine zEv.iteF (L2 := [some (vR (some (11, 0))), some (vI x1), some (vI x2), some (vI s0)]) (st2 := []) (h2 := (wI h 11 0 25 ((rI h 11 0 25) ||| s0))) zm_X11_readsRule rfl rfl rfl rfl (decide_eq_false hc) ?_
    cases H
    exact zEv.ret zm_X11_readsRule rfl rfl rfl rfl
def f_X11_readsRule (x1 : Int32) (x2 : Int32) (h : zM) : Option (Int32 × zM) := (if ¬ x2 = 107 then (if ¬ x2 = 100 then (if ¬ x2 = 116 then (if ¬ x2 = 118 then (f_X11_readsRule_42  x1 x2 0 h) else (f_X11_readsRule_42  x1 x2 8 h)) else (f_X11_readsRule_42  x1 x2 4 h)) else (f_X11_readsRule_42  x1 x2 2 h)) else (f_X11_readsRule_42  x1 x2 1 h))
set_option maxRecDepth 20000 in
theorem ev_X11_readsRule {d : Nat} (hd : 2 ≤ d) {w3 : Option zV} {x1 : Int32} {x2 : Int32} {h : zM} {r : Int32 × zM} (H : f_X11_readsRule x1 x2 h = some r) : zEv zmt d 168 0 ([some (vR (some (11, 0))), some (vI x1), some (vI x2), w3], [], h, true) (some (vI r.1), r.2) := by
  rcases ifc H with ⟨hc, H⟩ | ⟨hc, H⟩
  · refine zEv.iteT (L2 := [some (vR (some (11, 0))), some (vI x1), some (vI x2), w3]) (st2 := []) (h2 := h) zm_X11_readsRule rfl rfl rfl rfl (decide_eq_true hc) ?_
    rcases ifc H with ⟨hc, H⟩ | ⟨hc, H⟩
    · refine zEv.iteT (L2 := [some (vR (some (11, 0))), some (vI x1), some (vI x2), w3]) (st2 := []) (h2 := h) zm_X11_readsRule rfl rfl rfl rfl (decide_eq_true hc) ?_
      rcases ifc H with ⟨hc, H⟩ | ⟨hc, H⟩
      · refine zEv.iteT (L2 := [some (vR (some (11, 0))), some (vI x1), some (vI x2), w3]) (st2 := []) (h2 := h) zm_X11_readsRule rfl rfl rfl rfl (decide_eq_true hc) ?_
        rcases ifc H with ⟨hc, H⟩ | ⟨hc, H⟩
        · refine zEv.iteT (L2 := [some (vR (some (11, 0))), some (vI x1), some (vI x2), w3]) (st2 := []) (h2 := h) zm_X11_readsRule rfl rfl rfl rfl (decide_eq_true hc) ?_
          refine zEv.loc (L2 := [some (vR (some (11, 0))), some (vI x1), some (vI x2), w3]) (st2 := [vI 0]) (h2 := h) zm_X11_readsRule rfl rfl rfl rfl (fun h => (nomatch h)) ?_
          exact ev_X11_readsRule_42 (by omega)  H
        · refine zEv.iteF (L2 := [some (vR (some (11, 0))), some (vI x1), some (vI x2), w3]) (st2 := []) (h2 := h) zm_X11_readsRule rfl rfl rfl rfl (decide_eq_false hc) ?_
          refine zEv.loc (L2 := [some (vR (some (11, 0))), some (vI x1), some (vI x2), w3]) (st2 := [vI 8]) (h2 := h) zm_X11_readsRule rfl rfl rfl rfl (fun h => (nomatch h)) ?_
          exact ev_X11_readsRule_42 (by omega)  H
      · refine zEv.iteF (L2 := [some (vR (some (11, 0))), some (vI x1), some (vI x2), w3]) (st2 := []) (h2 := h) zm_X11_readsRule rfl rfl rfl rfl (decide_eq_false hc) ?_
        refine zEv.loc (L2 := [some (vR (some (11, 0))), some (vI x1), some (vI x2), w3]) (st2 := [vI 4]) (h2 := h) zm_X11_readsRule rfl rfl rfl rfl (fun h => (nomatch h)) ?_
        exact ev_X11_readsRule_42 (by omega)  H
    · refine zEv.iteF (L2 := [some (vR (some (11, 0))), some (vI x1), some (vI x2), w3]) (st2 := []) (h2 := h) zm_X11_readsRule rfl rfl rfl rfl (decide_eq_false hc) ?_
      refine zEv.loc (L2 := [some (vR (some (11, 0))), some (vI x1), some (vI x2), w3]) (st2 := [vI 2]) (h2 := h) zm_X11_readsRule rfl rfl rfl rfl (fun h => (nomatch h)) ?_
      exact ev_X11_readsRule_42 (by omega)  H
  · refine zEv.iteF (L2 := [some (vR (some (11, 0))), some (vI x1), some (vI x2), w3]) (st2 := []) (h2 := h) zm_X11_readsRule rfl rfl rfl rfl (decide_eq_false hc) ?_
    refine zEv.loc (L2 := [some (vR (some (11, 0))), some (vI x1), some (vI x2), w3]) (st2 := [vI 1]) (h2 := h) zm_X11_readsRule rfl rfl rfl rfl (fun h => (nomatch h)) ?_
    exact ev_X11_readsRule_42 (by omega)  H
def f_X11_isLetter_52 (h : zM) : Option (Int32 × zM) := (some (1, h))
set_option maxRecDepth 20000 in
theorem ev_X11_isLetter_52 {d : Nat} (hd : 0 ≤ d) {w0 : Option zV} {w1 : Option zV} {h : zM} {r : Int32 × zM} (H : f_X11_isLetter_52  h = some r) : zEv zmt d 169 52 ([w0, w1], [], h, true) (some (vI r.1), r.2) := by
  refine zEv.loc (L2 := [w0, w1]) (st2 := [vI 1]) (h2 := h) zm_X11_isLetter rfl rfl rfl rfl (fun h => (nomatch h)) ?_
  cases H
  exact zEv.ret zm_X11_isLetter rfl rfl rfl rfl
def f_X11_isLetter_90 (h : zM) : Option (Int32 × zM) := (some (1, h))
set_option maxRecDepth 20000 in
theorem ev_X11_isLetter_90 {d : Nat} (hd : 0 ≤ d) {w0 : Option zV} {w1 : Option zV} {h : zM} {r : Int32 × zM} (H : f_X11_isLetter_90  h = some r) : zEv zmt d 169 90 ([w0, w1], [], h, true) (some (vI r.1), r.2) := by
  refine zEv.loc (L2 := [w0, w1]) (st2 := [vI 1]) (h2 := h) zm_X11_isLetter rfl rfl rfl rfl (fun h => (nomatch h)) ?_
  cases H
  exact zEv.ret zm_X11_isLetter rfl rfl rfl rfl
def f_X11_isLetter (x0 : Int32) (x1 : Int32) (h : zM) : Option (Int32 × zM) := (if x1 = 0 then (if x0 = 87 then (f_X11_isLetter_90  h) else (if x0 = 72 then (f_X11_isLetter_90  h) else (if x0 = 84 then (f_X11_isLetter_90  h) else (if x0 = 70 then (f_X11_isLetter_90  h) else (if ¬ x0 = 83 then (some (0, h)) else (f_X11_isLetter_90  h)))))) else (if x0 = 119 then (f_X11_isLetter_52  h) else (if x0 = 104 then (f_X11_isLetter_52  h) else (if x0 = 115 then (f_X11_isLetter_52  h) else (if x0 = 121 then (f_X11_isLetter_52  h) else (if x0 = 107 then (f_X11_isLetter_52  h) else (if x0 = 100 then (f_X11_isLetter_52  h) else (if x0 = 116 then (f_X11_isLetter_52  h) else (if ¬ x0 = 118 then (some (0, h)) else (f_X11_isLetter_52  h))))))))))
set_option maxRecDepth 20000 in
theorem ev_X11_isLetter {d : Nat} (hd : 0 ≤ d) {x0 : Int32} {x1 : Int32} {h : zM} {r : Int32 × zM} (H : f_X11_isLetter x0 x1 h = some r) : zEv zmt d 169 0 ([some (vI x0), some (vI x1)], [], h, true) (some (vI r.1), r.2) := by
  rcases ifc H with ⟨hc, H⟩ | ⟨hc, H⟩
  · refine zEv.iteT (L2 := [some (vI x0), some (vI x1)]) (st2 := []) (h2 := h) zm_X11_isLetter rfl rfl rfl rfl (decide_eq_true hc) ?_
    rcases ifc H with ⟨hc, H⟩ | ⟨hc, H⟩
    · refine zEv.iteT (L2 := [some (vI x0), some (vI x1)]) (st2 := []) (h2 := h) zm_X11_isLetter rfl rfl rfl rfl (decide_eq_true hc) ?_
      exact ev_X11_isLetter_90 (by omega)  H
    · refine zEv.iteF (L2 := [some (vI x0), some (vI x1)]) (st2 := []) (h2 := h) zm_X11_isLetter rfl rfl rfl rfl (decide_eq_false hc) ?_
      rcases ifc H with ⟨hc, H⟩ | ⟨hc, H⟩
      · refine zEv.iteT (L2 := [some (vI x0), some (vI x1)]) (st2 := []) (h2 := h) zm_X11_isLetter rfl rfl rfl rfl (decide_eq_true hc) ?_
        exact ev_X11_isLetter_90 (by omega)  H
      · refine zEv.iteF (L2 := [some (vI x0), some (vI x1)]) (st2 := []) (h2 := h) zm_X11_isLetter rfl rfl rfl rfl (decide_eq_false hc) ?_
        rcases ifc H with ⟨hc, H⟩ | ⟨hc, H⟩
        · refine zEv.iteT (L2 := [some (vI x0), some (vI x1)]) (st2 := []) (h2 := h) zm_X11_isLetter rfl rfl rfl rfl (decide_eq_true hc) ?_
          exact ev_X11_isLetter_90 (by omega)  H
        · refine zEv.iteF (L2 := [some (vI x0), some (vI x1)]) (st2 := []) (h2 := h) zm_X11_isLetter rfl rfl rfl rfl (decide_eq_false hc) ?_
          rcases ifc H with ⟨hc, H⟩ | ⟨hc, H⟩
          · refine zEv.iteT (L2 := [some (vI x0), some (vI x1)]) (st2 := []) (h2 := h) zm_X11_isLetter rfl rfl rfl rfl (decide_eq_true hc) ?_
            exact ev_X11_isLetter_90 (by omega)  H
          · refine zEv.iteF (L2 := [some (vI x0), some (vI x1)]) (st2 := []) (h2 := h) zm_X11_isLetter rfl rfl rfl rfl (decide_eq_false hc) ?_
            rcases ifc H with ⟨hc, H⟩ | ⟨hc, H⟩
            · refine zEv.iteT (L2 := [some (vI x0), some (vI x1)]) (st2 := []) (h2 := h) zm_X11_isLetter rfl rfl rfl rfl (decide_eq_true hc) ?_
              refine zEv.loc (L2 := [some (vI x0), some (vI x1)]) (st2 := [vI 0]) (h2 := h) zm_X11_isLetter rfl rfl rfl rfl (fun h => (nomatch h)) ?_
              cases H
              exact zEv.ret zm_X11_isLetter rfl rfl rfl rfl
            · refine zEv.iteF (L2 := [some (vI x0), some (vI x1)]) (st2 := []) (h2 := h) zm_X11_isLetter rfl rfl rfl rfl (decide_eq_false hc) ?_
              exact ev_X11_isLetter_90 (by omega)  H
  · refine zEv.iteF (L2 := [some (vI x0), some (vI x1)]) (st2 := []) (h2 := h) zm_X11_isLetter rfl rfl rfl rfl (decide_eq_false hc) ?_
    rcases ifc H with ⟨hc, H⟩ | ⟨hc, H⟩
    · refine zEv.iteT (L2 := [some (vI x0), some (vI x1)]) (st2 := []) (h2 := h) zm_X11_isLetter rfl rfl rfl rfl (decide_eq_true hc) ?_
      exact ev_X11_isLetter_52 (by omega)  H
    · refine zEv.iteF (L2 := [some (vI x0), some (vI x1)]) (st2 := []) (h2 := h) zm_X11_isLetter rfl rfl rfl rfl (decide_eq_false hc) ?_
      rcases ifc H with ⟨hc, H⟩ | ⟨hc, H⟩
      · refine zEv.iteT (L2 := [some (vI x0), some (vI x1)]) (st2 := []) (h2 := h) zm_X11_isLetter rfl rfl rfl rfl (decide_eq_true hc) ?_
        exact ev_X11_isLetter_52 (by omega)  H
      · refine zEv.iteF (L2 := [some (vI x0), some (vI x1)]) (st2 := []) (h2 := h) zm_X11_isLetter rfl rfl rfl rfl (decide_eq_false hc) ?_
        rcases ifc H with ⟨hc, H⟩ | ⟨hc, H⟩
        · refine zEv.iteT (L2 := [some (vI x0), some (vI x1)]) (st2 := []) (h2 := h) zm_X11_isLetter rfl rfl rfl rfl (decide_eq_true hc) ?_
          exact ev_X11_isLetter_52 (by omega)  H
        · refine zEv.iteF (L2 := [some (vI x0), some (vI x1)]) (st2 := []) (h2 := h) zm_X11_isLetter rfl rfl rfl rfl (decide_eq_false hc) ?_
          rcases ifc H with ⟨hc, H⟩ | ⟨hc, H⟩
          · refine zEv.iteT (L2 := [some (vI x0), some (vI x1)]) (st2 := []) (h2 := h) zm_X11_isLetter rfl rfl rfl rfl (decide_eq_true hc) ?_
            exact ev_X11_isLetter_52 (by omega)  H
          · refine zEv.iteF (L2 := [some (vI x0), some (vI x1)]) (st2 := []) (h2 := h) zm_X11_isLetter rfl rfl rfl rfl (decide_eq_false hc) ?_
            rcases ifc H with ⟨hc, H⟩ | ⟨hc, H⟩
            · refine zEv.iteT (L2 := [some (vI x0), some (vI x1)]) (st2 := []) (h2 := h) zm_X11_isLetter rfl rfl rfl rfl (decide_eq_true hc) ?_
              exact ev_X11_isLetter_52 (by omega)  H
            · refine zEv.iteF (L2 := [some (vI x0), some (vI x1)]) (st2 := []) (h2 := h) zm_X11_isLetter rfl rfl rfl rfl (decide_eq_false hc) ?_
              rcases ifc H with ⟨hc, H⟩ | ⟨hc, H⟩
              · refine zEv.iteT (L2 := [some (vI x0), some (vI x1)]) (st2 := []) (h2 := h) zm_X11_isLetter rfl rfl rfl rfl (decide_eq_true hc) ?_
                exact ev_X11_isLetter_52 (by omega)  H
              · refine zEv.iteF (L2 := [some (vI x0), some (vI x1)]) (st2 := []) (h2 := h) zm_X11_isLetter rfl rfl rfl rfl (decide_eq_false hc) ?_
                rcases ifc H with ⟨hc, H⟩ | ⟨hc, H⟩
                · refine zEv.iteT (L2 := [some (vI x0), some (vI x1)]) (st2 := []) (h2 := h) zm_X11_isLetter rfl rfl rfl rfl (decide_eq_true hc) ?_
                  exact ev_X11_isLetter_52 (by omega)  H
                · refine zEv.iteF (L2 := [some (vI x0), some (vI x1)]) (st2 := []) (h2 := h) zm_X11_isLetter rfl rfl rfl rfl (decide_eq_false hc) ?_
                  rcases ifc H with ⟨hc, H⟩ | ⟨hc, H⟩
                  · refine zEv.iteT (L2 := [some (vI x0), some (vI x1)]) (st2 := []) (h2 := h) zm_X11_isLetter rfl rfl rfl rfl (decide_eq_true hc) ?_
                    refine zEv.loc (L2 := [some (vI x0), some (vI x1)]) (st2 := [vI 0]) (h2 := h) zm_X11_isLetter rfl rfl rfl rfl (fun h => (nomatch h)) ?_
                    cases H
                    exact zEv.ret zm_X11_isLetter rfl rfl rfl rfl
                  · refine zEv.iteF (L2 := [some (vI x0), some (vI x1)]) (st2 := []) (h2 := h) zm_X11_isLetter rfl rfl rfl rfl (decide_eq_false hc) ?_
                    exact ev_X11_isLetter_52 (by omega)  H
def f_X11_reads_148 (h : zM) : Option (Int32 × zM) := (some ((rI h 11 0 17), h))
set_option maxRecDepth 20000 in
theorem ev_X11_reads_148 {d : Nat} (hd : 4 ≤ d) {w1 : Option zV} {w2 : Option zV} {w3 : Option zV} {h : zM} {r : Int32 × zM} (H : f_X11_reads_148  h = some r) : zEv zmt d 170 148 ([some (vR (some (11, 0))), w1, w2, w3], [], h, true) (some (vI r.1), r.2) := by
  cases H
  exact zEv.ret zm_X11_reads rfl rfl rfl rfl
def f_X11_reads_153 (K62 : Int32 → Int32 → zM → Option (Int32 × zM)) (x1 : Int32) (x2 : Int32) (h : zM) : Option (Int32 × zM) := (K62 x1 x2 (wI h 11 0 19 ((rI h 11 0 19) + 1)))
set_option maxRecDepth 20000 in
theorem ev_X11_reads_153 {d : Nat} (hd : 4 ≤ d) {K62 : Int32 → Int32 → zM → Option (Int32 × zM)} (hK62 : ∀ {w3 : Option zV} {x1 : Int32} {x2 : Int32} {h : zM} {r : Int32 × zM}, K62 x1 x2 h = some r → zEv zmt d 170 62 ([some (vR (some (11, 0))), some (vI x1), some (vI x2), w3], [], h, true) (some (vI r.1), r.2)) {w3 : Option zV} {x1 : Int32} {x2 : Int32} {h : zM} {r : Int32 × zM} (H : f_X11_reads_153 K62 x1 x2 h = some r) : zEv zmt d 170 153 ([some (vR (some (11, 0))), some (vI x1), some (vI x2), w3], [], h, true) (some (vI r.1), r.2) := by
  refine zEv.loc (L2 := [some (vR (some (11, 0))), some (vI x1), some (vI x2), w3]) (st2 := []) (h2 := (wI h 11 0 19 ((rI h 11 0 19) + 1))) zm_X11_reads rfl rfl rfl rfl (fun h => (nomatch h)) ?_
  exact hK62 H
def f_X11_reads_62 : Nat → Int32 → Int32 → zM → Option (Int32 × zM)
  | 0 => fun _ _ _ => none
  | k + 1 => fun x1 x2 h => (if (true && (ixOk 4 x1 && (true && (decide (rR h 11 0 9 = (some (36, 0))) && (true && true))))) = true then (if (rI h 36 0 (Int32.toNatClampNeg x1)) ≤ (rI h 11 0 17) then (some ((-9999), h)) else ((f_X11_here x1 h).bind fun q77 => (if ¬ q77.1 = 32 then ((f_X11_isLetter q77.1 x2 q77.2).bind fun q102 => (if ¬ q102.1 = 0 then (if x2 = 0 then ((f_X11_readsLaw x1 q77.1 (wI q102.2 11 0 17 ((rI q102.2 11 0 17) + 1))).bind fun q142 => (if ¬ q142.1 = 0 then (f_X11_reads_153 (f_X11_reads_62 k) x1 x2 q142.2) else (f_X11_reads_148  q142.2))) else ((f_X11_readsRule x1 q77.1 (wI q102.2 11 0 17 ((rI q102.2 11 0 17) + 1))).bind fun q130 => (if q130.1 = 0 then (f_X11_reads_148  q130.2) else (f_X11_reads_153 (f_X11_reads_62 k) x1 x2 q130.2)))) else (some ((rI q102.2 11 0 17), q102.2)))) else (f_X11_reads_62 k x1 x2 (wI q77.2 11 0 17 ((rI q77.2 11 0 17) + 1)))))) else none)
set_option maxRecDepth 20000 in
theorem ev_X11_reads_62 {d : Nat} (hd : 4 ≤ d) : ∀ (k : Nat) {w3 : Option zV} {x1 : Int32} {x2 : Int32} {h : zM} {r : Int32 × zM}, f_X11_reads_62 k x1 x2 h = some r → zEv zmt d 170 62 ([some (vR (some (11, 0))), some (vI x1), some (vI x2), w3], [], h, true) (some (vI r.1), r.2) := by
  intro k
  induction k with
  | zero => intro w3 x1 x2 h r H; cases H
  | succ k ih =>
    intro w3 x1 x2 h r H
    obtain ⟨hg, H⟩ := ifg H
    rcases ifc H with ⟨hc, H⟩ | ⟨hc, H⟩
    · refine zEv.iteT (L2 := [some (vR (some (11, 0))), some (vI x1), some (vI x2), w3]) (st2 := []) (h2 := h) zm_X11_reads rfl hg rfl hg (decide_eq_true hc) ?_
      cases H
      exact zEv.ret zm_X11_reads rfl rfl rfl rfl
    · refine zEv.iteF (L2 := [some (vR (some (11, 0))), some (vI x1), some (vI x2), w3]) (st2 := []) (h2 := h) zm_X11_reads rfl hg rfl hg (decide_eq_false hc) ?_
      obtain ⟨q77, hq, H⟩ := bnd H
      refine zEv.call (k := 163) (as := [vR (some (11, 0)), vI x1]) (L2 := [some (vR (some (11, 0))), some (vI x1), some (vI x2), w3]) (st2 := []) (h2 := h) (v := some (vI q77.1)) (h1 := q77.2) (st3 := [vI q77.1]) zm_X11_reads rfl rfl rfl rfl rfl zm_X11_here rfl (by omega) (ev_X11_here (by omega) hq) rfl ?_
      rcases ifc H with ⟨hc, H⟩ | ⟨hc, H⟩
      · refine zEv.iteT (L2 := [some (vR (some (11, 0))), some (vI x1), some (vI x2), some (vI q77.1)]) (st2 := []) (h2 := q77.2) zm_X11_reads rfl rfl rfl rfl (decide_eq_true hc) ?_
        obtain ⟨q102, hq, H⟩ := bnd H
        refine zEv.call (k := 169) (as := [vI q77.1, vI x2]) (L2 := [some (vR (some (11, 0))), some (vI x1), some (vI x2), some (vI q77.1)]) (st2 := []) (h2 := q77.2) (v := some (vI q102.1)) (h1 := q102.2) (st3 := [vI q102.1]) zm_X11_reads rfl rfl rfl rfl rfl zm_X11_isLetter rfl (by omega) (ev_X11_isLetter (by omega) hq) rfl ?_
        rcases ifc H with ⟨hc, H⟩ | ⟨hc, H⟩
        · refine zEv.iteT (L2 := [some (vR (some (11, 0))), some (vI x1), some (vI x2), some (vI q77.1)]) (st2 := []) (h2 := q102.2) zm_X11_reads rfl rfl rfl rfl (decide_eq_true hc) ?_
          rcases ifc H with ⟨hc, H⟩ | ⟨hc, H⟩
          · refine zEv.iteT (L2 := [some (vR (some (11, 0))), some (vI x1), some (vI x2), some (vI q77.1)]) (st2 := []) (h2 := (wI q102.2 11 0 17 ((rI q102.2 11 0 17) + 1))) zm_X11_reads rfl rfl rfl rfl (decide_eq_true hc) ?_
            obtain ⟨q142, hq, H⟩ := bnd H
            refine zEv.call (k := 167) (as := [vR (some (11, 0)), vI x1, vI q77.1]) (L2 := [some (vR (some (11, 0))), some (vI x1), some (vI x2), some (vI q77.1)]) (st2 := []) (h2 := (wI q102.2 11 0 17 ((rI q102.2 11 0 17) + 1))) (v := some (vI q142.1)) (h1 := q142.2) (st3 := [vI q142.1]) zm_X11_reads rfl rfl rfl rfl rfl zm_X11_readsLaw rfl (by omega) (ev_X11_readsLaw (by omega) hq) rfl ?_
            rcases ifc H with ⟨hc, H⟩ | ⟨hc, H⟩
            · refine zEv.iteT (L2 := [some (vR (some (11, 0))), some (vI x1), some (vI x2), some (vI q77.1)]) (st2 := []) (h2 := q142.2) zm_X11_reads rfl rfl rfl rfl (decide_eq_true hc) ?_
              exact ev_X11_reads_153 (by omega) ih H
            · refine zEv.iteF (L2 := [some (vR (some (11, 0))), some (vI x1), some (vI x2), some (vI q77.1)]) (st2 := []) (h2 := q142.2) zm_X11_reads rfl rfl rfl rfl (decide_eq_false hc) ?_
              exact ev_X11_reads_148 (by omega)  H
          · refine zEv.iteF (L2 := [some (vR (some (11, 0))), some (vI x1), some (vI x2), some (vI q77.1)]) (st2 := []) (h2 := (wI q102.2 11 0 17 ((rI q102.2 11 0 17) + 1))) zm_X11_reads rfl rfl rfl rfl (decide_eq_false hc) ?_
            obtain ⟨q130, hq, H⟩ := bnd H
            refine zEv.call (k := 168) (as := [vR (some (11, 0)), vI x1, vI q77.1]) (L2 := [some (vR (some (11, 0))), some (vI x1), some (vI x2), some (vI q77.1)]) (st2 := []) (h2 := (wI q102.2 11 0 17 ((rI q102.2 11 0 17) + 1))) (v := some (vI q130.1)) (h1 := q130.2) (st3 := [vI q130.1]) zm_X11_reads rfl rfl rfl rfl rfl zm_X11_readsRule rfl (by omega) (ev_X11_readsRule (by omega) hq) rfl ?_
            rcases ifc H with ⟨hc, H⟩ | ⟨hc, H⟩
            · refine zEv.iteT (L2 := [some (vR (some (11, 0))), some (vI x1), some (vI x2), some (vI q77.1)]) (st2 := []) (h2 := q130.2) zm_X11_reads rfl rfl rfl rfl (decide_eq_true hc) ?_
              exact ev_X11_reads_148 (by omega)  H
            · refine zEv.iteF (L2 := [some (vR (some (11, 0))), some (vI x1), some (vI x2), some (vI q77.1)]) (st2 := []) (h2 := q130.2) zm_X11_reads rfl rfl rfl rfl (decide_eq_false hc) ?_
              refine zEv.loc (L2 := [some (vR (some (11, 0))), some (vI x1), some (vI x2), some (vI q77.1)]) (st2 := []) (h2 := q130.2) zm_X11_reads rfl rfl rfl rfl (fun h => (nomatch h)) ?_
              exact ev_X11_reads_153 (by omega) ih H
        · refine zEv.iteF (L2 := [some (vR (some (11, 0))), some (vI x1), some (vI x2), some (vI q77.1)]) (st2 := []) (h2 := q102.2) zm_X11_reads rfl rfl rfl rfl (decide_eq_false hc) ?_
          cases H
          exact zEv.ret zm_X11_reads rfl rfl rfl rfl
      · refine zEv.iteF (L2 := [some (vR (some (11, 0))), some (vI x1), some (vI x2), some (vI q77.1)]) (st2 := []) (h2 := q77.2) zm_X11_reads rfl rfl rfl rfl (decide_eq_false hc) ?_
        refine zEv.loc (L2 := [some (vR (some (11, 0))), some (vI x1), some (vI x2), some (vI q77.1)]) (st2 := []) (h2 := (wI q77.2 11 0 17 ((rI q77.2 11 0 17) + 1))) zm_X11_reads rfl rfl rfl rfl (fun h => (nomatch h)) ?_
        exact ih H
def f_X11_reads_2 : Nat → Int32 → Int32 → Int32 → zM → Option (Int32 × zM)
  | 0 => fun _ _ _ _ => none
  | k + 1 => fun x1 x2 x3 h => (if 10 ≤ x3 then (f_X11_reads_62  1000 x1 x2 (wI (wI (wI (wI (wI (wI (wI h 11 0 21 (-9999)) 11 0 22 (-9999)) 11 0 23 (-9999)) 11 0 24 0) 11 0 25 0) 11 0 19 0) 11 0 17 0)) else (if (true && (ixOk 10 x3 && (true && (decide (rR h 11 0 20 = (some (42, 0))) && true)))) = true then (f_X11_reads_2 k x1 x2 (x3 + 1) (wI h 42 0 (Int32.toNatClampNeg x3) 0)) else none))
set_option maxRecDepth 20000 in
theorem ev_X11_reads_2 {d : Nat} (hd : 4 ≤ d) : ∀ (k : Nat) {x1 : Int32} {x2 : Int32} {x3 : Int32} {h : zM} {r : Int32 × zM}, f_X11_reads_2 k x1 x2 x3 h = some r → zEv zmt d 170 2 ([some (vR (some (11, 0))), some (vI x1), some (vI x2), some (vI x3)], [], h, true) (some (vI r.1), r.2) := by
  intro k
  induction k with
  | zero => intro x1 x2 x3 h r H; cases H
  | succ k ih =>
    intro x1 x2 x3 h r H
    rcases ifc H with ⟨hc, H⟩ | ⟨hc, H⟩
    · refine zEv.iteT (L2 := [some (vR (some (11, 0))), some (vI x1), some (vI x2), some (vI x3)]) (st2 := []) (h2 := h) zm_X11_reads rfl rfl rfl rfl (decide_eq_true hc) ?_
      refine zEv.loc (L2 := [some (vR (some (11, 0))), some (vI x1), some (vI x2), some (vI x3)]) (st2 := []) (h2 := (wI (wI (wI (wI (wI (wI (wI h 11 0 21 (-9999)) 11 0 22 (-9999)) 11 0 23 (-9999)) 11 0 24 0) 11 0 25 0) 11 0 19 0) 11 0 17 0)) zm_X11_reads rfl rfl rfl rfl (fun h => (nomatch h)) ?_
      exact ev_X11_reads_62 (by omega)  1000 H
    · refine zEv.iteF (L2 := [some (vR (some (11, 0))), some (vI x1), some (vI x2), some (vI x3)]) (st2 := []) (h2 := h) zm_X11_reads rfl rfl rfl rfl (decide_eq_false hc) ?_
      obtain ⟨hg, H⟩ := ifg H
      refine zEv.loc (L2 := [some (vR (some (11, 0))), some (vI x1), some (vI x2), some (vI (x3 + 1))]) (st2 := []) (h2 := (wI h 42 0 (Int32.toNatClampNeg x3) 0)) zm_X11_reads rfl hg rfl hg (fun h => (nomatch h)) ?_
      exact ih H
def f_X11_reads (x1 : Int32) (x2 : Int32) (h : zM) : Option (Int32 × zM) := (f_X11_reads_2  1000 x1 x2 0 h)
set_option maxRecDepth 20000 in
theorem ev_X11_reads {d : Nat} (hd : 4 ≤ d) {w3 : Option zV} {x1 : Int32} {x2 : Int32} {h : zM} {r : Int32 × zM} (H : f_X11_reads x1 x2 h = some r) : zEv zmt d 170 0 ([some (vR (some (11, 0))), some (vI x1), some (vI x2), w3], [], h, true) (some (vI r.1), r.2) := by
  refine zEv.loc (L2 := [some (vR (some (11, 0))), some (vI x1), some (vI x2), some (vI 0)]) (st2 := []) (h2 := h) zm_X11_reads rfl rfl rfl rfl (fun h => (nomatch h)) ?_
  exact ev_X11_reads_2 (by omega)  1000 H
def f_X11_fault (x1 : Int32) (x2 : Int32) (h : zM) : Option (Int32 × zM) := ((f_X11_askedText x1 h).bind fun q2 => (if 0 ≤ q2.1 then ((f_X11_reads x1 x2 q2.2).bind fun q17 => (some (q17.1, q17.2))) else (some (q2.1, q2.2))))
set_option maxRecDepth 20000 in
theorem ev_X11_fault {d : Nat} (hd : 5 ≤ d) {w3 : Option zV} {x1 : Int32} {x2 : Int32} {h : zM} {r : Int32 × zM} (H : f_X11_fault x1 x2 h = some r) : zEv zmt d 171 0 ([some (vR (some (11, 0))), some (vI x1), some (vI x2), w3], [], h, true) (some (vI r.1), r.2) := by
  obtain ⟨q2, hq, H⟩ := bnd H
  refine zEv.call (k := 134) (as := [vR (some (11, 0)), vI x1]) (L2 := [some (vR (some (11, 0))), some (vI x1), some (vI x2), w3]) (st2 := []) (h2 := h) (v := some (vI q2.1)) (h1 := q2.2) (st3 := [vI q2.1]) zm_X11_fault rfl rfl rfl rfl rfl zm_X11_askedText rfl (by omega) (ev_X11_askedText (by omega) hq) rfl ?_
  rcases ifc H with ⟨hc, H⟩ | ⟨hc, H⟩
  · refine zEv.iteT (L2 := [some (vR (some (11, 0))), some (vI x1), some (vI x2), some (vI q2.1)]) (st2 := []) (h2 := q2.2) zm_X11_fault rfl rfl rfl rfl (decide_eq_true hc) ?_
    obtain ⟨q17, hq, H⟩ := bnd H
    refine zEv.call (k := 170) (as := [vR (some (11, 0)), vI x1, vI x2]) (L2 := [some (vR (some (11, 0))), some (vI x1), some (vI x2), some (vI q2.1)]) (st2 := []) (h2 := q2.2) (v := some (vI q17.1)) (h1 := q17.2) (st3 := [vI q17.1]) zm_X11_fault rfl rfl rfl rfl rfl zm_X11_reads rfl (by omega) (ev_X11_reads (by omega) hq) rfl ?_
    cases H
    exact zEv.ret zm_X11_fault rfl rfl rfl rfl
  · refine zEv.iteF (L2 := [some (vR (some (11, 0))), some (vI x1), some (vI x2), some (vI q2.1)]) (st2 := []) (h2 := q2.2) zm_X11_fault rfl rfl rfl rfl (decide_eq_false hc) ?_
    refine zEv.loc (L2 := [some (vR (some (11, 0))), some (vI x1), some (vI x2), some (vI q2.1)]) (st2 := [vI q2.1]) (h2 := q2.2) zm_X11_fault rfl rfl rfl rfl (fun h => (nomatch h)) ?_
    cases H
    exact zEv.ret zm_X11_fault rfl rfl rfl rfl
def f_X11_isLaws (x0 : Int32) (h : zM) : Option (Int32 × zM) := ((f_X11_in x0 0 1 h).bind fun q3 => (if (isB q3.1 && true) = true then (some (q3.1, q3.2)) else none))
set_option maxRecDepth 20000 in
theorem ev_X11_isLaws {d : Nat} (hd : 1 ≤ d) {x0 : Int32} {h : zM} {r : Int32 × zM} (H : f_X11_isLaws x0 h = some r) : zEv zmt d 172 0 ([some (vI x0)], [], h, true) (some (vI r.1), r.2) := by
  obtain ⟨q3, hq, H⟩ := bnd H
  refine zEv.call (k := 127) (as := [vI x0, vI 0, vI 1]) (L2 := [some (vI x0)]) (st2 := []) (h2 := h) (v := some (vI q3.1)) (h1 := q3.2) (st3 := [vI q3.1]) zm_X11_isLaws rfl rfl rfl rfl rfl zm_X11_in rfl (by omega) (ev_X11_in (by omega) hq) rfl ?_
  obtain ⟨hg, H⟩ := ifg H
  cases H
  exact zEv.ret zm_X11_isLaws rfl (and2 hg).2 rfl hg
def f_X11_askedLaws (x1 : Int32) (h : zM) : Option (Int32 × zM) := ((f_X11_isLaws x1 h).bind fun q1 => (if ¬ q1.1 = 0 then (if (true && (ixOk 2 x1 && (true && (decide (rR q1.2 11 0 26 = (some (43, 0))) && true)))) = true then (if ¬ (rI q1.2 43 0 (Int32.toNatClampNeg x1)) = 0 then (some (0, q1.2)) else ((f_X11_meets 1 q1.2).bind fun q22 => (some (q22.1, q22.2)))) else none) else (some ((-1), q1.2))))
set_option maxRecDepth 20000 in
theorem ev_X11_askedLaws {d : Nat} (hd : 2 ≤ d) {x1 : Int32} {h : zM} {r : Int32 × zM} (H : f_X11_askedLaws x1 h = some r) : zEv zmt d 173 0 ([some (vR (some (11, 0))), some (vI x1)], [], h, true) (some (vI r.1), r.2) := by
  obtain ⟨q1, hq, H⟩ := bnd H
  refine zEv.call (k := 172) (as := [vI x1]) (L2 := [some (vR (some (11, 0))), some (vI x1)]) (st2 := []) (h2 := h) (v := some (vI q1.1)) (h1 := q1.2) (st3 := [vI q1.1]) zm_X11_askedLaws rfl rfl rfl rfl rfl zm_X11_isLaws rfl (by omega) (ev_X11_isLaws (by omega) hq) rfl ?_
  rcases ifc H with ⟨hc, H⟩ | ⟨hc, H⟩
  · refine zEv.iteT (L2 := [some (vR (some (11, 0))), some (vI x1)]) (st2 := []) (h2 := q1.2) zm_X11_askedLaws rfl rfl rfl rfl (decide_eq_true hc) ?_
    obtain ⟨hg, H⟩ := ifg H
    rcases ifc H with ⟨hc, H⟩ | ⟨hc, H⟩
    · refine zEv.iteT (L2 := [some (vR (some (11, 0))), some (vI x1)]) (st2 := []) (h2 := q1.2) zm_X11_askedLaws rfl hg rfl hg (decide_eq_true hc) ?_
      refine zEv.loc (L2 := [some (vR (some (11, 0))), some (vI x1)]) (st2 := [vI 0]) (h2 := q1.2) zm_X11_askedLaws rfl rfl rfl rfl (fun h => (nomatch h)) ?_
      cases H
      exact zEv.ret zm_X11_askedLaws rfl rfl rfl rfl
    · refine zEv.iteF (L2 := [some (vR (some (11, 0))), some (vI x1)]) (st2 := []) (h2 := q1.2) zm_X11_askedLaws rfl hg rfl hg (decide_eq_false hc) ?_
      obtain ⟨q22, hq, H⟩ := bnd H
      refine zEv.call (k := 128) (as := [vR (some (11, 0)), vI 1]) (L2 := [some (vR (some (11, 0))), some (vI x1)]) (st2 := []) (h2 := q1.2) (v := some (vI q22.1)) (h1 := q22.2) (st3 := [vI q22.1]) zm_X11_askedLaws rfl rfl rfl rfl rfl zm_X11_meets rfl (by omega) (ev_X11_meets (by omega) hq) rfl ?_
      refine zEv.loc (L2 := [some (vR (some (11, 0))), some (vI x1)]) (st2 := [vI q22.1]) (h2 := q22.2) zm_X11_askedLaws rfl rfl rfl rfl (fun h => (nomatch h)) ?_
      cases H
      exact zEv.ret zm_X11_askedLaws rfl rfl rfl rfl
  · refine zEv.iteF (L2 := [some (vR (some (11, 0))), some (vI x1)]) (st2 := []) (h2 := q1.2) zm_X11_askedLaws rfl rfl rfl rfl (decide_eq_false hc) ?_
    refine zEv.loc (L2 := [some (vR (some (11, 0))), some (vI x1)]) (st2 := [vI (-1)]) (h2 := q1.2) zm_X11_askedLaws rfl rfl rfl rfl (fun h => (nomatch h)) ?_
    cases H
    exact zEv.ret zm_X11_askedLaws rfl rfl rfl rfl
def f_X11_laws_46 : Nat → Int32 → Int32 → zM → Option (Int32 × zM)
  | 0 => fun _ _ _ => none
  | k + 1 => fun x1 x4 h => (if 10 ≤ x4 then (some ((rI h 11 0 19), h)) else (if (true && (ixOk 20 ((10 * x1) + x4) && (true && (ixOk 10 x4 && (true && (decide (rR h 11 0 20 = (some (42, 0))) && (true && (decide (rR h 11 0 27 = (some (44, 0))) && true)))))))) = true then (f_X11_laws_46 k x1 (x4 + 1) (wI h 44 0 (Int32.toNatClampNeg ((10 * x1) + x4)) (rI h 42 0 (Int32.toNatClampNeg x4)))) else none))
set_option maxRecDepth 20000 in
theorem ev_X11_laws_46 {d : Nat} (hd : 5 ≤ d) : ∀ (k : Nat) {w2 : Option zV} {w3 : Option zV} {x1 : Int32} {x4 : Int32} {h : zM} {r : Int32 × zM}, f_X11_laws_46 k x1 x4 h = some r → zEv zmt d 174 46 ([some (vR (some (11, 0))), some (vI x1), w2, w3, some (vI x4)], [], h, true) (some (vI r.1), r.2) := by
  intro k
  induction k with
  | zero => intro w2 w3 x1 x4 h r H; cases H
  | succ k ih =>
    intro w2 w3 x1 x4 h r H
    rcases ifc H with ⟨hc, H⟩ | ⟨hc, H⟩
    · refine zEv.iteT (L2 := [some (vR (some (11, 0))), some (vI x1), w2, w3, some (vI x4)]) (st2 := []) (h2 := h) zm_X11_laws rfl rfl rfl rfl (decide_eq_true hc) ?_
      cases H
      exact zEv.ret zm_X11_laws rfl rfl rfl rfl
    · refine zEv.iteF (L2 := [some (vR (some (11, 0))), some (vI x1), w2, w3, some (vI x4)]) (st2 := []) (h2 := h) zm_X11_laws rfl rfl rfl rfl (decide_eq_false hc) ?_
      obtain ⟨hg, H⟩ := ifg H
      refine zEv.loc (L2 := [some (vR (some (11, 0))), some (vI x1), w2, none, some (vI (x4 + 1))]) (st2 := []) (h2 := (wI h 44 0 (Int32.toNatClampNeg ((10 * x1) + x4)) (rI h 42 0 (Int32.toNatClampNeg x4)))) zm_X11_laws rfl hg rfl hg (fun h => (nomatch h)) ?_
      exact ih H
def f_X11_laws (x1 : Int32) (x2 : Int32) (h : zM) : Option (Int32 × zM) := ((f_X11_isLaws x1 h).bind fun q1 => (if ¬ q1.1 = 0 then ((f_X11_askedText x2 q1.2).bind fun q11 => (if 0 ≤ q11.1 then ((f_X11_reads x2 0 q11.2).bind fun q24 => (if q24.1 = (-9999) then (if (true && (true && (ixOk 2 x1 && (true && (true && (decide (rR q24.2 11 0 26 = (some (43, 0))) && true)))))) = true then (f_X11_laws_46  1000 x1 0 (wI q24.2 43 0 (Int32.toNatClampNeg x1) 1)) else none) else (some ((-4), q24.2)))) else (some (q11.1, q11.2)))) else (some ((-1), q1.2))))
set_option maxRecDepth 20000 in
theorem ev_X11_laws {d : Nat} (hd : 5 ≤ d) {w3 : Option zV} {w4 : Option zV} {x1 : Int32} {x2 : Int32} {h : zM} {r : Int32 × zM} (H : f_X11_laws x1 x2 h = some r) : zEv zmt d 174 0 ([some (vR (some (11, 0))), some (vI x1), some (vI x2), w3, w4], [], h, true) (some (vI r.1), r.2) := by
  obtain ⟨q1, hq, H⟩ := bnd H
  refine zEv.call (k := 172) (as := [vI x1]) (L2 := [some (vR (some (11, 0))), some (vI x1), some (vI x2), w3, w4]) (st2 := []) (h2 := h) (v := some (vI q1.1)) (h1 := q1.2) (st3 := [vI q1.1]) zm_X11_laws rfl rfl rfl rfl rfl zm_X11_isLaws rfl (by omega) (ev_X11_isLaws (by omega) hq) rfl ?_
  rcases ifc H with ⟨hc, H⟩ | ⟨hc, H⟩
  · refine zEv.iteT (L2 := [some (vR (some (11, 0))), some (vI x1), some (vI x2), w3, w4]) (st2 := []) (h2 := q1.2) zm_X11_laws rfl rfl rfl rfl (decide_eq_true hc) ?_
    obtain ⟨q11, hq, H⟩ := bnd H
    refine zEv.call (k := 134) (as := [vR (some (11, 0)), vI x2]) (L2 := [some (vR (some (11, 0))), some (vI x1), some (vI x2), w3, w4]) (st2 := []) (h2 := q1.2) (v := some (vI q11.1)) (h1 := q11.2) (st3 := [vI q11.1]) zm_X11_laws rfl rfl rfl rfl rfl zm_X11_askedText rfl (by omega) (ev_X11_askedText (by omega) hq) rfl ?_
    rcases ifc H with ⟨hc, H⟩ | ⟨hc, H⟩
    · refine zEv.iteT (L2 := [some (vR (some (11, 0))), some (vI x1), some (vI x2), some (vI q11.1), w4]) (st2 := []) (h2 := q11.2) zm_X11_laws rfl rfl rfl rfl (decide_eq_true hc) ?_
      obtain ⟨q24, hq, H⟩ := bnd H
      refine zEv.call (k := 170) (as := [vR (some (11, 0)), vI x2, vI 0]) (L2 := [some (vR (some (11, 0))), some (vI x1), some (vI x2), some (vI q11.1), w4]) (st2 := []) (h2 := q11.2) (v := some (vI q24.1)) (h1 := q24.2) (st3 := [vI q24.1]) zm_X11_laws rfl rfl rfl rfl rfl zm_X11_reads rfl (by omega) (ev_X11_reads (by omega) hq) rfl ?_
      rcases ifc H with ⟨hc, H⟩ | ⟨hc, H⟩
      · refine zEv.iteT (L2 := [some (vR (some (11, 0))), some (vI x1), some (vI x2), some (vI q11.1), w4]) (st2 := []) (h2 := q24.2) zm_X11_laws rfl rfl rfl rfl (decide_eq_true hc) ?_
        obtain ⟨hg, H⟩ := ifg H
        refine zEv.loc (L2 := [some (vR (some (11, 0))), some (vI x1), some (vI x2), none, some (vI 0)]) (st2 := []) (h2 := (wI q24.2 43 0 (Int32.toNatClampNeg x1) 1)) zm_X11_laws rfl hg rfl hg (fun h => (nomatch h)) ?_
        exact ev_X11_laws_46 (by omega)  1000 H
      · refine zEv.iteF (L2 := [some (vR (some (11, 0))), some (vI x1), some (vI x2), some (vI q11.1), w4]) (st2 := []) (h2 := q24.2) zm_X11_laws rfl rfl rfl rfl (decide_eq_false hc) ?_
        cases H
        exact zEv.ret zm_X11_laws rfl rfl rfl rfl
    · refine zEv.iteF (L2 := [some (vR (some (11, 0))), some (vI x1), some (vI x2), some (vI q11.1), w4]) (st2 := []) (h2 := q11.2) zm_X11_laws rfl rfl rfl rfl (decide_eq_false hc) ?_
      cases H
      exact zEv.ret zm_X11_laws rfl rfl rfl rfl
  · refine zEv.iteF (L2 := [some (vR (some (11, 0))), some (vI x1), some (vI x2), w3, w4]) (st2 := []) (h2 := q1.2) zm_X11_laws rfl rfl rfl rfl (decide_eq_false hc) ?_
    cases H
    exact zEv.ret zm_X11_laws rfl rfl rfl rfl
def f_X11_number (x1 : Int32) (x2 : Int32) (h : zM) : Option (Int32 × zM) := ((f_X11_in x2 0 9 h).bind fun q4 => (if ¬ q4.1 = 0 then ((f_X11_askedLaws x1 q4.2).bind fun q14 => (if 0 ≤ q14.1 then (if (true && (true && (true && (ixOk 20 ((10 * x1) + x2) && (true && (decide (rR q14.2 11 0 27 = (some (44, 0))) && true)))))) = true then ((f_X11_ask (rI q14.2 44 0 (Int32.toNatClampNeg ((10 * x1) + x2))) 1 q14.2).bind fun q39 => (some (q39.1, q39.2))) else none) else (some (q14.1, q14.2)))) else (some ((-1), q4.2))))
set_option maxRecDepth 20000 in
theorem ev_X11_number {d : Nat} (hd : 3 ≤ d) {w3 : Option zV} {x1 : Int32} {x2 : Int32} {h : zM} {r : Int32 × zM} (H : f_X11_number x1 x2 h = some r) : zEv zmt d 175 0 ([some (vR (some (11, 0))), some (vI x1), some (vI x2), w3], [], h, true) (some (vI r.1), r.2) := by
  obtain ⟨q4, hq, H⟩ := bnd H
  refine zEv.call (k := 127) (as := [vI x2, vI 0, vI 9]) (L2 := [some (vR (some (11, 0))), some (vI x1), some (vI x2), w3]) (st2 := []) (h2 := h) (v := some (vI q4.1)) (h1 := q4.2) (st3 := [vI q4.1]) zm_X11_number rfl rfl rfl rfl rfl zm_X11_in rfl (by omega) (ev_X11_in (by omega) hq) rfl ?_
  rcases ifc H with ⟨hc, H⟩ | ⟨hc, H⟩
  · refine zEv.iteT (L2 := [some (vR (some (11, 0))), some (vI x1), some (vI x2), w3]) (st2 := []) (h2 := q4.2) zm_X11_number rfl rfl rfl rfl (decide_eq_true hc) ?_
    obtain ⟨q14, hq, H⟩ := bnd H
    refine zEv.call (k := 173) (as := [vR (some (11, 0)), vI x1]) (L2 := [some (vR (some (11, 0))), some (vI x1), some (vI x2), w3]) (st2 := []) (h2 := q4.2) (v := some (vI q14.1)) (h1 := q14.2) (st3 := [vI q14.1]) zm_X11_number rfl rfl rfl rfl rfl zm_X11_askedLaws rfl (by omega) (ev_X11_askedLaws (by omega) hq) rfl ?_
    rcases ifc H with ⟨hc, H⟩ | ⟨hc, H⟩
    · refine zEv.iteT (L2 := [some (vR (some (11, 0))), some (vI x1), some (vI x2), some (vI q14.1)]) (st2 := []) (h2 := q14.2) zm_X11_number rfl rfl rfl rfl (decide_eq_true hc) ?_
      obtain ⟨hg, H⟩ := ifg H
      obtain ⟨q39, hq, H⟩ := bnd H
      refine zEv.call (k := 129) (as := [vR (some (11, 0)), vI (rI q14.2 44 0 (Int32.toNatClampNeg ((10 * x1) + x2))), vI 1]) (L2 := [some (vR (some (11, 0))), some (vI x1), some (vI x2), some (vI q14.1)]) (st2 := []) (h2 := q14.2) (v := some (vI q39.1)) (h1 := q39.2) (st3 := [vI q39.1]) zm_X11_number rfl (and2 (and2 hg).2).2 rfl hg rfl zm_X11_ask rfl (by omega) (ev_X11_ask (by omega) hq) rfl ?_
      cases H
      exact zEv.ret zm_X11_number rfl rfl rfl rfl
    · refine zEv.iteF (L2 := [some (vR (some (11, 0))), some (vI x1), some (vI x2), some (vI q14.1)]) (st2 := []) (h2 := q14.2) zm_X11_number rfl rfl rfl rfl (decide_eq_false hc) ?_
      refine zEv.loc (L2 := [some (vR (some (11, 0))), some (vI x1), some (vI x2), some (vI q14.1)]) (st2 := [vI q14.1]) (h2 := q14.2) zm_X11_number rfl rfl rfl rfl (fun h => (nomatch h)) ?_
      cases H
      exact zEv.ret zm_X11_number rfl rfl rfl rfl
  · refine zEv.iteF (L2 := [some (vR (some (11, 0))), some (vI x1), some (vI x2), w3]) (st2 := []) (h2 := q4.2) zm_X11_number rfl rfl rfl rfl (decide_eq_false hc) ?_
    cases H
    exact zEv.ret zm_X11_number rfl rfl rfl rfl
def f_X11_step (x1 : Int32) (x2 : Int32) (x3 : Int32) (h : zM) : Option (Int32 × zM) := (if (true && (true && (ixOk 20 (((10 * x1) + (2 * x2)) + 1) && (true && (decide (rR h 11 0 27 = (some (44, 0))) && true))))) = true then (if ¬ (rI h 44 0 (Int32.toNatClampNeg (((10 * x1) + (2 * x2)) + 1))) = 0 then (if (!decide ((rI h 44 0 (Int32.toNatClampNeg (((10 * x1) + (2 * x2)) + 1))) = 0) && (true && (ixOk 20 ((10 * x1) + (2 * x2)) && (true && (decide (rR h 11 0 27 = (some (44, 0))) && true))))) = true then (some (((rI h 44 0 (Int32.toNatClampNeg ((10 * x1) + (2 * x2)))) - (x3 / (rI h 44 0 (Int32.toNatClampNeg (((10 * x1) + (2 * x2)) + 1))))), h)) else none) else (some (0, h))) else none)
set_option maxRecDepth 20000 in
theorem ev_X11_step {d : Nat} (hd : 0 ≤ d) {w4 : Option zV} {x1 : Int32} {x2 : Int32} {x3 : Int32} {h : zM} {r : Int32 × zM} (H : f_X11_step x1 x2 x3 h = some r) : zEv zmt d 176 0 ([some (vR (some (11, 0))), some (vI x1), some (vI x2), some (vI x3), w4], [], h, true) (some (vI r.1), r.2) := by
  obtain ⟨hg, H⟩ := ifg H
  rcases ifc H with ⟨hc, H⟩ | ⟨hc, H⟩
  · refine zEv.iteT (L2 := [some (vR (some (11, 0))), some (vI x1), some (vI x2), some (vI x3), some (vI (rI h 44 0 (Int32.toNatClampNeg (((10 * x1) + (2 * x2)) + 1))))]) (st2 := []) (h2 := h) zm_X11_step rfl hg rfl hg (decide_eq_true hc) ?_
    obtain ⟨hg, H⟩ := ifg H
    refine zEv.loc (L2 := [some (vR (some (11, 0))), some (vI x1), some (vI x2), some (vI x3), some (vI (rI h 44 0 (Int32.toNatClampNeg (((10 * x1) + (2 * x2)) + 1))))]) (st2 := [vI ((rI h 44 0 (Int32.toNatClampNeg ((10 * x1) + (2 * x2)))) - (x3 / (rI h 44 0 (Int32.toNatClampNeg (((10 * x1) + (2 * x2)) + 1)))))]) (h2 := h) zm_X11_step rfl hg rfl hg (fun h => (nomatch h)) ?_
    cases H
    exact zEv.ret zm_X11_step rfl rfl rfl rfl
  · refine zEv.iteF (L2 := [some (vR (some (11, 0))), some (vI x1), some (vI x2), some (vI x3), some (vI (rI h 44 0 (Int32.toNatClampNeg (((10 * x1) + (2 * x2)) + 1))))]) (st2 := []) (h2 := h) zm_X11_step rfl hg rfl hg (decide_eq_false hc) ?_
    refine zEv.loc (L2 := [some (vR (some (11, 0))), some (vI x1), some (vI x2), some (vI x3), some (vI (rI h 44 0 (Int32.toNatClampNeg (((10 * x1) + (2 * x2)) + 1))))]) (st2 := [vI 0]) (h2 := h) zm_X11_step rfl rfl rfl rfl (fun h => (nomatch h)) ?_
    cases H
    exact zEv.ret zm_X11_step rfl rfl rfl rfl
def f_X11_steps_6 : Nat → Int32 → Int32 → Int32 → Int32 → Int32 → zM → Option (Int32 × zM)
  | 0 => fun _ _ _ _ _ _ => none
  | k + 1 => fun x1 x2 x3 x4 x5 h => (if x3 < x5 then (some (x4, h)) else ((f_X11_step x1 x2 x5 h).bind fun q19 => (f_X11_steps_6 k x1 x2 x3 (x4 + q19.1) (x5 + 1) q19.2)))
set_option maxRecDepth 20000 in
theorem ev_X11_steps_6 {d : Nat} (hd : 1 ≤ d) : ∀ (k : Nat) {x1 : Int32} {x2 : Int32} {x3 : Int32} {x4 : Int32} {x5 : Int32} {h : zM} {r : Int32 × zM}, f_X11_steps_6 k x1 x2 x3 x4 x5 h = some r → zEv zmt d 177 6 ([some (vR (some (11, 0))), some (vI x1), some (vI x2), some (vI x3), some (vI x4), some (vI x5)], [], h, true) (some (vI r.1), r.2) := by
  intro k
  induction k with
  | zero => intro x1 x2 x3 x4 x5 h r H; cases H
  | succ k ih =>
    intro x1 x2 x3 x4 x5 h r H
    rcases ifc H with ⟨hc, H⟩ | ⟨hc, H⟩
    · refine zEv.iteT (L2 := [some (vR (some (11, 0))), some (vI x1), some (vI x2), some (vI x3), some (vI x4), some (vI x5)]) (st2 := []) (h2 := h) zm_X11_steps rfl rfl rfl rfl (decide_eq_true hc) ?_
      cases H
      exact zEv.ret zm_X11_steps rfl rfl rfl rfl
    · refine zEv.iteF (L2 := [some (vR (some (11, 0))), some (vI x1), some (vI x2), some (vI x3), some (vI x4), some (vI x5)]) (st2 := []) (h2 := h) zm_X11_steps rfl rfl rfl rfl (decide_eq_false hc) ?_
      obtain ⟨q19, hq, H⟩ := bnd H
      refine zEv.call (k := 176) (as := [vR (some (11, 0)), vI x1, vI x2, vI x5]) (L2 := [some (vR (some (11, 0))), some (vI x1), some (vI x2), some (vI x3), some (vI x4), some (vI x5)]) (st2 := [vI x4]) (h2 := h) (v := some (vI q19.1)) (h1 := q19.2) (st3 := [vI q19.1, vI x4]) zm_X11_steps rfl rfl rfl rfl rfl zm_X11_step rfl (by omega) (ev_X11_step (by omega) hq) rfl ?_
      refine zEv.loc (L2 := [some (vR (some (11, 0))), some (vI x1), some (vI x2), some (vI x3), some (vI (x4 + q19.1)), some (vI (x5 + 1))]) (st2 := []) (h2 := q19.2) zm_X11_steps rfl rfl rfl rfl (fun h => (nomatch h)) ?_
      exact ih H
def f_X11_steps (x1 : Int32) (x2 : Int32) (x3 : Int32) (h : zM) : Option (Int32 × zM) := (f_X11_steps_6  1000 x1 x2 x3 0 1 h)
set_option maxRecDepth 20000 in
theorem ev_X11_steps {d : Nat} (hd : 1 ≤ d) {w4 : Option zV} {w5 : Option zV} {x1 : Int32} {x2 : Int32} {x3 : Int32} {h : zM} {r : Int32 × zM} (H : f_X11_steps x1 x2 x3 h = some r) : zEv zmt d 177 0 ([some (vR (some (11, 0))), some (vI x1), some (vI x2), some (vI x3), w4, w5], [], h, true) (some (vI r.1), r.2) := by
  refine zEv.loc (L2 := [some (vR (some (11, 0))), some (vI x1), some (vI x2), some (vI x3), some (vI 0), some (vI 1)]) (st2 := []) (h2 := h) zm_X11_steps rfl rfl rfl rfl (fun h => (nomatch h)) ?_
  exact ev_X11_steps_6 (by omega)  1000 H
def f_X11_byWind (x1 : Int32) (x2 : Int32) (h : zM) : Option (Int32 × zM) := (if ¬ x2 = (-9999) then (if 0 ≤ x2 then ((f_X11_steps x1 0 x2 h).bind fun q33 => (some (q33.1, q33.2))) else (if (true && (ixOk 20 (10 * x1) && (true && (decide (rR h 11 0 27 = (some (44, 0))) && true)))) = true then (some ((x2 * (rI h 44 0 (Int32.toNatClampNeg (10 * x1)))), h)) else none)) else (some (0, h)))
set_option maxRecDepth 20000 in
theorem ev_X11_byWind {d : Nat} (hd : 2 ≤ d) {x1 : Int32} {x2 : Int32} {h : zM} {r : Int32 × zM} (H : f_X11_byWind x1 x2 h = some r) : zEv zmt d 178 0 ([some (vR (some (11, 0))), some (vI x1), some (vI x2)], [], h, true) (some (vI r.1), r.2) := by
  rcases ifc H with ⟨hc, H⟩ | ⟨hc, H⟩
  · refine zEv.iteT (L2 := [some (vR (some (11, 0))), some (vI x1), some (vI x2)]) (st2 := []) (h2 := h) zm_X11_byWind rfl rfl rfl rfl (decide_eq_true hc) ?_
    rcases ifc H with ⟨hc, H⟩ | ⟨hc, H⟩
    · refine zEv.iteT (L2 := [some (vR (some (11, 0))), some (vI x1), some (vI x2)]) (st2 := []) (h2 := h) zm_X11_byWind rfl rfl rfl rfl (decide_eq_true hc) ?_
      obtain ⟨q33, hq, H⟩ := bnd H
      refine zEv.call (k := 177) (as := [vR (some (11, 0)), vI x1, vI 0, vI x2]) (L2 := [some (vR (some (11, 0))), some (vI x1), some (vI x2)]) (st2 := []) (h2 := h) (v := some (vI q33.1)) (h1 := q33.2) (st3 := [vI q33.1]) zm_X11_byWind rfl rfl rfl rfl rfl zm_X11_steps rfl (by omega) (ev_X11_steps (by omega) hq) rfl ?_
      cases H
      exact zEv.ret zm_X11_byWind rfl rfl rfl rfl
    · refine zEv.iteF (L2 := [some (vR (some (11, 0))), some (vI x1), some (vI x2)]) (st2 := []) (h2 := h) zm_X11_byWind rfl rfl rfl rfl (decide_eq_false hc) ?_
      obtain ⟨hg, H⟩ := ifg H
      refine zEv.loc (L2 := [some (vR (some (11, 0))), some (vI x1), some (vI x2)]) (st2 := [vI (x2 * (rI h 44 0 (Int32.toNatClampNeg (10 * x1))))]) (h2 := h) zm_X11_byWind rfl hg rfl hg (fun h => (nomatch h)) ?_
      cases H
      exact zEv.ret zm_X11_byWind rfl rfl rfl rfl
  · refine zEv.iteF (L2 := [some (vR (some (11, 0))), some (vI x1), some (vI x2)]) (st2 := []) (h2 := h) zm_X11_byWind rfl rfl rfl rfl (decide_eq_false hc) ?_
    refine zEv.loc (L2 := [some (vR (some (11, 0))), some (vI x1), some (vI x2)]) (st2 := [vI 0]) (h2 := h) zm_X11_byWind rfl rfl rfl rfl (fun h => (nomatch h)) ?_
    cases H
    exact zEv.ret zm_X11_byWind rfl rfl rfl rfl
