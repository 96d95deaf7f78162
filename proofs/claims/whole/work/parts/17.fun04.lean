def f_X10_just_88 (x2 : Int32) (x3 : Int32) (h : zM) : Option (Int32 × zM) := (if ¬ x2 = 0 then ((f_X10_tellOddsOfFive x3 x2 h).bind fun q101 => (some (x3, q101))) else ((f_X10_found 4 h).bind fun q94 => (some (q94.1, q94.2))))
set_option maxRecDepth 20000 in
theorem ev_X10_just_88 {d : Nat} (hd : 3 ≤ d) {w1 : Option zV} {w4 : Option zV} {x2 : Int32} {x3 : Int32} {h : zM} {r : Int32 × zM} (H : f_X10_just_88 x2 x3 h = some r) : zEv zmt d 85 88 ([some (vR (some (10, 0))), w1, some (vI x2), some (vI x3), w4], [], h, true) (some (vI r.1), r.2) := by
  rcases ifc H with ⟨hc, H⟩ | ⟨hc, H⟩
  · refine zEv.iteT (L2 := [some (vR (some (10, 0))), w1, some (vI x2), some (vI x3), w4]) (st2 := []) (h2 := h) zm_X10_just rfl rfl rfl rfl (decide_eq_true hc) ?_
    obtain ⟨q101, hq, H⟩ := bnd H
    refine zEv.call (k := 108) (as := [vR (some (10, 0)), vI x3, vI x2]) (L2 := [some (vR (some (10, 0))), w1, some (vI x2), some (vI x3), w4]) (st2 := []) (h2 := h) (v := none) (h1 := q101) (st3 := []) zm_X10_just rfl rfl rfl rfl rfl zm_X10_tellOddsOfFive rfl (by omega) (ev_X10_tellOddsOfFive (by omega) hq) rfl ?_
    cases H
    exact zEv.ret zm_X10_just rfl rfl rfl rfl
  · refine zEv.iteF (L2 := [some (vR (some (10, 0))), w1, some (vI x2), some (vI x3), w4]) (st2 := []) (h2 := h) zm_X10_just rfl rfl rfl rfl (decide_eq_false hc) ?_
    obtain ⟨q94, hq, H⟩ := bnd H
    refine zEv.call (k := 105) (as := [vR (some (10, 0)), vI 4]) (L2 := [some (vR (some (10, 0))), w1, some (vI x2), some (vI x3), w4]) (st2 := []) (h2 := h) (v := some (vI q94.1)) (h1 := q94.2) (st3 := [vI q94.1]) zm_X10_just rfl rfl rfl rfl rfl zm_X10_found rfl (by omega) (ev_X10_found (by omega) hq) rfl ?_
    cases H
    exact zEv.ret zm_X10_just rfl rfl rfl rfl
def f_X10_just_82 (K20 : Int32 → Int32 → Int32 → Int32 → zM → Option (Int32 × zM)) (x1 : Int32) (x2 : Int32) (x3 : Int32) (x4 : Int32) (h : zM) : Option (Int32 × zM) := (K20 x1 x2 x3 (x4 + 1) h)
set_option maxRecDepth 20000 in
theorem ev_X10_just_82 {d : Nat} (hd : 3 ≤ d) {K20 : Int32 → Int32 → Int32 → Int32 → zM → Option (Int32 × zM)} (hK20 : ∀ {x1 : Int32} {x2 : Int32} {x3 : Int32} {x4 : Int32} {h : zM} {r : Int32 × zM}, K20 x1 x2 x3 x4 h = some r → zEv zmt d 85 20 ([some (vR (some (10, 0))), some (vI x1), some (vI x2), some (vI x3), some (vI x4)], [], h, true) (some (vI r.1), r.2)) {x1 : Int32} {x2 : Int32} {x3 : Int32} {x4 : Int32} {h : zM} {r : Int32 × zM} (H : f_X10_just_82 K20 x1 x2 x3 x4 h = some r) : zEv zmt d 85 82 ([some (vR (some (10, 0))), some (vI x1), some (vI x2), some (vI x3), some (vI x4)], [], h, true) (some (vI r.1), r.2) := by
  refine zEv.loc (L2 := [some (vR (some (10, 0))), some (vI x1), some (vI x2), some (vI x3), some (vI (x4 + 1))]) (st2 := []) (h2 := h) zm_X10_just rfl rfl rfl rfl (fun h => (nomatch h)) ?_
  exact hK20 H
def f_X10_just_80 (K20 : Int32 → Int32 → Int32 → Int32 → zM → Option (Int32 × zM)) (x1 : Int32) (x2 : Int32) (x4 : Int32) (s0 : Int32) (s1 : Int32) (h : zM) : Option (Int32 × zM) := (f_X10_just_82 K20 x1 x2 (s0 + s1) x4 h)
set_option maxRecDepth 20000 in
theorem ev_X10_just_80 {d : Nat} (hd : 3 ≤ d) {K20 : Int32 → Int32 → Int32 → Int32 → zM → Option (Int32 × zM)} (hK20 : ∀ {x1 : Int32} {x2 : Int32} {x3 : Int32} {x4 : Int32} {h : zM} {r : Int32 × zM}, K20 x1 x2 x3 x4 h = some r → zEv zmt d 85 20 ([some (vR (some (10, 0))), some (vI x1), some (vI x2), some (vI x3), some (vI x4)], [], h, true) (some (vI r.1), r.2)) {w3 : Option zV} {x1 : Int32} {x2 : Int32} {x4 : Int32} {s0 : Int32} {s1 : Int32} {h : zM} {r : Int32 × zM} (H : f_X10_just_80 K20 x1 x2 x4 s0 s1 h = some r) : zEv zmt d 85 80 ([some (vR (some (10, 0))), some (vI x1), some (vI x2), w3, some (vI x4)], [vI s1, vI s0], h, true) (some (vI r.1), r.2) := by
  refine zEv.loc (L2 := [some (vR (some (10, 0))), some (vI x1), some (vI x2), some (vI (s0 + s1)), some (vI x4)]) (st2 := []) (h2 := h) zm_X10_just rfl rfl rfl rfl (fun h => (nomatch h)) ?_
  exact ev_X10_just_82 (by omega) hK20 H
def f_X10_just_20 : Nat → Int32 → Int32 → Int32 → Int32 → zM → Option (Int32 × zM)
  | 0 => fun _ _ _ _ _ => none
  | k + 1 => fun x1 x2 x3 x4 h => (if (rI h 10 0 10) ≤ x4 then (f_X10_just_88  x2 x3 h) else (if 20 ≤ x2 then (f_X10_just_88  x2 x3 h) else (if (true && (memN [2] (clR (rR h 29 0 (Int32.toNatClampNeg x4))) && (true && (ixOk 40 x4 && (true && (decide (rR h 10 0 3 = (some (29, 0))) && true)))))) = true then ((f_X10_within (rI h (clR (rR h 29 0 (Int32.toNatClampNeg x4))) (ixR (rR h 29 0 (Int32.toNatClampNeg x4))) 5) (x1 - 2) (x1 + 2) h).bind fun q51 => (if q51.1 = 0 then (f_X10_just_82 (f_X10_just_20 k) x1 x2 x3 x4 q51.2) else (if (memN [2] (clR (rR q51.2 29 0 (Int32.toNatClampNeg x4))) && (true && (ixOk 40 x4 && (true && (decide (rR q51.2 10 0 3 = (some (29, 0))) && true))))) = true then (if ¬ (rI q51.2 (clR (rR q51.2 29 0 (Int32.toNatClampNeg x4))) (ixR (rR q51.2 29 0 (Int32.toNatClampNeg x4))) 5) = x1 then (f_X10_just_80 (f_X10_just_20 k) x1 (x2 + 1) x4 x3 0 q51.2) else (f_X10_just_80 (f_X10_just_20 k) x1 (x2 + 1) x4 x3 1 q51.2)) else none))) else none)))
set_option maxRecDepth 20000 in
theorem ev_X10_just_20 {d : Nat} (hd : 3 ≤ d) : ∀ (k : Nat) {x1 : Int32} {x2 : Int32} {x3 : Int32} {x4 : Int32} {h : zM} {r : Int32 × zM}, f_X10_just_20 k x1 x2 x3 x4 h = some r → zEv zmt d 85 20 ([some (vR (some (10, 0))), some (vI x1), some (vI x2), some (vI x3), some (vI x4)], [], h, true) (some (vI r.1), r.2) := by
  intro k
  induction k with
  | zero => intro x1 x2 x3 x4 h r H; cases H
  | succ k ih =>
    intro x1 x2 x3 x4 h r H
    rcases ifc H with ⟨hc, H⟩ | ⟨hc, H⟩
    · refine zEv.iteT (L2 := [some (vR (some (10, 0))), some (vI x1), some (vI x2), some (vI x3), some (vI x4)]) (st2 := []) (h2 := h) zm_X10_just rfl rfl rfl rfl (decide_eq_true hc) ?_
      exact ev_X10_just_88 (by omega)  H
    · refine zEv.iteF (L2 := [some (vR (some (10, 0))), some (vI x1), some (vI x2), some (vI x3), some (vI x4)]) (st2 := []) (h2 := h) zm_X10_just rfl rfl rfl rfl (decide_eq_false hc) ?_
      rcases ifc H with ⟨hc, H⟩ | ⟨hc, H⟩
      · refine zEv.iteT (L2 := [some (vR (some (10, 0))), some (vI x1), some (vI x2), some (vI x3), some (vI x4)]) (st2 := []) (h2 := h) zm_X10_just rfl rfl rfl rfl (decide_eq_true hc) ?_
        exact ev_X10_just_88 (by omega)  H
      · refine zEv.iteF (L2 := [some (vR (some (10, 0))), some (vI x1), some (vI x2), some (vI x3), some (vI x4)]) (st2 := []) (h2 := h) zm_X10_just rfl rfl rfl rfl (decide_eq_false hc) ?_
        obtain ⟨hg, H⟩ := ifg H
        obtain ⟨q51, hq, H⟩ := bnd H
        refine zEv.call (k := 100) (as := [vI (rI h (clR (rR h 29 0 (Int32.toNatClampNeg x4))) (ixR (rR h 29 0 (Int32.toNatClampNeg x4))) 5), vI (x1 - 2), vI (x1 + 2)]) (L2 := [some (vR (some (10, 0))), some (vI x1), some (vI x2), some (vI x3), some (vI x4)]) (st2 := []) (h2 := h) (v := some (vI q51.1)) (h1 := q51.2) (st3 := [vI q51.1]) zm_X10_just rfl (and2 hg).2 rfl hg rfl zm_X10_within rfl (by omega) (ev_X10_within (by omega) hq) rfl ?_
        rcases ifc H with ⟨hc, H⟩ | ⟨hc, H⟩
        · refine zEv.iteT (L2 := [some (vR (some (10, 0))), some (vI x1), some (vI x2), some (vI x3), some (vI x4)]) (st2 := []) (h2 := q51.2) zm_X10_just rfl rfl rfl rfl (decide_eq_true hc) ?_
          exact ev_X10_just_82 (by omega) ih H
        · refine zEv.iteF (L2 := [some (vR (some (10, 0))), some (vI x1), some (vI x2), some (vI x3), some (vI x4)]) (st2 := []) (h2 := q51.2) zm_X10_just rfl rfl rfl rfl (decide_eq_false hc) ?_
          obtain ⟨hg, H⟩ := ifg H
          rcases ifc H with ⟨hc, H⟩ | ⟨hc, H⟩
          · refine zEv.iteT (L2 := [some (vR (some (10, 0))), some (vI x1), some (vI (x2 + 1)), some (vI x3), some (vI x4)]) (st2 := [vI x3]) (h2 := q51.2) zm_X10_just rfl hg rfl hg (decide_eq_true hc) ?_
            refine zEv.loc (L2 := [some (vR (some (10, 0))), some (vI x1), some (vI (x2 + 1)), some (vI x3), some (vI x4)]) (st2 := [vI 0, vI x3]) (h2 := q51.2) zm_X10_just rfl rfl rfl rfl (fun h => (nomatch h)) ?_
            exact ev_X10_just_80 (by omega) ih H
          · refine zEv.iteF (L2 := [some (vR (some (10, 0))), some (vI x1), some (vI (x2 + 1)), some (vI x3), some (vI x4)]) (st2 := [vI x3]) (h2 := q51.2) zm_X10_just rfl hg rfl hg (decide_eq_false hc) ?_
            refine zEv.loc (L2 := [some (vR (some (10, 0))), some (vI x1), some (vI (x2 + 1)), some (vI x3), some (vI x4)]) (st2 := [vI 1, vI x3]) (h2 := q51.2) zm_X10_just rfl rfl rfl rfl (fun h => (nomatch h)) ?_
            exact ev_X10_just_80 (by omega) ih H
def f_X10_just (x1 : Int32) (h : zM) : Option (Int32 × zM) := ((f_X10_within x1 (-58) 58 h).bind fun q5 => (if ¬ q5.1 = 0 then (f_X10_just_20  1000 x1 0 0 0 q5.2) else (some ((-1), q5.2))))
set_option maxRecDepth 20000 in
theorem ev_X10_just {d : Nat} (hd : 3 ≤ d) {w2 : Option zV} {w3 : Option zV} {w4 : Option zV} {x1 : Int32} {h : zM} {r : Int32 × zM} (H : f_X10_just x1 h = some r) : zEv zmt d 85 0 ([some (vR (some (10, 0))), some (vI x1), w2, w3, w4], [], h, true) (some (vI r.1), r.2) := by
  obtain ⟨q5, hq, H⟩ := bnd H
  refine zEv.call (k := 100) (as := [vI x1, vI (-58), vI 58]) (L2 := [some (vR (some (10, 0))), some (vI x1), w2, w3, w4]) (st2 := []) (h2 := h) (v := some (vI q5.1)) (h1 := q5.2) (st3 := [vI q5.1]) zm_X10_just rfl rfl rfl rfl rfl zm_X10_within rfl (by omega) (ev_X10_within (by omega) hq) rfl ?_
  rcases ifc H with ⟨hc, H⟩ | ⟨hc, H⟩
  · refine zEv.iteT (L2 := [some (vR (some (10, 0))), some (vI x1), w2, w3, w4]) (st2 := []) (h2 := q5.2) zm_X10_just rfl rfl rfl rfl (decide_eq_true hc) ?_
    refine zEv.loc (L2 := [some (vR (some (10, 0))), some (vI x1), some (vI 0), some (vI 0), some (vI 0)]) (st2 := []) (h2 := q5.2) zm_X10_just rfl rfl rfl rfl (fun h => (nomatch h)) ?_
    exact ev_X10_just_20 (by omega)  1000 H
  · refine zEv.iteF (L2 := [some (vR (some (10, 0))), some (vI x1), w2, w3, w4]) (st2 := []) (h2 := q5.2) zm_X10_just rfl rfl rfl rfl (decide_eq_false hc) ?_
    cases H
    exact zEv.ret zm_X10_just rfl rfl rfl rfl
def f_X10_lacksLaws_20 (h : zM) : Option (Int32 × zM) := (some (0, h))
set_option maxRecDepth 20000 in
theorem ev_X10_lacksLaws_20 {d : Nat} (hd : 0 ≤ d) {w0 : Option zV} {w1 : Option zV} {h : zM} {r : Int32 × zM} (H : f_X10_lacksLaws_20  h = some r) : zEv zmt d 119 20 ([w0, w1], [], h, true) (some (vI r.1), r.2) := by
  refine zEv.loc (L2 := [w0, w1]) (st2 := [vI 0]) (h2 := h) zm_X10_lacksLaws rfl rfl rfl rfl (fun h => (nomatch h)) ?_
  cases H
  exact zEv.ret zm_X10_lacksLaws rfl rfl rfl rfl
def f_X10_lacksLaws (x1 : zR) (h : zM) : Option (Int32 × zM) := (if (memN [7] (clR x1) && true) = true then (if (rI h (clR x1) (ixR x1) 8) = 0 then (f_X10_lacksLaws_20  h) else (if (true && (ixOk 2 0 && (true && (decide (rR h 10 0 4 = (some (30, 0))) && true)))) = true then (if (rR h 30 0 (Int32.toNatClampNeg 0)) = none then (some (1, h)) else (f_X10_lacksLaws_20  h)) else none)) else none)
set_option maxRecDepth 20000 in
theorem ev_X10_lacksLaws {d : Nat} (hd : 0 ≤ d) {x1 : zR} {h : zM} {r : Int32 × zM} (H : f_X10_lacksLaws x1 h = some r) : zEv zmt d 119 0 ([some (vR (some (10, 0))), some (vR x1)], [], h, true) (some (vI r.1), r.2) := by
  obtain ⟨hg, H⟩ := ifg H
  rcases ifc H with ⟨hc, H⟩ | ⟨hc, H⟩
  · refine zEv.iteT (L2 := [some (vR (some (10, 0))), some (vR x1)]) (st2 := []) (h2 := h) zm_X10_lacksLaws rfl hg rfl hg (decide_eq_true hc) ?_
    exact ev_X10_lacksLaws_20 (by omega)  H
  · refine zEv.iteF (L2 := [some (vR (some (10, 0))), some (vR x1)]) (st2 := []) (h2 := h) zm_X10_lacksLaws rfl hg rfl hg (decide_eq_false hc) ?_
    obtain ⟨hg, H⟩ := ifg H
    rcases ifc H with ⟨hc, H⟩ | ⟨hc, H⟩
    · refine zEv.iteT (L2 := [some (vR (some (10, 0))), some (vR x1)]) (st2 := []) (h2 := h) zm_X10_lacksLaws rfl hg rfl hg (nnT hc) ?_
      refine zEv.loc (L2 := [some (vR (some (10, 0))), some (vR x1)]) (st2 := [vI 1]) (h2 := h) zm_X10_lacksLaws rfl rfl rfl rfl (fun h => (nomatch h)) ?_
      cases H
      exact zEv.ret zm_X10_lacksLaws rfl rfl rfl rfl
    · refine zEv.iteF (L2 := [some (vR (some (10, 0))), some (vR x1)]) (st2 := []) (h2 := h) zm_X10_lacksLaws rfl hg rfl hg (nnF hc) ?_
      exact ev_X10_lacksLaws_20 (by omega)  H
def f_X10_fill_77 (K26 : zR → zR → zR → Int32 → zM → Option (zM)) (x1 : zR) (x2 : zR) (x3 : zR) (x4 : Int32) (h : zM) : Option (zM) := (K26 x1 x2 x3 (x4 + 1) h)
set_option maxRecDepth 20000 in
theorem ev_X10_fill_77 {d : Nat} (hd : 4 ≤ d) {K26 : zR → zR → zR → Int32 → zM → Option (zM)} (hK26 : ∀ {w5 : Option zV} {x1 : zR} {x2 : zR} {x3 : zR} {x4 : Int32} {h : zM} {r : zM}, K26 x1 x2 x3 x4 h = some r → zEv zmt d 120 26 ([some (vR (some (10, 0))), some (vR x1), some (vR x2), some (vR x3), some (vI x4), w5], [], h, true) (none, r)) {w5 : Option zV} {x1 : zR} {x2 : zR} {x3 : zR} {x4 : Int32} {h : zM} {r : zM} (H : f_X10_fill_77 K26 x1 x2 x3 x4 h = some r) : zEv zmt d 120 77 ([some (vR (some (10, 0))), some (vR x1), some (vR x2), some (vR x3), some (vI x4), w5], [], h, true) (none, r) := by
  refine zEv.loc (L2 := [some (vR (some (10, 0))), some (vR x1), some (vR x2), some (vR x3), some (vI (x4 + 1)), w5]) (st2 := []) (h2 := h) zm_X10_fill rfl rfl rfl rfl (fun h => (nomatch h)) ?_
  exact hK26 H
def f_X10_fill_74 (K26 : zR → zR → zR → Int32 → zM → Option (zM)) (x1 : zR) (x2 : zR) (x3 : zR) (x4 : Int32) (s0 : zR) (s1 : Int32) (s2 : Int32) (h : zM) : Option (zM) := (if (memN [4] (clR s0) && (true && true)) = true then ((f_X4_add s0 s1 s2 h).bind fun q74 => (f_X10_fill_77 K26 x1 x2 x3 x4 q74)) else none)
set_option maxRecDepth 20000 in
theorem ev_X10_fill_74 {d : Nat} (hd : 4 ≤ d) {K26 : zR → zR → zR → Int32 → zM → Option (zM)} (hK26 : ∀ {w5 : Option zV} {x1 : zR} {x2 : zR} {x3 : zR} {x4 : Int32} {h : zM} {r : zM}, K26 x1 x2 x3 x4 h = some r → zEv zmt d 120 26 ([some (vR (some (10, 0))), some (vR x1), some (vR x2), some (vR x3), some (vI x4), w5], [], h, true) (none, r)) {w5 : Option zV} {x1 : zR} {x2 : zR} {x3 : zR} {x4 : Int32} {s0 : zR} {s1 : Int32} {s2 : Int32} {h : zM} {r : zM} (H : f_X10_fill_74 K26 x1 x2 x3 x4 s0 s1 s2 h = some r) : zEv zmt d 120 74 ([some (vR (some (10, 0))), some (vR x1), some (vR x2), some (vR x3), some (vI x4), w5], [vI s2, vI s1, vR s0], h, true) (none, r) := by
  obtain ⟨hg, H⟩ := ifg H
  obtain ⟨q74, hq, H⟩ := bnd H
  refine zEv.call (k := 28) (as := [vR s0, vI s1, vI s2]) (L2 := [some (vR (some (10, 0))), some (vR x1), some (vR x2), some (vR x3), some (vI x4), w5]) (st2 := []) (h2 := h) (v := none) (h1 := q74) (st3 := []) zm_X10_fill rfl (and2 (and2 hg).2).2 rfl hg rfl zm_X4_add rfl (by omega) (ev_X4_add (by omega) hq) rfl ?_
  exact ev_X10_fill_77 (by omega) hK26 H
def f_X10_fill_26 : Nat → zR → zR → zR → Int32 → zM → Option (zM)
  | 0 => fun _ _ _ _ _ => none
  | k + 1 => fun x1 x2 x3 x4 h => (if (rI h 10 0 10) ≤ x4 then (some h) else (if (memN [7] (clR x2) && (true && (true && (true && (ixOk 40 x4 && (true && (decide (rR h 10 0 3 = (some (29, 0))) && true))))))) = true then ((f_X7_let x2 (rR h 29 0 (Int32.toNatClampNeg x4)) h).bind fun q47 => (if q47.1 = 0 then (f_X10_fill_77 (f_X10_fill_26 k) x1 x2 x3 x4 q47.2) else (if x3 = none then (if (memN [2] (clR (rR h 29 0 (Int32.toNatClampNeg x4))) && true) = true then (f_X10_fill_74 (f_X10_fill_26 k) x1 x2 x3 x4 x1 x4 (rI q47.2 (clR (rR h 29 0 (Int32.toNatClampNeg x4))) (ixR (rR h 29 0 (Int32.toNatClampNeg x4))) 4) q47.2) else none) else (if (memN [1] (clR x3) && (true && true)) = true then ((f_X1_valueAtHome x3 (rR h 29 0 (Int32.toNatClampNeg x4)) q47.2).bind fun q71 => (f_X10_fill_74 (f_X10_fill_26 k) x1 x2 x3 x4 x1 x4 q71.1 q71.2)) else none)))) else none))
set_option maxRecDepth 20000 in
theorem ev_X10_fill_26 {d : Nat} (hd : 4 ≤ d) : ∀ (k : Nat) {w5 : Option zV} {x1 : zR} {x2 : zR} {x3 : zR} {x4 : Int32} {h : zM} {r : zM}, f_X10_fill_26 k x1 x2 x3 x4 h = some r → zEv zmt d 120 26 ([some (vR (some (10, 0))), some (vR x1), some (vR x2), some (vR x3), some (vI x4), w5], [], h, true) (none, r) := by
  intro k
  induction k with
  | zero => intro w5 x1 x2 x3 x4 h r H; cases H
  | succ k ih =>
    intro w5 x1 x2 x3 x4 h r H
    rcases ifc H with ⟨hc, H⟩ | ⟨hc, H⟩
    · refine zEv.iteT (L2 := [some (vR (some (10, 0))), some (vR x1), some (vR x2), some (vR x3), some (vI x4), w5]) (st2 := []) (h2 := h) zm_X10_fill rfl rfl rfl rfl (decide_eq_true hc) ?_
      cases H
      exact zEv.ret zm_X10_fill rfl rfl rfl rfl
    · refine zEv.iteF (L2 := [some (vR (some (10, 0))), some (vR x1), some (vR x2), some (vR x3), some (vI x4), w5]) (st2 := []) (h2 := h) zm_X10_fill rfl rfl rfl rfl (decide_eq_false hc) ?_
      obtain ⟨hg, H⟩ := ifg H
      obtain ⟨q47, hq, H⟩ := bnd H
      refine zEv.call (k := 47) (as := [vR x2, vR (rR h 29 0 (Int32.toNatClampNeg x4))]) (L2 := [some (vR (some (10, 0))), some (vR x1), some (vR x2), some (vR x3), some (vI x4), some (vR (rR h 29 0 (Int32.toNatClampNeg x4)))]) (st2 := []) (h2 := h) (v := some (vI q47.1)) (h1 := q47.2) (st3 := [vI q47.1]) zm_X10_fill rfl (and2 (and2 hg).2).2 rfl hg rfl zm_X7_let rfl (by omega) (ev_X7_let (by omega) hq) rfl ?_
      rcases ifc H with ⟨hc, H⟩ | ⟨hc, H⟩
      · refine zEv.iteT (L2 := [some (vR (some (10, 0))), some (vR x1), some (vR x2), some (vR x3), some (vI x4), some (vR (rR h 29 0 (Int32.toNatClampNeg x4)))]) (st2 := []) (h2 := q47.2) zm_X10_fill rfl rfl rfl rfl (decide_eq_true hc) ?_
        exact ev_X10_fill_77 (by omega) ih H
      · refine zEv.iteF (L2 := [some (vR (some (10, 0))), some (vR x1), some (vR x2), some (vR x3), some (vI x4), some (vR (rR h 29 0 (Int32.toNatClampNeg x4)))]) (st2 := []) (h2 := q47.2) zm_X10_fill rfl rfl rfl rfl (decide_eq_false hc) ?_
        rcases ifc H with ⟨hc, H⟩ | ⟨hc, H⟩
        · refine zEv.iteT (L2 := [some (vR (some (10, 0))), some (vR x1), some (vR x2), some (vR x3), some (vI x4), some (vR (rR h 29 0 (Int32.toNatClampNeg x4)))]) (st2 := [vI x4, vR x1]) (h2 := q47.2) zm_X10_fill rfl rfl rfl rfl (nnT hc) ?_
          obtain ⟨hg, H⟩ := ifg H
          refine zEv.loc (L2 := [some (vR (some (10, 0))), some (vR x1), some (vR x2), some (vR x3), some (vI x4), some (vR (rR h 29 0 (Int32.toNatClampNeg x4)))]) (st2 := [vI (rI q47.2 (clR (rR h 29 0 (Int32.toNatClampNeg x4))) (ixR (rR h 29 0 (Int32.toNatClampNeg x4))) 4), vI x4, vR x1]) (h2 := q47.2) zm_X10_fill rfl hg rfl hg (fun h => (nomatch h)) ?_
          exact ev_X10_fill_74 (by omega) ih H
        · refine zEv.iteF (L2 := [some (vR (some (10, 0))), some (vR x1), some (vR x2), some (vR x3), some (vI x4), some (vR (rR h 29 0 (Int32.toNatClampNeg x4)))]) (st2 := [vI x4, vR x1]) (h2 := q47.2) zm_X10_fill rfl rfl rfl rfl (nnF hc) ?_
          obtain ⟨hg, H⟩ := ifg H
          obtain ⟨q71, hq, H⟩ := bnd H
          refine zEv.call (k := 13) (as := [vR x3, vR (rR h 29 0 (Int32.toNatClampNeg x4))]) (L2 := [some (vR (some (10, 0))), some (vR x1), some (vR x2), some (vR x3), some (vI x4), some (vR (rR h 29 0 (Int32.toNatClampNeg x4)))]) (st2 := [vI x4, vR x1]) (h2 := q47.2) (v := some (vI q71.1)) (h1 := q71.2) (st3 := [vI q71.1, vI x4, vR x1]) zm_X10_fill rfl (and2 (and2 hg).2).2 rfl hg rfl zm_X1_valueAtHome rfl (by omega) (ev_X1_valueAtHome (by omega) hq) rfl ?_
          exact ev_X10_fill_74 (by omega) ih H
def f_X10_fill_17 (x1 : zR) (x2 : zR) (s0 : zR) (h : zM) : Option (zM) := (if (true && (memN [4] (clR x1) && (true && true))) = true then (f_X10_fill_26  1000 x1 x2 s0 0 (wI h (clR x1) (ixR x1) 3 0)) else none)
set_option maxRecDepth 20000 in
theorem ev_X10_fill_17 {d : Nat} (hd : 4 ≤ d) {w3 : Option zV} {w4 : Option zV} {w5 : Option zV} {x1 : zR} {x2 : zR} {s0 : zR} {h : zM} {r : zM} (H : f_X10_fill_17 x1 x2 s0 h = some r) : zEv zmt d 120 17 ([some (vR (some (10, 0))), some (vR x1), some (vR x2), w3, w4, w5], [vR s0], h, true) (none, r) := by
  obtain ⟨hg, H⟩ := ifg H
  refine zEv.loc (L2 := [some (vR (some (10, 0))), some (vR x1), some (vR x2), some (vR s0), some (vI 0), w5]) (st2 := []) (h2 := (wI h (clR x1) (ixR x1) 3 0)) zm_X10_fill rfl hg rfl hg (fun h => (nomatch h)) ?_
  exact ev_X10_fill_26 (by omega)  1000 H
def f_X10_fill (x1 : zR) (x2 : zR) (h : zM) : Option (zM) := (if (memN [7] (clR x2) && true) = true then (if (rI h (clR x2) (ixR x2) 8) = 0 then (f_X10_fill_17  x1 x2 none h) else (if (true && (ixOk 2 0 && (true && (decide (rR h 10 0 4 = (some (30, 0))) && true)))) = true then (f_X10_fill_17  x1 x2 (rR h 30 0 (Int32.toNatClampNeg 0)) h) else none)) else none)
set_option maxRecDepth 20000 in
theorem ev_X10_fill {d : Nat} (hd : 4 ≤ d) {w3 : Option zV} {w4 : Option zV} {w5 : Option zV} {x1 : zR} {x2 : zR} {h : zM} {r : zM} (H : f_X10_fill x1 x2 h = some r) : zEv zmt d 120 0 ([some (vR (some (10, 0))), some (vR x1), some (vR x2), w3, w4, w5], [], h, true) (none, r) := by
  obtain ⟨hg, H⟩ := ifg H
  rcases ifc H with ⟨hc, H⟩ | ⟨hc, H⟩
  · refine zEv.iteT (L2 := [some (vR (some (10, 0))), some (vR x1), some (vR x2), w3, w4, w5]) (st2 := []) (h2 := h) zm_X10_fill rfl hg rfl hg (decide_eq_true hc) ?_
    refine zEv.loc (L2 := [some (vR (some (10, 0))), some (vR x1), some (vR x2), w3, w4, w5]) (st2 := [vR none]) (h2 := h) zm_X10_fill rfl rfl rfl rfl (fun h => (nomatch h)) ?_
    exact ev_X10_fill_17 (by omega)  H
  · refine zEv.iteF (L2 := [some (vR (some (10, 0))), some (vR x1), some (vR x2), w3, w4, w5]) (st2 := []) (h2 := h) zm_X10_fill rfl hg rfl hg (decide_eq_false hc) ?_
    obtain ⟨hg, H⟩ := ifg H
    refine zEv.loc (L2 := [some (vR (some (10, 0))), some (vR x1), some (vR x2), w3, w4, w5]) (st2 := [vR (rR h 30 0 (Int32.toNatClampNeg 0))]) (h2 := h) zm_X10_fill rfl hg rfl hg (fun h => (nomatch h)) ?_
    exact ev_X10_fill_17 (by omega)  H
def f_X10_rank (x1 : Int32) (x2 : Int32) (h : zM) : Option (Int32 × zM) := ((f_X10_textAt x1 h).bind fun q2 => (if q2.1 = none then (some ((-1), q2.2)) else (if (memN [9] (clR q2.1) && (true && true)) = true then ((f_X8_isMissing q2.1 q2.2).bind fun q13 => (if q13.1 = 0 then ((f_X7_init (some (7, (cnM q13.2 7))) (nwM q13.2 7 9)).bind fun q29 => ((f_X5_init (some (5, (cnM q29 5))) q2.1 (nwM q29 5 3)).bind fun q41 => ((f_X0_readAll (some (7, (cnM q13.2 7))) (some (5, (cnM q29 5))) q41).bind fun q44 => (if ¬ q44.1 = (-9999) then ((f_X10_lacksLaws (some (7, (cnM q13.2 7))) q44.2).bind fun q59 => (if q59.1 = 0 then (if (true && (true && (true && (decide (rR q59.2 10 0 5 = (some (4, 0))) && true)))) = true then ((f_X10_fill (some (4, 0)) (some (7, (cnM q13.2 7))) q59.2).bind fun q78 => (if x2 = 0 then (some (0, q78)) else (if (true && (true && (true && (decide (rR q78 10 0 3 = (some (29, 0))) && (true && (decide (rR q78 10 0 5 = (some (4, 0))) && true)))))) = true then ((f_X4_keepBestOfEach (some (4, 0)) (some (29, 0)) q78).bind fun q93 => (some (0, q93))) else none))) else none) else ((f_X10_found 1 q59.2).bind fun q67 => (some (q67.1, q67.2))))) else (some ((-4), q44.2)))))) else ((f_X10_found 1 q13.2).bind fun q21 => (some (q21.1, q21.2))))) else none)))
set_option maxRecDepth 20000 in
theorem ev_X10_rank {d : Nat} (hd : 6 ≤ d) {w3 : Option zV} {w4 : Option zV} {x1 : Int32} {x2 : Int32} {h : zM} {r : Int32 × zM} (H : f_X10_rank x1 x2 h = some r) : zEv zmt d 117 0 ([some (vR (some (10, 0))), some (vI x1), some (vI x2), w3, w4], [], h, true) (some (vI r.1), r.2) := by
  obtain ⟨q2, hq, H⟩ := bnd H
  refine zEv.call (k := 102) (as := [vR (some (10, 0)), vI x1]) (L2 := [some (vR (some (10, 0))), some (vI x1), some (vI x2), w3, w4]) (st2 := []) (h2 := h) (v := some (vR q2.1)) (h1 := q2.2) (st3 := [vR q2.1]) zm_X10_rank rfl rfl rfl rfl rfl zm_X10_textAt rfl (by omega) (ev_X10_textAt (by omega) hq) rfl ?_
  rcases ifc H with ⟨hc, H⟩ | ⟨hc, H⟩
  · refine zEv.iteT (L2 := [some (vR (some (10, 0))), some (vI x1), some (vI x2), some (vR q2.1), w4]) (st2 := []) (h2 := q2.2) zm_X10_rank rfl rfl rfl rfl (nnT hc) ?_
    cases H
    exact zEv.ret zm_X10_rank rfl rfl rfl rfl
  · refine zEv.iteF (L2 := [some (vR (some (10, 0))), some (vI x1), some (vI x2), some (vR q2.1), w4]) (st2 := []) (h2 := q2.2) zm_X10_rank rfl rfl rfl rfl (nnF hc) ?_
    obtain ⟨hg, H⟩ := ifg H
    obtain ⟨q13, hq, H⟩ := bnd H
    refine zEv.call (k := 49) (as := [vR q2.1]) (L2 := [some (vR (some (10, 0))), some (vI x1), some (vI x2), some (vR q2.1), w4]) (st2 := []) (h2 := q2.2) (v := some (vI q13.1)) (h1 := q13.2) (st3 := [vI q13.1]) zm_X10_rank rfl (and2 (and2 hg).2).2 rfl hg rfl zm_X8_isMissing rfl (by omega) (ev_X8_isMissing (by omega) hq) rfl ?_
    rcases ifc H with ⟨hc, H⟩ | ⟨hc, H⟩
    · refine zEv.iteT (L2 := [some (vR (some (10, 0))), some (vI x1), some (vI x2), some (vR q2.1), w4]) (st2 := []) (h2 := q13.2) zm_X10_rank rfl rfl rfl rfl (decide_eq_true hc) ?_
      obtain ⟨q29, hq, H⟩ := bnd H
      refine zEv.call (k := 40) (as := [vR (some (7, (cnM q13.2 7)))]) (L2 := [some (vR (some (10, 0))), some (vI x1), some (vI x2), some (vR q2.1), w4]) (st2 := [vR (some (7, (cnM q13.2 7)))]) (h2 := (nwM q13.2 7 9)) (v := none) (h1 := q29) (st3 := [vR (some (7, (cnM q13.2 7)))]) zm_X10_rank rfl rfl rfl rfl rfl zm_X7_init rfl (by omega) (ev_X7_init (by omega) hq) rfl ?_
      obtain ⟨q41, hq, H⟩ := bnd H
      refine zEv.call (k := 30) (as := [vR (some (5, (cnM q29 5))), vR q2.1]) (L2 := [some (vR (some (10, 0))), some (vI x1), some (vI x2), some (vR q2.1), some (vR (some (7, (cnM q13.2 7))))]) (st2 := [vR (some (5, (cnM q29 5))), vR (some (7, (cnM q13.2 7)))]) (h2 := (nwM q29 5 3)) (v := none) (h1 := q41) (st3 := [vR (some (5, (cnM q29 5))), vR (some (7, (cnM q13.2 7)))]) zm_X10_rank rfl rfl rfl rfl rfl zm_X5_init rfl (by omega) (ev_X5_init (by omega) hq) rfl ?_
      obtain ⟨q44, hq, H⟩ := bnd H
      refine zEv.call (k := 4) (as := [vR (some (7, (cnM q13.2 7))), vR (some (5, (cnM q29 5)))]) (L2 := [some (vR (some (10, 0))), some (vI x1), some (vI x2), some (vR q2.1), some (vR (some (7, (cnM q13.2 7))))]) (st2 := []) (h2 := q41) (v := some (vI q44.1)) (h1 := q44.2) (st3 := [vI q44.1]) zm_X10_rank rfl rfl rfl rfl rfl zm_X0_readAll rfl (by omega) (ev_X0_readAll (by omega) hq) rfl ?_
      rcases ifc H with ⟨hc, H⟩ | ⟨hc, H⟩
      · refine zEv.iteT (L2 := [some (vR (some (10, 0))), some (vI x1), some (vI x2), some (vR q2.1), some (vR (some (7, (cnM q13.2 7))))]) (st2 := []) (h2 := q44.2) zm_X10_rank rfl rfl rfl rfl (decide_eq_true hc) ?_
        obtain ⟨q59, hq, H⟩ := bnd H
        refine zEv.call (k := 119) (as := [vR (some (10, 0)), vR (some (7, (cnM q13.2 7)))]) (L2 := [some (vR (some (10, 0))), some (vI x1), some (vI x2), some (vR q2.1), some (vR (some (7, (cnM q13.2 7))))]) (st2 := []) (h2 := q44.2) (v := some (vI q59.1)) (h1 := q59.2) (st3 := [vI q59.1]) zm_X10_rank rfl rfl rfl rfl rfl zm_X10_lacksLaws rfl (by omega) (ev_X10_lacksLaws (by omega) hq) rfl ?_
        rcases ifc H with ⟨hc, H⟩ | ⟨hc, H⟩
        · refine zEv.iteT (L2 := [some (vR (some (10, 0))), some (vI x1), some (vI x2), some (vR q2.1), some (vR (some (7, (cnM q13.2 7))))]) (st2 := []) (h2 := q59.2) zm_X10_rank rfl rfl rfl rfl (decide_eq_true hc) ?_
          obtain ⟨hg, H⟩ := ifg H
          obtain ⟨q78, hq, H⟩ := bnd H
          refine zEv.call (k := 120) (as := [vR (some (10, 0)), vR (some (4, 0)), vR (some (7, (cnM q13.2 7)))]) (L2 := [some (vR (some (10, 0))), some (vI x1), some (vI x2), some (vR q2.1), some (vR (some (7, (cnM q13.2 7))))]) (st2 := []) (h2 := q59.2) (v := none) (h1 := q78) (st3 := []) zm_X10_rank rfl (and2 (and2 hg).2).2 rfl hg rfl zm_X10_fill rfl (by omega) (ev_X10_fill (by omega) hq) rfl ?_
          rcases ifc H with ⟨hc, H⟩ | ⟨hc, H⟩
          · refine zEv.iteT (L2 := [some (vR (some (10, 0))), some (vI x1), some (vI x2), some (vR q2.1), some (vR (some (7, (cnM q13.2 7))))]) (st2 := []) (h2 := q78) zm_X10_rank rfl rfl rfl rfl (decide_eq_true hc) ?_
            cases H
            exact zEv.ret zm_X10_rank rfl rfl rfl rfl
          · refine zEv.iteF (L2 := [some (vR (some (10, 0))), some (vI x1), some (vI x2), some (vR q2.1), some (vR (some (7, (cnM q13.2 7))))]) (st2 := []) (h2 := q78) zm_X10_rank rfl rfl rfl rfl (decide_eq_false hc) ?_
            obtain ⟨hg, H⟩ := ifg H
            obtain ⟨q93, hq, H⟩ := bnd H
            refine zEv.call (k := 29) (as := [vR (some (4, 0)), vR (some (29, 0))]) (L2 := [some (vR (some (10, 0))), some (vI x1), some (vI x2), some (vR q2.1), some (vR (some (7, (cnM q13.2 7))))]) (st2 := []) (h2 := q78) (v := none) (h1 := q93) (st3 := []) zm_X10_rank rfl (and2 (and2 hg).2).2 rfl hg rfl zm_X4_keepBestOfEach rfl (by omega) (ev_X4_keepBestOfEach (by omega) hq) rfl ?_
            cases H
            exact zEv.ret zm_X10_rank rfl rfl rfl rfl
        · refine zEv.iteF (L2 := [some (vR (some (10, 0))), some (vI x1), some (vI x2), some (vR q2.1), some (vR (some (7, (cnM q13.2 7))))]) (st2 := []) (h2 := q59.2) zm_X10_rank rfl rfl rfl rfl (decide_eq_false hc) ?_
          obtain ⟨q67, hq, H⟩ := bnd H
          refine zEv.call (k := 105) (as := [vR (some (10, 0)), vI 1]) (L2 := [some (vR (some (10, 0))), some (vI x1), some (vI x2), some (vR q2.1), some (vR (some (7, (cnM q13.2 7))))]) (st2 := []) (h2 := q59.2) (v := some (vI q67.1)) (h1 := q67.2) (st3 := [vI q67.1]) zm_X10_rank rfl rfl rfl rfl rfl zm_X10_found rfl (by omega) (ev_X10_found (by omega) hq) rfl ?_
          cases H
          exact zEv.ret zm_X10_rank rfl rfl rfl rfl
      · refine zEv.iteF (L2 := [some (vR (some (10, 0))), some (vI x1), some (vI x2), some (vR q2.1), some (vR (some (7, (cnM q13.2 7))))]) (st2 := []) (h2 := q44.2) zm_X10_rank rfl rfl rfl rfl (decide_eq_false hc) ?_
        cases H
        exact zEv.ret zm_X10_rank rfl rfl rfl rfl
    · refine zEv.iteF (L2 := [some (vR (some (10, 0))), some (vI x1), some (vI x2), some (vR q2.1), w4]) (st2 := []) (h2 := q13.2) zm_X10_rank rfl rfl rfl rfl (decide_eq_false hc) ?_
      obtain ⟨q21, hq, H⟩ := bnd H
      refine zEv.call (k := 105) (as := [vR (some (10, 0)), vI 1]) (L2 := [some (vR (some (10, 0))), some (vI x1), some (vI x2), some (vR q2.1), w4]) (st2 := []) (h2 := q13.2) (v := some (vI q21.1)) (h1 := q21.2) (st3 := [vI q21.1]) zm_X10_rank rfl rfl rfl rfl rfl zm_X10_found rfl (by omega) (ev_X10_found (by omega) hq) rfl ?_
      cases H
      exact zEv.ret zm_X10_rank rfl rfl rfl rfl
def f_X10_list_39 (s1 : Int32) (h : zM) : Option (Int32 × zM) := ((f_X10_tell s1 h).bind fun q39 => (if (true && (true && (decide (rR q39.2 10 0 5 = (some (4, 0))) && (true && true)))) = true then (some ((rI q39.2 4 0 3), q39.2)) else none))
set_option maxRecDepth 20000 in
theorem ev_X10_list_39 {d : Nat} (hd : 7 ≤ d) {w1 : Option zV} {w2 : Option zV} {s1 : Int32} {h : zM} {r : Int32 × zM} (H : f_X10_list_39 s1 h = some r) : zEv zmt d 86 39 ([some (vR (some (10, 0))), w1, w2], [vI s1, vR (some (10, 0))], h, true) (some (vI r.1), r.2) := by
  obtain ⟨q39, hq, H⟩ := bnd H
  refine zEv.call (k := 106) (as := [vR (some (10, 0)), vI s1]) (L2 := [some (vR (some (10, 0))), w1, w2]) (st2 := []) (h2 := h) (v := some (vI q39.1)) (h1 := q39.2) (st3 := [vI q39.1]) zm_X10_list rfl rfl rfl rfl rfl zm_X10_tell rfl (by omega) (ev_X10_tell (by omega) hq) rfl ?_
  obtain ⟨hg, H⟩ := ifg H
  cases H
  exact zEv.ret zm_X10_list rfl hg rfl hg
def f_X10_list (x1 : Int32) (h : zM) : Option (Int32 × zM) := ((f_X10_rank x1 1 h).bind fun q3 => (if q3.1 = 0 then (if (true && (true && (decide (rR q3.2 10 0 5 = (some (4, 0))) && true))) = true then (if ¬ (rI q3.2 4 0 3) = 0 then (if (true && (true && (true && (decide (rR q3.2 4 0 0 = (some (21, 0))) && (true && (decide (rR q3.2 10 0 5 = (some (4, 0))) && true)))))) = true then (f_X10_list_39  (rI q3.2 21 0 (Int32.toNatClampNeg 0)) q3.2) else none) else (f_X10_list_39  (-9999) q3.2)) else none) else (some (q3.1, q3.2))))
set_option maxRecDepth 20000 in
theorem ev_X10_list {d : Nat} (hd : 7 ≤ d) {w2 : Option zV} {x1 : Int32} {h : zM} {r : Int32 × zM} (H : f_X10_list x1 h = some r) : zEv zmt d 86 0 ([some (vR (some (10, 0))), some (vI x1), w2], [], h, true) (some (vI r.1), r.2) := by
  obtain ⟨q3, hq, H⟩ := bnd H
  refine zEv.call (k := 117) (as := [vR (some (10, 0)), vI x1, vI 1]) (L2 := [some (vR (some (10, 0))), some (vI x1), w2]) (st2 := []) (h2 := h) (v := some (vI q3.1)) (h1 := q3.2) (st3 := [vI q3.1]) zm_X10_list rfl rfl rfl rfl rfl zm_X10_rank rfl (by omega) (ev_X10_rank (by omega) hq) rfl ?_
  rcases ifc H with ⟨hc, H⟩ | ⟨hc, H⟩
  · refine zEv.iteT (L2 := [some (vR (some (10, 0))), none, some (vI q3.1)]) (st2 := []) (h2 := q3.2) zm_X10_list rfl rfl rfl rfl (decide_eq_true hc) ?_
    obtain ⟨hg, H⟩ := ifg H
    rcases ifc H with ⟨hc, H⟩ | ⟨hc, H⟩
    · refine zEv.iteT (L2 := [some (vR (some (10, 0))), none, some (vI q3.1)]) (st2 := [vR (some (10, 0))]) (h2 := q3.2) zm_X10_list rfl hg rfl hg (decide_eq_true hc) ?_
      obtain ⟨hg, H⟩ := ifg H
      refine zEv.loc (L2 := [some (vR (some (10, 0))), none, some (vI q3.1)]) (st2 := [vI (rI q3.2 21 0 (Int32.toNatClampNeg 0)), vR (some (10, 0))]) (h2 := q3.2) zm_X10_list rfl hg rfl hg (fun h => (nomatch h)) ?_
      exact ev_X10_list_39 (by omega)  H
    · refine zEv.iteF (L2 := [some (vR (some (10, 0))), none, some (vI q3.1)]) (st2 := [vR (some (10, 0))]) (h2 := q3.2) zm_X10_list rfl hg rfl hg (decide_eq_false hc) ?_
      refine zEv.loc (L2 := [some (vR (some (10, 0))), none, some (vI q3.1)]) (st2 := [vI (-9999), vR (some (10, 0))]) (h2 := q3.2) zm_X10_list rfl rfl rfl rfl (fun h => (nomatch h)) ?_
      exact ev_X10_list_39 (by omega)  H
  · refine zEv.iteF (L2 := [some (vR (some (10, 0))), none, some (vI q3.1)]) (st2 := []) (h2 := q3.2) zm_X10_list rfl rfl rfl rfl (decide_eq_false hc) ?_
    cases H
    exact zEv.ret zm_X10_list rfl rfl rfl rfl
def f_X10_listed (x1 : Int32) (x2 : Int32) (h : zM) : Option (Int32 × zM) := (if 0 ≤ x2 then ((f_X10_rank x1 1 h).bind fun q9 => (if q9.1 = 0 then (if (true && (true && (decide (rR q9.2 10 0 5 = (some (4, 0))) && true))) = true then (if x2 < (rI q9.2 4 0 3) then (if (true && (true && (true && (ixOk 40 x2 && (true && (decide (rR q9.2 4 0 1 = (some (22, 0))) && (true && (decide (rR q9.2 10 0 5 = (some (4, 0))) && true)))))))) = true then ((f_X10_tell (rI q9.2 22 0 (Int32.toNatClampNeg x2)) q9.2).bind fun q44 => (if (true && (ixOk 40 x2 && (true && (decide (rR q44.2 4 0 0 = (some (21, 0))) && (true && (decide (rR q44.2 10 0 5 = (some (4, 0))) && (true && true))))))) = true then (some ((rI q44.2 21 0 (Int32.toNatClampNeg x2)), q44.2)) else none)) else none) else (some ((-9999), q9.2))) else none) else (some (q9.1, q9.2)))) else (some ((-1), h)))
set_option maxRecDepth 20000 in
theorem ev_X10_listed {d : Nat} (hd : 7 ≤ d) {w3 : Option zV} {x1 : Int32} {x2 : Int32} {h : zM} {r : Int32 × zM} (H : f_X10_listed x1 x2 h = some r) : zEv zmt d 87 0 ([some (vR (some (10, 0))), some (vI x1), some (vI x2), w3], [], h, true) (some (vI r.1), r.2) := by
  rcases ifc H with ⟨hc, H⟩ | ⟨hc, H⟩
  · refine zEv.iteT (L2 := [some (vR (some (10, 0))), some (vI x1), some (vI x2), w3]) (st2 := []) (h2 := h) zm_X10_listed rfl rfl rfl rfl (decide_eq_true hc) ?_
    obtain ⟨q9, hq, H⟩ := bnd H
    refine zEv.call (k := 117) (as := [vR (some (10, 0)), vI x1, vI 1]) (L2 := [some (vR (some (10, 0))), some (vI x1), some (vI x2), w3]) (st2 := []) (h2 := h) (v := some (vI q9.1)) (h1 := q9.2) (st3 := [vI q9.1]) zm_X10_listed rfl rfl rfl rfl rfl zm_X10_rank rfl (by omega) (ev_X10_rank (by omega) hq) rfl ?_
    rcases ifc H with ⟨hc, H⟩ | ⟨hc, H⟩
    · refine zEv.iteT (L2 := [some (vR (some (10, 0))), some (vI x1), some (vI x2), some (vI q9.1)]) (st2 := []) (h2 := q9.2) zm_X10_listed rfl rfl rfl rfl (decide_eq_true hc) ?_
      obtain ⟨hg, H⟩ := ifg H
      rcases ifc H with ⟨hc, H⟩ | ⟨hc, H⟩
      · refine zEv.iteT (L2 := [some (vR (some (10, 0))), some (vI x1), some (vI x2), some (vI q9.1)]) (st2 := []) (h2 := q9.2) zm_X10_listed rfl hg rfl hg (decide_eq_true hc) ?_
        obtain ⟨hg, H⟩ := ifg H
        obtain ⟨q44, hq, H⟩ := bnd H
        refine zEv.call (k := 106) (as := [vR (some (10, 0)), vI (rI q9.2 22 0 (Int32.toNatClampNeg x2))]) (L2 := [some (vR (some (10, 0))), some (vI x1), some (vI x2), some (vI q9.1)]) (st2 := []) (h2 := q9.2) (v := some (vI q44.1)) (h1 := q44.2) (st3 := [vI q44.1]) zm_X10_listed rfl (and2 (and2 hg).2).2 rfl hg rfl zm_X10_tell rfl (by omega) (ev_X10_tell (by omega) hq) rfl ?_
        obtain ⟨hg, H⟩ := ifg H
        cases H
        exact zEv.ret zm_X10_listed rfl hg rfl hg
      · refine zEv.iteF (L2 := [some (vR (some (10, 0))), some (vI x1), some (vI x2), some (vI q9.1)]) (st2 := []) (h2 := q9.2) zm_X10_listed rfl hg rfl hg (decide_eq_false hc) ?_
        cases H
        exact zEv.ret zm_X10_listed rfl rfl rfl rfl
    · refine zEv.iteF (L2 := [some (vR (some (10, 0))), some (vI x1), some (vI x2), some (vI q9.1)]) (st2 := []) (h2 := q9.2) zm_X10_listed rfl rfl rfl rfl (decide_eq_false hc) ?_
      cases H
      exact zEv.ret zm_X10_listed rfl rfl rfl rfl
  · refine zEv.iteF (L2 := [some (vR (some (10, 0))), some (vI x1), some (vI x2), w3]) (st2 := []) (h2 := h) zm_X10_listed rfl rfl rfl rfl (decide_eq_false hc) ?_
    cases H
    exact zEv.ret zm_X10_listed rfl rfl rfl rfl
def f_X10_rankBoth_39 (h : zM) : Option (Int32 × zM) := ((f_X10_found 1 h).bind fun q41 => (some (q41.1, q41.2)))
set_option maxRecDepth 20000 in
theorem ev_X10_rankBoth_39 {d : Nat} (hd : 6 ≤ d) {w1 : Option zV} {w2 : Option zV} {w3 : Option zV} {w4 : Option zV} {w5 : Option zV} {w6 : Option zV} {h : zM} {r : Int32 × zM} (H : f_X10_rankBoth_39  h = some r) : zEv zmt d 118 39 ([some (vR (some (10, 0))), w1, w2, w3, w4, w5, w6], [], h, true) (some (vI r.1), r.2) := by
  obtain ⟨q41, hq, H⟩ := bnd H
  refine zEv.call (k := 105) (as := [vR (some (10, 0)), vI 1]) (L2 := [some (vR (some (10, 0))), w1, w2, w3, w4, w5, w6]) (st2 := []) (h2 := h) (v := some (vI q41.1)) (h1 := q41.2) (st3 := [vI q41.1]) zm_X10_rankBoth rfl rfl rfl rfl rfl zm_X10_found rfl (by omega) (ev_X10_found (by omega) hq) rfl ?_
  cases H
  exact zEv.ret zm_X10_rankBoth rfl rfl rfl rfl
def f_X10_rankBoth_123 (h : zM) : Option (Int32 × zM) := ((f_X10_found 1 h).bind fun q125 => (some (q125.1, q125.2)))
set_option maxRecDepth 20000 in
theorem ev_X10_rankBoth_123 {d : Nat} (hd : 6 ≤ d) {w1 : Option zV} {w2 : Option zV} {w3 : Option zV} {w4 : Option zV} {w5 : Option zV} {w6 : Option zV} {h : zM} {r : Int32 × zM} (H : f_X10_rankBoth_123  h = some r) : zEv zmt d 118 123 ([some (vR (some (10, 0))), w1, w2, w3, w4, w5, w6], [], h, true) (some (vI r.1), r.2) := by
  obtain ⟨q125, hq, H⟩ := bnd H
  refine zEv.call (k := 105) (as := [vR (some (10, 0)), vI 1]) (L2 := [some (vR (some (10, 0))), w1, w2, w3, w4, w5, w6]) (st2 := []) (h2 := h) (v := some (vI q125.1)) (h1 := q125.2) (st3 := [vI q125.1]) zm_X10_rankBoth rfl rfl rfl rfl rfl zm_X10_found rfl (by omega) (ev_X10_found (by omega) hq) rfl ?_
  cases H
  exact zEv.ret zm_X10_rankBoth rfl rfl rfl rfl
def f_X10_rankBoth (x1 : Int32) (x2 : Int32) (h : zM) : Option (Int32 × zM) := ((f_X10_textAt x1 h).bind fun q2 => ((f_X10_textAt x2 q2.2).bind fun q8 => (if q2.1 = none then (some ((-1), q8.2)) else (if q8.1 = none then (some ((-1), q8.2)) else (if (memN [9] (clR q2.1) && (true && true)) = true then ((f_X8_isMissing q2.1 q8.2).bind fun q25 => (if ¬ q25.1 = 0 then (f_X10_rankBoth_39  q25.2) else (if (memN [9] (clR q8.1) && (true && true)) = true then ((f_X8_isMissing q8.1 q25.2).bind fun q33 => (if q33.1 = 0 then ((f_X7_init (some (7, (cnM q33.2 7))) (nwM q33.2 7 9)).bind fun q49 => ((f_X7_init (some (7, (cnM q49 7))) (nwM q49 7 9)).bind fun q58 => ((f_X5_init (some (5, (cnM q58 5))) q2.1 (nwM q58 5 3)).bind fun q70 => ((f_X0_readAll (some (7, (cnM q33.2 7))) (some (5, (cnM q58 5))) q70).bind fun q73 => (if q73.1 = (-9999) then (some ((-4), q73.2)) else ((f_X5_init (some (5, (cnM q73.2 5))) q8.1 (nwM q73.2 5 3)).bind fun q90 => ((f_X0_readAll (some (7, (cnM q49 7))) (some (5, (cnM q73.2 5))) q90).bind fun q93 => (if ¬ q93.1 = (-9999) then ((f_X10_lacksLaws (some (7, (cnM q33.2 7))) q93.2).bind fun q108 => (if ¬ q108.1 = 0 then (f_X10_rankBoth_123  q108.2) else ((f_X10_lacksLaws (some (7, (cnM q49 7))) q108.2).bind fun q117 => (if q117.1 = 0 then (if (true && (true && (true && (decide (rR q117.2 10 0 5 = (some (4, 0))) && true)))) = true then ((f_X10_fill (some (4, 0)) (some (7, (cnM q33.2 7))) q117.2).bind fun q136 => (if (true && (true && (true && (decide (rR q136 10 0 3 = (some (29, 0))) && (true && (decide (rR q136 10 0 5 = (some (4, 0))) && true)))))) = true then ((f_X4_keepBestOfEach (some (4, 0)) (some (29, 0)) q136).bind fun q147 => (if (true && (true && (true && (decide (rR q147 10 0 6 = (some (4, 1))) && true)))) = true then ((f_X10_fill (some (4, 1)) (some (7, (cnM q49 7))) q147).bind fun q157 => (if (true && (true && (true && (decide (rR q157 10 0 3 = (some (29, 0))) && (true && (decide (rR q157 10 0 6 = (some (4, 1))) && true)))))) = true then ((f_X4_keepBestOfEach (some (4, 1)) (some (29, 0)) q157).bind fun q168 => (some (0, q168))) else none)) else none)) else none)) else none) else (f_X10_rankBoth_123  q117.2))))) else (some ((-4), q93.2)))))))))) else (f_X10_rankBoth_39  q33.2))) else none))) else none)))))
set_option maxRecDepth 20000 in
theorem ev_X10_rankBoth {d : Nat} (hd : 6 ≤ d) {w3 : Option zV} {w4 : Option zV} {w5 : Option zV} {w6 : Option zV} {x1 : Int32} {x2 : Int32} {h : zM} {r : Int32 × zM} (H : f_X10_rankBoth x1 x2 h = some r) : zEv zmt d 118 0 ([some (vR (some (10, 0))), some (vI x1), some (vI x2), w3, w4, w5, w6], [], h, true) (some (vI r.1), r.2) := by
  obtain ⟨q2, hq, H⟩ := bnd H
  refine zEv.call (k := 102) (as := [vR (some (10, 0)), vI x1]) (L2 := [some (vR (some (10, 0))), some (vI x1), some (vI x2), w3, w4, w5, w6]) (st2 := []) (h2 := h) (v := some (vR q2.1)) (h1 := q2.2) (st3 := [vR q2.1]) zm_X10_rankBoth rfl rfl rfl rfl rfl zm_X10_textAt rfl (by omega) (ev_X10_textAt (by omega) hq) rfl ?_
  obtain ⟨q8, hq, H⟩ := bnd H
  refine zEv.call (k := 102) (as := [vR (some (10, 0)), vI x2]) (L2 := [some (vR (some (10, 0))), some (vI x1), some (vI x2), some (vR q2.1), w4, w5, w6]) (st2 := []) (h2 := q2.2) (v := some (vR q8.1)) (h1 := q8.2) (st3 := [vR q8.1]) zm_X10_rankBoth rfl rfl rfl rfl rfl zm_X10_textAt rfl (by omega) (ev_X10_textAt (by omega) hq) rfl ?_
  rcases ifc H with ⟨hc, H⟩ | ⟨hc, H⟩
  · refine zEv.iteT (L2 := [some (vR (some (10, 0))), some (vI x1), some (vI x2), some (vR q2.1), some (vR q8.1), w5, w6]) (st2 := []) (h2 := q8.2) zm_X10_rankBoth rfl rfl rfl rfl (nnT hc) ?_
    cases H
    exact zEv.ret zm_X10_rankBoth rfl rfl rfl rfl
  · refine zEv.iteF (L2 := [some (vR (some (10, 0))), some (vI x1), some (vI x2), some (vR q2.1), some (vR q8.1), w5, w6]) (st2 := []) (h2 := q8.2) zm_X10_rankBoth rfl rfl rfl rfl (nnF hc) ?_
    rcases ifc H with ⟨hc, H⟩ | ⟨hc, H⟩
    · refine zEv.iteT (L2 := [some (vR (some (10, 0))), some (vI x1), some (vI x2), some (vR q2.1), some (vR q8.1), w5, w6]) (st2 := []) (h2 := q8.2) zm_X10_rankBoth rfl rfl rfl rfl (nnT hc) ?_
      cases H
      exact zEv.ret zm_X10_rankBoth rfl rfl rfl rfl
    · refine zEv.iteF (L2 := [some (vR (some (10, 0))), some (vI x1), some (vI x2), some (vR q2.1), some (vR q8.1), w5, w6]) (st2 := []) (h2 := q8.2) zm_X10_rankBoth rfl rfl rfl rfl (nnF hc) ?_
      obtain ⟨hg, H⟩ := ifg H
      obtain ⟨q25, hq, H⟩ := bnd H
      refine zEv.call (k := 49) (as := [vR q2.1]) (L2 := [some (vR (some (10, 0))), some (vI x1), some (vI x2), some (vR q2.1), some (vR q8.1), w5, w6]) (st2 := []) (h2 := q8.2) (v := some (vI q25.1)) (h1 := q25.2) (st3 := [vI q25.1]) zm_X10_rankBoth rfl (and2 (and2 hg).2).2 rfl hg rfl zm_X8_isMissing rfl (by omega) (ev_X8_isMissing (by omega) hq) rfl ?_
      rcases ifc H with ⟨hc, H⟩ | ⟨hc, H⟩
      · refine zEv.iteT (L2 := [some (vR (some (10, 0))), some (vI x1), some (vI x2), some (vR q2.1), some (vR q8.1), w5, w6]) (st2 := []) (h2 := q25.2) zm_X10_rankBoth rfl rfl rfl rfl (decide_eq_true hc) ?_
        exact ev_X10_rankBoth_39 (by omega)  H
      · refine zEv.iteF (L2 := [some (vR (some (10, 0))), some (vI x1), some (vI x2), some (vR q2.1), some (vR q8.1), w5, w6]) (st2 := []) (h2 := q25.2) zm_X10_rankBoth rfl rfl rfl rfl (decide_eq_false hc) ?_
        obtain ⟨hg, H⟩ := ifg H
        obtain ⟨q33, hq, H⟩ := bnd H
        refine zEv.call (k := 49) (as := [vR q8.1]) (L2 := [some (vR (some (10, 0))), some (vI x1), some (vI x2), some (vR q2.1), some (vR q8.1), w5, w6]) (st2 := []) (h2 := q25.2) (v := some (vI q33.1)) (h1 := q33.2) (st3 := [vI q33.1]) zm_X10_rankBoth rfl (and2 (and2 hg).2).2 rfl hg rfl zm_X8_isMissing rfl (by omega) (ev_X8_isMissing (by omega) hq) rfl ?_
        rcases ifc H with ⟨hc, H⟩ | ⟨hc, H⟩
        · refine zEv.iteT (L2 := [some (vR (some (10, 0))), some (vI x1), some (vI x2), some (vR q2.1), some (vR q8.1), w5, w6]) (st2 := []) (h2 := q33.2) zm_X10_rankBoth rfl rfl rfl rfl (decide_eq_true hc) ?_
          obtain ⟨q49, hq, H⟩ := bnd H
          refine zEv.call (k := 40) (as := [vR (some (7, (cnM q33.2 7)))]) (L2 := [some (vR (some (10, 0))), some (vI x1), some (vI x2), some (vR q2.1), some (vR q8.1), w5, w6]) (st2 := [vR (some (7, (cnM q33.2 7)))]) (h2 := (nwM q33.2 7 9)) (v := none) (h1 := q49) (st3 := [vR (some (7, (cnM q33.2 7)))]) zm_X10_rankBoth rfl rfl rfl rfl rfl zm_X7_init rfl (by omega) (ev_X7_init (by omega) hq) rfl ?_
          obtain ⟨q58, hq, H⟩ := bnd H
          refine zEv.call (k := 40) (as := [vR (some (7, (cnM q49 7)))]) (L2 := [some (vR (some (10, 0))), some (vI x1), some (vI x2), some (vR q2.1), some (vR q8.1), some (vR (some (7, (cnM q33.2 7)))), w6]) (st2 := [vR (some (7, (cnM q49 7)))]) (h2 := (nwM q49 7 9)) (v := none) (h1 := q58) (st3 := [vR (some (7, (cnM q49 7)))]) zm_X10_rankBoth rfl rfl rfl rfl rfl zm_X7_init rfl (by omega) (ev_X7_init (by omega) hq) rfl ?_
          obtain ⟨q70, hq, H⟩ := bnd H
          refine zEv.call (k := 30) (as := [vR (some (5, (cnM q58 5))), vR q2.1]) (L2 := [some (vR (some (10, 0))), some (vI x1), some (vI x2), some (vR q2.1), some (vR q8.1), some (vR (some (7, (cnM q33.2 7)))), some (vR (some (7, (cnM q49 7))))]) (st2 := [vR (some (5, (cnM q58 5))), vR (some (7, (cnM q33.2 7)))]) (h2 := (nwM q58 5 3)) (v := none) (h1 := q70) (st3 := [vR (some (5, (cnM q58 5))), vR (some (7, (cnM q33.2 7)))]) zm_X10_rankBoth rfl rfl rfl rfl rfl zm_X5_init rfl (by omega) (ev_X5_init (by omega) hq) rfl ?_
          obtain ⟨q73, hq, H⟩ := bnd H
          refine zEv.call (k := 4) (as := [vR (some (7, (cnM q33.2 7))), vR (some (5, (cnM q58 5)))]) (L2 := [some (vR (some (10, 0))), some (vI x1), some (vI x2), some (vR q2.1), some (vR q8.1), some (vR (some (7, (cnM q33.2 7)))), some (vR (some (7, (cnM q49 7))))]) (st2 := []) (h2 := q70) (v := some (vI q73.1)) (h1 := q73.2) (st3 := [vI q73.1]) zm_X10_rankBoth rfl rfl rfl rfl rfl zm_X0_readAll rfl (by omega) (ev_X0_readAll (by omega) hq) rfl ?_
          rcases ifc H with ⟨hc, H⟩ | ⟨hc, H⟩
          · refine zEv.iteT (L2 := [some (vR (some (10, 0))), some (vI x1), some (vI x2), some (vR q2.1), some (vR q8.1), some (vR (some (7, (cnM q33.2 7)))), some (vR (some (7, (cnM q49 7))))]) (st2 := []) (h2 := q73.2) zm_X10_rankBoth rfl rfl rfl rfl (decide_eq_true hc) ?_
            cases H
            exact zEv.ret zm_X10_rankBoth rfl rfl rfl rfl
          · refine zEv.iteF (L2 := [some (vR (some (10, 0))), some (vI x1), some (vI x2), some (vR q2.1), some (vR q8.1), some (vR (some (7, (cnM q33.2 7)))), some (vR (some (7, (cnM q49 7))))]) (st2 := []) (h2 := q73.2) zm_X10_rankBoth rfl rfl rfl rfl (decide_eq_false hc) ?_
            obtain ⟨q90, hq, H⟩ := bnd H
            refine zEv.call (k := 30) (as := [vR (some (5, (cnM q73.2 5))), vR q8.1]) (L2 := [some (vR (some (10, 0))), some (vI x1), some (vI x2), some (vR q2.1), some (vR q8.1), some (vR (some (7, (cnM q33.2 7)))), some (vR (some (7, (cnM q49 7))))]) (st2 := [vR (some (5, (cnM q73.2 5))), vR (some (7, (cnM q49 7)))]) (h2 := (nwM q73.2 5 3)) (v := none) (h1 := q90) (st3 := [vR (some (5, (cnM q73.2 5))), vR (some (7, (cnM q49 7)))]) zm_X10_rankBoth rfl rfl rfl rfl rfl zm_X5_init rfl (by omega) (ev_X5_init (by omega) hq) rfl ?_
            obtain ⟨q93, hq, H⟩ := bnd H
            refine zEv.call (k := 4) (as := [vR (some (7, (cnM q49 7))), vR (some (5, (cnM q73.2 5)))]) (L2 := [some (vR (some (10, 0))), some (vI x1), some (vI x2), some (vR q2.1), some (vR q8.1), some (vR (some (7, (cnM q33.2 7)))), some (vR (some (7, (cnM q49 7))))]) (st2 := []) (h2 := q90) (v := some (vI q93.1)) (h1 := q93.2) (st3 := [vI q93.1]) zm_X10_rankBoth rfl rfl rfl rfl rfl zm_X0_readAll rfl (by omega) (ev_X0_readAll (by omega) hq) rfl ?_
            rcases ifc H with ⟨hc, H⟩ | ⟨hc, H⟩
            · refine zEv.iteT (L2 := [some (vR (some (10, 0))), some (vI x1), some (vI x2), some (vR q2.1), some (vR q8.1), some (vR (some (7, (cnM q33.2 7)))), some (vR (some (7, (cnM q49 7))))]) (st2 := []) (h2 := q93.2) zm_X10_rankBoth rfl rfl rfl rfl (decide_eq_true hc) ?_
              obtain ⟨q108, hq, H⟩ := bnd H
              refine zEv.call (k := 119) (as := [vR (some (10, 0)), vR (some (7, (cnM q33.2 7)))]) (L2 := [some (vR (some (10, 0))), some (vI x1), some (vI x2), some (vR q2.1), some (vR q8.1), some (vR (some (7, (cnM q33.2 7)))), some (vR (some (7, (cnM q49 7))))]) (st2 := []) (h2 := q93.2) (v := some (vI q108.1)) (h1 := q108.2) (st3 := [vI q108.1]) zm_X10_rankBoth rfl rfl rfl rfl rfl zm_X10_lacksLaws rfl (by omega) (ev_X10_lacksLaws (by omega) hq) rfl ?_
              rcases ifc H with ⟨hc, H⟩ | ⟨hc, H⟩
              · refine zEv.iteT (L2 := [some (vR (some (10, 0))), some (vI x1), some (vI x2), some (vR q2.1), some (vR q8.1), some (vR (some (7, (cnM q33.2 7)))), some (vR (some (7, (cnM q49 7))))]) (st2 := []) (h2 := q108.2) zm_X10_rankBoth rfl rfl rfl rfl (decide_eq_true hc) ?_
                exact ev_X10_rankBoth_123 (by omega)  H
              · refine zEv.iteF (L2 := [some (vR (some (10, 0))), some (vI x1), some (vI x2), some (vR q2.1), some (vR q8.1), some (vR (some (7, (cnM q33.2 7)))), some (vR (some (7, (cnM q49 7))))]) (st2 := []) (h2 := q108.2) zm_X10_rankBoth rfl rfl rfl rfl (decide_eq_false hc) ?_
                obtain ⟨q117, hq, H⟩ := bnd H
                refine zEv.call (k := 119) (as := [vR (some (10, 0)), vR (some (7, (cnM q49 7)))]) (L2 := [some (vR (some (10, 0))), some (vI x1), some (vI x2), some (vR q2.1), some (vR q8.1), some (vR (some (7, (cnM q33.2 7)))), some (vR (some (7, (cnM q49 7))))]) (st2 := []) (h2 := q108.2) (v := some (vI q117.1)) (h1 := q117.2) (st3 := [vI q117.1]) zm_X10_rankBoth rfl rfl rfl rfl rfl zm_X10_lacksLaws rfl (by omega) (ev_X10_lacksLaws (by omega) hq) rfl ?_
                rcases ifc H with ⟨hc, H⟩ | ⟨hc, H⟩
                · refine zEv.iteT (L2 := [some (vR (some (10, 0))), some (vI x1), some (vI x2), some (vR q2.1), some (vR q8.1), some (vR (some (7, (cnM q33.2 7)))), some (vR (some (7, (cnM q49 7))))]) (st2 := []) (h2 := q117.2) zm_X10_rankBoth rfl rfl rfl rfl (decide_eq_true hc) ?_
                  obtain ⟨hg, H⟩ := ifg H
                  obtain ⟨q136, hq, H⟩ := bnd H
                  refine zEv.call (k := 120) (as := [vR (some (10, 0)), vR (some (4, 0)), vR (some (7, (cnM q33.2 7)))]) (L2 := [some (vR (some (10, 0))), some (vI x1), some (vI x2), some (vR q2.1), some (vR q8.1), some (vR (some (7, (cnM q33.2 7)))), some (vR (some (7, (cnM q49 7))))]) (st2 := []) (h2 := q117.2) (v := none) (h1 := q136) (st3 := []) zm_X10_rankBoth rfl (and2 (and2 hg).2).2 rfl hg rfl zm_X10_fill rfl (by omega) (ev_X10_fill (by omega) hq) rfl ?_
                  obtain ⟨hg, H⟩ := ifg H
                  obtain ⟨q147, hq, H⟩ := bnd H
                  refine zEv.call (k := 29) (as := [vR (some (4, 0)), vR (some (29, 0))]) (L2 := [some (vR (some (10, 0))), some (vI x1), some (vI x2), some (vR q2.1), some (vR q8.1), some (vR (some (7, (cnM q33.2 7)))), some (vR (some (7, (cnM q49 7))))]) (st2 := []) (h2 := q136) (v := none) (h1 := q147) (st3 := []) zm_X10_rankBoth rfl (and2 (and2 hg).2).2 rfl hg rfl zm_X4_keepBestOfEach rfl (by omega) (ev_X4_keepBestOfEach (by omega) hq) rfl ?_
                  obtain ⟨hg, H⟩ := ifg H
                  obtain ⟨q157, hq, H⟩ := bnd H
                  refine zEv.call (k := 120) (as := [vR (some (10, 0)), vR (some (4, 1)), vR (some (7, (cnM q49 7)))]) (L2 := [some (vR (some (10, 0))), some (vI x1), some (vI x2), some (vR q2.1), some (vR q8.1), some (vR (some (7, (cnM q33.2 7)))), some (vR (some (7, (cnM q49 7))))]) (st2 := []) (h2 := q147) (v := none) (h1 := q157) (st3 := []) zm_X10_rankBoth rfl (and2 (and2 hg).2).2 rfl hg rfl zm_X10_fill rfl (by omega) (ev_X10_fill (by omega) hq) rfl ?_
                  obtain ⟨hg, H⟩ := ifg H
                  obtain ⟨q168, hq, H⟩ := bnd H
                  refine zEv.call (k := 29) (as := [vR (some (4, 1)), vR (some (29, 0))]) (L2 := [some (vR (some (10, 0))), some (vI x1), some (vI x2), some (vR q2.1), some (vR q8.1), some (vR (some (7, (cnM q33.2 7)))), some (vR (some (7, (cnM q49 7))))]) (st2 := []) (h2 := q157) (v := none) (h1 := q168) (st3 := []) zm_X10_rankBoth rfl (and2 (and2 hg).2).2 rfl hg rfl zm_X4_keepBestOfEach rfl (by omega) (ev_X4_keepBestOfEach (by omega) hq) rfl ?_
                  cases H
                  exact zEv.ret zm_X10_rankBoth rfl rfl rfl rfl
                · refine zEv.iteF (L2 := [some (vR (some (10, 0))), some (vI x1), some (vI x2), some (vR q2.1), some (vR q8.1), some (vR (some (7, (cnM q33.2 7)))), some (vR (some (7, (cnM q49 7))))]) (st2 := []) (h2 := q117.2) zm_X10_rankBoth rfl rfl rfl rfl (decide_eq_false hc) ?_
                  exact ev_X10_rankBoth_123 (by omega)  H
            · refine zEv.iteF (L2 := [some (vR (some (10, 0))), some (vI x1), some (vI x2), some (vR q2.1), some (vR q8.1), some (vR (some (7, (cnM q33.2 7)))), some (vR (some (7, (cnM q49 7))))]) (st2 := []) (h2 := q93.2) zm_X10_rankBoth rfl rfl rfl rfl (decide_eq_false hc) ?_
              cases H
              exact zEv.ret zm_X10_rankBoth rfl rfl rfl rfl
        · refine zEv.iteF (L2 := [some (vR (some (10, 0))), some (vI x1), some (vI x2), some (vR q2.1), some (vR q8.1), w5, w6]) (st2 := []) (h2 := q33.2) zm_X10_rankBoth rfl rfl rfl rfl (decide_eq_false hc) ?_
          exact ev_X10_rankBoth_39 (by omega)  H
def f_X10_gains_58 (K19 : Int32 → Int32 → zM → Option (Int32 × zM)) (x4 : Int32) (x5 : Int32) (h : zM) : Option (Int32 × zM) := (K19 x4 (x5 + 1) h)
set_option maxRecDepth 20000 in
theorem ev_X10_gains_58 {d : Nat} (hd : 7 ≤ d) {K19 : Int32 → Int32 → zM → Option (Int32 × zM)} (hK19 : ∀ {w1 : Option zV} {w2 : Option zV} {w3 : Option zV} {x4 : Int32} {x5 : Int32} {h : zM} {r : Int32 × zM}, K19 x4 x5 h = some r → zEv zmt d 88 19 ([some (vR (some (10, 0))), w1, w2, w3, some (vI x4), some (vI x5)], [], h, true) (some (vI r.1), r.2)) {w1 : Option zV} {w2 : Option zV} {w3 : Option zV} {x4 : Int32} {x5 : Int32} {h : zM} {r : Int32 × zM} (H : f_X10_gains_58 K19 x4 x5 h = some r) : zEv zmt d 88 58 ([some (vR (some (10, 0))), w1, w2, w3, some (vI x4), some (vI x5)], [], h, true) (some (vI r.1), r.2) := by
  refine zEv.loc (L2 := [some (vR (some (10, 0))), w1, w2, w3, some (vI x4), some (vI (x5 + 1))]) (st2 := []) (h2 := h) zm_X10_gains rfl rfl rfl rfl (fun h => (nomatch h)) ?_
  exact hK19 H
def f_X10_gains_19 : Nat → Int32 → Int32 → zM → Option (Int32 × zM)
  | 0 => fun _ _ _ => none
  | k + 1 => fun x4 x5 h => (if 12 ≤ x5 then ((f_X10_tell x4 h).bind fun q67 => ((f_J6_bitCount_0f7a4 x4 q67.2).bind fun q73 => (some (q73.1, q73.2)))) else (if (true && (ixOk 12 x5 && (true && (decide (rR h 4 1 2 = (some (23, 1))) && (true && (decide (rR h 10 0 6 = (some (4, 1))) && (true && (ixOk 12 x5 && (true && (decide (rR h 4 0 2 = (some (23, 0))) && (true && (decide (rR h 10 0 5 = (some (4, 0))) && true)))))))))))) = true then (if (rI h 23 1 (Int32.toNatClampNeg x5)) ≤ (rI h 23 0 (Int32.toNatClampNeg x5)) then (f_X10_gains_58 (f_X10_gains_19 k) x4 x5 h) else (f_X10_gains_58 (f_X10_gains_19 k) (x4 ||| (1 <<< (x5 &&& 31))) x5 h)) else none))
set_option maxRecDepth 20000 in
theorem ev_X10_gains_19 {d : Nat} (hd : 7 ≤ d) : ∀ (k : Nat) {w1 : Option zV} {w2 : Option zV} {w3 : Option zV} {x4 : Int32} {x5 : Int32} {h : zM} {r : Int32 × zM}, f_X10_gains_19 k x4 x5 h = some r → zEv zmt d 88 19 ([some (vR (some (10, 0))), w1, w2, w3, some (vI x4), some (vI x5)], [], h, true) (some (vI r.1), r.2) := by
  intro k
  induction k with
  | zero => intro w1 w2 w3 x4 x5 h r H; cases H
  | succ k ih =>
    intro w1 w2 w3 x4 x5 h r H
    rcases ifc H with ⟨hc, H⟩ | ⟨hc, H⟩
    · refine zEv.iteT (L2 := [some (vR (some (10, 0))), w1, w2, w3, some (vI x4), some (vI x5)]) (st2 := []) (h2 := h) zm_X10_gains rfl rfl rfl rfl (decide_eq_true hc) ?_
      obtain ⟨q67, hq, H⟩ := bnd H
      refine zEv.call (k := 106) (as := [vR (some (10, 0)), vI x4]) (L2 := [some (vR (some (10, 0))), w1, w2, w3, some (vI x4), some (vI x5)]) (st2 := []) (h2 := h) (v := some (vI q67.1)) (h1 := q67.2) (st3 := [vI q67.1]) zm_X10_gains rfl rfl rfl rfl rfl zm_X10_tell rfl (by omega) (ev_X10_tell (by omega) hq) rfl ?_
      obtain ⟨q73, hq, H⟩ := bnd H
      refine zEv.call (k := 2) (as := [vI x4]) (L2 := [some (vR (some (10, 0))), w1, w2, w3, some (vI x4), some (vI x5)]) (st2 := []) (h2 := q67.2) (v := some (vI q73.1)) (h1 := q73.2) (st3 := [vI q73.1]) zm_X10_gains rfl rfl rfl rfl rfl zm_J6_bitCount_0f7a4 rfl (by omega) (ev_J6_bitCount_0f7a4 (by omega) hq) rfl ?_
      cases H
      exact zEv.ret zm_X10_gains rfl rfl rfl rfl
    · refine zEv.iteF (L2 := [some (vR (some (10, 0))), w1, w2, w3, some (vI x4), some (vI x5)]) (st2 := []) (h2 := h) zm_X10_gains rfl rfl rfl rfl (decide_eq_false hc) ?_
      obtain ⟨hg, H⟩ := ifg H
      rcases ifc H with ⟨hc, H⟩ | ⟨hc, H⟩
      · refine zEv.iteT (L2 := [some (vR (some (10, 0))), w1, w2, w3, some (vI x4), some (vI x5)]) (st2 := []) (h2 := h) zm_X10_gains rfl hg rfl hg (decide_eq_true hc) ?_
        exact ev_X10_gains_58 (by omega) ih H
      · refine zEv.iteF (L2 := [some (vR (some (10, 0))), w1, w2, w3, some (vI x4), some (vI x5)]) (st2 := []) (h2 := h) zm_X10_gains rfl hg rfl hg (decide_eq_false hc) ?_
        refine zEv.loc (L2 := [some (vR (some (10, 0))), w1, w2, none, some (vI (x4 ||| (1 <<< (x5 &&& 31)))), some (vI x5)]) (st2 := []) (h2 := h) zm_X10_gains rfl rfl rfl rfl (fun h => (nomatch h)) ?_
        exact ev_X10_gains_58 (by omega) ih H
def f_X10_gains (x1 : Int32) (x2 : Int32) (h : zM) : Option (Int32 × zM) := ((f_X10_rankBoth x1 x2 h).bind fun q3 => (if q3.1 = 0 then (f_X10_gains_19  1000 0 0 q3.2) else (some (q3.1, q3.2))))
set_option maxRecDepth 20000 in
theorem ev_X10_gains {d : Nat} (hd : 7 ≤ d) {w3 : Option zV} {w4 : Option zV} {w5 : Option zV} {x1 : Int32} {x2 : Int32} {h : zM} {r : Int32 × zM} (H : f_X10_gains x1 x2 h = some r) : zEv zmt d 88 0 ([some (vR (some (10, 0))), some (vI x1), some (vI x2), w3, w4, w5], [], h, true) (some (vI r.1), r.2) := by
  obtain ⟨q3, hq, H⟩ := bnd H
  refine zEv.call (k := 118) (as := [vR (some (10, 0)), vI x1, vI x2]) (L2 := [some (vR (some (10, 0))), some (vI x1), some (vI x2), w3, w4, w5]) (st2 := []) (h2 := h) (v := some (vI q3.1)) (h1 := q3.2) (st3 := [vI q3.1]) zm_X10_gains rfl rfl rfl rfl rfl zm_X10_rankBoth rfl (by omega) (ev_X10_rankBoth (by omega) hq) rfl ?_
  rcases ifc H with ⟨hc, H⟩ | ⟨hc, H⟩
  · refine zEv.iteT (L2 := [some (vR (some (10, 0))), some (vI x1), none, some (vI q3.1), w4, w5]) (st2 := []) (h2 := q3.2) zm_X10_gains rfl rfl rfl rfl (decide_eq_true hc) ?_
    refine zEv.loc (L2 := [some (vR (some (10, 0))), some (vI x1), none, none, some (vI 0), some (vI 0)]) (st2 := []) (h2 := q3.2) zm_X10_gains rfl rfl rfl rfl (fun h => (nomatch h)) ?_
    exact ev_X10_gains_19 (by omega)  1000 H
  · refine zEv.iteF (L2 := [some (vR (some (10, 0))), some (vI x1), none, some (vI q3.1), w4, w5]) (st2 := []) (h2 := q3.2) zm_X10_gains rfl rfl rfl rfl (decide_eq_false hc) ?_
    cases H
    exact zEv.ret zm_X10_gains rfl rfl rfl rfl
def f_X10_far_49 (h : zM) : Option (Int32 × zM) := ((f_X10_found 4 h).bind fun q51 => (some (q51.1, q51.2)))
set_option maxRecDepth 20000 in
theorem ev_X10_far_49 {d : Nat} (hd : 7 ≤ d) {w1 : Option zV} {w2 : Option zV} {w3 : Option zV} {h : zM} {r : Int32 × zM} (H : f_X10_far_49  h = some r) : zEv zmt d 89 49 ([some (vR (some (10, 0))), w1, w2, w3], [], h, true) (some (vI r.1), r.2) := by
  obtain ⟨q51, hq, H⟩ := bnd H
  refine zEv.call (k := 105) (as := [vR (some (10, 0)), vI 4]) (L2 := [some (vR (some (10, 0))), w1, w2, w3]) (st2 := []) (h2 := h) (v := some (vI q51.1)) (h1 := q51.2) (st3 := [vI q51.1]) zm_X10_far rfl rfl rfl rfl rfl zm_X10_found rfl (by omega) (ev_X10_found (by omega) hq) rfl ?_
  cases H
  exact zEv.ret zm_X10_far rfl rfl rfl rfl
def f_X10_far (x1 : Int32) (h : zM) : Option (Int32 × zM) := ((f_X10_rank x1 1 h).bind fun q3 => (if q3.1 = 0 then (if (true && (true && (true && (decide (rR q3.2 10 0 5 = (some (4, 0))) && true)))) = true then (if (rI q3.2 4 0 3) < 3 then (f_X10_far_49  q3.2) else (if (true && (ixOk 40 ((rI q3.2 4 0 3) - 1) && (true && (decide (rR q3.2 4 0 1 = (some (22, 0))) && (true && (decide (rR q3.2 10 0 5 = (some (4, 0))) && (true && (true && (true && (decide (rR q3.2 4 0 1 = (some (22, 0))) && (true && (decide (rR q3.2 10 0 5 = (some (4, 0))) && true)))))))))))) = true then (if ¬ (rI q3.2 22 0 (Int32.toNatClampNeg 1)) = (rI q3.2 22 0 (Int32.toNatClampNeg ((rI q3.2 4 0 3) - 1))) then (if (true && (true && (true && (ixOk 40 ((rI q3.2 4 0 3) - 1) && (true && (decide (rR q3.2 4 0 1 = (some (22, 0))) && (true && (decide (rR q3.2 10 0 5 = (some (4, 0))) && (true && (true && (true && (decide (rR q3.2 4 0 1 = (some (22, 0))) && (true && (decide (rR q3.2 10 0 5 = (some (4, 0))) && (true && (true && (true && (decide (rR q3.2 4 0 1 = (some (22, 0))) && (true && (decide (rR q3.2 10 0 5 = (some (4, 0))) && (true && (true && (true && (decide (rR q3.2 4 0 1 = (some (22, 0))) && (true && (decide (rR q3.2 10 0 5 = (some (4, 0))) && true)))))))))))))))))))))))))) = true then ((f_X10_tellFraction (Int32.toInt64 ((rI q3.2 22 0 (Int32.toNatClampNeg 0)) - (rI q3.2 22 0 (Int32.toNatClampNeg 1)))) (Int32.toInt64 ((rI q3.2 22 0 (Int32.toNatClampNeg 1)) - (rI q3.2 22 0 (Int32.toNatClampNeg ((rI q3.2 4 0 3) - 1))))) q3.2).bind fun q98 => (some ((rI q3.2 4 0 3), q98))) else none) else (f_X10_far_49  q3.2)) else none)) else none) else (some (q3.1, q3.2))))
set_option maxRecDepth 20000 in
theorem ev_X10_far {d : Nat} (hd : 7 ≤ d) {w2 : Option zV} {w3 : Option zV} {x1 : Int32} {h : zM} {r : Int32 × zM} (H : f_X10_far x1 h = some r) : zEv zmt d 89 0 ([some (vR (some (10, 0))), some (vI x1), w2, w3], [], h, true) (some (vI r.1), r.2) := by
  obtain ⟨q3, hq, H⟩ := bnd H
  refine zEv.call (k := 117) (as := [vR (some (10, 0)), vI x1, vI 1]) (L2 := [some (vR (some (10, 0))), some (vI x1), w2, w3]) (st2 := []) (h2 := h) (v := some (vI q3.1)) (h1 := q3.2) (st3 := [vI q3.1]) zm_X10_far rfl rfl rfl rfl rfl zm_X10_rank rfl (by omega) (ev_X10_rank (by omega) hq) rfl ?_
  rcases ifc H with ⟨hc, H⟩ | ⟨hc, H⟩
  · refine zEv.iteT (L2 := [some (vR (some (10, 0))), none, some (vI q3.1), w3]) (st2 := []) (h2 := q3.2) zm_X10_far rfl rfl rfl rfl (decide_eq_true hc) ?_
    obtain ⟨hg, H⟩ := ifg H
    rcases ifc H with ⟨hc, H⟩ | ⟨hc, H⟩
    · refine zEv.iteT (L2 := [some (vR (some (10, 0))), none, none, some (vI (rI q3.2 4 0 3))]) (st2 := []) (h2 := q3.2) zm_X10_far rfl hg rfl hg (decide_eq_true hc) ?_
      exact ev_X10_far_49 (by omega)  H
    · refine zEv.iteF (L2 := [some (vR (some (10, 0))), none, none, some (vI (rI q3.2 4 0 3))]) (st2 := []) (h2 := q3.2) zm_X10_far rfl hg rfl hg (decide_eq_false hc) ?_
      obtain ⟨hg, H⟩ := ifg H
      rcases ifc H with ⟨hc, H⟩ | ⟨hc, H⟩
      · refine zEv.iteT (L2 := [some (vR (some (10, 0))), none, none, some (vI (rI q3.2 4 0 3))]) (st2 := []) (h2 := q3.2) zm_X10_far rfl hg rfl hg (decide_eq_true hc) ?_
        obtain ⟨hg, H⟩ := ifg H
        obtain ⟨q98, hq, H⟩ := bnd H
        refine zEv.call (k := 107) (as := [vR (some (10, 0)), vL (Int32.toInt64 ((rI q3.2 22 0 (Int32.toNatClampNeg 0)) - (rI q3.2 22 0 (Int32.toNatClampNeg 1)))), vL (Int32.toInt64 ((rI q3.2 22 0 (Int32.toNatClampNeg 1)) - (rI q3.2 22 0 (Int32.toNatClampNeg ((rI q3.2 4 0 3) - 1)))))]) (L2 := [some (vR (some (10, 0))), none, none, some (vI (rI q3.2 4 0 3))]) (st2 := []) (h2 := q3.2) (v := none) (h1 := q98) (st3 := []) zm_X10_far rfl (and2 (and2 hg).2).2 rfl hg rfl zm_X10_tellFraction rfl (by omega) (ev_X10_tellFraction (by omega) hq) rfl ?_
        cases H
        exact zEv.ret zm_X10_far rfl rfl rfl rfl
      · refine zEv.iteF (L2 := [some (vR (some (10, 0))), none, none, some (vI (rI q3.2 4 0 3))]) (st2 := []) (h2 := q3.2) zm_X10_far rfl hg rfl hg (decide_eq_false hc) ?_
        exact ev_X10_far_49 (by omega)  H
  · refine zEv.iteF (L2 := [some (vR (some (10, 0))), none, some (vI q3.1), w3]) (st2 := []) (h2 := q3.2) zm_X10_far rfl rfl rfl rfl (decide_eq_false hc) ?_
    cases H
    exact zEv.ret zm_X10_far rfl rfl rfl rfl
def f_X10_fall (x1 : Int32) (x2 : Int32) (h : zM) : Option (Int32 × zM) := ((f_X10_within x1 0 9999 h).bind fun q5 => (if q5.1 = 0 then (some ((-1), q5.2)) else ((f_X10_within x2 1 9999 q5.2).bind fun q16 => (if ¬ q16.1 = 0 then ((f_X10_tellFraction (Int32.toInt64 x2) (Int32.toInt64 (x1 + x2)) q16.2).bind fun q31 => (some (1, q31))) else (some ((-1), q16.2))))))
set_option maxRecDepth 20000 in
theorem ev_X10_fall {d : Nat} (hd : 2 ≤ d) {x1 : Int32} {x2 : Int32} {h : zM} {r : Int32 × zM} (H : f_X10_fall x1 x2 h = some r) : zEv zmt d 90 0 ([some (vR (some (10, 0))), some (vI x1), some (vI x2)], [], h, true) (some (vI r.1), r.2) := by
  obtain ⟨q5, hq, H⟩ := bnd H
  refine zEv.call (k := 100) (as := [vI x1, vI 0, vI 9999]) (L2 := [some (vR (some (10, 0))), some (vI x1), some (vI x2)]) (st2 := []) (h2 := h) (v := some (vI q5.1)) (h1 := q5.2) (st3 := [vI q5.1]) zm_X10_fall rfl rfl rfl rfl rfl zm_X10_within rfl (by omega) (ev_X10_within (by omega) hq) rfl ?_
  rcases ifc H with ⟨hc, H⟩ | ⟨hc, H⟩
  · refine zEv.iteT (L2 := [some (vR (some (10, 0))), some (vI x1), some (vI x2)]) (st2 := []) (h2 := q5.2) zm_X10_fall rfl rfl rfl rfl (decide_eq_true hc) ?_
    cases H
    exact zEv.ret zm_X10_fall rfl rfl rfl rfl
  · refine zEv.iteF (L2 := [some (vR (some (10, 0))), some (vI x1), some (vI x2)]) (st2 := []) (h2 := q5.2) zm_X10_fall rfl rfl rfl rfl (decide_eq_false hc) ?_
    obtain ⟨q16, hq, H⟩ := bnd H
    refine zEv.call (k := 100) (as := [vI x2, vI 1, vI 9999]) (L2 := [some (vR (some (10, 0))), some (vI x1), some (vI x2)]) (st2 := []) (h2 := q5.2) (v := some (vI q16.1)) (h1 := q16.2) (st3 := [vI q16.1]) zm_X10_fall rfl rfl rfl rfl rfl zm_X10_within rfl (by omega) (ev_X10_within (by omega) hq) rfl ?_
    rcases ifc H with ⟨hc, H⟩ | ⟨hc, H⟩
    · refine zEv.iteT (L2 := [some (vR (some (10, 0))), some (vI x1), some (vI x2)]) (st2 := []) (h2 := q16.2) zm_X10_fall rfl rfl rfl rfl (decide_eq_true hc) ?_
      obtain ⟨q31, hq, H⟩ := bnd H
      refine zEv.call (k := 107) (as := [vR (some (10, 0)), vL (Int32.toInt64 x2), vL (Int32.toInt64 (x1 + x2))]) (L2 := [some (vR (some (10, 0))), some (vI x1), some (vI x2)]) (st2 := []) (h2 := q16.2) (v := none) (h1 := q31) (st3 := []) zm_X10_fall rfl rfl rfl rfl rfl zm_X10_tellFraction rfl (by omega) (ev_X10_tellFraction (by omega) hq) rfl ?_
      cases H
      exact zEv.ret zm_X10_fall rfl rfl rfl rfl
    · refine zEv.iteF (L2 := [some (vR (some (10, 0))), some (vI x1), some (vI x2)]) (st2 := []) (h2 := q16.2) zm_X10_fall rfl rfl rfl rfl (decide_eq_false hc) ?_
      cases H
      exact zEv.ret zm_X10_fall rfl rfl rfl rfl
def f_X10_tellOddsOfChoice_6 : Nat → Int32 → Int32 → Int32 → Int64 → Int32 → zM → Option (zM)
  | 0 => fun _ _ _ _ _ _ => none
  | k + 1 => fun x2 x3 x4 x5 x7 h => (if x2 < x7 then ((f_X10_choose x4 x2 h).bind fun q47 => ((f_X10_tellFraction x5 q47.1 q47.2).bind fun q50 => (some q50))) else ((f_X10_choose x3 x7 h).bind fun q17 => ((f_X10_choose (x4 - x3) (x2 - x7) q17.2).bind fun q28 => (f_X10_tellOddsOfChoice_6 k x2 x3 x4 (x5 + (q17.1 * q28.1)) (x7 + 1) q28.2))))
set_option maxRecDepth 20000 in
theorem ev_X10_tellOddsOfChoice_6 {d : Nat} (hd : 2 ≤ d) : ∀ (k : Nat) {w1 : Option zV} {w6 : Option zV} {x2 : Int32} {x3 : Int32} {x4 : Int32} {x5 : Int64} {x7 : Int32} {h : zM} {r : zM}, f_X10_tellOddsOfChoice_6 k x2 x3 x4 x5 x7 h = some r → zEv zmt d 109 6 ([some (vR (some (10, 0))), w1, some (vI x2), some (vI x3), some (vI x4), some (vL x5), w6, some (vI x7)], [], h, true) (none, r) := by
  intro k
  induction k with
  | zero => intro w1 w6 x2 x3 x4 x5 x7 h r H; cases H
  | succ k ih =>
    intro w1 w6 x2 x3 x4 x5 x7 h r H
    rcases ifc H with ⟨hc, H⟩ | ⟨hc, H⟩
    · refine zEv.iteT (L2 := [some (vR (some (10, 0))), w1, some (vI x2), some (vI x3), some (vI x4), some (vL x5), w6, some (vI x7)]) (st2 := []) (h2 := h) zm_X10_tellOddsOfChoice rfl rfl rfl rfl (decide_eq_true hc) ?_
      obtain ⟨q47, hq, H⟩ := bnd H
      refine zEv.call (k := 111) (as := [vI x4, vI x2]) (L2 := [some (vR (some (10, 0))), w1, some (vI x2), some (vI x3), some (vI x4), some (vL x5), w6, some (vI x7)]) (st2 := [vL x5, vR (some (10, 0))]) (h2 := h) (v := some (vL q47.1)) (h1 := q47.2) (st3 := [vL q47.1, vL x5, vR (some (10, 0))]) zm_X10_tellOddsOfChoice rfl rfl rfl rfl rfl zm_X10_choose rfl (by omega) (ev_X10_choose (by omega) hq) rfl ?_
      obtain ⟨q50, hq, H⟩ := bnd H
      refine zEv.call (k := 107) (as := [vR (some (10, 0)), vL x5, vL q47.1]) (L2 := [some (vR (some (10, 0))), w1, some (vI x2), some (vI x3), some (vI x4), some (vL x5), w6, some (vI x7)]) (st2 := []) (h2 := q47.2) (v := none) (h1 := q50) (st3 := []) zm_X10_tellOddsOfChoice rfl rfl rfl rfl rfl zm_X10_tellFraction rfl (by omega) (ev_X10_tellFraction (by omega) hq) rfl ?_
      cases H
      exact zEv.ret zm_X10_tellOddsOfChoice rfl rfl rfl rfl
    · refine zEv.iteF (L2 := [some (vR (some (10, 0))), w1, some (vI x2), some (vI x3), some (vI x4), some (vL x5), w6, some (vI x7)]) (st2 := []) (h2 := h) zm_X10_tellOddsOfChoice rfl rfl rfl rfl (decide_eq_false hc) ?_
      obtain ⟨q17, hq, H⟩ := bnd H
      refine zEv.call (k := 111) (as := [vI x3, vI x7]) (L2 := [some (vR (some (10, 0))), w1, some (vI x2), some (vI x3), some (vI x4), some (vL x5), w6, some (vI x7)]) (st2 := [vL x5]) (h2 := h) (v := some (vL q17.1)) (h1 := q17.2) (st3 := [vL q17.1, vL x5]) zm_X10_tellOddsOfChoice rfl rfl rfl rfl rfl zm_X10_choose rfl (by omega) (ev_X10_choose (by omega) hq) rfl ?_
      obtain ⟨q28, hq, H⟩ := bnd H
      refine zEv.call (k := 111) (as := [vI (x4 - x3), vI (x2 - x7)]) (L2 := [some (vR (some (10, 0))), w1, some (vI x2), some (vI x3), some (vI x4), some (vL x5), w6, some (vI x7)]) (st2 := [vL q17.1, vL x5]) (h2 := q17.2) (v := some (vL q28.1)) (h1 := q28.2) (st3 := [vL q28.1, vL q17.1, vL x5]) zm_X10_tellOddsOfChoice rfl rfl rfl rfl rfl zm_X10_choose rfl (by omega) (ev_X10_choose (by omega) hq) rfl ?_
      refine zEv.loc (L2 := [some (vR (some (10, 0))), w1, some (vI x2), some (vI x3), some (vI x4), some (vL (x5 + (q17.1 * q28.1))), none, some (vI (x7 + 1))]) (st2 := []) (h2 := q28.2) zm_X10_tellOddsOfChoice rfl rfl rfl rfl (fun h => (nomatch h)) ?_
      exact ih H
def f_X10_tellOddsOfChoice (x1 : Int32) (x2 : Int32) (x3 : Int32) (x4 : Int32) (h : zM) : Option (zM) := (f_X10_tellOddsOfChoice_6  1000 x2 x3 x4 0 x1 h)
set_option maxRecDepth 20000 in
theorem ev_X10_tellOddsOfChoice {d : Nat} (hd : 2 ≤ d) {w5 : Option zV} {w6 : Option zV} {w7 : Option zV} {x1 : Int32} {x2 : Int32} {x3 : Int32} {x4 : Int32} {h : zM} {r : zM} (H : f_X10_tellOddsOfChoice x1 x2 x3 x4 h = some r) : zEv zmt d 109 0 ([some (vR (some (10, 0))), some (vI x1), some (vI x2), some (vI x3), some (vI x4), w5, w6, w7], [], h, true) (none, r) := by
  refine zEv.loc (L2 := [some (vR (some (10, 0))), some (vI x1), some (vI x2), some (vI x3), some (vI x4), some (vL 0), none, some (vI x1)]) (st2 := []) (h2 := h) zm_X10_tellOddsOfChoice rfl rfl rfl rfl (fun h => (nomatch h)) ?_
  exact ev_X10_tellOddsOfChoice_6 (by omega)  1000 H
def f_X10_crowd_135 (K57 : Int32 → Int32 → Int32 → Int32 → Int32 → Int32 → zM → Option (Int32 × zM)) (x2 : Int32) (x3 : Int32) (x4 : Int32) (x6 : Int32) (x7 : Int32) (x8 : Int32) (h : zM) : Option (Int32 × zM) := (K57 x2 x3 x4 x6 x7 (x8 + 1) h)
set_option maxRecDepth 20000 in
theorem ev_X10_crowd_135 {d : Nat} (hd : 7 ≤ d) {K57 : Int32 → Int32 → Int32 → Int32 → Int32 → Int32 → zM → Option (Int32 × zM)} (hK57 : ∀ {w1 : Option zV} {w5 : Option zV} {w9 : Option zV} {x2 : Int32} {x3 : Int32} {x4 : Int32} {x6 : Int32} {x7 : Int32} {x8 : Int32} {h : zM} {r : Int32 × zM}, K57 x2 x3 x4 x6 x7 x8 h = some r → zEv zmt d 91 57 ([some (vR (some (10, 0))), w1, some (vI x2), some (vI x3), some (vI x4), w5, some (vI x6), some (vI x7), some (vI x8), w9], [], h, true) (some (vI r.1), r.2)) {w1 : Option zV} {w5 : Option zV} {w9 : Option zV} {x2 : Int32} {x3 : Int32} {x4 : Int32} {x6 : Int32} {x7 : Int32} {x8 : Int32} {h : zM} {r : Int32 × zM} (H : f_X10_crowd_135 K57 x2 x3 x4 x6 x7 x8 h = some r) : zEv zmt d 91 135 ([some (vR (some (10, 0))), w1, some (vI x2), some (vI x3), some (vI x4), w5, some (vI x6), some (vI x7), some (vI x8), w9], [], h, true) (some (vI r.1), r.2) := by
  refine zEv.loc (L2 := [some (vR (some (10, 0))), w1, some (vI x2), some (vI x3), some (vI x4), w5, some (vI x6), some (vI x7), some (vI (x8 + 1)), w9]) (st2 := []) (h2 := h) zm_X10_crowd rfl rfl rfl rfl (fun h => (nomatch h)) ?_
  exact hK57 H
def f_X10_crowd_132 (K57 : Int32 → Int32 → Int32 → Int32 → Int32 → Int32 → zM → Option (Int32 × zM)) (x2 : Int32) (x3 : Int32) (x4 : Int32) (x6 : Int32) (x8 : Int32) (s0 : Int32) (s1 : Int32) (h : zM) : Option (Int32 × zM) := (f_X10_crowd_135 K57 x2 x3 x4 x6 (s0 + s1) x8 h)
set_option maxRecDepth 20000 in
theorem ev_X10_crowd_132 {d : Nat} (hd : 7 ≤ d) {K57 : Int32 → Int32 → Int32 → Int32 → Int32 → Int32 → zM → Option (Int32 × zM)} (hK57 : ∀ {w1 : Option zV} {w5 : Option zV} {w9 : Option zV} {x2 : Int32} {x3 : Int32} {x4 : Int32} {x6 : Int32} {x7 : Int32} {x8 : Int32} {h : zM} {r : Int32 × zM}, K57 x2 x3 x4 x6 x7 x8 h = some r → zEv zmt d 91 57 ([some (vR (some (10, 0))), w1, some (vI x2), some (vI x3), some (vI x4), w5, some (vI x6), some (vI x7), some (vI x8), w9], [], h, true) (some (vI r.1), r.2)) {w1 : Option zV} {w5 : Option zV} {w7 : Option zV} {w9 : Option zV} {x2 : Int32} {x3 : Int32} {x4 : Int32} {x6 : Int32} {x8 : Int32} {s0 : Int32} {s1 : Int32} {h : zM} {r : Int32 × zM} (H : f_X10_crowd_132 K57 x2 x3 x4 x6 x8 s0 s1 h = some r) : zEv zmt d 91 132 ([some (vR (some (10, 0))), w1, some (vI x2), some (vI x3), some (vI x4), w5, some (vI x6), w7, some (vI x8), w9], [vI s1, vI s0], h, true) (some (vI r.1), r.2) := by
  refine zEv.loc (L2 := [some (vR (some (10, 0))), w1, some (vI x2), some (vI x3), some (vI x4), w5, some (vI x6), some (vI (s0 + s1)), some (vI x8), w9]) (st2 := []) (h2 := h) zm_X10_crowd rfl rfl rfl rfl (fun h => (nomatch h)) ?_
  exact ev_X10_crowd_135 (by omega) hK57 H
def f_X10_crowd_158 (h : zM) : Option (Int32 × zM) := ((f_X10_found 4 h).bind fun q160 => (some (q160.1, q160.2)))
set_option maxRecDepth 20000 in
theorem ev_X10_crowd_158 {d : Nat} (hd : 7 ≤ d) {w1 : Option zV} {w2 : Option zV} {w3 : Option zV} {w4 : Option zV} {w5 : Option zV} {w6 : Option zV} {w7 : Option zV} {w8 : Option zV} {w9 : Option zV} {h : zM} {r : Int32 × zM} (H : f_X10_crowd_158  h = some r) : zEv zmt d 91 158 ([some (vR (some (10, 0))), w1, w2, w3, w4, w5, w6, w7, w8, w9], [], h, true) (some (vI r.1), r.2) := by
  obtain ⟨q160, hq, H⟩ := bnd H
  refine zEv.call (k := 105) (as := [vR (some (10, 0)), vI 4]) (L2 := [some (vR (some (10, 0))), w1, w2, w3, w4, w5, w6, w7, w8, w9]) (st2 := []) (h2 := h) (v := some (vI q160.1)) (h1 := q160.2) (st3 := [vI q160.1]) zm_X10_crowd rfl rfl rfl rfl rfl zm_X10_found rfl (by omega) (ev_X10_found (by omega) hq) rfl ?_
  cases H
  exact zEv.ret zm_X10_crowd rfl rfl rfl rfl
def f_X10_crowd_57 : Nat → Int32 → Int32 → Int32 → Int32 → Int32 → Int32 → zM → Option (Int32 × zM)
  | 0 => fun _ _ _ _ _ _ _ => none
  | k + 1 => fun x2 x3 x4 x6 x7 x8 h => (if (true && (true && (decide (rR h 10 0 5 = (some (4, 0))) && true))) = true then (if (rI h 4 0 3) ≤ x8 then (if x6 = 0 then (f_X10_crowd_158  h) else (if (true && (true && (decide (rR h 10 0 5 = (some (4, 0))) && true))) = true then (if x4 ≤ (rI h 4 0 3) then (if (true && (true && (true && (true && (decide (rR h 10 0 5 = (some (4, 0))) && true))))) = true then ((f_X10_tellOddsOfChoice x7 x6 x4 (rI h 4 0 3) h).bind fun q178 => (some (x7, q178))) else none) else (f_X10_crowd_158  h)) else none)) else (if (true && (true && (true && (ixOk 40 x8 && (true && (decide (rR h 4 0 0 = (some (21, 0))) && (true && (decide (rR h 10 0 5 = (some (4, 0))) && true)))))))) = true then ((f_X10_markAt (rI h 21 0 (Int32.toNatClampNeg x8)) h).bind fun q80 => (if q80.1 = none then (f_X10_crowd_135 (f_X10_crowd_57 k) x2 x3 x4 x6 x7 x8 q80.2) else (if (memN [3] (clR (rR q80.2 (clR q80.1) (ixR q80.1) 2)) && (memN [2] (clR q80.1) && true)) = true then (if ¬ (rI q80.2 (clR (rR q80.2 (clR q80.1) (ixR q80.1) 2)) (ixR (rR q80.2 (clR q80.1) (ixR q80.1) 2)) 3) = x2 then (f_X10_crowd_135 (f_X10_crowd_57 k) x2 x3 x4 x6 x7 x8 q80.2) else (if (true && (memN [2] (clR q80.1) && true)) = true then (if ¬ ((rI q80.2 (clR q80.1) (ixR q80.1) 3) / 365) = x3 then (f_X10_crowd_135 (f_X10_crowd_57 k) x2 x3 x4 x6 x7 x8 q80.2) else (if x4 ≤ x8 then (f_X10_crowd_132 (f_X10_crowd_57 k) x2 x3 x4 (x6 + 1) x8 x7 0 q80.2) else (f_X10_crowd_132 (f_X10_crowd_57 k) x2 x3 x4 (x6 + 1) x8 x7 1 q80.2))) else none)) else none))) else none)) else none)
set_option maxRecDepth 20000 in
theorem ev_X10_crowd_57 {d : Nat} (hd : 7 ≤ d) : ∀ (k : Nat) {w1 : Option zV} {w5 : Option zV} {w9 : Option zV} {x2 : Int32} {x3 : Int32} {x4 : Int32} {x6 : Int32} {x7 : Int32} {x8 : Int32} {h : zM} {r : Int32 × zM}, f_X10_crowd_57 k x2 x3 x4 x6 x7 x8 h = some r → zEv zmt d 91 57 ([some (vR (some (10, 0))), w1, some (vI x2), some (vI x3), some (vI x4), w5, some (vI x6), some (vI x7), some (vI x8), w9], [], h, true) (some (vI r.1), r.2) := by
  intro k
  induction k with
  | zero => intro w1 w5 w9 x2 x3 x4 x6 x7 x8 h r H; cases H
  | succ k ih =>
    intro w1 w5 w9 x2 x3 x4 x6 x7 x8 h r H
    obtain ⟨hg, H⟩ := ifg H
    rcases ifc H with ⟨hc, H⟩ | ⟨hc, H⟩
    · refine zEv.iteT (L2 := [some (vR (some (10, 0))), w1, some (vI x2), some (vI x3), some (vI x4), w5, some (vI x6), some (vI x7), some (vI x8), w9]) (st2 := []) (h2 := h) zm_X10_crowd rfl hg rfl hg (decide_eq_true hc) ?_
      rcases ifc H with ⟨hc, H⟩ | ⟨hc, H⟩
      · refine zEv.iteT (L2 := [some (vR (some (10, 0))), w1, some (vI x2), some (vI x3), some (vI x4), w5, some (vI x6), some (vI x7), some (vI x8), w9]) (st2 := []) (h2 := h) zm_X10_crowd rfl rfl rfl rfl (decide_eq_true hc) ?_
        exact ev_X10_crowd_158 (by omega)  H
      · refine zEv.iteF (L2 := [some (vR (some (10, 0))), w1, some (vI x2), some (vI x3), some (vI x4), w5, some (vI x6), some (vI x7), some (vI x8), w9]) (st2 := []) (h2 := h) zm_X10_crowd rfl rfl rfl rfl (decide_eq_false hc) ?_
        obtain ⟨hg, H⟩ := ifg H
        rcases ifc H with ⟨hc, H⟩ | ⟨hc, H⟩
        · refine zEv.iteT (L2 := [some (vR (some (10, 0))), w1, some (vI x2), some (vI x3), some (vI x4), w5, some (vI x6), some (vI x7), some (vI x8), w9]) (st2 := []) (h2 := h) zm_X10_crowd rfl hg rfl hg (decide_eq_true hc) ?_
          obtain ⟨hg, H⟩ := ifg H
          obtain ⟨q178, hq, H⟩ := bnd H
          refine zEv.call (k := 109) (as := [vR (some (10, 0)), vI x7, vI x6, vI x4, vI (rI h 4 0 3)]) (L2 := [some (vR (some (10, 0))), w1, some (vI x2), some (vI x3), some (vI x4), w5, some (vI x6), some (vI x7), some (vI x8), w9]) (st2 := []) (h2 := h) (v := none) (h1 := q178) (st3 := []) zm_X10_crowd rfl (and2 (and2 hg).2).2 rfl hg rfl zm_X10_tellOddsOfChoice rfl (by omega) (ev_X10_tellOddsOfChoice (by omega) hq) rfl ?_
          cases H
          exact zEv.ret zm_X10_crowd rfl rfl rfl rfl
        · refine zEv.iteF (L2 := [some (vR (some (10, 0))), w1, some (vI x2), some (vI x3), some (vI x4), w5, some (vI x6), some (vI x7), some (vI x8), w9]) (st2 := []) (h2 := h) zm_X10_crowd rfl hg rfl hg (decide_eq_false hc) ?_
          exact ev_X10_crowd_158 (by omega)  H
    · refine zEv.iteF (L2 := [some (vR (some (10, 0))), w1, some (vI x2), some (vI x3), some (vI x4), w5, some (vI x6), some (vI x7), some (vI x8), w9]) (st2 := []) (h2 := h) zm_X10_crowd rfl hg rfl hg (decide_eq_false hc) ?_
      obtain ⟨hg, H⟩ := ifg H
      obtain ⟨q80, hq, H⟩ := bnd H
      refine zEv.call (k := 104) (as := [vR (some (10, 0)), vI (rI h 21 0 (Int32.toNatClampNeg x8))]) (L2 := [some (vR (some (10, 0))), w1, some (vI x2), some (vI x3), some (vI x4), w5, some (vI x6), some (vI x7), some (vI x8), w9]) (st2 := []) (h2 := h) (v := some (vR q80.1)) (h1 := q80.2) (st3 := [vR q80.1]) zm_X10_crowd rfl (and2 (and2 hg).2).2 rfl hg rfl zm_X10_markAt rfl (by omega) (ev_X10_markAt (by omega) hq) rfl ?_
      rcases ifc H with ⟨hc, H⟩ | ⟨hc, H⟩
      · refine zEv.iteT (L2 := [some (vR (some (10, 0))), w1, some (vI x2), some (vI x3), some (vI x4), w5, some (vI x6), some (vI x7), some (vI x8), some (vR q80.1)]) (st2 := []) (h2 := q80.2) zm_X10_crowd rfl rfl rfl rfl (nnT hc) ?_
        exact ev_X10_crowd_135 (by omega) ih H
      · refine zEv.iteF (L2 := [some (vR (some (10, 0))), w1, some (vI x2), some (vI x3), some (vI x4), w5, some (vI x6), some (vI x7), some (vI x8), some (vR q80.1)]) (st2 := []) (h2 := q80.2) zm_X10_crowd rfl rfl rfl rfl (nnF hc) ?_
        obtain ⟨hg, H⟩ := ifg H
        rcases ifc H with ⟨hc, H⟩ | ⟨hc, H⟩
        · refine zEv.iteT (L2 := [some (vR (some (10, 0))), w1, some (vI x2), some (vI x3), some (vI x4), w5, some (vI x6), some (vI x7), some (vI x8), some (vR q80.1)]) (st2 := []) (h2 := q80.2) zm_X10_crowd rfl hg rfl hg (decide_eq_true hc) ?_
          exact ev_X10_crowd_135 (by omega) ih H
        · refine zEv.iteF (L2 := [some (vR (some (10, 0))), w1, some (vI x2), some (vI x3), some (vI x4), w5, some (vI x6), some (vI x7), some (vI x8), some (vR q80.1)]) (st2 := []) (h2 := q80.2) zm_X10_crowd rfl hg rfl hg (decide_eq_false hc) ?_
          obtain ⟨hg, H⟩ := ifg H
          rcases ifc H with ⟨hc, H⟩ | ⟨hc, H⟩
          · refine zEv.iteT (L2 := [some (vR (some (10, 0))), w1, some (vI x2), some (vI x3), some (vI x4), w5, some (vI x6), some (vI x7), some (vI x8), some (vR q80.1)]) (st2 := []) (h2 := q80.2) zm_X10_crowd rfl hg rfl hg (decide_eq_true hc) ?_
            exact ev_X10_crowd_135 (by omega) ih H
          · refine zEv.iteF (L2 := [some (vR (some (10, 0))), w1, some (vI x2), some (vI x3), some (vI x4), w5, some (vI x6), some (vI x7), some (vI x8), some (vR q80.1)]) (st2 := []) (h2 := q80.2) zm_X10_crowd rfl hg rfl hg (decide_eq_false hc) ?_
            rcases ifc H with ⟨hc, H⟩ | ⟨hc, H⟩
            · refine zEv.iteT (L2 := [some (vR (some (10, 0))), w1, some (vI x2), some (vI x3), some (vI x4), none, some (vI (x6 + 1)), some (vI x7), some (vI x8), some (vR q80.1)]) (st2 := [vI x7]) (h2 := q80.2) zm_X10_crowd rfl rfl rfl rfl (decide_eq_true hc) ?_
              refine zEv.loc (L2 := [some (vR (some (10, 0))), w1, some (vI x2), some (vI x3), some (vI x4), none, some (vI (x6 + 1)), some (vI x7), some (vI x8), some (vR q80.1)]) (st2 := [vI 0, vI x7]) (h2 := q80.2) zm_X10_crowd rfl rfl rfl rfl (fun h => (nomatch h)) ?_
              exact ev_X10_crowd_132 (by omega) ih H
            · refine zEv.iteF (L2 := [some (vR (some (10, 0))), w1, some (vI x2), some (vI x3), some (vI x4), none, some (vI (x6 + 1)), some (vI x7), some (vI x8), some (vR q80.1)]) (st2 := [vI x7]) (h2 := q80.2) zm_X10_crowd rfl rfl rfl rfl (decide_eq_false hc) ?_
              refine zEv.loc (L2 := [some (vR (some (10, 0))), w1, some (vI x2), some (vI x3), some (vI x4), none, some (vI (x6 + 1)), some (vI x7), some (vI x8), some (vR q80.1)]) (st2 := [vI 1, vI x7]) (h2 := q80.2) zm_X10_crowd rfl rfl rfl rfl (fun h => (nomatch h)) ?_
              exact ev_X10_crowd_132 (by omega) ih H
def f_X10_crowd (x1 : Int32) (x2 : Int32) (x3 : Int32) (x4 : Int32) (h : zM) : Option (Int32 × zM) := ((f_X10_within x2 0 3 h).bind fun q3 => (if q3.1 = 0 then (some ((-1), q3.2)) else ((f_X10_within x3 0 27 q3.2).bind fun q13 => (if q13.1 = 0 then (some ((-1), q13.2)) else ((f_X10_within x4 1 40 q13.2).bind fun q24 => (if ¬ q24.1 = 0 then ((f_X10_rank x1 0 q24.2).bind fun q35 => (if q35.1 = 0 then (f_X10_crowd_57  1000 x2 x3 x4 0 0 0 q35.2) else (some (q35.1, q35.2)))) else (some ((-1), q24.2))))))))
set_option maxRecDepth 20000 in
theorem ev_X10_crowd {d : Nat} (hd : 7 ≤ d) {w5 : Option zV} {w6 : Option zV} {w7 : Option zV} {w8 : Option zV} {w9 : Option zV} {x1 : Int32} {x2 : Int32} {x3 : Int32} {x4 : Int32} {h : zM} {r : Int32 × zM} (H : f_X10_crowd x1 x2 x3 x4 h = some r) : zEv zmt d 91 0 ([some (vR (some (10, 0))), some (vI x1), some (vI x2), some (vI x3), some (vI x4), w5, w6, w7, w8, w9], [], h, true) (some (vI r.1), r.2) := by
  obtain ⟨q3, hq, H⟩ := bnd H
  refine zEv.call (k := 100) (as := [vI x2, vI 0, vI 3]) (L2 := [some (vR (some (10, 0))), some (vI x1), some (vI x2), some (vI x3), some (vI x4), w5, w6, w7, w8, w9]) (st2 := []) (h2 := h) (v := some (vI q3.1)) (h1 := q3.2) (st3 := [vI q3.1]) zm_X10_crowd rfl rfl rfl rfl rfl zm_X10_within rfl (by omega) (ev_X10_within (by omega) hq) rfl ?_
  rcases ifc H with ⟨hc, H⟩ | ⟨hc, H⟩
  · refine zEv.iteT (L2 := [some (vR (some (10, 0))), some (vI x1), some (vI x2), some (vI x3), some (vI x4), w5, w6, w7, w8, w9]) (st2 := []) (h2 := q3.2) zm_X10_crowd rfl rfl rfl rfl (decide_eq_true hc) ?_
    cases H
    exact zEv.ret zm_X10_crowd rfl rfl rfl rfl
  · refine zEv.iteF (L2 := [some (vR (some (10, 0))), some (vI x1), some (vI x2), some (vI x3), some (vI x4), w5, w6, w7, w8, w9]) (st2 := []) (h2 := q3.2) zm_X10_crowd rfl rfl rfl rfl (decide_eq_false hc) ?_
    obtain ⟨q13, hq, H⟩ := bnd H
    refine zEv.call (k := 100) (as := [vI x3, vI 0, vI 27]) (L2 := [some (vR (some (10, 0))), some (vI x1), some (vI x2), some (vI x3), some (vI x4), w5, w6, w7, w8, w9]) (st2 := []) (h2 := q3.2) (v := some (vI q13.1)) (h1 := q13.2) (st3 := [vI q13.1]) zm_X10_crowd rfl rfl rfl rfl rfl zm_X10_within rfl (by omega) (ev_X10_within (by omega) hq) rfl ?_
    rcases ifc H with ⟨hc, H⟩ | ⟨hc, H⟩
    · refine zEv.iteT (L2 := [some (vR (some (10, 0))), some (vI x1), some (vI x2), some (vI x3), some (vI x4), w5, w6, w7, w8, w9]) (st2 := []) (h2 := q13.2) zm_X10_crowd rfl rfl rfl rfl (decide_eq_true hc) ?_
      cases H
      exact zEv.ret zm_X10_crowd rfl rfl rfl rfl
    · refine zEv.iteF (L2 := [some (vR (some (10, 0))), some (vI x1), some (vI x2), some (vI x3), some (vI x4), w5, w6, w7, w8, w9]) (st2 := []) (h2 := q13.2) zm_X10_crowd rfl rfl rfl rfl (decide_eq_false hc) ?_
      obtain ⟨q24, hq, H⟩ := bnd H
      refine zEv.call (k := 100) (as := [vI x4, vI 1, vI 40]) (L2 := [some (vR (some (10, 0))), some (vI x1), some (vI x2), some (vI x3), some (vI x4), w5, w6, w7, w8, w9]) (st2 := []) (h2 := q13.2) (v := some (vI q24.1)) (h1 := q24.2) (st3 := [vI q24.1]) zm_X10_crowd rfl rfl rfl rfl rfl zm_X10_within rfl (by omega) (ev_X10_within (by omega) hq) rfl ?_
      rcases ifc H with ⟨hc, H⟩ | ⟨hc, H⟩
      · refine zEv.iteT (L2 := [some (vR (some (10, 0))), some (vI x1), some (vI x2), some (vI x3), some (vI x4), w5, w6, w7, w8, w9]) (st2 := []) (h2 := q24.2) zm_X10_crowd rfl rfl rfl rfl (decide_eq_true hc) ?_
        obtain ⟨q35, hq, H⟩ := bnd H
        refine zEv.call (k := 117) (as := [vR (some (10, 0)), vI x1, vI 0]) (L2 := [some (vR (some (10, 0))), some (vI x1), some (vI x2), some (vI x3), some (vI x4), w5, w6, w7, w8, w9]) (st2 := []) (h2 := q24.2) (v := some (vI q35.1)) (h1 := q35.2) (st3 := [vI q35.1]) zm_X10_crowd rfl rfl rfl rfl rfl zm_X10_rank rfl (by omega) (ev_X10_rank (by omega) hq) rfl ?_
        rcases ifc H with ⟨hc, H⟩ | ⟨hc, H⟩
        · refine zEv.iteT (L2 := [some (vR (some (10, 0))), some (vI x1), some (vI x2), some (vI x3), some (vI x4), some (vI q35.1), w6, w7, w8, w9]) (st2 := []) (h2 := q35.2) zm_X10_crowd rfl rfl rfl rfl (decide_eq_true hc) ?_
          refine zEv.loc (L2 := [some (vR (some (10, 0))), some (vI x1), some (vI x2), some (vI x3), some (vI x4), none, some (vI 0), some (vI 0), some (vI 0), w9]) (st2 := []) (h2 := q35.2) zm_X10_crowd rfl rfl rfl rfl (fun h => (nomatch h)) ?_
          exact ev_X10_crowd_57 (by omega)  1000 H
        · refine zEv.iteF (L2 := [some (vR (some (10, 0))), some (vI x1), some (vI x2), some (vI x3), some (vI x4), some (vI q35.1), w6, w7, w8, w9]) (st2 := []) (h2 := q35.2) zm_X10_crowd rfl rfl rfl rfl (decide_eq_false hc) ?_
          cases H
          exact zEv.ret zm_X10_crowd rfl rfl rfl rfl
      · refine zEv.iteF (L2 := [some (vR (some (10, 0))), some (vI x1), some (vI x2), some (vI x3), some (vI x4), w5, w6, w7, w8, w9]) (st2 := []) (h2 := q24.2) zm_X10_crowd rfl rfl rfl rfl (decide_eq_false hc) ?_
        cases H
        exact zEv.ret zm_X10_crowd rfl rfl rfl rfl
def f_X10_marksWithoutWind_46 (K4 : Int32 → Int32 → Int32 → zM → Option (Int32 × zM)) (x1 : Int32) (x3 : Int32) (s0 : Int32) (s1 : Int32) (h : zM) : Option (Int32 × zM) := (K4 x1 (s0 + s1) (x3 + 1) h)
set_option maxRecDepth 20000 in
theorem ev_X10_marksWithoutWind_46 {d : Nat} (hd : 0 ≤ d) {K4 : Int32 → Int32 → Int32 → zM → Option (Int32 × zM)} (hK4 : ∀ {x1 : Int32} {x2 : Int32} {x3 : Int32} {h : zM} {r : Int32 × zM}, K4 x1 x2 x3 h = some r → zEv zmt d 121 4 ([some (vR (some (10, 0))), some (vI x1), some (vI x2), some (vI x3)], [], h, true) (some (vI r.1), r.2)) {w2 : Option zV} {x1 : Int32} {x3 : Int32} {s0 : Int32} {s1 : Int32} {h : zM} {r : Int32 × zM} (H : f_X10_marksWithoutWind_46 K4 x1 x3 s0 s1 h = some r) : zEv zmt d 121 46 ([some (vR (some (10, 0))), some (vI x1), w2, some (vI x3)], [vI s1, vI s0], h, true) (some (vI r.1), r.2) := by
  refine zEv.loc (L2 := [some (vR (some (10, 0))), some (vI x1), some (vI (s0 + s1)), some (vI (x3 + 1))]) (st2 := []) (h2 := h) zm_X10_marksWithoutWind rfl rfl rfl rfl (fun h => (nomatch h)) ?_
  exact hK4 H
def f_X10_marksWithoutWind_45 (K4 : Int32 → Int32 → Int32 → zM → Option (Int32 × zM)) (x1 : Int32) (x3 : Int32) (s0 : Int32) (h : zM) : Option (Int32 × zM) := (f_X10_marksWithoutWind_46 K4 x1 x3 s0 0 h)
set_option maxRecDepth 20000 in
theorem ev_X10_marksWithoutWind_45 {d : Nat} (hd : 0 ≤ d) {K4 : Int32 → Int32 → Int32 → zM → Option (Int32 × zM)} (hK4 : ∀ {x1 : Int32} {x2 : Int32} {x3 : Int32} {h : zM} {r : Int32 × zM}, K4 x1 x2 x3 h = some r → zEv zmt d 121 4 ([some (vR (some (10, 0))), some (vI x1), some (vI x2), some (vI x3)], [], h, true) (some (vI r.1), r.2)) {w2 : Option zV} {x1 : Int32} {x3 : Int32} {s0 : Int32} {h : zM} {r : Int32 × zM} (H : f_X10_marksWithoutWind_45 K4 x1 x3 s0 h = some r) : zEv zmt d 121 45 ([some (vR (some (10, 0))), some (vI x1), w2, some (vI x3)], [vI s0], h, true) (some (vI r.1), r.2) := by
  refine zEv.loc (L2 := [some (vR (some (10, 0))), some (vI x1), w2, some (vI x3)]) (st2 := [vI 0, vI s0]) (h2 := h) zm_X10_marksWithoutWind rfl rfl rfl rfl (fun h => (nomatch h)) ?_
  exact ev_X10_marksWithoutWind_46 (by omega) hK4 H
def f_X10_marksWithoutWind_4 : Nat → Int32 → Int32 → Int32 → zM → Option (Int32 × zM)
  | 0 => fun _ _ _ _ => none
  | k + 1 => fun x1 x2 x3 h => (if (rI h 10 0 10) ≤ x3 then (some (x2, h)) else (if (memN [2] (clR (rR h 29 0 (Int32.toNatClampNeg x3))) && (true && (ixOk 40 x3 && (true && (decide (rR h 10 0 3 = (some (29, 0))) && true))))) = true then (if ¬ (rI h (clR (rR h 29 0 (Int32.toNatClampNeg x3))) (ixR (rR h 29 0 (Int32.toNatClampNeg x3))) 1) = x1 then (f_X10_marksWithoutWind_45 (f_X10_marksWithoutWind_4 k) x1 x3 x2 h) else (if (memN [2] (clR (rR h 29 0 (Int32.toNatClampNeg x3))) && (true && (ixOk 40 x3 && (true && (decide (rR h 10 0 3 = (some (29, 0))) && true))))) = true then (if ¬ (rI h (clR (rR h 29 0 (Int32.toNatClampNeg x3))) (ixR (rR h 29 0 (Int32.toNatClampNeg x3))) 5) = (-9999) then (f_X10_marksWithoutWind_45 (f_X10_marksWithoutWind_4 k) x1 x3 x2 h) else (f_X10_marksWithoutWind_46 (f_X10_marksWithoutWind_4 k) x1 x3 x2 1 h)) else none)) else none))
set_option maxRecDepth 20000 in
theorem ev_X10_marksWithoutWind_4 {d : Nat} (hd : 0 ≤ d) : ∀ (k : Nat) {x1 : Int32} {x2 : Int32} {x3 : Int32} {h : zM} {r : Int32 × zM}, f_X10_marksWithoutWind_4 k x1 x2 x3 h = some r → zEv zmt d 121 4 ([some (vR (some (10, 0))), some (vI x1), some (vI x2), some (vI x3)], [], h, true) (some (vI r.1), r.2) := by
  intro k
  induction k with
  | zero => intro x1 x2 x3 h r H; cases H
  | succ k ih =>
    intro x1 x2 x3 h r H
    rcases ifc H with ⟨hc, H⟩ | ⟨hc, H⟩
    · refine zEv.iteT (L2 := [some (vR (some (10, 0))), some (vI x1), some (vI x2), some (vI x3)]) (st2 := []) (h2 := h) zm_X10_marksWithoutWind rfl rfl rfl rfl (decide_eq_true hc) ?_
      cases H
      exact zEv.ret zm_X10_marksWithoutWind rfl rfl rfl rfl
    · refine zEv.iteF (L2 := [some (vR (some (10, 0))), some (vI x1), some (vI x2), some (vI x3)]) (st2 := []) (h2 := h) zm_X10_marksWithoutWind rfl rfl rfl rfl (decide_eq_false hc) ?_
      obtain ⟨hg, H⟩ := ifg H
      rcases ifc H with ⟨hc, H⟩ | ⟨hc, H⟩
      · refine zEv.iteT (L2 := [some (vR (some (10, 0))), some (vI x1), some (vI x2), some (vI x3)]) (st2 := [vI x2]) (h2 := h) zm_X10_marksWithoutWind rfl hg rfl hg (decide_eq_true hc) ?_
        exact ev_X10_marksWithoutWind_45 (by omega) ih H
      · refine zEv.iteF (L2 := [some (vR (some (10, 0))), some (vI x1), some (vI x2), some (vI x3)]) (st2 := [vI x2]) (h2 := h) zm_X10_marksWithoutWind rfl hg rfl hg (decide_eq_false hc) ?_
        obtain ⟨hg, H⟩ := ifg H
        rcases ifc H with ⟨hc, H⟩ | ⟨hc, H⟩
        · refine zEv.iteT (L2 := [some (vR (some (10, 0))), some (vI x1), some (vI x2), some (vI x3)]) (st2 := [vI x2]) (h2 := h) zm_X10_marksWithoutWind rfl hg rfl hg (decide_eq_true hc) ?_
          exact ev_X10_marksWithoutWind_45 (by omega) ih H
        · refine zEv.iteF (L2 := [some (vR (some (10, 0))), some (vI x1), some (vI x2), some (vI x3)]) (st2 := [vI x2]) (h2 := h) zm_X10_marksWithoutWind rfl hg rfl hg (decide_eq_false hc) ?_
          refine zEv.loc (L2 := [some (vR (some (10, 0))), some (vI x1), some (vI x2), some (vI x3)]) (st2 := [vI 1, vI x2]) (h2 := h) zm_X10_marksWithoutWind rfl rfl rfl rfl (fun h => (nomatch h)) ?_
          exact ev_X10_marksWithoutWind_46 (by omega) ih H
def f_X10_marksWithoutWind (x1 : Int32) (h : zM) : Option (Int32 × zM) := (f_X10_marksWithoutWind_4  1000 x1 0 0 h)
set_option maxRecDepth 20000 in
theorem ev_X10_marksWithoutWind {d : Nat} (hd : 0 ≤ d) {w2 : Option zV} {w3 : Option zV} {x1 : Int32} {h : zM} {r : Int32 × zM} (H : f_X10_marksWithoutWind x1 h = some r) : zEv zmt d 121 0 ([some (vR (some (10, 0))), some (vI x1), w2, w3], [], h, true) (some (vI r.1), r.2) := by
  refine zEv.loc (L2 := [some (vR (some (10, 0))), some (vI x1), some (vI 0), some (vI 0)]) (st2 := []) (h2 := h) zm_X10_marksWithoutWind rfl rfl rfl rfl (fun h => (nomatch h)) ?_
  exact ev_X10_marksWithoutWind_4 (by omega)  1000 H
def f_X10_next_34 (K8 : Int32 → Int32 → Int32 → zM → Option (Int32 × zM)) (x1 : Int32) (x2 : Int32) (x3 : Int32) (h : zM) : Option (Int32 × zM) := (K8 x1 x2 (x3 + 1) h)
set_option maxRecDepth 20000 in
theorem ev_X10_next_34 {d : Nat} (hd : 1 ≤ d) {K8 : Int32 → Int32 → Int32 → zM → Option (Int32 × zM)} (hK8 : ∀ {w4 : Option zV} {x1 : Int32} {x2 : Int32} {x3 : Int32} {h : zM} {r : Int32 × zM}, K8 x1 x2 x3 h = some r → zEv zmt d 92 8 ([some (vR (some (10, 0))), some (vI x1), some (vI x2), some (vI x3), w4], [], h, true) (some (vI r.1), r.2)) {w4 : Option zV} {x1 : Int32} {x2 : Int32} {x3 : Int32} {h : zM} {r : Int32 × zM} (H : f_X10_next_34 K8 x1 x2 x3 h = some r) : zEv zmt d 92 34 ([some (vR (some (10, 0))), some (vI x1), some (vI x2), some (vI x3), w4], [], h, true) (some (vI r.1), r.2) := by
  refine zEv.loc (L2 := [some (vR (some (10, 0))), some (vI x1), some (vI x2), some (vI (x3 + 1)), w4]) (st2 := []) (h2 := h) zm_X10_next rfl rfl rfl rfl (fun h => (nomatch h)) ?_
  exact hK8 H
def f_X10_next_8 : Nat → Int32 → Int32 → Int32 → zM → Option (Int32 × zM)
  | 0 => fun _ _ _ _ => none
  | k + 1 => fun x1 x2 x3 h => (if (rI h 10 0 9) ≤ x3 then (if x1 = (-9999) then (some (x1, h)) else ((f_X10_tell x2 h).bind fun q49 => (some (x1, q49.2)))) else ((f_X10_marksWithoutWind x3 h).bind fun q18 => (if q18.1 ≤ x2 then (f_X10_next_34 (f_X10_next_8 k) x1 x2 x3 q18.2) else (f_X10_next_34 (f_X10_next_8 k) x3 q18.1 x3 q18.2))))
set_option maxRecDepth 20000 in
theorem ev_X10_next_8 {d : Nat} (hd : 1 ≤ d) : ∀ (k : Nat) {w4 : Option zV} {x1 : Int32} {x2 : Int32} {x3 : Int32} {h : zM} {r : Int32 × zM}, f_X10_next_8 k x1 x2 x3 h = some r → zEv zmt d 92 8 ([some (vR (some (10, 0))), some (vI x1), some (vI x2), some (vI x3), w4], [], h, true) (some (vI r.1), r.2) := by
  intro k
  induction k with
  | zero => intro w4 x1 x2 x3 h r H; cases H
  | succ k ih =>
    intro w4 x1 x2 x3 h r H
    rcases ifc H with ⟨hc, H⟩ | ⟨hc, H⟩
    · refine zEv.iteT (L2 := [some (vR (some (10, 0))), some (vI x1), some (vI x2), some (vI x3), w4]) (st2 := []) (h2 := h) zm_X10_next rfl rfl rfl rfl (decide_eq_true hc) ?_
      rcases ifc H with ⟨hc, H⟩ | ⟨hc, H⟩
      · refine zEv.iteT (L2 := [some (vR (some (10, 0))), some (vI x1), some (vI x2), some (vI x3), w4]) (st2 := []) (h2 := h) zm_X10_next rfl rfl rfl rfl (decide_eq_true hc) ?_
        cases H
        exact zEv.ret zm_X10_next rfl rfl rfl rfl
      · refine zEv.iteF (L2 := [some (vR (some (10, 0))), some (vI x1), some (vI x2), some (vI x3), w4]) (st2 := []) (h2 := h) zm_X10_next rfl rfl rfl rfl (decide_eq_false hc) ?_
        obtain ⟨q49, hq, H⟩ := bnd H
        refine zEv.call (k := 106) (as := [vR (some (10, 0)), vI x2]) (L2 := [some (vR (some (10, 0))), some (vI x1), some (vI x2), some (vI x3), w4]) (st2 := []) (h2 := h) (v := some (vI q49.1)) (h1 := q49.2) (st3 := [vI q49.1]) zm_X10_next rfl rfl rfl rfl rfl zm_X10_tell rfl (by omega) (ev_X10_tell (by omega) hq) rfl ?_
        refine zEv.loc (L2 := [some (vR (some (10, 0))), some (vI x1), some (vI x2), some (vI x3), w4]) (st2 := []) (h2 := q49.2) zm_X10_next rfl rfl rfl rfl (fun h => (nomatch h)) ?_
        cases H
        exact zEv.ret zm_X10_next rfl rfl rfl rfl
    · refine zEv.iteF (L2 := [some (vR (some (10, 0))), some (vI x1), some (vI x2), some (vI x3), w4]) (st2 := []) (h2 := h) zm_X10_next rfl rfl rfl rfl (decide_eq_false hc) ?_
      obtain ⟨q18, hq, H⟩ := bnd H
      refine zEv.call (k := 121) (as := [vR (some (10, 0)), vI x3]) (L2 := [some (vR (some (10, 0))), some (vI x1), some (vI x2), some (vI x3), w4]) (st2 := []) (h2 := h) (v := some (vI q18.1)) (h1 := q18.2) (st3 := [vI q18.1]) zm_X10_next rfl rfl rfl rfl rfl zm_X10_marksWithoutWind rfl (by omega) (ev_X10_marksWithoutWind (by omega) hq) rfl ?_
      rcases ifc H with ⟨hc, H⟩ | ⟨hc, H⟩
      · refine zEv.iteT (L2 := [some (vR (some (10, 0))), some (vI x1), some (vI x2), some (vI x3), some (vI q18.1)]) (st2 := []) (h2 := q18.2) zm_X10_next rfl rfl rfl rfl (decide_eq_true hc) ?_
        exact ev_X10_next_34 (by omega) ih H
      · refine zEv.iteF (L2 := [some (vR (some (10, 0))), some (vI x1), some (vI x2), some (vI x3), some (vI q18.1)]) (st2 := []) (h2 := q18.2) zm_X10_next rfl rfl rfl rfl (decide_eq_false hc) ?_
        refine zEv.loc (L2 := [some (vR (some (10, 0))), some (vI x3), some (vI q18.1), some (vI x3), some (vI q18.1)]) (st2 := []) (h2 := q18.2) zm_X10_next rfl rfl rfl rfl (fun h => (nomatch h)) ?_
        exact ev_X10_next_34 (by omega) ih H
def f_X10_next (h : zM) : Option (Int32 × zM) := (f_X10_next_8  1000 (-9999) 0 0 h)
set_option maxRecDepth 20000 in
theorem ev_X10_next {d : Nat} (hd : 1 ≤ d) {w1 : Option zV} {w2 : Option zV} {w3 : Option zV} {w4 : Option zV} {h : zM} {r : Int32 × zM} (H : f_X10_next  h = some r) : zEv zmt d 92 0 ([some (vR (some (10, 0))), w1, w2, w3, w4], [], h, true) (some (vI r.1), r.2) := by
  refine zEv.loc (L2 := [some (vR (some (10, 0))), some (vI (-9999)), some (vI 0), some (vI 0), w4]) (st2 := []) (h2 := h) zm_X10_next rfl rfl rfl rfl (fun h => (nomatch h)) ?_
  exact ev_X10_next_8 (by omega)  1000 H
def f_X10_asked (h : zM) : Option (Int32 × zM) := (some ((rI h 10 0 11), h))
set_option maxRecDepth 20000 in
theorem ev_X10_asked {d : Nat} (hd : 0 ≤ d) {h : zM} {r : Int32 × zM} (H : f_X10_asked  h = some r) : zEv zmt d 93 0 ([some (vR (some (10, 0)))], [], h, true) (some (vI r.1), r.2) := by
  cases H
  exact zEv.ret zm_X10_asked rfl rfl rfl rfl
def f_X10_upper (h : zM) : Option (Int64 × zM) := (some ((rL h 10 0 13), h))
set_option maxRecDepth 20000 in
theorem ev_X10_upper {d : Nat} (hd : 0 ≤ d) {h : zM} {r : Int64 × zM} (H : f_X10_upper  h = some r) : zEv zmt d 94 0 ([some (vR (some (10, 0)))], [], h, true) (some (vL r.1), r.2) := by
  cases H
  exact zEv.ret zm_X10_upper rfl rfl rfl rfl
def f_X10_lower (h : zM) : Option (Int64 × zM) := (some ((rL h 10 0 14), h))
set_option maxRecDepth 20000 in
theorem ev_X10_lower {d : Nat} (hd : 0 ≤ d) {h : zM} {r : Int64 × zM} (H : f_X10_lower  h = some r) : zEv zmt d 95 0 ([some (vR (some (10, 0)))], [], h, true) (some (vL r.1), r.2) := by
  cases H
  exact zEv.ret zm_X10_lower rfl rfl rfl rfl
def f_X10_marksHelped_30 (K4 : Int32 → Int32 → zM → Option (Int32 × zM)) (x2 : Int32) (s0 : Int32) (s1 : Int32) (h : zM) : Option (Int32 × zM) := (K4 (s0 + s1) (x2 + 1) h)
set_option maxRecDepth 20000 in
theorem ev_X10_marksHelped_30 {d : Nat} (hd : 1 ≤ d) {K4 : Int32 → Int32 → zM → Option (Int32 × zM)} (hK4 : ∀ {x1 : Int32} {x2 : Int32} {h : zM} {r : Int32 × zM}, K4 x1 x2 h = some r → zEv zmt d 122 4 ([some (vR (some (10, 0))), some (vI x1), some (vI x2)], [], h, true) (some (vI r.1), r.2)) {w1 : Option zV} {x2 : Int32} {s0 : Int32} {s1 : Int32} {h : zM} {r : Int32 × zM} (H : f_X10_marksHelped_30 K4 x2 s0 s1 h = some r) : zEv zmt d 122 30 ([some (vR (some (10, 0))), w1, some (vI x2)], [vI s1, vI s0], h, true) (some (vI r.1), r.2) := by
  refine zEv.loc (L2 := [some (vR (some (10, 0))), some (vI (s0 + s1)), some (vI (x2 + 1))]) (st2 := []) (h2 := h) zm_X10_marksHelped rfl rfl rfl rfl (fun h => (nomatch h)) ?_
  exact hK4 H
def f_X10_marksHelped_4 : Nat → Int32 → Int32 → zM → Option (Int32 × zM)
  | 0 => fun _ _ _ => none
  | k + 1 => fun x1 x2 h => (if (rI h 10 0 10) ≤ x2 then (some (x1, h)) else (if (memN [2] (clR (rR h 29 0 (Int32.toNatClampNeg x2))) && (true && (true && (ixOk 40 x2 && (true && (decide (rR h 10 0 3 = (some (29, 0))) && true)))))) = true then ((f_X2_isHelped (rR h 29 0 (Int32.toNatClampNeg x2)) h).bind fun q19 => (if q19.1 = 0 then (f_X10_marksHelped_30 (f_X10_marksHelped_4 k) x2 x1 0 q19.2) else (f_X10_marksHelped_30 (f_X10_marksHelped_4 k) x2 x1 1 q19.2))) else none))
set_option maxRecDepth 20000 in
theorem ev_X10_marksHelped_4 {d : Nat} (hd : 1 ≤ d) : ∀ (k : Nat) {x1 : Int32} {x2 : Int32} {h : zM} {r : Int32 × zM}, f_X10_marksHelped_4 k x1 x2 h = some r → zEv zmt d 122 4 ([some (vR (some (10, 0))), some (vI x1), some (vI x2)], [], h, true) (some (vI r.1), r.2) := by
  intro k
  induction k with
  | zero => intro x1 x2 h r H; cases H
  | succ k ih =>
    intro x1 x2 h r H
    rcases ifc H with ⟨hc, H⟩ | ⟨hc, H⟩
    · refine zEv.iteT (L2 := [some (vR (some (10, 0))), some (vI x1), some (vI x2)]) (st2 := []) (h2 := h) zm_X10_marksHelped rfl rfl rfl rfl (decide_eq_true hc) ?_
      cases H
      exact zEv.ret zm_X10_marksHelped rfl rfl rfl rfl
    · refine zEv.iteF (L2 := [some (vR (some (10, 0))), some (vI x1), some (vI x2)]) (st2 := []) (h2 := h) zm_X10_marksHelped rfl rfl rfl rfl (decide_eq_false hc) ?_
      obtain ⟨hg, H⟩ := ifg H
      obtain ⟨q19, hq, H⟩ := bnd H
      refine zEv.call (k := 20) (as := [vR (rR h 29 0 (Int32.toNatClampNeg x2))]) (L2 := [some (vR (some (10, 0))), some (vI x1), some (vI x2)]) (st2 := [vI x1]) (h2 := h) (v := some (vI q19.1)) (h1 := q19.2) (st3 := [vI q19.1, vI x1]) zm_X10_marksHelped rfl (and2 (and2 hg).2).2 rfl hg rfl zm_X2_isHelped rfl (by omega) (ev_X2_isHelped (by omega) hq) rfl ?_
      rcases ifc H with ⟨hc, H⟩ | ⟨hc, H⟩
      · refine zEv.iteT (L2 := [some (vR (some (10, 0))), some (vI x1), some (vI x2)]) (st2 := [vI x1]) (h2 := q19.2) zm_X10_marksHelped rfl rfl rfl rfl (decide_eq_true hc) ?_
        refine zEv.loc (L2 := [some (vR (some (10, 0))), some (vI x1), some (vI x2)]) (st2 := [vI 0, vI x1]) (h2 := q19.2) zm_X10_marksHelped rfl rfl rfl rfl (fun h => (nomatch h)) ?_
        exact ev_X10_marksHelped_30 (by omega) ih H
      · refine zEv.iteF (L2 := [some (vR (some (10, 0))), some (vI x1), some (vI x2)]) (st2 := [vI x1]) (h2 := q19.2) zm_X10_marksHelped rfl rfl rfl rfl (decide_eq_false hc) ?_
        refine zEv.loc (L2 := [some (vR (some (10, 0))), some (vI x1), some (vI x2)]) (st2 := [vI 1, vI x1]) (h2 := q19.2) zm_X10_marksHelped rfl rfl rfl rfl (fun h => (nomatch h)) ?_
        exact ev_X10_marksHelped_30 (by omega) ih H
def f_X10_marksHelped (h : zM) : Option (Int32 × zM) := (f_X10_marksHelped_4  1000 0 0 h)
set_option maxRecDepth 20000 in
theorem ev_X10_marksHelped {d : Nat} (hd : 1 ≤ d) {w1 : Option zV} {w2 : Option zV} {h : zM} {r : Int32 × zM} (H : f_X10_marksHelped  h = some r) : zEv zmt d 122 0 ([some (vR (some (10, 0))), w1, w2], [], h, true) (some (vI r.1), r.2) := by
  refine zEv.loc (L2 := [some (vR (some (10, 0))), some (vI 0), some (vI 0)]) (st2 := []) (h2 := h) zm_X10_marksHelped rfl rfl rfl rfl (fun h => (nomatch h)) ?_
  exact ev_X10_marksHelped_4 (by omega)  1000 H
def f_X10_marksStruck_31 (K4 : Int32 → Int32 → zM → Option (Int32 × zM)) (x2 : Int32) (s0 : Int32) (s1 : Int32) (h : zM) : Option (Int32 × zM) := (K4 (s0 + s1) (x2 + 1) h)
set_option maxRecDepth 20000 in
theorem ev_X10_marksStruck_31 {d : Nat} (hd : 0 ≤ d) {K4 : Int32 → Int32 → zM → Option (Int32 × zM)} (hK4 : ∀ {x1 : Int32} {x2 : Int32} {h : zM} {r : Int32 × zM}, K4 x1 x2 h = some r → zEv zmt d 123 4 ([some (vR (some (10, 0))), some (vI x1), some (vI x2)], [], h, true) (some (vI r.1), r.2)) {w1 : Option zV} {x2 : Int32} {s0 : Int32} {s1 : Int32} {h : zM} {r : Int32 × zM} (H : f_X10_marksStruck_31 K4 x2 s0 s1 h = some r) : zEv zmt d 123 31 ([some (vR (some (10, 0))), w1, some (vI x2)], [vI s1, vI s0], h, true) (some (vI r.1), r.2) := by
  refine zEv.loc (L2 := [some (vR (some (10, 0))), some (vI (s0 + s1)), some (vI (x2 + 1))]) (st2 := []) (h2 := h) zm_X10_marksStruck rfl rfl rfl rfl (fun h => (nomatch h)) ?_
  exact hK4 H
def f_X10_marksStruck_4 : Nat → Int32 → Int32 → zM → Option (Int32 × zM)
  | 0 => fun _ _ _ => none
  | k + 1 => fun x1 x2 h => (if (rI h 10 0 10) ≤ x2 then (some (x1, h)) else (if (memN [2] (clR (rR h 29 0 (Int32.toNatClampNeg x2))) && (true && (ixOk 40 x2 && (true && (decide (rR h 10 0 3 = (some (29, 0))) && true))))) = true then (if ¬ (rI h (clR (rR h 29 0 (Int32.toNatClampNeg x2))) (ixR (rR h 29 0 (Int32.toNatClampNeg x2))) 7) = 5 then (f_X10_marksStruck_31 (f_X10_marksStruck_4 k) x2 x1 0 h) else (f_X10_marksStruck_31 (f_X10_marksStruck_4 k) x2 x1 1 h)) else none))
set_option maxRecDepth 20000 in
theorem ev_X10_marksStruck_4 {d : Nat} (hd : 0 ≤ d) : ∀ (k : Nat) {x1 : Int32} {x2 : Int32} {h : zM} {r : Int32 × zM}, f_X10_marksStruck_4 k x1 x2 h = some r → zEv zmt d 123 4 ([some (vR (some (10, 0))), some (vI x1), some (vI x2)], [], h, true) (some (vI r.1), r.2) := by
  intro k
  induction k with
  | zero => intro x1 x2 h r H; cases H
  | succ k ih =>
    intro x1 x2 h r H
    rcases ifc H with ⟨hc, H⟩ | ⟨hc, H⟩
    · refine zEv.iteT (L2 := [some (vR (some (10, 0))), some (vI x1), some (vI x2)]) (st2 := []) (h2 := h) zm_X10_marksStruck rfl rfl rfl rfl (decide_eq_true hc) ?_
      cases H
      exact zEv.ret zm_X10_marksStruck rfl rfl rfl rfl
    · refine zEv.iteF (L2 := [some (vR (some (10, 0))), some (vI x1), some (vI x2)]) (st2 := []) (h2 := h) zm_X10_marksStruck rfl rfl rfl rfl (decide_eq_false hc) ?_
      obtain ⟨hg, H⟩ := ifg H
      rcases ifc H with ⟨hc, H⟩ | ⟨hc, H⟩
      · refine zEv.iteT (L2 := [some (vR (some (10, 0))), some (vI x1), some (vI x2)]) (st2 := [vI x1]) (h2 := h) zm_X10_marksStruck rfl hg rfl hg (decide_eq_true hc) ?_
        refine zEv.loc (L2 := [some (vR (some (10, 0))), some (vI x1), some (vI x2)]) (st2 := [vI 0, vI x1]) (h2 := h) zm_X10_marksStruck rfl rfl rfl rfl (fun h => (nomatch h)) ?_
        exact ev_X10_marksStruck_31 (by omega) ih H
      · refine zEv.iteF (L2 := [some (vR (some (10, 0))), some (vI x1), some (vI x2)]) (st2 := [vI x1]) (h2 := h) zm_X10_marksStruck rfl hg rfl hg (decide_eq_false hc) ?_
        refine zEv.loc (L2 := [some (vR (some (10, 0))), some (vI x1), some (vI x2)]) (st2 := [vI 1, vI x1]) (h2 := h) zm_X10_marksStruck rfl rfl rfl rfl (fun h => (nomatch h)) ?_
        exact ev_X10_marksStruck_31 (by omega) ih H
def f_X10_marksStruck (h : zM) : Option (Int32 × zM) := (f_X10_marksStruck_4  1000 0 0 h)
set_option maxRecDepth 20000 in
theorem ev_X10_marksStruck {d : Nat} (hd : 0 ≤ d) {w1 : Option zV} {w2 : Option zV} {h : zM} {r : Int32 × zM} (H : f_X10_marksStruck  h = some r) : zEv zmt d 123 0 ([some (vR (some (10, 0))), w1, w2], [], h, true) (some (vI r.1), r.2) := by
  refine zEv.loc (L2 := [some (vR (some (10, 0))), some (vI 0), some (vI 0)]) (st2 := []) (h2 := h) zm_X10_marksStruck rfl rfl rfl rfl (fun h => (nomatch h)) ?_
  exact ev_X10_marksStruck_4 (by omega)  1000 H
