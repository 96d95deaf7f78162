def f_X11_crowd_156 (K61 : Int32 → Int32 → Int32 → Int32 → Int32 → Int32 → zM → Option (Int32 × zM)) (x2 : Int32) (x3 : Int32) (x4 : Int32) (x6 : Int32) (x8 : Int32) (s0 : Int32) (s1 : Int32) (h : zM) : Option (Int32 × zM) := (K61 x2 x3 x4 x6 (s0 + s1) (x8 + 1) h)
set_option maxRecDepth 20000 in
theorem ev_X11_crowd_156 {d : Nat} (hd : 7 ≤ d) {K61 : Int32 → Int32 → Int32 → Int32 → Int32 → Int32 → zM → Option (Int32 × zM)} (hK61 : ∀ {w1 : Option zV} {w5 : Option zV} {w9 : Option zV} {w10 : Option zV} {x2 : Int32} {x3 : Int32} {x4 : Int32} {x6 : Int32} {x7 : Int32} {x8 : Int32} {h : zM} {r : Int32 × zM}, K61 x2 x3 x4 x6 x7 x8 h = some r → zEv zmt d 204 61 ([some (vR (some (11, 0))), w1, some (vI x2), some (vI x3), some (vI x4), w5, some (vI x6), some (vI x7), some (vI x8), w9, w10], [], h, true) (some (vI r.1), r.2)) {w1 : Option zV} {w5 : Option zV} {w7 : Option zV} {w9 : Option zV} {w10 : Option zV} {x2 : Int32} {x3 : Int32} {x4 : Int32} {x6 : Int32} {x8 : Int32} {s0 : Int32} {s1 : Int32} {h : zM} {r : Int32 × zM} (H : f_X11_crowd_156 K61 x2 x3 x4 x6 x8 s0 s1 h = some r) : zEv zmt d 204 156 ([some (vR (some (11, 0))), w1, some (vI x2), some (vI x3), some (vI x4), w5, some (vI x6), w7, some (vI x8), w9, w10], [vI s1, vI s0], h, true) (some (vI r.1), r.2) := by
  refine zEv.loc (L2 := [some (vR (some (11, 0))), w1, some (vI x2), some (vI x3), some (vI x4), w5, some (vI x6), some (vI (s0 + s1)), some (vI (x8 + 1)), w9, w10]) (st2 := []) (h2 := h) zm_X11_crowd rfl rfl rfl rfl (fun h => (nomatch h)) ?_
  exact hK61 H
def f_X11_crowd_155 (K61 : Int32 → Int32 → Int32 → Int32 → Int32 → Int32 → zM → Option (Int32 × zM)) (x2 : Int32) (x3 : Int32) (x4 : Int32) (x6 : Int32) (x8 : Int32) (s0 : Int32) (h : zM) : Option (Int32 × zM) := (f_X11_crowd_156 K61 x2 x3 x4 x6 x8 s0 0 h)
set_option maxRecDepth 20000 in
theorem ev_X11_crowd_155 {d : Nat} (hd : 7 ≤ d) {K61 : Int32 → Int32 → Int32 → Int32 → Int32 → Int32 → zM → Option (Int32 × zM)} (hK61 : ∀ {w1 : Option zV} {w5 : Option zV} {w9 : Option zV} {w10 : Option zV} {x2 : Int32} {x3 : Int32} {x4 : Int32} {x6 : Int32} {x7 : Int32} {x8 : Int32} {h : zM} {r : Int32 × zM}, K61 x2 x3 x4 x6 x7 x8 h = some r → zEv zmt d 204 61 ([some (vR (some (11, 0))), w1, some (vI x2), some (vI x3), some (vI x4), w5, some (vI x6), some (vI x7), some (vI x8), w9, w10], [], h, true) (some (vI r.1), r.2)) {w1 : Option zV} {w5 : Option zV} {w7 : Option zV} {w9 : Option zV} {w10 : Option zV} {x2 : Int32} {x3 : Int32} {x4 : Int32} {x6 : Int32} {x8 : Int32} {s0 : Int32} {h : zM} {r : Int32 × zM} (H : f_X11_crowd_155 K61 x2 x3 x4 x6 x8 s0 h = some r) : zEv zmt d 204 155 ([some (vR (some (11, 0))), w1, some (vI x2), some (vI x3), some (vI x4), w5, some (vI x6), w7, some (vI x8), w9, w10], [vI s0], h, true) (some (vI r.1), r.2) := by
  refine zEv.loc (L2 := [some (vR (some (11, 0))), w1, some (vI x2), some (vI x3), some (vI x4), w5, some (vI x6), w7, some (vI x8), w9, w10]) (st2 := [vI 0, vI s0]) (h2 := h) zm_X11_crowd rfl rfl rfl rfl (fun h => (nomatch h)) ?_
  exact ev_X11_crowd_156 (by omega) hK61 H
def f_X11_crowd_134 (K61 : Int32 → Int32 → Int32 → Int32 → Int32 → Int32 → zM → Option (Int32 × zM)) (x2 : Int32) (x3 : Int32) (x4 : Int32) (x7 : Int32) (x8 : Int32) (x9 : Int32) (s0 : Int32) (s1 : Int32) (h : zM) : Option (Int32 × zM) := (if x9 = 0 then (f_X11_crowd_155 K61 x2 x3 x4 (s0 + s1) x8 x7 h) else (if x4 ≤ x8 then (f_X11_crowd_155 K61 x2 x3 x4 (s0 + s1) x8 x7 h) else (f_X11_crowd_156 K61 x2 x3 x4 (s0 + s1) x8 x7 1 h)))
set_option maxRecDepth 20000 in
theorem ev_X11_crowd_134 {d : Nat} (hd : 7 ≤ d) {K61 : Int32 → Int32 → Int32 → Int32 → Int32 → Int32 → zM → Option (Int32 × zM)} (hK61 : ∀ {w1 : Option zV} {w5 : Option zV} {w9 : Option zV} {w10 : Option zV} {x2 : Int32} {x3 : Int32} {x4 : Int32} {x6 : Int32} {x7 : Int32} {x8 : Int32} {h : zM} {r : Int32 × zM}, K61 x2 x3 x4 x6 x7 x8 h = some r → zEv zmt d 204 61 ([some (vR (some (11, 0))), w1, some (vI x2), some (vI x3), some (vI x4), w5, some (vI x6), some (vI x7), some (vI x8), w9, w10], [], h, true) (some (vI r.1), r.2)) {w1 : Option zV} {w5 : Option zV} {w6 : Option zV} {w10 : Option zV} {x2 : Int32} {x3 : Int32} {x4 : Int32} {x7 : Int32} {x8 : Int32} {x9 : Int32} {s0 : Int32} {s1 : Int32} {h : zM} {r : Int32 × zM} (H : f_X11_crowd_134 K61 x2 x3 x4 x7 x8 x9 s0 s1 h = some r) : zEv zmt d 204 134 ([some (vR (some (11, 0))), w1, some (vI x2), some (vI x3), some (vI x4), w5, w6, some (vI x7), some (vI x8), some (vI x9), w10], [vI s1, vI s0], h, true) (some (vI r.1), r.2) := by
  rcases ifc H with ⟨hc, H⟩ | ⟨hc, H⟩
  · refine zEv.iteT (L2 := [some (vR (some (11, 0))), w1, some (vI x2), some (vI x3), some (vI x4), none, some (vI (s0 + s1)), some (vI x7), some (vI x8), some (vI x9), w10]) (st2 := [vI x7]) (h2 := h) zm_X11_crowd rfl rfl rfl rfl (decide_eq_true hc) ?_
    exact ev_X11_crowd_155 (by omega) hK61 H
  · refine zEv.iteF (L2 := [some (vR (some (11, 0))), w1, some (vI x2), some (vI x3), some (vI x4), none, some (vI (s0 + s1)), some (vI x7), some (vI x8), some (vI x9), w10]) (st2 := [vI x7]) (h2 := h) zm_X11_crowd rfl rfl rfl rfl (decide_eq_false hc) ?_
    rcases ifc H with ⟨hc, H⟩ | ⟨hc, H⟩
    · refine zEv.iteT (L2 := [some (vR (some (11, 0))), w1, some (vI x2), some (vI x3), some (vI x4), none, some (vI (s0 + s1)), some (vI x7), some (vI x8), some (vI x9), w10]) (st2 := [vI x7]) (h2 := h) zm_X11_crowd rfl rfl rfl rfl (decide_eq_true hc) ?_
      exact ev_X11_crowd_155 (by omega) hK61 H
    · refine zEv.iteF (L2 := [some (vR (some (11, 0))), w1, some (vI x2), some (vI x3), some (vI x4), none, some (vI (s0 + s1)), some (vI x7), some (vI x8), some (vI x9), w10]) (st2 := [vI x7]) (h2 := h) zm_X11_crowd rfl rfl rfl rfl (decide_eq_false hc) ?_
      refine zEv.loc (L2 := [some (vR (some (11, 0))), w1, some (vI x2), some (vI x3), some (vI x4), none, some (vI (s0 + s1)), some (vI x7), some (vI x8), some (vI x9), w10]) (st2 := [vI 1, vI x7]) (h2 := h) zm_X11_crowd rfl rfl rfl rfl (fun h => (nomatch h)) ?_
      exact ev_X11_crowd_156 (by omega) hK61 H
def f_X11_crowd_120 (K61 : Int32 → Int32 → Int32 → Int32 → Int32 → Int32 → zM → Option (Int32 × zM)) (x2 : Int32) (x3 : Int32) (x4 : Int32) (x6 : Int32) (x7 : Int32) (x8 : Int32) (s0 : Int32) (h : zM) : Option (Int32 × zM) := (if s0 = 0 then (f_X11_crowd_134 K61 x2 x3 x4 x7 x8 s0 x6 0 h) else (f_X11_crowd_134 K61 x2 x3 x4 x7 x8 s0 x6 1 h))
set_option maxRecDepth 20000 in
theorem ev_X11_crowd_120 {d : Nat} (hd : 7 ≤ d) {K61 : Int32 → Int32 → Int32 → Int32 → Int32 → Int32 → zM → Option (Int32 × zM)} (hK61 : ∀ {w1 : Option zV} {w5 : Option zV} {w9 : Option zV} {w10 : Option zV} {x2 : Int32} {x3 : Int32} {x4 : Int32} {x6 : Int32} {x7 : Int32} {x8 : Int32} {h : zM} {r : Int32 × zM}, K61 x2 x3 x4 x6 x7 x8 h = some r → zEv zmt d 204 61 ([some (vR (some (11, 0))), w1, some (vI x2), some (vI x3), some (vI x4), w5, some (vI x6), some (vI x7), some (vI x8), w9, w10], [], h, true) (some (vI r.1), r.2)) {w1 : Option zV} {w5 : Option zV} {w9 : Option zV} {w10 : Option zV} {x2 : Int32} {x3 : Int32} {x4 : Int32} {x6 : Int32} {x7 : Int32} {x8 : Int32} {s0 : Int32} {h : zM} {r : Int32 × zM} (H : f_X11_crowd_120 K61 x2 x3 x4 x6 x7 x8 s0 h = some r) : zEv zmt d 204 120 ([some (vR (some (11, 0))), w1, some (vI x2), some (vI x3), some (vI x4), w5, some (vI x6), some (vI x7), some (vI x8), w9, w10], [vI s0], h, true) (some (vI r.1), r.2) := by
  rcases ifc H with ⟨hc, H⟩ | ⟨hc, H⟩
  · refine zEv.iteT (L2 := [some (vR (some (11, 0))), w1, some (vI x2), some (vI x3), some (vI x4), w5, some (vI x6), some (vI x7), some (vI x8), some (vI s0), w10]) (st2 := [vI x6]) (h2 := h) zm_X11_crowd rfl rfl rfl rfl (decide_eq_true hc) ?_
    refine zEv.loc (L2 := [some (vR (some (11, 0))), w1, some (vI x2), some (vI x3), some (vI x4), w5, some (vI x6), some (vI x7), some (vI x8), some (vI s0), w10]) (st2 := [vI 0, vI x6]) (h2 := h) zm_X11_crowd rfl rfl rfl rfl (fun h => (nomatch h)) ?_
    exact ev_X11_crowd_134 (by omega) hK61 H
  · refine zEv.iteF (L2 := [some (vR (some (11, 0))), w1, some (vI x2), some (vI x3), some (vI x4), w5, some (vI x6), some (vI x7), some (vI x8), some (vI s0), w10]) (st2 := [vI x6]) (h2 := h) zm_X11_crowd rfl rfl rfl rfl (decide_eq_false hc) ?_
    refine zEv.loc (L2 := [some (vR (some (11, 0))), w1, some (vI x2), some (vI x3), some (vI x4), w5, some (vI x6), some (vI x7), some (vI x8), some (vI s0), w10]) (st2 := [vI 1, vI x6]) (h2 := h) zm_X11_crowd rfl rfl rfl rfl (fun h => (nomatch h)) ?_
    exact ev_X11_crowd_134 (by omega) hK61 H
def f_X11_crowd_119 (K61 : Int32 → Int32 → Int32 → Int32 → Int32 → Int32 → zM → Option (Int32 × zM)) (x2 : Int32) (x3 : Int32) (x4 : Int32) (x6 : Int32) (x7 : Int32) (x8 : Int32) (h : zM) : Option (Int32 × zM) := (f_X11_crowd_120 K61 x2 x3 x4 x6 x7 x8 0 h)
set_option maxRecDepth 20000 in
theorem ev_X11_crowd_119 {d : Nat} (hd : 7 ≤ d) {K61 : Int32 → Int32 → Int32 → Int32 → Int32 → Int32 → zM → Option (Int32 × zM)} (hK61 : ∀ {w1 : Option zV} {w5 : Option zV} {w9 : Option zV} {w10 : Option zV} {x2 : Int32} {x3 : Int32} {x4 : Int32} {x6 : Int32} {x7 : Int32} {x8 : Int32} {h : zM} {r : Int32 × zM}, K61 x2 x3 x4 x6 x7 x8 h = some r → zEv zmt d 204 61 ([some (vR (some (11, 0))), w1, some (vI x2), some (vI x3), some (vI x4), w5, some (vI x6), some (vI x7), some (vI x8), w9, w10], [], h, true) (some (vI r.1), r.2)) {w1 : Option zV} {w5 : Option zV} {w9 : Option zV} {w10 : Option zV} {x2 : Int32} {x3 : Int32} {x4 : Int32} {x6 : Int32} {x7 : Int32} {x8 : Int32} {h : zM} {r : Int32 × zM} (H : f_X11_crowd_119 K61 x2 x3 x4 x6 x7 x8 h = some r) : zEv zmt d 204 119 ([some (vR (some (11, 0))), w1, some (vI x2), some (vI x3), some (vI x4), w5, some (vI x6), some (vI x7), some (vI x8), w9, w10], [], h, true) (some (vI r.1), r.2) := by
  refine zEv.loc (L2 := [some (vR (some (11, 0))), w1, some (vI x2), some (vI x3), some (vI x4), w5, some (vI x6), some (vI x7), some (vI x8), w9, w10]) (st2 := [vI 0]) (h2 := h) zm_X11_crowd rfl rfl rfl rfl (fun h => (nomatch h)) ?_
  exact ev_X11_crowd_120 (by omega) hK61 H
def f_X11_crowd_179 (h : zM) : Option (Int32 × zM) := ((f_X11_meets 4 h).bind fun q181 => (some (q181.1, q181.2)))
set_option maxRecDepth 20000 in
theorem ev_X11_crowd_179 {d : Nat} (hd : 7 ≤ d) {w1 : Option zV} {w2 : Option zV} {w3 : Option zV} {w4 : Option zV} {w5 : Option zV} {w6 : Option zV} {w7 : Option zV} {w8 : Option zV} {w9 : Option zV} {w10 : Option zV} {h : zM} {r : Int32 × zM} (H : f_X11_crowd_179  h = some r) : zEv zmt d 204 179 ([some (vR (some (11, 0))), w1, w2, w3, w4, w5, w6, w7, w8, w9, w10], [], h, true) (some (vI r.1), r.2) := by
  obtain ⟨q181, hq, H⟩ := bnd H
  refine zEv.call (k := 128) (as := [vR (some (11, 0)), vI 4]) (L2 := [some (vR (some (11, 0))), w1, w2, w3, w4, w5, w6, w7, w8, w9, w10]) (st2 := []) (h2 := h) (v := some (vI q181.1)) (h1 := q181.2) (st3 := [vI q181.1]) zm_X11_crowd rfl rfl rfl rfl rfl zm_X11_meets rfl (by omega) (ev_X11_meets (by omega) hq) rfl ?_
  cases H
  exact zEv.ret zm_X11_crowd rfl rfl rfl rfl
def f_X11_crowd_192 : Nat → Int32 → Int32 → Int32 → Int64 → Int32 → zM → Option (Int32 × zM)
  | 0 => fun _ _ _ _ _ _ => none
  | k + 1 => fun x4 x6 x7 x8 x10 h => (if x6 < x10 then ((f_X11_ways (rI h 11 0 28) x6 h).bind fun q242 => ((f_X11_tell x8 q242.1 x7 q242.2).bind fun q247 => (some (q247.1, q247.2)))) else ((f_X11_ways x4 x10 h).bind fun q205 => ((f_X11_ways ((rI q205.2 11 0 28) - x4) (x6 - x10) q205.2).bind fun q220 => (f_X11_crowd_192 k x4 x6 x7 (x8 + (q205.1 * q220.1)) (x10 + 1) q220.2))))
set_option maxRecDepth 20000 in
theorem ev_X11_crowd_192 {d : Nat} (hd : 7 ≤ d) : ∀ (k : Nat) {w1 : Option zV} {w2 : Option zV} {w3 : Option zV} {w5 : Option zV} {w9 : Option zV} {x4 : Int32} {x6 : Int32} {x7 : Int32} {x8 : Int64} {x10 : Int32} {h : zM} {r : Int32 × zM}, f_X11_crowd_192 k x4 x6 x7 x8 x10 h = some r → zEv zmt d 204 192 ([some (vR (some (11, 0))), w1, w2, w3, some (vI x4), w5, some (vI x6), some (vI x7), some (vL x8), w9, some (vI x10)], [], h, true) (some (vI r.1), r.2) := by
  intro k
  induction k with
  | zero => intro w1 w2 w3 w5 w9 x4 x6 x7 x8 x10 h r H; cases H
  | succ k ih =>
    intro w1 w2 w3 w5 w9 x4 x6 x7 x8 x10 h r H
    rcases ifc H with ⟨hc, H⟩ | ⟨hc, H⟩
    · refine zEv.iteT (L2 := [some (vR (some (11, 0))), w1, w2, w3, some (vI x4), w5, some (vI x6), some (vI x7), some (vL x8), w9, some (vI x10)]) (st2 := []) (h2 := h) zm_X11_crowd rfl rfl rfl rfl (decide_eq_true hc) ?_
      obtain ⟨q242, hq, H⟩ := bnd H
      refine zEv.call (k := 192) (as := [vI (rI h 11 0 28), vI x6]) (L2 := [some (vR (some (11, 0))), w1, w2, w3, some (vI x4), w5, some (vI x6), some (vI x7), some (vL x8), w9, some (vI x10)]) (st2 := [vL x8, vR (some (11, 0))]) (h2 := h) (v := some (vL q242.1)) (h1 := q242.2) (st3 := [vL q242.1, vL x8, vR (some (11, 0))]) zm_X11_crowd rfl rfl rfl rfl rfl zm_X11_ways rfl (by omega) (ev_X11_ways (by omega) hq) rfl ?_
      obtain ⟨q247, hq, H⟩ := bnd H
      refine zEv.call (k := 130) (as := [vR (some (11, 0)), vL x8, vL q242.1, vI x7]) (L2 := [some (vR (some (11, 0))), w1, w2, w3, some (vI x4), w5, some (vI x6), some (vI x7), some (vL x8), w9, some (vI x10)]) (st2 := []) (h2 := q242.2) (v := some (vI q247.1)) (h1 := q247.2) (st3 := [vI q247.1]) zm_X11_crowd rfl rfl rfl rfl rfl zm_X11_tell rfl (by omega) (ev_X11_tell (by omega) hq) rfl ?_
      cases H
      exact zEv.ret zm_X11_crowd rfl rfl rfl rfl
    · refine zEv.iteF (L2 := [some (vR (some (11, 0))), w1, w2, w3, some (vI x4), w5, some (vI x6), some (vI x7), some (vL x8), w9, some (vI x10)]) (st2 := []) (h2 := h) zm_X11_crowd rfl rfl rfl rfl (decide_eq_false hc) ?_
      obtain ⟨q205, hq, H⟩ := bnd H
      refine zEv.call (k := 192) (as := [vI x4, vI x10]) (L2 := [some (vR (some (11, 0))), w1, w2, w3, some (vI x4), w5, some (vI x6), some (vI x7), some (vL x8), w9, some (vI x10)]) (st2 := [vL x8]) (h2 := h) (v := some (vL q205.1)) (h1 := q205.2) (st3 := [vL q205.1, vL x8]) zm_X11_crowd rfl rfl rfl rfl rfl zm_X11_ways rfl (by omega) (ev_X11_ways (by omega) hq) rfl ?_
      obtain ⟨q220, hq, H⟩ := bnd H
      refine zEv.call (k := 192) (as := [vI ((rI q205.2 11 0 28) - x4), vI (x6 - x10)]) (L2 := [some (vR (some (11, 0))), w1, w2, w3, some (vI x4), w5, some (vI x6), some (vI x7), some (vL x8), w9, some (vI x10)]) (st2 := [vL q205.1, vL x8]) (h2 := q205.2) (v := some (vL q220.1)) (h1 := q220.2) (st3 := [vL q220.1, vL q205.1, vL x8]) zm_X11_crowd rfl rfl rfl rfl rfl zm_X11_ways rfl (by omega) (ev_X11_ways (by omega) hq) rfl ?_
      refine zEv.loc (L2 := [some (vR (some (11, 0))), w1, w2, w3, some (vI x4), w5, some (vI x6), some (vI x7), some (vL (x8 + (q205.1 * q220.1))), none, some (vI (x10 + 1))]) (st2 := []) (h2 := q220.2) zm_X11_crowd rfl rfl rfl rfl (fun h => (nomatch h)) ?_
      exact ih H
def f_X11_crowd_61 : Nat → Int32 → Int32 → Int32 → Int32 → Int32 → Int32 → zM → Option (Int32 × zM)
  | 0 => fun _ _ _ _ _ _ _ => none
  | k + 1 => fun x2 x3 x4 x6 x7 x8 h => (if (rI h 11 0 28) ≤ x8 then (if x6 = 0 then (f_X11_crowd_179  h) else (if x4 ≤ (rI h 11 0 28) then (f_X11_crowd_192  1000 x4 x6 x7 0 x7 h) else (f_X11_crowd_179  h))) else (if (true && (true && (true && (ixOk 40 x8 && (true && (decide (rR h 11 0 29 = (some (45, 0))) && (true && (decide (rR h 11 0 12 = (some (38, 0))) && true)))))))) = true then ((f_X11_part (rI h 45 0 (Int32.toNatClampNeg x8)) 2 h).bind fun q84 => (if (true && (ixOk 32 ((4 * q84.1) + 3) && true)) = true then (if ¬ (rI q84.2 38 0 (Int32.toNatClampNeg ((4 * q84.1) + 3))) = x2 then (f_X11_crowd_119 (f_X11_crowd_61 k) x2 x3 x4 x6 x7 x8 q84.2) else (if (true && (true && (true && (ixOk 40 x8 && (true && (decide (rR q84.2 11 0 29 = (some (45, 0))) && true)))))) = true then ((f_X11_part (rI q84.2 45 0 (Int32.toNatClampNeg x8)) 3 q84.2).bind fun q104 => (if ¬ (q104.1 / 365) = x3 then (f_X11_crowd_119 (f_X11_crowd_61 k) x2 x3 x4 x6 x7 x8 q104.2) else (f_X11_crowd_120 (f_X11_crowd_61 k) x2 x3 x4 x6 x7 x8 1 q104.2))) else none)) else none)) else none))
set_option maxRecDepth 20000 in
theorem ev_X11_crowd_61 {d : Nat} (hd : 7 ≤ d) : ∀ (k : Nat) {w1 : Option zV} {w5 : Option zV} {w9 : Option zV} {w10 : Option zV} {x2 : Int32} {x3 : Int32} {x4 : Int32} {x6 : Int32} {x7 : Int32} {x8 : Int32} {h : zM} {r : Int32 × zM}, f_X11_crowd_61 k x2 x3 x4 x6 x7 x8 h = some r → zEv zmt d 204 61 ([some (vR (some (11, 0))), w1, some (vI x2), some (vI x3), some (vI x4), w5, some (vI x6), some (vI x7), some (vI x8), w9, w10], [], h, true) (some (vI r.1), r.2) := by
  intro k
  induction k with
  | zero => intro w1 w5 w9 w10 x2 x3 x4 x6 x7 x8 h r H; cases H
  | succ k ih =>
    intro w1 w5 w9 w10 x2 x3 x4 x6 x7 x8 h r H
    rcases ifc H with ⟨hc, H⟩ | ⟨hc, H⟩
    · refine zEv.iteT (L2 := [some (vR (some (11, 0))), w1, some (vI x2), some (vI x3), some (vI x4), w5, some (vI x6), some (vI x7), some (vI x8), w9, w10]) (st2 := []) (h2 := h) zm_X11_crowd rfl rfl rfl rfl (decide_eq_true hc) ?_
      rcases ifc H with ⟨hc, H⟩ | ⟨hc, H⟩
      · refine zEv.iteT (L2 := [some (vR (some (11, 0))), w1, some (vI x2), some (vI x3), some (vI x4), w5, some (vI x6), some (vI x7), some (vI x8), w9, w10]) (st2 := []) (h2 := h) zm_X11_crowd rfl rfl rfl rfl (decide_eq_true hc) ?_
        exact ev_X11_crowd_179 (by omega)  H
      · refine zEv.iteF (L2 := [some (vR (some (11, 0))), w1, some (vI x2), some (vI x3), some (vI x4), w5, some (vI x6), some (vI x7), some (vI x8), w9, w10]) (st2 := []) (h2 := h) zm_X11_crowd rfl rfl rfl rfl (decide_eq_false hc) ?_
        rcases ifc H with ⟨hc, H⟩ | ⟨hc, H⟩
        · refine zEv.iteT (L2 := [some (vR (some (11, 0))), w1, some (vI x2), some (vI x3), some (vI x4), w5, some (vI x6), some (vI x7), some (vI x8), w9, w10]) (st2 := []) (h2 := h) zm_X11_crowd rfl rfl rfl rfl (decide_eq_true hc) ?_
          refine zEv.loc (L2 := [some (vR (some (11, 0))), w1, some (vI x2), some (vI x3), some (vI x4), w5, some (vI x6), some (vI x7), some (vL 0), none, some (vI x7)]) (st2 := []) (h2 := h) zm_X11_crowd rfl rfl rfl rfl (fun h => (nomatch h)) ?_
          exact ev_X11_crowd_192 (by omega)  1000 H
        · refine zEv.iteF (L2 := [some (vR (some (11, 0))), w1, some (vI x2), some (vI x3), some (vI x4), w5, some (vI x6), some (vI x7), some (vI x8), w9, w10]) (st2 := []) (h2 := h) zm_X11_crowd rfl rfl rfl rfl (decide_eq_false hc) ?_
          exact ev_X11_crowd_179 (by omega)  H
    · refine zEv.iteF (L2 := [some (vR (some (11, 0))), w1, some (vI x2), some (vI x3), some (vI x4), w5, some (vI x6), some (vI x7), some (vI x8), w9, w10]) (st2 := []) (h2 := h) zm_X11_crowd rfl rfl rfl rfl (decide_eq_false hc) ?_
      obtain ⟨hg, H⟩ := ifg H
      obtain ⟨q84, hq, H⟩ := bnd H
      refine zEv.call (k := 148) (as := [vR (some (11, 0)), vI (rI h 45 0 (Int32.toNatClampNeg x8)), vI 2]) (L2 := [some (vR (some (11, 0))), w1, some (vI x2), some (vI x3), some (vI x4), w5, some (vI x6), some (vI x7), some (vI x8), w9, w10]) (st2 := [vI 4, vR (some (38, 0))]) (h2 := h) (v := some (vI q84.1)) (h1 := q84.2) (st3 := [vI q84.1, vI 4, vR (some (38, 0))]) zm_X11_crowd rfl (and2 (and2 hg).2).2 rfl hg rfl zm_X11_part rfl (by omega) (ev_X11_part (by omega) hq) rfl ?_
      obtain ⟨hg, H⟩ := ifg H
      rcases ifc H with ⟨hc, H⟩ | ⟨hc, H⟩
      · refine zEv.iteT (L2 := [some (vR (some (11, 0))), w1, some (vI x2), some (vI x3), some (vI x4), w5, some (vI x6), some (vI x7), some (vI x8), w9, w10]) (st2 := []) (h2 := q84.2) zm_X11_crowd rfl hg rfl hg (decide_eq_true hc) ?_
        exact ev_X11_crowd_119 (by omega) ih H
      · refine zEv.iteF (L2 := [some (vR (some (11, 0))), w1, some (vI x2), some (vI x3), some (vI x4), w5, some (vI x6), some (vI x7), some (vI x8), w9, w10]) (st2 := []) (h2 := q84.2) zm_X11_crowd rfl hg rfl hg (decide_eq_false hc) ?_
        obtain ⟨hg, H⟩ := ifg H
        obtain ⟨q104, hq, H⟩ := bnd H
        refine zEv.call (k := 148) (as := [vR (some (11, 0)), vI (rI q84.2 45 0 (Int32.toNatClampNeg x8)), vI 3]) (L2 := [some (vR (some (11, 0))), w1, some (vI x2), some (vI x3), some (vI x4), w5, some (vI x6), some (vI x7), some (vI x8), w9, w10]) (st2 := []) (h2 := q84.2) (v := some (vI q104.1)) (h1 := q104.2) (st3 := [vI q104.1]) zm_X11_crowd rfl (and2 (and2 hg).2).2 rfl hg rfl zm_X11_part rfl (by omega) (ev_X11_part (by omega) hq) rfl ?_
        rcases ifc H with ⟨hc, H⟩ | ⟨hc, H⟩
        · refine zEv.iteT (L2 := [some (vR (some (11, 0))), w1, some (vI x2), some (vI x3), some (vI x4), w5, some (vI x6), some (vI x7), some (vI x8), w9, w10]) (st2 := []) (h2 := q104.2) zm_X11_crowd rfl rfl rfl rfl (decide_eq_true hc) ?_
          exact ev_X11_crowd_119 (by omega) ih H
        · refine zEv.iteF (L2 := [some (vR (some (11, 0))), w1, some (vI x2), some (vI x3), some (vI x4), w5, some (vI x6), some (vI x7), some (vI x8), w9, w10]) (st2 := []) (h2 := q104.2) zm_X11_crowd rfl rfl rfl rfl (decide_eq_false hc) ?_
          refine zEv.loc (L2 := [some (vR (some (11, 0))), w1, some (vI x2), some (vI x3), some (vI x4), w5, some (vI x6), some (vI x7), some (vI x8), w9, w10]) (st2 := [vI 1]) (h2 := q104.2) zm_X11_crowd rfl rfl rfl rfl (fun h => (nomatch h)) ?_
          exact ev_X11_crowd_120 (by omega) ih H
def f_X11_crowd (x1 : Int32) (x2 : Int32) (x3 : Int32) (x4 : Int32) (h : zM) : Option (Int32 × zM) := ((f_X11_in x2 0 3 h).bind fun q3 => (if q3.1 = 0 then (some ((-1), q3.2)) else ((f_X11_in x3 0 27 q3.2).bind fun q13 => (if q13.1 = 0 then (some ((-1), q13.2)) else ((f_X11_in x4 1 40 q13.2).bind fun q24 => (if ¬ q24.1 = 0 then ((f_X11_askedRules x1 q24.2).bind fun q34 => (if 0 ≤ q34.1 then ((f_X11_setList 0 q34.2).bind fun q49 => (f_X11_crowd_61  1000 x2 x3 x4 0 0 0 q49)) else (some (q34.1, q34.2)))) else (some ((-1), q24.2))))))))
set_option maxRecDepth 20000 in
theorem ev_X11_crowd {d : Nat} (hd : 7 ≤ d) {w5 : Option zV} {w6 : Option zV} {w7 : Option zV} {w8 : Option zV} {w9 : Option zV} {w10 : Option zV} {x1 : Int32} {x2 : Int32} {x3 : Int32} {x4 : Int32} {h : zM} {r : Int32 × zM} (H : f_X11_crowd x1 x2 x3 x4 h = some r) : zEv zmt d 204 0 ([some (vR (some (11, 0))), some (vI x1), some (vI x2), some (vI x3), some (vI x4), w5, w6, w7, w8, w9, w10], [], h, true) (some (vI r.1), r.2) := by
  obtain ⟨q3, hq, H⟩ := bnd H
  refine zEv.call (k := 127) (as := [vI x2, vI 0, vI 3]) (L2 := [some (vR (some (11, 0))), some (vI x1), some (vI x2), some (vI x3), some (vI x4), w5, w6, w7, w8, w9, w10]) (st2 := []) (h2 := h) (v := some (vI q3.1)) (h1 := q3.2) (st3 := [vI q3.1]) zm_X11_crowd rfl rfl rfl rfl rfl zm_X11_in rfl (by omega) (ev_X11_in (by omega) hq) rfl ?_
  rcases ifc H with ⟨hc, H⟩ | ⟨hc, H⟩
  · refine zEv.iteT (L2 := [some (vR (some (11, 0))), some (vI x1), some (vI x2), some (vI x3), some (vI x4), w5, w6, w7, w8, w9, w10]) (st2 := []) (h2 := q3.2) zm_X11_crowd rfl rfl rfl rfl (decide_eq_true hc) ?_
    cases H
    exact zEv.ret zm_X11_crowd rfl rfl rfl rfl
  · refine zEv.iteF (L2 := [some (vR (some (11, 0))), some (vI x1), some (vI x2), some (vI x3), some (vI x4), w5, w6, w7, w8, w9, w10]) (st2 := []) (h2 := q3.2) zm_X11_crowd rfl rfl rfl rfl (decide_eq_false hc) ?_
    obtain ⟨q13, hq, H⟩ := bnd H
    refine zEv.call (k := 127) (as := [vI x3, vI 0, vI 27]) (L2 := [some (vR (some (11, 0))), some (vI x1), some (vI x2), some (vI x3), some (vI x4), w5, w6, w7, w8, w9, w10]) (st2 := []) (h2 := q3.2) (v := some (vI q13.1)) (h1 := q13.2) (st3 := [vI q13.1]) zm_X11_crowd rfl rfl rfl rfl rfl zm_X11_in rfl (by omega) (ev_X11_in (by omega) hq) rfl ?_
    rcases ifc H with ⟨hc, H⟩ | ⟨hc, H⟩
    · refine zEv.iteT (L2 := [some (vR (some (11, 0))), some (vI x1), some (vI x2), some (vI x3), some (vI x4), w5, w6, w7, w8, w9, w10]) (st2 := []) (h2 := q13.2) zm_X11_crowd rfl rfl rfl rfl (decide_eq_true hc) ?_
      cases H
      exact zEv.ret zm_X11_crowd rfl rfl rfl rfl
    · refine zEv.iteF (L2 := [some (vR (some (11, 0))), some (vI x1), some (vI x2), some (vI x3), some (vI x4), w5, w6, w7, w8, w9, w10]) (st2 := []) (h2 := q13.2) zm_X11_crowd rfl rfl rfl rfl (decide_eq_false hc) ?_
      obtain ⟨q24, hq, H⟩ := bnd H
      refine zEv.call (k := 127) (as := [vI x4, vI 1, vI 40]) (L2 := [some (vR (some (11, 0))), some (vI x1), some (vI x2), some (vI x3), some (vI x4), w5, w6, w7, w8, w9, w10]) (st2 := []) (h2 := q13.2) (v := some (vI q24.1)) (h1 := q24.2) (st3 := [vI q24.1]) zm_X11_crowd rfl rfl rfl rfl rfl zm_X11_in rfl (by omega) (ev_X11_in (by omega) hq) rfl ?_
      rcases ifc H with ⟨hc, H⟩ | ⟨hc, H⟩
      · refine zEv.iteT (L2 := [some (vR (some (11, 0))), some (vI x1), some (vI x2), some (vI x3), some (vI x4), w5, w6, w7, w8, w9, w10]) (st2 := []) (h2 := q24.2) zm_X11_crowd rfl rfl rfl rfl (decide_eq_true hc) ?_
        obtain ⟨q34, hq, H⟩ := bnd H
        refine zEv.call (k := 197) (as := [vR (some (11, 0)), vI x1]) (L2 := [some (vR (some (11, 0))), some (vI x1), some (vI x2), some (vI x3), some (vI x4), w5, w6, w7, w8, w9, w10]) (st2 := []) (h2 := q24.2) (v := some (vI q34.1)) (h1 := q34.2) (st3 := [vI q34.1]) zm_X11_crowd rfl rfl rfl rfl rfl zm_X11_askedRules rfl (by omega) (ev_X11_askedRules (by omega) hq) rfl ?_
        rcases ifc H with ⟨hc, H⟩ | ⟨hc, H⟩
        · refine zEv.iteT (L2 := [some (vR (some (11, 0))), some (vI x1), some (vI x2), some (vI x3), some (vI x4), some (vI q34.1), w6, w7, w8, w9, w10]) (st2 := []) (h2 := q34.2) zm_X11_crowd rfl rfl rfl rfl (decide_eq_true hc) ?_
          obtain ⟨q49, hq, H⟩ := bnd H
          refine zEv.call (k := 196) (as := [vR (some (11, 0)), vI 0]) (L2 := [some (vR (some (11, 0))), some (vI x1), some (vI x2), some (vI x3), some (vI x4), some (vI q34.1), w6, w7, w8, w9, w10]) (st2 := []) (h2 := q34.2) (v := none) (h1 := q49) (st3 := []) zm_X11_crowd rfl rfl rfl rfl rfl zm_X11_setList rfl (by omega) (ev_X11_setList (by omega) hq) rfl ?_
          refine zEv.loc (L2 := [some (vR (some (11, 0))), some (vI x1), some (vI x2), some (vI x3), some (vI x4), none, some (vI 0), some (vI 0), some (vI 0), w9, w10]) (st2 := []) (h2 := q49) zm_X11_crowd rfl rfl rfl rfl (fun h => (nomatch h)) ?_
          exact ev_X11_crowd_61 (by omega)  1000 H
        · refine zEv.iteF (L2 := [some (vR (some (11, 0))), some (vI x1), some (vI x2), some (vI x3), some (vI x4), some (vI q34.1), w6, w7, w8, w9, w10]) (st2 := []) (h2 := q34.2) zm_X11_crowd rfl rfl rfl rfl (decide_eq_false hc) ?_
          cases H
          exact zEv.ret zm_X11_crowd rfl rfl rfl rfl
      · refine zEv.iteF (L2 := [some (vR (some (11, 0))), some (vI x1), some (vI x2), some (vI x3), some (vI x4), w5, w6, w7, w8, w9, w10]) (st2 := []) (h2 := q24.2) zm_X11_crowd rfl rfl rfl rfl (decide_eq_false hc) ?_
        cases H
        exact zEv.ret zm_X11_crowd rfl rfl rfl rfl
def f_X11_next_62 (K8 : Int32 → Int32 → Int32 → zM → Option (Int32 × zM)) (K22 : Int32 → Int32 → Int32 → Int32 → Int32 → zM → Option (Int32 × zM)) (x1 : Int32) (x2 : Int32) (x3 : Int32) (x5 : Int32) (s0 : Int32) (s1 : Int32) (h : zM) : Option (Int32 × zM) := (K22 x1 x2 x3 (s0 + s1) (x5 + 1) h)
set_option maxRecDepth 20000 in
theorem ev_X11_next_62 {d : Nat} (hd : 1 ≤ d) {K8 : Int32 → Int32 → Int32 → zM → Option (Int32 × zM)} (hK8 : ∀ {w4 : Option zV} {w5 : Option zV} {x1 : Int32} {x2 : Int32} {x3 : Int32} {h : zM} {r : Int32 × zM}, K8 x1 x2 x3 h = some r → zEv zmt d 205 8 ([some (vR (some (11, 0))), some (vI x1), some (vI x2), some (vI x3), w4, w5], [], h, true) (some (vI r.1), r.2)) {K22 : Int32 → Int32 → Int32 → Int32 → Int32 → zM → Option (Int32 × zM)} (hK22 : ∀ {x1 : Int32} {x2 : Int32} {x3 : Int32} {x4 : Int32} {x5 : Int32} {h : zM} {r : Int32 × zM}, K22 x1 x2 x3 x4 x5 h = some r → zEv zmt d 205 22 ([some (vR (some (11, 0))), some (vI x1), some (vI x2), some (vI x3), some (vI x4), some (vI x5)], [], h, true) (some (vI r.1), r.2)) {w4 : Option zV} {x1 : Int32} {x2 : Int32} {x3 : Int32} {x5 : Int32} {s0 : Int32} {s1 : Int32} {h : zM} {r : Int32 × zM} (H : f_X11_next_62 K8 K22 x1 x2 x3 x5 s0 s1 h = some r) : zEv zmt d 205 62 ([some (vR (some (11, 0))), some (vI x1), some (vI x2), some (vI x3), w4, some (vI x5)], [vI s1, vI s0], h, true) (some (vI r.1), r.2) := by
  refine zEv.loc (L2 := [some (vR (some (11, 0))), some (vI x1), some (vI x2), some (vI x3), some (vI (s0 + s1)), some (vI (x5 + 1))]) (st2 := []) (h2 := h) zm_X11_next rfl rfl rfl rfl (fun h => (nomatch h)) ?_
  exact hK22 H
def f_X11_next_61 (K8 : Int32 → Int32 → Int32 → zM → Option (Int32 × zM)) (K22 : Int32 → Int32 → Int32 → Int32 → Int32 → zM → Option (Int32 × zM)) (x1 : Int32) (x2 : Int32) (x3 : Int32) (x5 : Int32) (s0 : Int32) (h : zM) : Option (Int32 × zM) := (f_X11_next_62 K8 K22 x1 x2 x3 x5 s0 0 h)
set_option maxRecDepth 20000 in
theorem ev_X11_next_61 {d : Nat} (hd : 1 ≤ d) {K8 : Int32 → Int32 → Int32 → zM → Option (Int32 × zM)} (hK8 : ∀ {w4 : Option zV} {w5 : Option zV} {x1 : Int32} {x2 : Int32} {x3 : Int32} {h : zM} {r : Int32 × zM}, K8 x1 x2 x3 h = some r → zEv zmt d 205 8 ([some (vR (some (11, 0))), some (vI x1), some (vI x2), some (vI x3), w4, w5], [], h, true) (some (vI r.1), r.2)) {K22 : Int32 → Int32 → Int32 → Int32 → Int32 → zM → Option (Int32 × zM)} (hK22 : ∀ {x1 : Int32} {x2 : Int32} {x3 : Int32} {x4 : Int32} {x5 : Int32} {h : zM} {r : Int32 × zM}, K22 x1 x2 x3 x4 x5 h = some r → zEv zmt d 205 22 ([some (vR (some (11, 0))), some (vI x1), some (vI x2), some (vI x3), some (vI x4), some (vI x5)], [], h, true) (some (vI r.1), r.2)) {w4 : Option zV} {x1 : Int32} {x2 : Int32} {x3 : Int32} {x5 : Int32} {s0 : Int32} {h : zM} {r : Int32 × zM} (H : f_X11_next_61 K8 K22 x1 x2 x3 x5 s0 h = some r) : zEv zmt d 205 61 ([some (vR (some (11, 0))), some (vI x1), some (vI x2), some (vI x3), w4, some (vI x5)], [vI s0], h, true) (some (vI r.1), r.2) := by
  refine zEv.loc (L2 := [some (vR (some (11, 0))), some (vI x1), some (vI x2), some (vI x3), w4, some (vI x5)]) (st2 := [vI 0, vI s0]) (h2 := h) zm_X11_next rfl rfl rfl rfl (fun h => (nomatch h)) ?_
  exact ev_X11_next_62 (by omega) hK8 hK22 H
def f_X11_next_95 (K8 : Int32 → Int32 → Int32 → zM → Option (Int32 × zM)) (x1 : Int32) (x3 : Int32) (s0 : Int32) (h : zM) : Option (Int32 × zM) := (K8 x1 s0 (x3 + 1) h)
set_option maxRecDepth 20000 in
theorem ev_X11_next_95 {d : Nat} (hd : 1 ≤ d) {K8 : Int32 → Int32 → Int32 → zM → Option (Int32 × zM)} (hK8 : ∀ {w4 : Option zV} {w5 : Option zV} {x1 : Int32} {x2 : Int32} {x3 : Int32} {h : zM} {r : Int32 × zM}, K8 x1 x2 x3 h = some r → zEv zmt d 205 8 ([some (vR (some (11, 0))), some (vI x1), some (vI x2), some (vI x3), w4, w5], [], h, true) (some (vI r.1), r.2)) {w2 : Option zV} {w4 : Option zV} {w5 : Option zV} {x1 : Int32} {x3 : Int32} {s0 : Int32} {h : zM} {r : Int32 × zM} (H : f_X11_next_95 K8 x1 x3 s0 h = some r) : zEv zmt d 205 95 ([some (vR (some (11, 0))), some (vI x1), w2, some (vI x3), w4, w5], [vI s0], h, true) (some (vI r.1), r.2) := by
  refine zEv.loc (L2 := [some (vR (some (11, 0))), some (vI x1), some (vI s0), some (vI (x3 + 1)), w4, w5]) (st2 := []) (h2 := h) zm_X11_next rfl rfl rfl rfl (fun h => (nomatch h)) ?_
  exact hK8 H
def f_X11_next_82 (K8 : Int32 → Int32 → Int32 → zM → Option (Int32 × zM)) (x2 : Int32) (x3 : Int32) (x4 : Int32) (s0 : Int32) (h : zM) : Option (Int32 × zM) := (if x4 ≤ x2 then (f_X11_next_95 K8 s0 x3 x2 h) else (f_X11_next_95 K8 s0 x3 x4 h))
set_option maxRecDepth 20000 in
theorem ev_X11_next_82 {d : Nat} (hd : 1 ≤ d) {K8 : Int32 → Int32 → Int32 → zM → Option (Int32 × zM)} (hK8 : ∀ {w4 : Option zV} {w5 : Option zV} {x1 : Int32} {x2 : Int32} {x3 : Int32} {h : zM} {r : Int32 × zM}, K8 x1 x2 x3 h = some r → zEv zmt d 205 8 ([some (vR (some (11, 0))), some (vI x1), some (vI x2), some (vI x3), w4, w5], [], h, true) (some (vI r.1), r.2)) {w1 : Option zV} {w5 : Option zV} {x2 : Int32} {x3 : Int32} {x4 : Int32} {s0 : Int32} {h : zM} {r : Int32 × zM} (H : f_X11_next_82 K8 x2 x3 x4 s0 h = some r) : zEv zmt d 205 82 ([some (vR (some (11, 0))), w1, some (vI x2), some (vI x3), some (vI x4), w5], [vI s0], h, true) (some (vI r.1), r.2) := by
  rcases ifc H with ⟨hc, H⟩ | ⟨hc, H⟩
  · refine zEv.iteT (L2 := [some (vR (some (11, 0))), some (vI s0), some (vI x2), some (vI x3), some (vI x4), w5]) (st2 := []) (h2 := h) zm_X11_next rfl rfl rfl rfl (decide_eq_true hc) ?_
    refine zEv.loc (L2 := [some (vR (some (11, 0))), some (vI s0), some (vI x2), some (vI x3), some (vI x4), w5]) (st2 := [vI x2]) (h2 := h) zm_X11_next rfl rfl rfl rfl (fun h => (nomatch h)) ?_
    exact ev_X11_next_95 (by omega) hK8 H
  · refine zEv.iteF (L2 := [some (vR (some (11, 0))), some (vI s0), some (vI x2), some (vI x3), some (vI x4), w5]) (st2 := []) (h2 := h) zm_X11_next rfl rfl rfl rfl (decide_eq_false hc) ?_
    refine zEv.loc (L2 := [some (vR (some (11, 0))), some (vI s0), some (vI x2), some (vI x3), some (vI x4), w5]) (st2 := [vI x4]) (h2 := h) zm_X11_next rfl rfl rfl rfl (fun h => (nomatch h)) ?_
    exact ev_X11_next_95 (by omega) hK8 H
def f_X11_next_22 (K8 : Int32 → Int32 → Int32 → zM → Option (Int32 × zM)) : Nat → Int32 → Int32 → Int32 → Int32 → Int32 → zM → Option (Int32 × zM)
  | 0 => fun _ _ _ _ _ _ => none
  | k + 1 => fun x1 x2 x3 x4 x5 h => (if (rI h 11 0 13) ≤ x5 then (if x4 ≤ x2 then (f_X11_next_82 K8 x2 x3 x4 x1 h) else (f_X11_next_82 K8 x2 x3 x4 x3 h)) else ((f_X11_part x5 2 h).bind fun q37 => (if ¬ q37.1 = x3 then (f_X11_next_61 K8 (f_X11_next_22 K8 k) x1 x2 x3 x5 x4 q37.2) else ((f_X11_part x5 5 q37.2).bind fun q48 => (if ¬ q48.1 = (-9999) then (f_X11_next_61 K8 (f_X11_next_22 K8 k) x1 x2 x3 x5 x4 q48.2) else (f_X11_next_62 K8 (f_X11_next_22 K8 k) x1 x2 x3 x5 x4 1 q48.2))))))
set_option maxRecDepth 20000 in
theorem ev_X11_next_22 {d : Nat} (hd : 1 ≤ d) {K8 : Int32 → Int32 → Int32 → zM → Option (Int32 × zM)} (hK8 : ∀ {w4 : Option zV} {w5 : Option zV} {x1 : Int32} {x2 : Int32} {x3 : Int32} {h : zM} {r : Int32 × zM}, K8 x1 x2 x3 h = some r → zEv zmt d 205 8 ([some (vR (some (11, 0))), some (vI x1), some (vI x2), some (vI x3), w4, w5], [], h, true) (some (vI r.1), r.2)) : ∀ (k : Nat) {x1 : Int32} {x2 : Int32} {x3 : Int32} {x4 : Int32} {x5 : Int32} {h : zM} {r : Int32 × zM}, f_X11_next_22 K8 k x1 x2 x3 x4 x5 h = some r → zEv zmt d 205 22 ([some (vR (some (11, 0))), some (vI x1), some (vI x2), some (vI x3), some (vI x4), some (vI x5)], [], h, true) (some (vI r.1), r.2) := by
  intro k
  induction k with
  | zero => intro x1 x2 x3 x4 x5 h r H; cases H
  | succ k ih =>
    intro x1 x2 x3 x4 x5 h r H
    rcases ifc H with ⟨hc, H⟩ | ⟨hc, H⟩
    · refine zEv.iteT (L2 := [some (vR (some (11, 0))), some (vI x1), some (vI x2), some (vI x3), some (vI x4), some (vI x5)]) (st2 := []) (h2 := h) zm_X11_next rfl rfl rfl rfl (decide_eq_true hc) ?_
      rcases ifc H with ⟨hc, H⟩ | ⟨hc, H⟩
      · refine zEv.iteT (L2 := [some (vR (some (11, 0))), some (vI x1), some (vI x2), some (vI x3), some (vI x4), some (vI x5)]) (st2 := []) (h2 := h) zm_X11_next rfl rfl rfl rfl (decide_eq_true hc) ?_
        refine zEv.loc (L2 := [some (vR (some (11, 0))), some (vI x1), some (vI x2), some (vI x3), some (vI x4), some (vI x5)]) (st2 := [vI x1]) (h2 := h) zm_X11_next rfl rfl rfl rfl (fun h => (nomatch h)) ?_
        exact ev_X11_next_82 (by omega) hK8 H
      · refine zEv.iteF (L2 := [some (vR (some (11, 0))), some (vI x1), some (vI x2), some (vI x3), some (vI x4), some (vI x5)]) (st2 := []) (h2 := h) zm_X11_next rfl rfl rfl rfl (decide_eq_false hc) ?_
        refine zEv.loc (L2 := [some (vR (some (11, 0))), some (vI x1), some (vI x2), some (vI x3), some (vI x4), some (vI x5)]) (st2 := [vI x3]) (h2 := h) zm_X11_next rfl rfl rfl rfl (fun h => (nomatch h)) ?_
        exact ev_X11_next_82 (by omega) hK8 H
    · refine zEv.iteF (L2 := [some (vR (some (11, 0))), some (vI x1), some (vI x2), some (vI x3), some (vI x4), some (vI x5)]) (st2 := []) (h2 := h) zm_X11_next rfl rfl rfl rfl (decide_eq_false hc) ?_
      obtain ⟨q37, hq, H⟩ := bnd H
      refine zEv.call (k := 148) (as := [vR (some (11, 0)), vI x5, vI 2]) (L2 := [some (vR (some (11, 0))), some (vI x1), some (vI x2), some (vI x3), some (vI x4), some (vI x5)]) (st2 := [vI x4]) (h2 := h) (v := some (vI q37.1)) (h1 := q37.2) (st3 := [vI q37.1, vI x4]) zm_X11_next rfl rfl rfl rfl rfl zm_X11_part rfl (by omega) (ev_X11_part (by omega) hq) rfl ?_
      rcases ifc H with ⟨hc, H⟩ | ⟨hc, H⟩
      · refine zEv.iteT (L2 := [some (vR (some (11, 0))), some (vI x1), some (vI x2), some (vI x3), some (vI x4), some (vI x5)]) (st2 := [vI x4]) (h2 := q37.2) zm_X11_next rfl rfl rfl rfl (decide_eq_true hc) ?_
        exact ev_X11_next_61 (by omega) hK8 ih H
      · refine zEv.iteF (L2 := [some (vR (some (11, 0))), some (vI x1), some (vI x2), some (vI x3), some (vI x4), some (vI x5)]) (st2 := [vI x4]) (h2 := q37.2) zm_X11_next rfl rfl rfl rfl (decide_eq_false hc) ?_
        obtain ⟨q48, hq, H⟩ := bnd H
        refine zEv.call (k := 148) (as := [vR (some (11, 0)), vI x5, vI 5]) (L2 := [some (vR (some (11, 0))), some (vI x1), some (vI x2), some (vI x3), some (vI x4), some (vI x5)]) (st2 := [vI x4]) (h2 := q37.2) (v := some (vI q48.1)) (h1 := q48.2) (st3 := [vI q48.1, vI x4]) zm_X11_next rfl rfl rfl rfl rfl zm_X11_part rfl (by omega) (ev_X11_part (by omega) hq) rfl ?_
        rcases ifc H with ⟨hc, H⟩ | ⟨hc, H⟩
        · refine zEv.iteT (L2 := [some (vR (some (11, 0))), some (vI x1), some (vI x2), some (vI x3), some (vI x4), some (vI x5)]) (st2 := [vI x4]) (h2 := q48.2) zm_X11_next rfl rfl rfl rfl (decide_eq_true hc) ?_
          exact ev_X11_next_61 (by omega) hK8 ih H
        · refine zEv.iteF (L2 := [some (vR (some (11, 0))), some (vI x1), some (vI x2), some (vI x3), some (vI x4), some (vI x5)]) (st2 := [vI x4]) (h2 := q48.2) zm_X11_next rfl rfl rfl rfl (decide_eq_false hc) ?_
          refine zEv.loc (L2 := [some (vR (some (11, 0))), some (vI x1), some (vI x2), some (vI x3), some (vI x4), some (vI x5)]) (st2 := [vI 1, vI x4]) (h2 := q48.2) zm_X11_next rfl rfl rfl rfl (fun h => (nomatch h)) ?_
          exact ev_X11_next_62 (by omega) hK8 ih H
def f_X11_next_8 : Nat → Int32 → Int32 → Int32 → zM → Option (Int32 × zM)
  | 0 => fun _ _ _ _ => none
  | k + 1 => fun x1 x2 x3 h => (if (rI h 11 0 11) ≤ x3 then (if ¬ x1 = (-9999) then ((f_X11_ask x2 x1 h).bind fun q118 => (some (q118.1, q118.2))) else (some ((-9999), h))) else (f_X11_next_22 (f_X11_next_8 k) 1000 x1 x2 x3 0 0 h))
set_option maxRecDepth 20000 in
theorem ev_X11_next_8 {d : Nat} (hd : 1 ≤ d) : ∀ (k : Nat) {w4 : Option zV} {w5 : Option zV} {x1 : Int32} {x2 : Int32} {x3 : Int32} {h : zM} {r : Int32 × zM}, f_X11_next_8 k x1 x2 x3 h = some r → zEv zmt d 205 8 ([some (vR (some (11, 0))), some (vI x1), some (vI x2), some (vI x3), w4, w5], [], h, true) (some (vI r.1), r.2) := by
  intro k
  induction k with
  | zero => intro w4 w5 x1 x2 x3 h r H; cases H
  | succ k ih =>
    intro w4 w5 x1 x2 x3 h r H
    rcases ifc H with ⟨hc, H⟩ | ⟨hc, H⟩
    · refine zEv.iteT (L2 := [some (vR (some (11, 0))), some (vI x1), some (vI x2), some (vI x3), w4, w5]) (st2 := []) (h2 := h) zm_X11_next rfl rfl rfl rfl (decide_eq_true hc) ?_
      rcases ifc H with ⟨hc, H⟩ | ⟨hc, H⟩
      · refine zEv.iteT (L2 := [some (vR (some (11, 0))), some (vI x1), some (vI x2), some (vI x3), w4, w5]) (st2 := []) (h2 := h) zm_X11_next rfl rfl rfl rfl (decide_eq_true hc) ?_
        obtain ⟨q118, hq, H⟩ := bnd H
        refine zEv.call (k := 129) (as := [vR (some (11, 0)), vI x2, vI x1]) (L2 := [some (vR (some (11, 0))), some (vI x1), some (vI x2), some (vI x3), w4, w5]) (st2 := []) (h2 := h) (v := some (vI q118.1)) (h1 := q118.2) (st3 := [vI q118.1]) zm_X11_next rfl rfl rfl rfl rfl zm_X11_ask rfl (by omega) (ev_X11_ask (by omega) hq) rfl ?_
        cases H
        exact zEv.ret zm_X11_next rfl rfl rfl rfl
      · refine zEv.iteF (L2 := [some (vR (some (11, 0))), some (vI x1), some (vI x2), some (vI x3), w4, w5]) (st2 := []) (h2 := h) zm_X11_next rfl rfl rfl rfl (decide_eq_false hc) ?_
        refine zEv.loc (L2 := [some (vR (some (11, 0))), some (vI x1), some (vI x2), some (vI x3), w4, w5]) (st2 := [vI (-9999)]) (h2 := h) zm_X11_next rfl rfl rfl rfl (fun h => (nomatch h)) ?_
        cases H
        exact zEv.ret zm_X11_next rfl rfl rfl rfl
    · refine zEv.iteF (L2 := [some (vR (some (11, 0))), some (vI x1), some (vI x2), some (vI x3), w4, w5]) (st2 := []) (h2 := h) zm_X11_next rfl rfl rfl rfl (decide_eq_false hc) ?_
      refine zEv.loc (L2 := [some (vR (some (11, 0))), some (vI x1), some (vI x2), some (vI x3), some (vI 0), some (vI 0)]) (st2 := []) (h2 := h) zm_X11_next rfl rfl rfl rfl (fun h => (nomatch h)) ?_
      exact ev_X11_next_22 (by omega) ih 1000 H
def f_X11_next (h : zM) : Option (Int32 × zM) := (f_X11_next_8  1000 (-9999) 0 0 h)
set_option maxRecDepth 20000 in
theorem ev_X11_next {d : Nat} (hd : 1 ≤ d) {w1 : Option zV} {w2 : Option zV} {w3 : Option zV} {w4 : Option zV} {w5 : Option zV} {h : zM} {r : Int32 × zM} (H : f_X11_next  h = some r) : zEv zmt d 205 0 ([some (vR (some (11, 0))), w1, w2, w3, w4, w5], [], h, true) (some (vI r.1), r.2) := by
  refine zEv.loc (L2 := [some (vR (some (11, 0))), some (vI (-9999)), some (vI 0), some (vI 0), w4, w5]) (st2 := []) (h2 := h) zm_X11_next rfl rfl rfl rfl (fun h => (nomatch h)) ?_
  exact ev_X11_next_8 (by omega)  1000 H
def f_X11_asked (h : zM) : Option (Int32 × zM) := (some ((rI h 11 0 2), h))
set_option maxRecDepth 20000 in
theorem ev_X11_asked {d : Nat} (hd : 0 ≤ d) {h : zM} {r : Int32 × zM} (H : f_X11_asked  h = some r) : zEv zmt d 206 0 ([some (vR (some (11, 0)))], [], h, true) (some (vI r.1), r.2) := by
  cases H
  exact zEv.ret zm_X11_asked rfl rfl rfl rfl
def f_X11_upper (h : zM) : Option (Int64 × zM) := (some ((rL h 11 0 3), h))
set_option maxRecDepth 20000 in
theorem ev_X11_upper {d : Nat} (hd : 0 ≤ d) {h : zM} {r : Int64 × zM} (H : f_X11_upper  h = some r) : zEv zmt d 207 0 ([some (vR (some (11, 0)))], [], h, true) (some (vL r.1), r.2) := by
  cases H
  exact zEv.ret zm_X11_upper rfl rfl rfl rfl
def f_X11_lower (h : zM) : Option (Int64 × zM) := (some ((rL h 11 0 4), h))
set_option maxRecDepth 20000 in
theorem ev_X11_lower {d : Nat} (hd : 0 ≤ d) {h : zM} {r : Int64 × zM} (H : f_X11_lower  h = some r) : zEv zmt d 208 0 ([some (vR (some (11, 0)))], [], h, true) (some (vL r.1), r.2) := by
  cases H
  exact zEv.ret zm_X11_lower rfl rfl rfl rfl
def f_X11_counts_201 (s0 : Int32) (h : zM) : Option (Int32 × zM) := (if (true && (true && (true && (decide (rR h 11 0 26 = (some (43, 0))) && true)))) = true then (if (rI h 43 0 (Int32.toNatClampNeg 1)) = 0 then (some ((s0 + 0), h)) else (some ((s0 + 1), h))) else none)
set_option maxRecDepth 20000 in
theorem ev_X11_counts_201 {d : Nat} (hd : 1 ≤ d) {w1 : Option zV} {w2 : Option zV} {w3 : Option zV} {s0 : Int32} {h : zM} {r : Int32 × zM} (H : f_X11_counts_201 s0 h = some r) : zEv zmt d 209 201 ([some (vR (some (11, 0))), w1, w2, w3], [vI s0], h, true) (some (vI r.1), r.2) := by
  obtain ⟨hg, H⟩ := ifg H
  rcases ifc H with ⟨hc, H⟩ | ⟨hc, H⟩
  · refine zEv.iteT (L2 := [some (vR (some (11, 0))), w1, w2, w3]) (st2 := [vI s0]) (h2 := h) zm_X11_counts rfl hg rfl hg (decide_eq_true hc) ?_
    refine zEv.loc (L2 := [some (vR (some (11, 0))), w1, w2, w3]) (st2 := [vI 0, vI s0]) (h2 := h) zm_X11_counts rfl rfl rfl rfl (fun h => (nomatch h)) ?_
    cases H
    exact zEv.ret zm_X11_counts rfl rfl rfl rfl
  · refine zEv.iteF (L2 := [some (vR (some (11, 0))), w1, w2, w3]) (st2 := [vI s0]) (h2 := h) zm_X11_counts rfl hg rfl hg (decide_eq_false hc) ?_
    refine zEv.loc (L2 := [some (vR (some (11, 0))), w1, w2, w3]) (st2 := [vI 1, vI s0]) (h2 := h) zm_X11_counts rfl rfl rfl rfl (fun h => (nomatch h)) ?_
    cases H
    exact zEv.ret zm_X11_counts rfl rfl rfl rfl
def f_X11_counts_177 (K157 : Int32 → Int32 → zM → Option (Int32 × zM)) (x3 : Int32) (s0 : Int32) (s1 : Int32) (h : zM) : Option (Int32 × zM) := (K157 (s0 + s1) (x3 + 1) h)
set_option maxRecDepth 20000 in
theorem ev_X11_counts_177 {d : Nat} (hd : 1 ≤ d) {K157 : Int32 → Int32 → zM → Option (Int32 × zM)} (hK157 : ∀ {w1 : Option zV} {x2 : Int32} {x3 : Int32} {h : zM} {r : Int32 × zM}, K157 x2 x3 h = some r → zEv zmt d 209 157 ([some (vR (some (11, 0))), w1, some (vI x2), some (vI x3)], [], h, true) (some (vI r.1), r.2)) {w1 : Option zV} {w2 : Option zV} {x3 : Int32} {s0 : Int32} {s1 : Int32} {h : zM} {r : Int32 × zM} (H : f_X11_counts_177 K157 x3 s0 s1 h = some r) : zEv zmt d 209 177 ([some (vR (some (11, 0))), w1, w2, some (vI x3)], [vI s1, vI s0], h, true) (some (vI r.1), r.2) := by
  refine zEv.loc (L2 := [some (vR (some (11, 0))), none, some (vI (s0 + s1)), some (vI (x3 + 1))]) (st2 := []) (h2 := h) zm_X11_counts rfl rfl rfl rfl (fun h => (nomatch h)) ?_
  exact hK157 H
def f_X11_counts_157 : Nat → Int32 → Int32 → zM → Option (Int32 × zM)
  | 0 => fun _ _ _ => none
  | k + 1 => fun x2 x3 h => (if 4 ≤ x3 then (some (x2, h)) else (if (true && (ixOk 4 x3 && (true && (decide (rR h 11 0 9 = (some (36, 0))) && true)))) = true then (if (rI h 36 0 (Int32.toNatClampNeg x3)) < 0 then (f_X11_counts_177 (f_X11_counts_157 k) x3 x2 0 h) else (f_X11_counts_177 (f_X11_counts_157 k) x3 x2 1 h)) else none))
set_option maxRecDepth 20000 in
theorem ev_X11_counts_157 {d : Nat} (hd : 1 ≤ d) : ∀ (k : Nat) {w1 : Option zV} {x2 : Int32} {x3 : Int32} {h : zM} {r : Int32 × zM}, f_X11_counts_157 k x2 x3 h = some r → zEv zmt d 209 157 ([some (vR (some (11, 0))), w1, some (vI x2), some (vI x3)], [], h, true) (some (vI r.1), r.2) := by
  intro k
  induction k with
  | zero => intro w1 x2 x3 h r H; cases H
  | succ k ih =>
    intro w1 x2 x3 h r H
    rcases ifc H with ⟨hc, H⟩ | ⟨hc, H⟩
    · refine zEv.iteT (L2 := [some (vR (some (11, 0))), w1, some (vI x2), some (vI x3)]) (st2 := []) (h2 := h) zm_X11_counts rfl rfl rfl rfl (decide_eq_true hc) ?_
      cases H
      exact zEv.ret zm_X11_counts rfl rfl rfl rfl
    · refine zEv.iteF (L2 := [some (vR (some (11, 0))), w1, some (vI x2), some (vI x3)]) (st2 := []) (h2 := h) zm_X11_counts rfl rfl rfl rfl (decide_eq_false hc) ?_
      obtain ⟨hg, H⟩ := ifg H
      rcases ifc H with ⟨hc, H⟩ | ⟨hc, H⟩
      · refine zEv.iteT (L2 := [some (vR (some (11, 0))), w1, some (vI x2), some (vI x3)]) (st2 := [vI x2]) (h2 := h) zm_X11_counts rfl hg rfl hg (decide_eq_true hc) ?_
        refine zEv.loc (L2 := [some (vR (some (11, 0))), w1, some (vI x2), some (vI x3)]) (st2 := [vI 0, vI x2]) (h2 := h) zm_X11_counts rfl rfl rfl rfl (fun h => (nomatch h)) ?_
        exact ev_X11_counts_177 (by omega) ih H
      · refine zEv.iteF (L2 := [some (vR (some (11, 0))), w1, some (vI x2), some (vI x3)]) (st2 := [vI x2]) (h2 := h) zm_X11_counts rfl hg rfl hg (decide_eq_false hc) ?_
        refine zEv.loc (L2 := [some (vR (some (11, 0))), w1, some (vI x2), some (vI x3)]) (st2 := [vI 1, vI x2]) (h2 := h) zm_X11_counts rfl rfl rfl rfl (fun h => (nomatch h)) ?_
        exact ev_X11_counts_177 (by omega) ih H
def f_X11_counts_145 (K124 : Int32 → Int32 → zM → Option (Int32 × zM)) (x3 : Int32) (s0 : Int32) (s1 : Int32) (h : zM) : Option (Int32 × zM) := (K124 (s0 + s1) (x3 + 1) h)
set_option maxRecDepth 20000 in
theorem ev_X11_counts_145 {d : Nat} (hd : 1 ≤ d) {K124 : Int32 → Int32 → zM → Option (Int32 × zM)} (hK124 : ∀ {w1 : Option zV} {x2 : Int32} {x3 : Int32} {h : zM} {r : Int32 × zM}, K124 x2 x3 h = some r → zEv zmt d 209 124 ([some (vR (some (11, 0))), w1, some (vI x2), some (vI x3)], [], h, true) (some (vI r.1), r.2)) {w1 : Option zV} {w2 : Option zV} {x3 : Int32} {s0 : Int32} {s1 : Int32} {h : zM} {r : Int32 × zM} (H : f_X11_counts_145 K124 x3 s0 s1 h = some r) : zEv zmt d 209 145 ([some (vR (some (11, 0))), w1, w2, some (vI x3)], [vI s1, vI s0], h, true) (some (vI r.1), r.2) := by
  refine zEv.loc (L2 := [some (vR (some (11, 0))), none, some (vI (s0 + s1)), some (vI (x3 + 1))]) (st2 := []) (h2 := h) zm_X11_counts rfl rfl rfl rfl (fun h => (nomatch h)) ?_
  exact hK124 H
def f_X11_counts_124 : Nat → Int32 → Int32 → zM → Option (Int32 × zM)
  | 0 => fun _ _ _ => none
  | k + 1 => fun x2 x3 h => (if 6 ≤ x3 then (some (x2, h)) else (if (true && (ixOk 6 x3 && (true && (decide (rR h 11 0 6 = (some (33, 0))) && true)))) = true then (if (rI h 33 0 (Int32.toNatClampNeg x3)) < 0 then (f_X11_counts_145 (f_X11_counts_124 k) x3 x2 0 h) else (f_X11_counts_145 (f_X11_counts_124 k) x3 x2 1 h)) else none))
set_option maxRecDepth 20000 in
theorem ev_X11_counts_124 {d : Nat} (hd : 1 ≤ d) : ∀ (k : Nat) {w1 : Option zV} {x2 : Int32} {x3 : Int32} {h : zM} {r : Int32 × zM}, f_X11_counts_124 k x2 x3 h = some r → zEv zmt d 209 124 ([some (vR (some (11, 0))), w1, some (vI x2), some (vI x3)], [], h, true) (some (vI r.1), r.2) := by
  intro k
  induction k with
  | zero => intro w1 x2 x3 h r H; cases H
  | succ k ih =>
    intro w1 x2 x3 h r H
    rcases ifc H with ⟨hc, H⟩ | ⟨hc, H⟩
    · refine zEv.iteT (L2 := [some (vR (some (11, 0))), w1, some (vI x2), some (vI x3)]) (st2 := []) (h2 := h) zm_X11_counts rfl rfl rfl rfl (decide_eq_true hc) ?_
      cases H
      exact zEv.ret zm_X11_counts rfl rfl rfl rfl
    · refine zEv.iteF (L2 := [some (vR (some (11, 0))), w1, some (vI x2), some (vI x3)]) (st2 := []) (h2 := h) zm_X11_counts rfl rfl rfl rfl (decide_eq_false hc) ?_
      obtain ⟨hg, H⟩ := ifg H
      rcases ifc H with ⟨hc, H⟩ | ⟨hc, H⟩
      · refine zEv.iteT (L2 := [some (vR (some (11, 0))), w1, some (vI x2), some (vI x3)]) (st2 := [vI x2]) (h2 := h) zm_X11_counts rfl hg rfl hg (decide_eq_true hc) ?_
        refine zEv.loc (L2 := [some (vR (some (11, 0))), w1, some (vI x2), some (vI x3)]) (st2 := [vI 0, vI x2]) (h2 := h) zm_X11_counts rfl rfl rfl rfl (fun h => (nomatch h)) ?_
        exact ev_X11_counts_145 (by omega) ih H
      · refine zEv.iteF (L2 := [some (vR (some (11, 0))), w1, some (vI x2), some (vI x3)]) (st2 := [vI x2]) (h2 := h) zm_X11_counts rfl hg rfl hg (decide_eq_false hc) ?_
        refine zEv.loc (L2 := [some (vR (some (11, 0))), w1, some (vI x2), some (vI x3)]) (st2 := [vI 1, vI x2]) (h2 := h) zm_X11_counts rfl rfl rfl rfl (fun h => (nomatch h)) ?_
        exact ev_X11_counts_145 (by omega) ih H
def f_X11_counts_112 (K61 : Int32 → Int32 → Int32 → zM → Option (Int32 × zM)) (x1 : Int32) (x3 : Int32) (s0 : Int32) (s1 : Int32) (h : zM) : Option (Int32 × zM) := (K61 x1 (s0 + s1) (x3 + 1) h)
set_option maxRecDepth 20000 in
theorem ev_X11_counts_112 {d : Nat} (hd : 1 ≤ d) {K61 : Int32 → Int32 → Int32 → zM → Option (Int32 × zM)} (hK61 : ∀ {x1 : Int32} {x2 : Int32} {x3 : Int32} {h : zM} {r : Int32 × zM}, K61 x1 x2 x3 h = some r → zEv zmt d 209 61 ([some (vR (some (11, 0))), some (vI x1), some (vI x2), some (vI x3)], [], h, true) (some (vI r.1), r.2)) {w2 : Option zV} {x1 : Int32} {x3 : Int32} {s0 : Int32} {s1 : Int32} {h : zM} {r : Int32 × zM} (H : f_X11_counts_112 K61 x1 x3 s0 s1 h = some r) : zEv zmt d 209 112 ([some (vR (some (11, 0))), some (vI x1), w2, some (vI x3)], [vI s1, vI s0], h, true) (some (vI r.1), r.2) := by
  refine zEv.loc (L2 := [some (vR (some (11, 0))), some (vI x1), some (vI (s0 + s1)), some (vI (x3 + 1))]) (st2 := []) (h2 := h) zm_X11_counts rfl rfl rfl rfl (fun h => (nomatch h)) ?_
  exact hK61 H
def f_X11_counts_61 : Nat → Int32 → Int32 → Int32 → zM → Option (Int32 × zM)
  | 0 => fun _ _ _ _ => none
  | k + 1 => fun x1 x2 x3 h => (if (rI h 11 0 13) ≤ x3 then (some (x2, h)) else (if ¬ x1 = 3 then ((f_X11_part x3 0 h).bind fun q100 => (if ¬ q100.1 = 5 then (f_X11_counts_112 (f_X11_counts_61 k) x1 x3 x2 0 q100.2) else (f_X11_counts_112 (f_X11_counts_61 k) x1 x3 x2 1 q100.2))) else ((f_X11_part x3 0 h).bind fun q78 => ((f_X11_in q78.1 1 3 q78.2).bind fun q83 => (if q83.1 = 0 then (f_X11_counts_112 (f_X11_counts_61 k) x1 x3 x2 0 q83.2) else (f_X11_counts_112 (f_X11_counts_61 k) x1 x3 x2 1 q83.2))))))
set_option maxRecDepth 20000 in
theorem ev_X11_counts_61 {d : Nat} (hd : 1 ≤ d) : ∀ (k : Nat) {x1 : Int32} {x2 : Int32} {x3 : Int32} {h : zM} {r : Int32 × zM}, f_X11_counts_61 k x1 x2 x3 h = some r → zEv zmt d 209 61 ([some (vR (some (11, 0))), some (vI x1), some (vI x2), some (vI x3)], [], h, true) (some (vI r.1), r.2) := by
  intro k
  induction k with
  | zero => intro x1 x2 x3 h r H; cases H
  | succ k ih =>
    intro x1 x2 x3 h r H
    rcases ifc H with ⟨hc, H⟩ | ⟨hc, H⟩
    · refine zEv.iteT (L2 := [some (vR (some (11, 0))), some (vI x1), some (vI x2), some (vI x3)]) (st2 := []) (h2 := h) zm_X11_counts rfl rfl rfl rfl (decide_eq_true hc) ?_
      cases H
      exact zEv.ret zm_X11_counts rfl rfl rfl rfl
    · refine zEv.iteF (L2 := [some (vR (some (11, 0))), some (vI x1), some (vI x2), some (vI x3)]) (st2 := []) (h2 := h) zm_X11_counts rfl rfl rfl rfl (decide_eq_false hc) ?_
      rcases ifc H with ⟨hc, H⟩ | ⟨hc, H⟩
      · refine zEv.iteT (L2 := [some (vR (some (11, 0))), some (vI x1), some (vI x2), some (vI x3)]) (st2 := [vI x2]) (h2 := h) zm_X11_counts rfl rfl rfl rfl (decide_eq_true hc) ?_
        obtain ⟨q100, hq, H⟩ := bnd H
        refine zEv.call (k := 148) (as := [vR (some (11, 0)), vI x3, vI 0]) (L2 := [some (vR (some (11, 0))), some (vI x1), some (vI x2), some (vI x3)]) (st2 := [vI x2]) (h2 := h) (v := some (vI q100.1)) (h1 := q100.2) (st3 := [vI q100.1, vI x2]) zm_X11_counts rfl rfl rfl rfl rfl zm_X11_part rfl (by omega) (ev_X11_part (by omega) hq) rfl ?_
        rcases ifc H with ⟨hc, H⟩ | ⟨hc, H⟩
        · refine zEv.iteT (L2 := [some (vR (some (11, 0))), some (vI x1), some (vI x2), some (vI x3)]) (st2 := [vI x2]) (h2 := q100.2) zm_X11_counts rfl rfl rfl rfl (decide_eq_true hc) ?_
          refine zEv.loc (L2 := [some (vR (some (11, 0))), some (vI x1), some (vI x2), some (vI x3)]) (st2 := [vI 0, vI x2]) (h2 := q100.2) zm_X11_counts rfl rfl rfl rfl (fun h => (nomatch h)) ?_
          exact ev_X11_counts_112 (by omega) ih H
        · refine zEv.iteF (L2 := [some (vR (some (11, 0))), some (vI x1), some (vI x2), some (vI x3)]) (st2 := [vI x2]) (h2 := q100.2) zm_X11_counts rfl rfl rfl rfl (decide_eq_false hc) ?_
          refine zEv.loc (L2 := [some (vR (some (11, 0))), some (vI x1), some (vI x2), some (vI x3)]) (st2 := [vI 1, vI x2]) (h2 := q100.2) zm_X11_counts rfl rfl rfl rfl (fun h => (nomatch h)) ?_
          exact ev_X11_counts_112 (by omega) ih H
      · refine zEv.iteF (L2 := [some (vR (some (11, 0))), some (vI x1), some (vI x2), some (vI x3)]) (st2 := [vI x2]) (h2 := h) zm_X11_counts rfl rfl rfl rfl (decide_eq_false hc) ?_
        obtain ⟨q78, hq, H⟩ := bnd H
        refine zEv.call (k := 148) (as := [vR (some (11, 0)), vI x3, vI 0]) (L2 := [some (vR (some (11, 0))), some (vI x1), some (vI x2), some (vI x3)]) (st2 := [vI x2]) (h2 := h) (v := some (vI q78.1)) (h1 := q78.2) (st3 := [vI q78.1, vI x2]) zm_X11_counts rfl rfl rfl rfl rfl zm_X11_part rfl (by omega) (ev_X11_part (by omega) hq) rfl ?_
        obtain ⟨q83, hq, H⟩ := bnd H
        refine zEv.call (k := 127) (as := [vI q78.1, vI 1, vI 3]) (L2 := [some (vR (some (11, 0))), some (vI x1), some (vI x2), some (vI x3)]) (st2 := [vI x2]) (h2 := q78.2) (v := some (vI q83.1)) (h1 := q83.2) (st3 := [vI q83.1, vI x2]) zm_X11_counts rfl rfl rfl rfl rfl zm_X11_in rfl (by omega) (ev_X11_in (by omega) hq) rfl ?_
        rcases ifc H with ⟨hc, H⟩ | ⟨hc, H⟩
        · refine zEv.iteT (L2 := [some (vR (some (11, 0))), some (vI x1), some (vI x2), some (vI x3)]) (st2 := [vI x2]) (h2 := q83.2) zm_X11_counts rfl rfl rfl rfl (decide_eq_true hc) ?_
          refine zEv.loc (L2 := [some (vR (some (11, 0))), some (vI x1), some (vI x2), some (vI x3)]) (st2 := [vI 0, vI x2]) (h2 := q83.2) zm_X11_counts rfl rfl rfl rfl (fun h => (nomatch h)) ?_
          exact ev_X11_counts_112 (by omega) ih H
        · refine zEv.iteF (L2 := [some (vR (some (11, 0))), some (vI x1), some (vI x2), some (vI x3)]) (st2 := [vI x2]) (h2 := q83.2) zm_X11_counts rfl rfl rfl rfl (decide_eq_false hc) ?_
          refine zEv.loc (L2 := [some (vR (some (11, 0))), some (vI x1), some (vI x2), some (vI x3)]) (st2 := [vI 1, vI x2]) (h2 := q83.2) zm_X11_counts rfl rfl rfl rfl (fun h => (nomatch h)) ?_
          exact ev_X11_counts_112 (by omega) ih H
def f_X11_counts (x1 : Int32) (h : zM) : Option (Int32 × zM) := (if x1 = 0 then (some ((rI h 11 0 5), h)) else (if x1 = 1 then (some ((rI h 11 0 11), h)) else (if x1 = 2 then (some ((rI h 11 0 13), h)) else (if x1 = 3 then (f_X11_counts_61  1000 x1 0 0 h) else (if x1 = 4 then (f_X11_counts_61  1000 x1 0 0 h) else (if x1 = 5 then (f_X11_counts_124  1000 0 0 h) else (if x1 = 6 then (f_X11_counts_157  1000 0 0 h) else (if (true && (true && (true && (decide (rR h 11 0 26 = (some (43, 0))) && true)))) = true then (if (rI h 43 0 (Int32.toNatClampNeg 0)) = 0 then (f_X11_counts_201  0 h) else (f_X11_counts_201  1 h)) else none))))))))
set_option maxRecDepth 20000 in
theorem ev_X11_counts {d : Nat} (hd : 1 ≤ d) {w2 : Option zV} {w3 : Option zV} {x1 : Int32} {h : zM} {r : Int32 × zM} (H : f_X11_counts x1 h = some r) : zEv zmt d 209 0 ([some (vR (some (11, 0))), some (vI x1), w2, w3], [], h, true) (some (vI r.1), r.2) := by
  rcases ifc H with ⟨hc0, H⟩ | ⟨hc0, H⟩
  · refine zEv.sw (x := swL 0 6 [44, 49, 54, 59, 59, 122, 155] 187 (x1)) (L2 := [some (vR (some (11, 0))), some (vI x1), some (vI 0), w3]) (st2 := []) (h2 := h) zm_X11_counts rfl rfl rfl rfl (lab' := 44) (by rw [hc0]; decide) ?_
    cases H
    exact zEv.ret zm_X11_counts rfl rfl rfl rfl
  rcases ifc H with ⟨hc1, H⟩ | ⟨hc1, H⟩
  · refine zEv.sw (x := swL 0 6 [44, 49, 54, 59, 59, 122, 155] 187 (x1)) (L2 := [some (vR (some (11, 0))), some (vI x1), some (vI 0), w3]) (st2 := []) (h2 := h) zm_X11_counts rfl rfl rfl rfl (lab' := 49) (by rw [hc1]; decide) ?_
    cases H
    exact zEv.ret zm_X11_counts rfl rfl rfl rfl
  rcases ifc H with ⟨hc2, H⟩ | ⟨hc2, H⟩
  · refine zEv.sw (x := swL 0 6 [44, 49, 54, 59, 59, 122, 155] 187 (x1)) (L2 := [some (vR (some (11, 0))), some (vI x1), some (vI 0), w3]) (st2 := []) (h2 := h) zm_X11_counts rfl rfl rfl rfl (lab' := 54) (by rw [hc2]; decide) ?_
    cases H
    exact zEv.ret zm_X11_counts rfl rfl rfl rfl
  rcases ifc H with ⟨hc3, H⟩ | ⟨hc3, H⟩
  · refine zEv.sw (x := swL 0 6 [44, 49, 54, 59, 59, 122, 155] 187 (x1)) (L2 := [some (vR (some (11, 0))), some (vI x1), some (vI 0), w3]) (st2 := []) (h2 := h) zm_X11_counts rfl rfl rfl rfl (lab' := 59) (by rw [hc3]; decide) ?_
    refine zEv.loc (L2 := [some (vR (some (11, 0))), some (vI x1), some (vI 0), some (vI 0)]) (st2 := []) (h2 := h) zm_X11_counts rfl rfl rfl rfl (fun h => (nomatch h)) ?_
    exact ev_X11_counts_61 (by omega)  1000 H
  rcases ifc H with ⟨hc4, H⟩ | ⟨hc4, H⟩
  · refine zEv.sw (x := swL 0 6 [44, 49, 54, 59, 59, 122, 155] 187 (x1)) (L2 := [some (vR (some (11, 0))), some (vI x1), some (vI 0), w3]) (st2 := []) (h2 := h) zm_X11_counts rfl rfl rfl rfl (lab' := 59) (by rw [hc4]; decide) ?_
    refine zEv.loc (L2 := [some (vR (some (11, 0))), some (vI x1), some (vI 0), some (vI 0)]) (st2 := []) (h2 := h) zm_X11_counts rfl rfl rfl rfl (fun h => (nomatch h)) ?_
    exact ev_X11_counts_61 (by omega)  1000 H
  rcases ifc H with ⟨hc5, H⟩ | ⟨hc5, H⟩
  · refine zEv.sw (x := swL 0 6 [44, 49, 54, 59, 59, 122, 155] 187 (x1)) (L2 := [some (vR (some (11, 0))), some (vI x1), some (vI 0), w3]) (st2 := []) (h2 := h) zm_X11_counts rfl rfl rfl rfl (lab' := 122) (by rw [hc5]; decide) ?_
    refine zEv.loc (L2 := [some (vR (some (11, 0))), some (vI x1), some (vI 0), some (vI 0)]) (st2 := []) (h2 := h) zm_X11_counts rfl rfl rfl rfl (fun h => (nomatch h)) ?_
    exact ev_X11_counts_124 (by omega)  1000 H
  rcases ifc H with ⟨hc6, H⟩ | ⟨hc6, H⟩
  · refine zEv.sw (x := swL 0 6 [44, 49, 54, 59, 59, 122, 155] 187 (x1)) (L2 := [some (vR (some (11, 0))), some (vI x1), some (vI 0), w3]) (st2 := []) (h2 := h) zm_X11_counts rfl rfl rfl rfl (lab' := 155) (by rw [hc6]; decide) ?_
    refine zEv.loc (L2 := [some (vR (some (11, 0))), some (vI x1), some (vI 0), some (vI 0)]) (st2 := []) (h2 := h) zm_X11_counts rfl rfl rfl rfl (fun h => (nomatch h)) ?_
    exact ev_X11_counts_157 (by omega)  1000 H
  have hout : ∀ j, j < 7 → ¬ x1 = Int32.ofNat j := by
    intro j hj
    rcases (show j = 0 ∨ j = 1 ∨ j = 2 ∨ j = 3 ∨ j = 4 ∨ j = 5 ∨ j = 6 by omega) with rfl | rfl | rfl | rfl | rfl | rfl | rfl
    · exact hc0
    · exact hc1
    · exact hc2
    · exact hc3
    · exact hc4
    · exact hc5
    · exact hc6
  refine zEv.sw (x := swL 0 6 [44, 49, 54, 59, 59, 122, 155] 187 (x1)) (L2 := [some (vR (some (11, 0))), some (vI x1), some (vI 0), w3]) (st2 := []) (h2 := h) zm_X11_counts rfl rfl rfl rfl (lab' := 187) (swOut (n := 7) (by decide) hout) ?_
  obtain ⟨hg, H⟩ := ifg H
  rcases ifc H with ⟨hc, H⟩ | ⟨hc, H⟩
  · refine zEv.iteT (L2 := [some (vR (some (11, 0))), some (vI x1), some (vI 0), w3]) (st2 := []) (h2 := h) zm_X11_counts rfl hg rfl hg (decide_eq_true hc) ?_
    refine zEv.loc (L2 := [some (vR (some (11, 0))), some (vI x1), some (vI 0), w3]) (st2 := [vI 0]) (h2 := h) zm_X11_counts rfl rfl rfl rfl (fun h => (nomatch h)) ?_
    exact ev_X11_counts_201 (by omega)  H
  · refine zEv.iteF (L2 := [some (vR (some (11, 0))), some (vI x1), some (vI 0), w3]) (st2 := []) (h2 := h) zm_X11_counts rfl hg rfl hg (decide_eq_false hc) ?_
    refine zEv.loc (L2 := [some (vR (some (11, 0))), some (vI x1), some (vI 0), w3]) (st2 := [vI 1]) (h2 := h) zm_X11_counts rfl rfl rfl rfl (fun h => (nomatch h)) ?_
    exact ev_X11_counts_201 (by omega)  H
def f_X11_count (x1 : Int32) (h : zM) : Option (Int32 × zM) := ((f_X11_in x1 0 7 h).bind fun q4 => (if q4.1 = 0 then (some ((-1), q4.2)) else ((f_X11_counts x1 q4.2).bind fun q12 => (some (q12.1, q12.2)))))
set_option maxRecDepth 20000 in
theorem ev_X11_count {d : Nat} (hd : 2 ≤ d) {x1 : Int32} {h : zM} {r : Int32 × zM} (H : f_X11_count x1 h = some r) : zEv zmt d 210 0 ([some (vR (some (11, 0))), some (vI x1)], [], h, true) (some (vI r.1), r.2) := by
  obtain ⟨q4, hq, H⟩ := bnd H
  refine zEv.call (k := 127) (as := [vI x1, vI 0, vI 7]) (L2 := [some (vR (some (11, 0))), some (vI x1)]) (st2 := []) (h2 := h) (v := some (vI q4.1)) (h1 := q4.2) (st3 := [vI q4.1]) zm_X11_count rfl rfl rfl rfl rfl zm_X11_in rfl (by omega) (ev_X11_in (by omega) hq) rfl ?_
  rcases ifc H with ⟨hc, H⟩ | ⟨hc, H⟩
  · refine zEv.iteT (L2 := [some (vR (some (11, 0))), some (vI x1)]) (st2 := []) (h2 := q4.2) zm_X11_count rfl rfl rfl rfl (decide_eq_true hc) ?_
    refine zEv.loc (L2 := [some (vR (some (11, 0))), some (vI x1)]) (st2 := [vI (-1)]) (h2 := q4.2) zm_X11_count rfl rfl rfl rfl (fun h => (nomatch h)) ?_
    cases H
    exact zEv.ret zm_X11_count rfl rfl rfl rfl
  · refine zEv.iteF (L2 := [some (vR (some (11, 0))), some (vI x1)]) (st2 := []) (h2 := q4.2) zm_X11_count rfl rfl rfl rfl (decide_eq_false hc) ?_
    obtain ⟨q12, hq, H⟩ := bnd H
    refine zEv.call (k := 209) (as := [vR (some (11, 0)), vI x1]) (L2 := [some (vR (some (11, 0))), some (vI x1)]) (st2 := []) (h2 := q4.2) (v := some (vI q12.1)) (h1 := q12.2) (st3 := [vI q12.1]) zm_X11_count rfl rfl rfl rfl rfl zm_X11_counts rfl (by omega) (ev_X11_counts (by omega) hq) rfl ?_
    refine zEv.loc (L2 := [some (vR (some (11, 0))), some (vI x1)]) (st2 := [vI q12.1]) (h2 := q12.2) zm_X11_count rfl rfl rfl rfl (fun h => (nomatch h)) ?_
    cases H
    exact zEv.ret zm_X11_count rfl rfl rfl rfl
def f_X11_finding (h : zM) : Option (Int32 × zM) := (some ((rI h 11 0 0), h))
set_option maxRecDepth 20000 in
theorem ev_X11_finding {d : Nat} (hd : 0 ≤ d) {h : zM} {r : Int32 × zM} (H : f_X11_finding  h = some r) : zEv zmt d 211 0 ([some (vR (some (11, 0)))], [], h, true) (some (vI r.1), r.2) := by
  cases H
  exact zEv.ret zm_X11_finding rfl rfl rfl rfl
def f_X11_findings (x1 : Int32) (h : zM) : Option (Int32 × zM) := ((f_X11_in x1 1 5 h).bind fun q3 => (if q3.1 = 0 then (some ((-1), q3.2)) else (if (true && (ixOk 6 x1 && (true && (decide (rR q3.2 11 0 1 = (some (32, 0))) && true)))) = true then (some ((rI q3.2 32 0 (Int32.toNatClampNeg x1)), q3.2)) else none)))
set_option maxRecDepth 20000 in
theorem ev_X11_findings {d : Nat} (hd : 1 ≤ d) {x1 : Int32} {h : zM} {r : Int32 × zM} (H : f_X11_findings x1 h = some r) : zEv zmt d 212 0 ([some (vR (some (11, 0))), some (vI x1)], [], h, true) (some (vI r.1), r.2) := by
  obtain ⟨q3, hq, H⟩ := bnd H
  refine zEv.call (k := 127) (as := [vI x1, vI 1, vI 5]) (L2 := [some (vR (some (11, 0))), some (vI x1)]) (st2 := []) (h2 := h) (v := some (vI q3.1)) (h1 := q3.2) (st3 := [vI q3.1]) zm_X11_findings rfl rfl rfl rfl rfl zm_X11_in rfl (by omega) (ev_X11_in (by omega) hq) rfl ?_
  rcases ifc H with ⟨hc, H⟩ | ⟨hc, H⟩
  · refine zEv.iteT (L2 := [some (vR (some (11, 0))), some (vI x1)]) (st2 := []) (h2 := q3.2) zm_X11_findings rfl rfl rfl rfl (decide_eq_true hc) ?_
    refine zEv.loc (L2 := [some (vR (some (11, 0))), some (vI x1)]) (st2 := [vI (-1)]) (h2 := q3.2) zm_X11_findings rfl rfl rfl rfl (fun h => (nomatch h)) ?_
    cases H
    exact zEv.ret zm_X11_findings rfl rfl rfl rfl
  · refine zEv.iteF (L2 := [some (vR (some (11, 0))), some (vI x1)]) (st2 := []) (h2 := q3.2) zm_X11_findings rfl rfl rfl rfl (decide_eq_false hc) ?_
    obtain ⟨hg, H⟩ := ifg H
    refine zEv.loc (L2 := [some (vR (some (11, 0))), some (vI x1)]) (st2 := [vI (rI q3.2 32 0 (Int32.toNatClampNeg x1))]) (h2 := q3.2) zm_X11_findings rfl hg rfl hg (fun h => (nomatch h)) ?_
    cases H
    exact zEv.ret zm_X11_findings rfl rfl rfl rfl
def f_X11_mix (x1 : Int32) (h : zM) : Option (zM) := (some (wL h 11 0 31 ((31 * (rL h 11 0 31)) + (Int32.toInt64 x1))))
set_option maxRecDepth 20000 in
theorem ev_X11_mix {d : Nat} (hd : 0 ≤ d) {x1 : Int32} {h : zM} {r : zM} (H : f_X11_mix x1 h = some r) : zEv zmt d 213 0 ([some (vR (some (11, 0))), some (vI x1)], [], h, true) (none, r) := by
  cases H
  exact zEv.ret zm_X11_mix rfl rfl rfl rfl
def f_X11_mixMarks_40 (K30 : Int32 → zM → Option (zM)) : Nat → Int32 → Int32 → zM → Option (zM)
  | 0 => fun _ _ _ => none
  | k + 1 => fun x1 x2 h => (if 6 < x2 then ((f_X11_part x1 0 h).bind fun q68 => ((f_X11_tellsOf x1 q68.1 q68.2).bind fun q71 => ((f_X11_mix q71.1 q71.2).bind fun q74 => (K30 (x1 + 1) q74)))) else ((f_X11_part x1 x2 h).bind fun q50 => ((f_X11_mix q50.1 q50.2).bind fun q53 => (f_X11_mixMarks_40 K30 k x1 (x2 + 1) q53))))
set_option maxRecDepth 20000 in
theorem ev_X11_mixMarks_40 {d : Nat} (hd : 1 ≤ d) {K30 : Int32 → zM → Option (zM)} (hK30 : ∀ {w2 : Option zV} {x1 : Int32} {h : zM} {r : zM}, K30 x1 h = some r → zEv zmt d 214 30 ([some (vR (some (11, 0))), some (vI x1), w2], [], h, true) (none, r)) : ∀ (k : Nat) {x1 : Int32} {x2 : Int32} {h : zM} {r : zM}, f_X11_mixMarks_40 K30 k x1 x2 h = some r → zEv zmt d 214 40 ([some (vR (some (11, 0))), some (vI x1), some (vI x2)], [], h, true) (none, r) := by
  intro k
  induction k with
  | zero => intro x1 x2 h r H; cases H
  | succ k ih =>
    intro x1 x2 h r H
    rcases ifc H with ⟨hc, H⟩ | ⟨hc, H⟩
    · refine zEv.iteT (L2 := [some (vR (some (11, 0))), some (vI x1), some (vI x2)]) (st2 := []) (h2 := h) zm_X11_mixMarks rfl rfl rfl rfl (decide_eq_true hc) ?_
      obtain ⟨q68, hq, H⟩ := bnd H
      refine zEv.call (k := 148) (as := [vR (some (11, 0)), vI x1, vI 0]) (L2 := [some (vR (some (11, 0))), some (vI x1), some (vI x2)]) (st2 := [vI x1, vR (some (11, 0)), vR (some (11, 0))]) (h2 := h) (v := some (vI q68.1)) (h1 := q68.2) (st3 := [vI q68.1, vI x1, vR (some (11, 0)), vR (some (11, 0))]) zm_X11_mixMarks rfl rfl rfl rfl rfl zm_X11_part rfl (by omega) (ev_X11_part (by omega) hq) rfl ?_
      obtain ⟨q71, hq, H⟩ := bnd H
      refine zEv.call (k := 161) (as := [vR (some (11, 0)), vI x1, vI q68.1]) (L2 := [some (vR (some (11, 0))), some (vI x1), some (vI x2)]) (st2 := [vR (some (11, 0))]) (h2 := q68.2) (v := some (vI q71.1)) (h1 := q71.2) (st3 := [vI q71.1, vR (some (11, 0))]) zm_X11_mixMarks rfl rfl rfl rfl rfl zm_X11_tellsOf rfl (by omega) (ev_X11_tellsOf (by omega) hq) rfl ?_
      obtain ⟨q74, hq, H⟩ := bnd H
      refine zEv.call (k := 213) (as := [vR (some (11, 0)), vI q71.1]) (L2 := [some (vR (some (11, 0))), some (vI x1), some (vI x2)]) (st2 := []) (h2 := q71.2) (v := none) (h1 := q74) (st3 := []) zm_X11_mixMarks rfl rfl rfl rfl rfl zm_X11_mix rfl (by omega) (ev_X11_mix (by omega) hq) rfl ?_
      refine zEv.loc (L2 := [some (vR (some (11, 0))), some (vI (x1 + 1)), some (vI x2)]) (st2 := []) (h2 := q74) zm_X11_mixMarks rfl rfl rfl rfl (fun h => (nomatch h)) ?_
      exact hK30 H
    · refine zEv.iteF (L2 := [some (vR (some (11, 0))), some (vI x1), some (vI x2)]) (st2 := []) (h2 := h) zm_X11_mixMarks rfl rfl rfl rfl (decide_eq_false hc) ?_
      obtain ⟨q50, hq, H⟩ := bnd H
      refine zEv.call (k := 148) (as := [vR (some (11, 0)), vI x1, vI x2]) (L2 := [some (vR (some (11, 0))), some (vI x1), some (vI x2)]) (st2 := [vR (some (11, 0))]) (h2 := h) (v := some (vI q50.1)) (h1 := q50.2) (st3 := [vI q50.1, vR (some (11, 0))]) zm_X11_mixMarks rfl rfl rfl rfl rfl zm_X11_part rfl (by omega) (ev_X11_part (by omega) hq) rfl ?_
      obtain ⟨q53, hq, H⟩ := bnd H
      refine zEv.call (k := 213) (as := [vR (some (11, 0)), vI q50.1]) (L2 := [some (vR (some (11, 0))), some (vI x1), some (vI x2)]) (st2 := []) (h2 := q50.2) (v := none) (h1 := q53) (st3 := []) zm_X11_mixMarks rfl rfl rfl rfl rfl zm_X11_mix rfl (by omega) (ev_X11_mix (by omega) hq) rfl ?_
      refine zEv.loc (L2 := [some (vR (some (11, 0))), some (vI x1), some (vI (x2 + 1))]) (st2 := []) (h2 := q53) zm_X11_mixMarks rfl rfl rfl rfl (fun h => (nomatch h)) ?_
      exact ih H
def f_X11_mixMarks_142 (K85 : Int32 → zM → Option (zM)) (x1 : Int32) (h : zM) : Option (zM) := (K85 (x1 + 1) h)
set_option maxRecDepth 20000 in
theorem ev_X11_mixMarks_142 {d : Nat} (hd : 1 ≤ d) {K85 : Int32 → zM → Option (zM)} (hK85 : ∀ {w2 : Option zV} {x1 : Int32} {h : zM} {r : zM}, K85 x1 h = some r → zEv zmt d 214 85 ([some (vR (some (11, 0))), some (vI x1), w2], [], h, true) (none, r)) {w2 : Option zV} {x1 : Int32} {h : zM} {r : zM} (H : f_X11_mixMarks_142 K85 x1 h = some r) : zEv zmt d 214 142 ([some (vR (some (11, 0))), some (vI x1), w2], [], h, true) (none, r) := by
  refine zEv.loc (L2 := [some (vR (some (11, 0))), some (vI (x1 + 1)), w2]) (st2 := []) (h2 := h) zm_X11_mixMarks rfl rfl rfl rfl (fun h => (nomatch h)) ?_
  exact hK85 H
def f_X11_mixMarks_128 (K85 : Int32 → zM → Option (zM)) (x1 : Int32) (h : zM) : Option (zM) := (if (true && (ixOk 2 x1 && (true && (decide (rR h 11 0 26 = (some (43, 0))) && true)))) = true then (if ¬ (rI h 43 0 (Int32.toNatClampNeg x1)) = 0 then (f_X11_mixMarks_142 K85 x1 h) else ((f_X11_mix (-1) h).bind fun q139 => (f_X11_mixMarks_142 K85 x1 q139))) else none)
set_option maxRecDepth 20000 in
theorem ev_X11_mixMarks_128 {d : Nat} (hd : 1 ≤ d) {K85 : Int32 → zM → Option (zM)} (hK85 : ∀ {w2 : Option zV} {x1 : Int32} {h : zM} {r : zM}, K85 x1 h = some r → zEv zmt d 214 85 ([some (vR (some (11, 0))), some (vI x1), w2], [], h, true) (none, r)) {w2 : Option zV} {x1 : Int32} {h : zM} {r : zM} (H : f_X11_mixMarks_128 K85 x1 h = some r) : zEv zmt d 214 128 ([some (vR (some (11, 0))), some (vI x1), w2], [], h, true) (none, r) := by
  obtain ⟨hg, H⟩ := ifg H
  rcases ifc H with ⟨hc, H⟩ | ⟨hc, H⟩
  · refine zEv.iteT (L2 := [some (vR (some (11, 0))), some (vI x1), w2]) (st2 := []) (h2 := h) zm_X11_mixMarks rfl hg rfl hg (decide_eq_true hc) ?_
    exact ev_X11_mixMarks_142 (by omega) hK85 H
  · refine zEv.iteF (L2 := [some (vR (some (11, 0))), some (vI x1), w2]) (st2 := []) (h2 := h) zm_X11_mixMarks rfl hg rfl hg (decide_eq_false hc) ?_
    obtain ⟨q139, hq, H⟩ := bnd H
    refine zEv.call (k := 213) (as := [vR (some (11, 0)), vI (-1)]) (L2 := [some (vR (some (11, 0))), some (vI x1), w2]) (st2 := []) (h2 := h) (v := none) (h1 := q139) (st3 := []) zm_X11_mixMarks rfl rfl rfl rfl rfl zm_X11_mix rfl (by omega) (ev_X11_mix (by omega) hq) rfl ?_
    exact ev_X11_mixMarks_142 (by omega) hK85 H
def f_X11_mixMarks_92 (K85 : Int32 → zM → Option (zM)) : Nat → Int32 → Int32 → zM → Option (zM)
  | 0 => fun _ _ _ => none
  | k + 1 => fun x1 x2 h => (if 10 ≤ x2 then (f_X11_mixMarks_128 K85 x1 h) else (if (true && (ixOk 2 x1 && (true && (decide (rR h 11 0 26 = (some (43, 0))) && true)))) = true then (if (rI h 43 0 (Int32.toNatClampNeg x1)) = 0 then (f_X11_mixMarks_128 K85 x1 h) else (if (true && (true && (true && (ixOk 20 ((10 * x1) + x2) && (true && (decide (rR h 11 0 27 = (some (44, 0))) && true)))))) = true then ((f_X11_mix (rI h 44 0 (Int32.toNatClampNeg ((10 * x1) + x2))) h).bind fun q119 => (f_X11_mixMarks_92 K85 k x1 (x2 + 1) q119)) else none)) else none))
set_option maxRecDepth 20000 in
theorem ev_X11_mixMarks_92 {d : Nat} (hd : 1 ≤ d) {K85 : Int32 → zM → Option (zM)} (hK85 : ∀ {w2 : Option zV} {x1 : Int32} {h : zM} {r : zM}, K85 x1 h = some r → zEv zmt d 214 85 ([some (vR (some (11, 0))), some (vI x1), w2], [], h, true) (none, r)) : ∀ (k : Nat) {x1 : Int32} {x2 : Int32} {h : zM} {r : zM}, f_X11_mixMarks_92 K85 k x1 x2 h = some r → zEv zmt d 214 92 ([some (vR (some (11, 0))), some (vI x1), some (vI x2)], [], h, true) (none, r) := by
  intro k
  induction k with
  | zero => intro x1 x2 h r H; cases H
  | succ k ih =>
    intro x1 x2 h r H
    rcases ifc H with ⟨hc, H⟩ | ⟨hc, H⟩
    · refine zEv.iteT (L2 := [some (vR (some (11, 0))), some (vI x1), some (vI x2)]) (st2 := []) (h2 := h) zm_X11_mixMarks rfl rfl rfl rfl (decide_eq_true hc) ?_
      exact ev_X11_mixMarks_128 (by omega) hK85 H
    · refine zEv.iteF (L2 := [some (vR (some (11, 0))), some (vI x1), some (vI x2)]) (st2 := []) (h2 := h) zm_X11_mixMarks rfl rfl rfl rfl (decide_eq_false hc) ?_
      obtain ⟨hg, H⟩ := ifg H
      rcases ifc H with ⟨hc, H⟩ | ⟨hc, H⟩
      · refine zEv.iteT (L2 := [some (vR (some (11, 0))), some (vI x1), some (vI x2)]) (st2 := []) (h2 := h) zm_X11_mixMarks rfl hg rfl hg (decide_eq_true hc) ?_
        exact ev_X11_mixMarks_128 (by omega) hK85 H
      · refine zEv.iteF (L2 := [some (vR (some (11, 0))), some (vI x1), some (vI x2)]) (st2 := []) (h2 := h) zm_X11_mixMarks rfl hg rfl hg (decide_eq_false hc) ?_
        obtain ⟨hg, H⟩ := ifg H
        obtain ⟨q119, hq, H⟩ := bnd H
        refine zEv.call (k := 213) (as := [vR (some (11, 0)), vI (rI h 44 0 (Int32.toNatClampNeg ((10 * x1) + x2)))]) (L2 := [some (vR (some (11, 0))), some (vI x1), some (vI x2)]) (st2 := []) (h2 := h) (v := none) (h1 := q119) (st3 := []) zm_X11_mixMarks rfl (and2 (and2 hg).2).2 rfl hg rfl zm_X11_mix rfl (by omega) (ev_X11_mix (by omega) hq) rfl ?_
        refine zEv.loc (L2 := [some (vR (some (11, 0))), some (vI x1), some (vI (x2 + 1))]) (st2 := []) (h2 := q119) zm_X11_mixMarks rfl rfl rfl rfl (fun h => (nomatch h)) ?_
        exact ih H
def f_X11_mixMarks_85 : Nat → Int32 → zM → Option (zM)
  | 0 => fun _ _ => none
  | k + 1 => fun x1 h => (if 2 ≤ x1 then (some h) else (f_X11_mixMarks_92 (f_X11_mixMarks_85 k) 1000 x1 0 h))
set_option maxRecDepth 20000 in
theorem ev_X11_mixMarks_85 {d : Nat} (hd : 1 ≤ d) : ∀ (k : Nat) {w2 : Option zV} {x1 : Int32} {h : zM} {r : zM}, f_X11_mixMarks_85 k x1 h = some r → zEv zmt d 214 85 ([some (vR (some (11, 0))), some (vI x1), w2], [], h, true) (none, r) := by
  intro k
  induction k with
  | zero => intro w2 x1 h r H; cases H
  | succ k ih =>
    intro w2 x1 h r H
    rcases ifc H with ⟨hc, H⟩ | ⟨hc, H⟩
    · refine zEv.iteT (L2 := [some (vR (some (11, 0))), some (vI x1), w2]) (st2 := []) (h2 := h) zm_X11_mixMarks rfl rfl rfl rfl (decide_eq_true hc) ?_
      cases H
      exact zEv.ret zm_X11_mixMarks rfl rfl rfl rfl
    · refine zEv.iteF (L2 := [some (vR (some (11, 0))), some (vI x1), w2]) (st2 := []) (h2 := h) zm_X11_mixMarks rfl rfl rfl rfl (decide_eq_false hc) ?_
      refine zEv.loc (L2 := [some (vR (some (11, 0))), some (vI x1), some (vI 0)]) (st2 := []) (h2 := h) zm_X11_mixMarks rfl rfl rfl rfl (fun h => (nomatch h)) ?_
      exact ev_X11_mixMarks_92 (by omega) ih 1000 H
def f_X11_mixMarks_30 : Nat → Int32 → zM → Option (zM)
  | 0 => fun _ _ => none
  | k + 1 => fun x1 h => (if (rI h 11 0 13) ≤ x1 then (f_X11_mixMarks_85  1000 0 h) else (f_X11_mixMarks_40 (f_X11_mixMarks_30 k) 1000 x1 0 h))
set_option maxRecDepth 20000 in
theorem ev_X11_mixMarks_30 {d : Nat} (hd : 1 ≤ d) : ∀ (k : Nat) {w2 : Option zV} {x1 : Int32} {h : zM} {r : zM}, f_X11_mixMarks_30 k x1 h = some r → zEv zmt d 214 30 ([some (vR (some (11, 0))), some (vI x1), w2], [], h, true) (none, r) := by
  intro k
  induction k with
  | zero => intro w2 x1 h r H; cases H
  | succ k ih =>
    intro w2 x1 h r H
    rcases ifc H with ⟨hc, H⟩ | ⟨hc, H⟩
    · refine zEv.iteT (L2 := [some (vR (some (11, 0))), some (vI x1), w2]) (st2 := []) (h2 := h) zm_X11_mixMarks rfl rfl rfl rfl (decide_eq_true hc) ?_
      refine zEv.loc (L2 := [some (vR (some (11, 0))), some (vI 0), w2]) (st2 := []) (h2 := h) zm_X11_mixMarks rfl rfl rfl rfl (fun h => (nomatch h)) ?_
      exact ev_X11_mixMarks_85 (by omega)  1000 H
    · refine zEv.iteF (L2 := [some (vR (some (11, 0))), some (vI x1), w2]) (st2 := []) (h2 := h) zm_X11_mixMarks rfl rfl rfl rfl (decide_eq_false hc) ?_
      refine zEv.loc (L2 := [some (vR (some (11, 0))), some (vI x1), some (vI 0)]) (st2 := []) (h2 := h) zm_X11_mixMarks rfl rfl rfl rfl (fun h => (nomatch h)) ?_
      exact ev_X11_mixMarks_40 (by omega) ih 1000 H
def f_X11_mixMarks_2 : Nat → Int32 → zM → Option (zM)
  | 0 => fun _ _ => none
  | k + 1 => fun x1 h => (if (4 * (rI h 11 0 11)) ≤ x1 then (f_X11_mixMarks_30  1000 0 h) else (if (true && (true && (true && (ixOk 32 x1 && (true && (decide (rR h 11 0 12 = (some (38, 0))) && true)))))) = true then ((f_X11_mix (rI h 38 0 (Int32.toNatClampNeg x1)) h).bind fun q19 => (f_X11_mixMarks_2 k (x1 + 1) q19)) else none))
set_option maxRecDepth 20000 in
theorem ev_X11_mixMarks_2 {d : Nat} (hd : 1 ≤ d) : ∀ (k : Nat) {w2 : Option zV} {x1 : Int32} {h : zM} {r : zM}, f_X11_mixMarks_2 k x1 h = some r → zEv zmt d 214 2 ([some (vR (some (11, 0))), some (vI x1), w2], [], h, true) (none, r) := by
  intro k
  induction k with
  | zero => intro w2 x1 h r H; cases H
  | succ k ih =>
    intro w2 x1 h r H
    rcases ifc H with ⟨hc, H⟩ | ⟨hc, H⟩
    · refine zEv.iteT (L2 := [some (vR (some (11, 0))), some (vI x1), w2]) (st2 := []) (h2 := h) zm_X11_mixMarks rfl rfl rfl rfl (decide_eq_true hc) ?_
      refine zEv.loc (L2 := [some (vR (some (11, 0))), some (vI 0), w2]) (st2 := []) (h2 := h) zm_X11_mixMarks rfl rfl rfl rfl (fun h => (nomatch h)) ?_
      exact ev_X11_mixMarks_30 (by omega)  1000 H
    · refine zEv.iteF (L2 := [some (vR (some (11, 0))), some (vI x1), w2]) (st2 := []) (h2 := h) zm_X11_mixMarks rfl rfl rfl rfl (decide_eq_false hc) ?_
      obtain ⟨hg, H⟩ := ifg H
      obtain ⟨q19, hq, H⟩ := bnd H
      refine zEv.call (k := 213) (as := [vR (some (11, 0)), vI (rI h 38 0 (Int32.toNatClampNeg x1))]) (L2 := [some (vR (some (11, 0))), some (vI x1), w2]) (st2 := []) (h2 := h) (v := none) (h1 := q19) (st3 := []) zm_X11_mixMarks rfl (and2 (and2 hg).2).2 rfl hg rfl zm_X11_mix rfl (by omega) (ev_X11_mix (by omega) hq) rfl ?_
      refine zEv.loc (L2 := [some (vR (some (11, 0))), some (vI (x1 + 1)), w2]) (st2 := []) (h2 := q19) zm_X11_mixMarks rfl rfl rfl rfl (fun h => (nomatch h)) ?_
      exact ih H
def f_X11_mixMarks (h : zM) : Option (zM) := (f_X11_mixMarks_2  1000 0 h)
set_option maxRecDepth 20000 in
theorem ev_X11_mixMarks {d : Nat} (hd : 1 ≤ d) {w1 : Option zV} {w2 : Option zV} {h : zM} {r : zM} (H : f_X11_mixMarks  h = some r) : zEv zmt d 214 0 ([some (vR (some (11, 0))), w1, w2], [], h, true) (none, r) := by
  refine zEv.loc (L2 := [some (vR (some (11, 0))), some (vI 0), w2]) (st2 := []) (h2 := h) zm_X11_mixMarks rfl rfl rfl rfl (fun h => (nomatch h)) ?_
  exact ev_X11_mixMarks_2 (by omega)  1000 H
def f_X11_digest_67 (K36 : Int32 → zM → Option (Int64 × zM)) : Nat → Int32 → Int32 → zM → Option (Int64 × zM)
  | 0 => fun _ _ _ => none
  | k + 1 => fun x1 x2 h => (if (true && (ixOk 6 x1 && (true && (decide (rR h 11 0 6 = (some (33, 0))) && true)))) = true then (if (rI h 33 0 (Int32.toNatClampNeg x1)) ≤ x2 then (K36 (x1 + 1) h) else ((f_X11_rowAt x1 x2 h).bind fun q81 => ((f_X11_mix q81.1 q81.2).bind fun q84 => (f_X11_digest_67 K36 k x1 (x2 + 1) q84)))) else none)
set_option maxRecDepth 20000 in
theorem ev_X11_digest_67 {d : Nat} (hd : 2 ≤ d) {K36 : Int32 → zM → Option (Int64 × zM)} (hK36 : ∀ {w2 : Option zV} {x1 : Int32} {h : zM} {r : Int64 × zM}, K36 x1 h = some r → zEv zmt d 215 36 ([some (vR (some (11, 0))), some (vI x1), w2], [], h, true) (some (vL r.1), r.2)) : ∀ (k : Nat) {x1 : Int32} {x2 : Int32} {h : zM} {r : Int64 × zM}, f_X11_digest_67 K36 k x1 x2 h = some r → zEv zmt d 215 67 ([some (vR (some (11, 0))), some (vI x1), some (vI x2)], [], h, true) (some (vL r.1), r.2) := by
  intro k
  induction k with
  | zero => intro x1 x2 h r H; cases H
  | succ k ih =>
    intro x1 x2 h r H
    obtain ⟨hg, H⟩ := ifg H
    rcases ifc H with ⟨hc, H⟩ | ⟨hc, H⟩
    · refine zEv.iteT (L2 := [some (vR (some (11, 0))), some (vI x1), some (vI x2)]) (st2 := []) (h2 := h) zm_X11_digest rfl hg rfl hg (decide_eq_true hc) ?_
      refine zEv.loc (L2 := [some (vR (some (11, 0))), some (vI (x1 + 1)), some (vI x2)]) (st2 := []) (h2 := h) zm_X11_digest rfl rfl rfl rfl (fun h => (nomatch h)) ?_
      exact hK36 H
    · refine zEv.iteF (L2 := [some (vR (some (11, 0))), some (vI x1), some (vI x2)]) (st2 := []) (h2 := h) zm_X11_digest rfl hg rfl hg (decide_eq_false hc) ?_
      obtain ⟨q81, hq, H⟩ := bnd H
      refine zEv.call (k := 135) (as := [vR (some (11, 0)), vI x1, vI x2]) (L2 := [some (vR (some (11, 0))), some (vI x1), some (vI x2)]) (st2 := [vR (some (11, 0))]) (h2 := h) (v := some (vI q81.1)) (h1 := q81.2) (st3 := [vI q81.1, vR (some (11, 0))]) zm_X11_digest rfl rfl rfl rfl rfl zm_X11_rowAt rfl (by omega) (ev_X11_rowAt (by omega) hq) rfl ?_
      obtain ⟨q84, hq, H⟩ := bnd H
      refine zEv.call (k := 213) (as := [vR (some (11, 0)), vI q81.1]) (L2 := [some (vR (some (11, 0))), some (vI x1), some (vI x2)]) (st2 := []) (h2 := q81.2) (v := none) (h1 := q84) (st3 := []) zm_X11_digest rfl rfl rfl rfl rfl zm_X11_mix rfl (by omega) (ev_X11_mix (by omega) hq) rfl ?_
      refine zEv.loc (L2 := [some (vR (some (11, 0))), some (vI x1), some (vI (x2 + 1))]) (st2 := []) (h2 := q84) zm_X11_digest rfl rfl rfl rfl (fun h => (nomatch h)) ?_
      exact ih H
def f_X11_digest_62 (K36 : Int32 → zM → Option (Int64 × zM)) (x1 : Int32) (s1 : Int32) (h : zM) : Option (Int64 × zM) := ((f_X11_mix s1 h).bind fun q62 => (f_X11_digest_67 K36 1000 x1 0 q62))
set_option maxRecDepth 20000 in
theorem ev_X11_digest_62 {d : Nat} (hd : 2 ≤ d) {K36 : Int32 → zM → Option (Int64 × zM)} (hK36 : ∀ {w2 : Option zV} {x1 : Int32} {h : zM} {r : Int64 × zM}, K36 x1 h = some r → zEv zmt d 215 36 ([some (vR (some (11, 0))), some (vI x1), w2], [], h, true) (some (vL r.1), r.2)) {w2 : Option zV} {x1 : Int32} {s1 : Int32} {h : zM} {r : Int64 × zM} (H : f_X11_digest_62 K36 x1 s1 h = some r) : zEv zmt d 215 62 ([some (vR (some (11, 0))), some (vI x1), w2], [vI s1, vR (some (11, 0))], h, true) (some (vL r.1), r.2) := by
  obtain ⟨q62, hq, H⟩ := bnd H
  refine zEv.call (k := 213) (as := [vR (some (11, 0)), vI s1]) (L2 := [some (vR (some (11, 0))), some (vI x1), w2]) (st2 := []) (h2 := h) (v := none) (h1 := q62) (st3 := []) zm_X11_digest rfl rfl rfl rfl rfl zm_X11_mix rfl (by omega) (ev_X11_mix (by omega) hq) rfl ?_
  refine zEv.loc (L2 := [some (vR (some (11, 0))), some (vI x1), some (vI 0)]) (st2 := []) (h2 := q62) zm_X11_digest rfl rfl rfl rfl (fun h => (nomatch h)) ?_
  exact ev_X11_digest_67 (by omega) hK36 1000 H
def f_X11_digest_131 (K101 : Int32 → zM → Option (Int64 × zM)) : Nat → Int32 → Int32 → zM → Option (Int64 × zM)
  | 0 => fun _ _ _ => none
  | k + 1 => fun x1 x2 h => (if (true && (ixOk 4 x1 && (true && (decide (rR h 11 0 9 = (some (36, 0))) && true)))) = true then (if (rI h 36 0 (Int32.toNatClampNeg x1)) ≤ x2 then (K101 (x1 + 1) h) else (if (true && (true && (true && (ixOk 160 ((40 * x1) + x2) && (true && (decide (rR h 11 0 10 = (some (37, 0))) && true)))))) = true then ((f_X11_mix (rI h 37 0 (Int32.toNatClampNeg ((40 * x1) + x2))) h).bind fun q153 => (f_X11_digest_131 K101 k x1 (x2 + 1) q153)) else none)) else none)
set_option maxRecDepth 20000 in
theorem ev_X11_digest_131 {d : Nat} (hd : 2 ≤ d) {K101 : Int32 → zM → Option (Int64 × zM)} (hK101 : ∀ {w2 : Option zV} {x1 : Int32} {h : zM} {r : Int64 × zM}, K101 x1 h = some r → zEv zmt d 215 101 ([some (vR (some (11, 0))), some (vI x1), w2], [], h, true) (some (vL r.1), r.2)) : ∀ (k : Nat) {x1 : Int32} {x2 : Int32} {h : zM} {r : Int64 × zM}, f_X11_digest_131 K101 k x1 x2 h = some r → zEv zmt d 215 131 ([some (vR (some (11, 0))), some (vI x1), some (vI x2)], [], h, true) (some (vL r.1), r.2) := by
  intro k
  induction k with
  | zero => intro x1 x2 h r H; cases H
  | succ k ih =>
    intro x1 x2 h r H
    obtain ⟨hg, H⟩ := ifg H
    rcases ifc H with ⟨hc, H⟩ | ⟨hc, H⟩
    · refine zEv.iteT (L2 := [some (vR (some (11, 0))), some (vI x1), some (vI x2)]) (st2 := []) (h2 := h) zm_X11_digest rfl hg rfl hg (decide_eq_true hc) ?_
      refine zEv.loc (L2 := [some (vR (some (11, 0))), some (vI (x1 + 1)), some (vI x2)]) (st2 := []) (h2 := h) zm_X11_digest rfl rfl rfl rfl (fun h => (nomatch h)) ?_
      exact hK101 H
    · refine zEv.iteF (L2 := [some (vR (some (11, 0))), some (vI x1), some (vI x2)]) (st2 := []) (h2 := h) zm_X11_digest rfl hg rfl hg (decide_eq_false hc) ?_
      obtain ⟨hg, H⟩ := ifg H
      obtain ⟨q153, hq, H⟩ := bnd H
      refine zEv.call (k := 213) (as := [vR (some (11, 0)), vI (rI h 37 0 (Int32.toNatClampNeg ((40 * x1) + x2)))]) (L2 := [some (vR (some (11, 0))), some (vI x1), some (vI x2)]) (st2 := []) (h2 := h) (v := none) (h1 := q153) (st3 := []) zm_X11_digest rfl (and2 (and2 hg).2).2 rfl hg rfl zm_X11_mix rfl (by omega) (ev_X11_mix (by omega) hq) rfl ?_
      refine zEv.loc (L2 := [some (vR (some (11, 0))), some (vI x1), some (vI (x2 + 1))]) (st2 := []) (h2 := q153) zm_X11_digest rfl rfl rfl rfl (fun h => (nomatch h)) ?_
      exact ih H
def f_X11_digest_126 (K101 : Int32 → zM → Option (Int64 × zM)) (x1 : Int32) (s1 : Int32) (h : zM) : Option (Int64 × zM) := ((f_X11_mix s1 h).bind fun q126 => (f_X11_digest_131 K101 1000 x1 0 q126))
set_option maxRecDepth 20000 in
theorem ev_X11_digest_126 {d : Nat} (hd : 2 ≤ d) {K101 : Int32 → zM → Option (Int64 × zM)} (hK101 : ∀ {w2 : Option zV} {x1 : Int32} {h : zM} {r : Int64 × zM}, K101 x1 h = some r → zEv zmt d 215 101 ([some (vR (some (11, 0))), some (vI x1), w2], [], h, true) (some (vL r.1), r.2)) {w2 : Option zV} {x1 : Int32} {s1 : Int32} {h : zM} {r : Int64 × zM} (H : f_X11_digest_126 K101 x1 s1 h = some r) : zEv zmt d 215 126 ([some (vR (some (11, 0))), some (vI x1), w2], [vI s1, vR (some (11, 0))], h, true) (some (vL r.1), r.2) := by
  obtain ⟨q126, hq, H⟩ := bnd H
  refine zEv.call (k := 213) (as := [vR (some (11, 0)), vI s1]) (L2 := [some (vR (some (11, 0))), some (vI x1), w2]) (st2 := []) (h2 := h) (v := none) (h1 := q126) (st3 := []) zm_X11_digest rfl rfl rfl rfl rfl zm_X11_mix rfl (by omega) (ev_X11_mix (by omega) hq) rfl ?_
  refine zEv.loc (L2 := [some (vR (some (11, 0))), some (vI x1), some (vI 0)]) (st2 := []) (h2 := q126) zm_X11_digest rfl rfl rfl rfl (fun h => (nomatch h)) ?_
  exact ev_X11_digest_131 (by omega) hK101 1000 H
def f_X11_digest_101 : Nat → Int32 → zM → Option (Int64 × zM)
  | 0 => fun _ _ => none
  | k + 1 => fun x1 h => (if 4 ≤ x1 then (some ((rL h 11 0 31), h)) else (if (true && (ixOk 4 x1 && (true && (decide (rR h 11 0 9 = (some (36, 0))) && true)))) = true then (if 0 ≤ (rI h 36 0 (Int32.toNatClampNeg x1)) then (if (true && (ixOk 4 x1 && (true && (decide (rR h 11 0 9 = (some (36, 0))) && true)))) = true then (f_X11_digest_126 (f_X11_digest_101 k) x1 (rI h 36 0 (Int32.toNatClampNeg x1)) h) else none) else (f_X11_digest_126 (f_X11_digest_101 k) x1 (-1) h)) else none))
set_option maxRecDepth 20000 in
theorem ev_X11_digest_101 {d : Nat} (hd : 2 ≤ d) : ∀ (k : Nat) {w2 : Option zV} {x1 : Int32} {h : zM} {r : Int64 × zM}, f_X11_digest_101 k x1 h = some r → zEv zmt d 215 101 ([some (vR (some (11, 0))), some (vI x1), w2], [], h, true) (some (vL r.1), r.2) := by
  intro k
  induction k with
  | zero => intro w2 x1 h r H; cases H
  | succ k ih =>
    intro w2 x1 h r H
    rcases ifc H with ⟨hc, H⟩ | ⟨hc, H⟩
    · refine zEv.iteT (L2 := [some (vR (some (11, 0))), some (vI x1), w2]) (st2 := []) (h2 := h) zm_X11_digest rfl rfl rfl rfl (decide_eq_true hc) ?_
      cases H
      exact zEv.ret zm_X11_digest rfl rfl rfl rfl
    · refine zEv.iteF (L2 := [some (vR (some (11, 0))), some (vI x1), w2]) (st2 := []) (h2 := h) zm_X11_digest rfl rfl rfl rfl (decide_eq_false hc) ?_
      obtain ⟨hg, H⟩ := ifg H
      rcases ifc H with ⟨hc, H⟩ | ⟨hc, H⟩
      · refine zEv.iteT (L2 := [some (vR (some (11, 0))), some (vI x1), w2]) (st2 := [vR (some (11, 0))]) (h2 := h) zm_X11_digest rfl hg rfl hg (decide_eq_true hc) ?_
        obtain ⟨hg, H⟩ := ifg H
        refine zEv.loc (L2 := [some (vR (some (11, 0))), some (vI x1), w2]) (st2 := [vI (rI h 36 0 (Int32.toNatClampNeg x1)), vR (some (11, 0))]) (h2 := h) zm_X11_digest rfl hg rfl hg (fun h => (nomatch h)) ?_
        exact ev_X11_digest_126 (by omega) ih H
      · refine zEv.iteF (L2 := [some (vR (some (11, 0))), some (vI x1), w2]) (st2 := [vR (some (11, 0))]) (h2 := h) zm_X11_digest rfl hg rfl hg (decide_eq_false hc) ?_
        refine zEv.loc (L2 := [some (vR (some (11, 0))), some (vI x1), w2]) (st2 := [vI (-1), vR (some (11, 0))]) (h2 := h) zm_X11_digest rfl rfl rfl rfl (fun h => (nomatch h)) ?_
        exact ev_X11_digest_126 (by omega) ih H
def f_X11_digest_36 : Nat → Int32 → zM → Option (Int64 × zM)
  | 0 => fun _ _ => none
  | k + 1 => fun x1 h => (if 6 ≤ x1 then (f_X11_digest_101  1000 0 h) else (if (true && (ixOk 6 x1 && (true && (decide (rR h 11 0 6 = (some (33, 0))) && true)))) = true then (if 0 ≤ (rI h 33 0 (Int32.toNatClampNeg x1)) then (if (true && (ixOk 6 x1 && (true && (decide (rR h 11 0 6 = (some (33, 0))) && true)))) = true then (f_X11_digest_62 (f_X11_digest_36 k) x1 (rI h 33 0 (Int32.toNatClampNeg x1)) h) else none) else (f_X11_digest_62 (f_X11_digest_36 k) x1 (-1) h)) else none))
set_option maxRecDepth 20000 in
theorem ev_X11_digest_36 {d : Nat} (hd : 2 ≤ d) : ∀ (k : Nat) {w2 : Option zV} {x1 : Int32} {h : zM} {r : Int64 × zM}, f_X11_digest_36 k x1 h = some r → zEv zmt d 215 36 ([some (vR (some (11, 0))), some (vI x1), w2], [], h, true) (some (vL r.1), r.2) := by
  intro k
  induction k with
  | zero => intro w2 x1 h r H; cases H
  | succ k ih =>
    intro w2 x1 h r H
    rcases ifc H with ⟨hc, H⟩ | ⟨hc, H⟩
    · refine zEv.iteT (L2 := [some (vR (some (11, 0))), some (vI x1), w2]) (st2 := []) (h2 := h) zm_X11_digest rfl rfl rfl rfl (decide_eq_true hc) ?_
      refine zEv.loc (L2 := [some (vR (some (11, 0))), some (vI 0), w2]) (st2 := []) (h2 := h) zm_X11_digest rfl rfl rfl rfl (fun h => (nomatch h)) ?_
      exact ev_X11_digest_101 (by omega)  1000 H
    · refine zEv.iteF (L2 := [some (vR (some (11, 0))), some (vI x1), w2]) (st2 := []) (h2 := h) zm_X11_digest rfl rfl rfl rfl (decide_eq_false hc) ?_
      obtain ⟨hg, H⟩ := ifg H
      rcases ifc H with ⟨hc, H⟩ | ⟨hc, H⟩
      · refine zEv.iteT (L2 := [some (vR (some (11, 0))), some (vI x1), w2]) (st2 := [vR (some (11, 0))]) (h2 := h) zm_X11_digest rfl hg rfl hg (decide_eq_true hc) ?_
        obtain ⟨hg, H⟩ := ifg H
        refine zEv.loc (L2 := [some (vR (some (11, 0))), some (vI x1), w2]) (st2 := [vI (rI h 33 0 (Int32.toNatClampNeg x1)), vR (some (11, 0))]) (h2 := h) zm_X11_digest rfl hg rfl hg (fun h => (nomatch h)) ?_
        exact ev_X11_digest_62 (by omega) ih H
      · refine zEv.iteF (L2 := [some (vR (some (11, 0))), some (vI x1), w2]) (st2 := [vR (some (11, 0))]) (h2 := h) zm_X11_digest rfl hg rfl hg (decide_eq_false hc) ?_
        refine zEv.loc (L2 := [some (vR (some (11, 0))), some (vI x1), w2]) (st2 := [vI (-1), vR (some (11, 0))]) (h2 := h) zm_X11_digest rfl rfl rfl rfl (fun h => (nomatch h)) ?_
        exact ev_X11_digest_62 (by omega) ih H
def f_X11_digest_9 : Nat → Int32 → zM → Option (Int64 × zM)
  | 0 => fun _ _ => none
  | k + 1 => fun x1 h => (if 7 < x1 then ((f_X11_mixMarks  h).bind fun q31 => (f_X11_digest_36  1000 0 q31)) else ((f_X11_counts x1 h).bind fun q18 => ((f_X11_mix q18.1 q18.2).bind fun q21 => (f_X11_digest_9 k (x1 + 1) q21))))
set_option maxRecDepth 20000 in
theorem ev_X11_digest_9 {d : Nat} (hd : 2 ≤ d) : ∀ (k : Nat) {w2 : Option zV} {x1 : Int32} {h : zM} {r : Int64 × zM}, f_X11_digest_9 k x1 h = some r → zEv zmt d 215 9 ([some (vR (some (11, 0))), some (vI x1), w2], [], h, true) (some (vL r.1), r.2) := by
  intro k
  induction k with
  | zero => intro w2 x1 h r H; cases H
  | succ k ih =>
    intro w2 x1 h r H
    rcases ifc H with ⟨hc, H⟩ | ⟨hc, H⟩
    · refine zEv.iteT (L2 := [some (vR (some (11, 0))), some (vI x1), w2]) (st2 := []) (h2 := h) zm_X11_digest rfl rfl rfl rfl (decide_eq_true hc) ?_
      obtain ⟨q31, hq, H⟩ := bnd H
      refine zEv.call (k := 214) (as := [vR (some (11, 0))]) (L2 := [some (vR (some (11, 0))), some (vI x1), w2]) (st2 := []) (h2 := h) (v := none) (h1 := q31) (st3 := []) zm_X11_digest rfl rfl rfl rfl rfl zm_X11_mixMarks rfl (by omega) (ev_X11_mixMarks (by omega) hq) rfl ?_
      refine zEv.loc (L2 := [some (vR (some (11, 0))), some (vI 0), w2]) (st2 := []) (h2 := q31) zm_X11_digest rfl rfl rfl rfl (fun h => (nomatch h)) ?_
      exact ev_X11_digest_36 (by omega)  1000 H
    · refine zEv.iteF (L2 := [some (vR (some (11, 0))), some (vI x1), w2]) (st2 := []) (h2 := h) zm_X11_digest rfl rfl rfl rfl (decide_eq_false hc) ?_
      obtain ⟨q18, hq, H⟩ := bnd H
      refine zEv.call (k := 209) (as := [vR (some (11, 0)), vI x1]) (L2 := [some (vR (some (11, 0))), some (vI x1), w2]) (st2 := [vR (some (11, 0))]) (h2 := h) (v := some (vI q18.1)) (h1 := q18.2) (st3 := [vI q18.1, vR (some (11, 0))]) zm_X11_digest rfl rfl rfl rfl rfl zm_X11_counts rfl (by omega) (ev_X11_counts (by omega) hq) rfl ?_
      obtain ⟨q21, hq, H⟩ := bnd H
      refine zEv.call (k := 213) (as := [vR (some (11, 0)), vI q18.1]) (L2 := [some (vR (some (11, 0))), some (vI x1), w2]) (st2 := []) (h2 := q18.2) (v := none) (h1 := q21) (st3 := []) zm_X11_digest rfl rfl rfl rfl rfl zm_X11_mix rfl (by omega) (ev_X11_mix (by omega) hq) rfl ?_
      refine zEv.loc (L2 := [some (vR (some (11, 0))), some (vI (x1 + 1)), w2]) (st2 := []) (h2 := q21) zm_X11_digest rfl rfl rfl rfl (fun h => (nomatch h)) ?_
      exact ih H
def f_X11_digest (h : zM) : Option (Int64 × zM) := (f_X11_digest_9  1000 0 (wL h 11 0 31 17))
set_option maxRecDepth 20000 in
theorem ev_X11_digest {d : Nat} (hd : 2 ≤ d) {w1 : Option zV} {w2 : Option zV} {h : zM} {r : Int64 × zM} (H : f_X11_digest  h = some r) : zEv zmt d 215 0 ([some (vR (some (11, 0))), w1, w2], [], h, true) (some (vL r.1), r.2) := by
  refine zEv.loc (L2 := [some (vR (some (11, 0))), some (vI 0), w2]) (st2 := []) (h2 := (wL h 11 0 31 17)) zm_X11_digest rfl rfl rfl rfl (fun h => (nomatch h)) ?_
  exact ev_X11_digest_9 (by omega)  1000 H
