def f_X11_just_159 (K106 : Int32 → Int32 → Int64 → Int64 → Int32 → zM → Option (Int32 × zM)) (x2 : Int32) (x3 : Int32) (x4 : Int64) (x8 : Int32) (s0 : Int64) (s1 : Int64) (h : zM) : Option (Int32 × zM) := (K106 x2 x3 x4 (s0 + s1) (x8 + (-1)) h)
set_option maxRecDepth 20000 in
theorem ev_X11_just_159 {d : Nat} (hd : 1 ≤ d) {K106 : Int32 → Int32 → Int64 → Int64 → Int32 → zM → Option (Int32 × zM)} (hK106 : ∀ {w1 : Option zV} {w5 : Option zV} {w7 : Option zV} {w9 : Option zV} {w10 : Option zV} {w11 : Option zV} {x2 : Int32} {x3 : Int32} {x4 : Int64} {x6 : Int64} {x8 : Int32} {h : zM} {r : Int32 × zM}, K106 x2 x3 x4 x6 x8 h = some r → zEv zmt d 193 106 ([some (vR (some (11, 0))), w1, some (vI x2), some (vI x3), some (vL x4), w5, some (vL x6), w7, some (vI x8), w9, w10, w11], [], h, true) (some (vI r.1), r.2)) {w1 : Option zV} {w5 : Option zV} {w6 : Option zV} {w7 : Option zV} {w9 : Option zV} {w10 : Option zV} {w11 : Option zV} {x2 : Int32} {x3 : Int32} {x4 : Int64} {x8 : Int32} {s0 : Int64} {s1 : Int64} {h : zM} {r : Int32 × zM} (H : f_X11_just_159 K106 x2 x3 x4 x8 s0 s1 h = some r) : zEv zmt d 193 159 ([some (vR (some (11, 0))), w1, some (vI x2), some (vI x3), some (vL x4), w5, w6, w7, some (vI x8), w9, w10, w11], [vL s1, vL s0], h, true) (some (vI r.1), r.2) := by
  refine zEv.loc (L2 := [some (vR (some (11, 0))), w1, some (vI x2), some (vI x3), some (vL x4), none, some (vL (s0 + s1)), none, some (vI (x8 + (-1))), w9, w10, w11]) (st2 := []) (h2 := h) zm_X11_just rfl rfl rfl rfl (fun h => (nomatch h)) ?_
  exact hK106 H
def f_X11_just_122 (K106 : Int32 → Int32 → Int64 → Int64 → Int32 → zM → Option (Int32 × zM)) : Nat → Int32 → Int32 → Int64 → Int64 → Int32 → Int64 → Int32 → zM → Option (Int32 × zM)
  | 0 => fun _ _ _ _ _ _ _ _ => none
  | k + 1 => fun x2 x3 x4 x6 x8 x9 x11 h => (if (x2 - x8) ≤ x11 then (if x8 < x3 then (f_X11_just_159 K106 x2 x3 x4 x8 x6 0 h) else (f_X11_just_159 K106 x2 x3 x4 x8 x6 x9 h)) else (f_X11_just_122 K106 k x2 x3 x4 x6 x8 (x9 * 4) (x11 + 1) h))
set_option maxRecDepth 20000 in
theorem ev_X11_just_122 {d : Nat} (hd : 1 ≤ d) {K106 : Int32 → Int32 → Int64 → Int64 → Int32 → zM → Option (Int32 × zM)} (hK106 : ∀ {w1 : Option zV} {w5 : Option zV} {w7 : Option zV} {w9 : Option zV} {w10 : Option zV} {w11 : Option zV} {x2 : Int32} {x3 : Int32} {x4 : Int64} {x6 : Int64} {x8 : Int32} {h : zM} {r : Int32 × zM}, K106 x2 x3 x4 x6 x8 h = some r → zEv zmt d 193 106 ([some (vR (some (11, 0))), w1, some (vI x2), some (vI x3), some (vL x4), w5, some (vL x6), w7, some (vI x8), w9, w10, w11], [], h, true) (some (vI r.1), r.2)) : ∀ (k : Nat) {w1 : Option zV} {w5 : Option zV} {w7 : Option zV} {w10 : Option zV} {x2 : Int32} {x3 : Int32} {x4 : Int64} {x6 : Int64} {x8 : Int32} {x9 : Int64} {x11 : Int32} {h : zM} {r : Int32 × zM}, f_X11_just_122 K106 k x2 x3 x4 x6 x8 x9 x11 h = some r → zEv zmt d 193 122 ([some (vR (some (11, 0))), w1, some (vI x2), some (vI x3), some (vL x4), w5, some (vL x6), w7, some (vI x8), some (vL x9), w10, some (vI x11)], [], h, true) (some (vI r.1), r.2) := by
  intro k
  induction k with
  | zero => intro w1 w5 w7 w10 x2 x3 x4 x6 x8 x9 x11 h r H; cases H
  | succ k ih =>
    intro w1 w5 w7 w10 x2 x3 x4 x6 x8 x9 x11 h r H
    rcases ifc H with ⟨hc, H⟩ | ⟨hc, H⟩
    · refine zEv.iteT (L2 := [some (vR (some (11, 0))), w1, some (vI x2), some (vI x3), some (vL x4), w5, some (vL x6), w7, some (vI x8), some (vL x9), w10, some (vI x11)]) (st2 := []) (h2 := h) zm_X11_just rfl rfl rfl rfl (decide_eq_true hc) ?_
      rcases ifc H with ⟨hc, H⟩ | ⟨hc, H⟩
      · refine zEv.iteT (L2 := [some (vR (some (11, 0))), w1, some (vI x2), some (vI x3), some (vL x4), w5, some (vL x6), w7, some (vI x8), some (vL x9), w10, some (vI x11)]) (st2 := [vL x6]) (h2 := h) zm_X11_just rfl rfl rfl rfl (decide_eq_true hc) ?_
        refine zEv.loc (L2 := [some (vR (some (11, 0))), w1, some (vI x2), some (vI x3), some (vL x4), w5, some (vL x6), w7, some (vI x8), some (vL x9), w10, some (vI x11)]) (st2 := [vL 0, vL x6]) (h2 := h) zm_X11_just rfl rfl rfl rfl (fun h => (nomatch h)) ?_
        exact ev_X11_just_159 (by omega) hK106 H
      · refine zEv.iteF (L2 := [some (vR (some (11, 0))), w1, some (vI x2), some (vI x3), some (vL x4), w5, some (vL x6), w7, some (vI x8), some (vL x9), w10, some (vI x11)]) (st2 := [vL x6]) (h2 := h) zm_X11_just rfl rfl rfl rfl (decide_eq_false hc) ?_
        refine zEv.loc (L2 := [some (vR (some (11, 0))), w1, some (vI x2), some (vI x3), some (vL x4), w5, some (vL x6), w7, some (vI x8), some (vL x9), w10, some (vI x11)]) (st2 := [vL x9, vL x6]) (h2 := h) zm_X11_just rfl rfl rfl rfl (fun h => (nomatch h)) ?_
        exact ev_X11_just_159 (by omega) hK106 H
    · refine zEv.iteF (L2 := [some (vR (some (11, 0))), w1, some (vI x2), some (vI x3), some (vL x4), w5, some (vL x6), w7, some (vI x8), some (vL x9), w10, some (vI x11)]) (st2 := []) (h2 := h) zm_X11_just rfl rfl rfl rfl (decide_eq_false hc) ?_
      refine zEv.loc (L2 := [some (vR (some (11, 0))), w1, some (vI x2), some (vI x3), some (vL x4), w5, some (vL x6), w7, some (vI x8), some (vL (x9 * 4)), none, some (vI (x11 + 1))]) (st2 := []) (h2 := h) zm_X11_just rfl rfl rfl rfl (fun h => (nomatch h)) ?_
      exact ih H
def f_X11_just_171 : Nat → Int32 → Int32 → Int64 → Int64 → Int32 → zM → Option (Int32 × zM)
  | 0 => fun _ _ _ _ _ _ => none
  | k + 1 => fun x2 x3 x4 x6 x8 h => (if x2 ≤ x8 then ((f_X11_tell x6 x4 x3 h).bind fun q197 => (some (q197.1, q197.2))) else (f_X11_just_171 k x2 x3 (x4 * 5) x6 (x8 + 1) h))
set_option maxRecDepth 20000 in
theorem ev_X11_just_171 {d : Nat} (hd : 1 ≤ d) : ∀ (k : Nat) {w1 : Option zV} {w5 : Option zV} {w7 : Option zV} {w9 : Option zV} {w10 : Option zV} {w11 : Option zV} {x2 : Int32} {x3 : Int32} {x4 : Int64} {x6 : Int64} {x8 : Int32} {h : zM} {r : Int32 × zM}, f_X11_just_171 k x2 x3 x4 x6 x8 h = some r → zEv zmt d 193 171 ([some (vR (some (11, 0))), w1, some (vI x2), some (vI x3), some (vL x4), w5, some (vL x6), w7, some (vI x8), w9, w10, w11], [], h, true) (some (vI r.1), r.2) := by
  intro k
  induction k with
  | zero => intro w1 w5 w7 w9 w10 w11 x2 x3 x4 x6 x8 h r H; cases H
  | succ k ih =>
    intro w1 w5 w7 w9 w10 w11 x2 x3 x4 x6 x8 h r H
    rcases ifc H with ⟨hc, H⟩ | ⟨hc, H⟩
    · refine zEv.iteT (L2 := [some (vR (some (11, 0))), w1, some (vI x2), some (vI x3), some (vL x4), w5, some (vL x6), w7, some (vI x8), w9, w10, w11]) (st2 := []) (h2 := h) zm_X11_just rfl rfl rfl rfl (decide_eq_true hc) ?_
      obtain ⟨q197, hq, H⟩ := bnd H
      refine zEv.call (k := 130) (as := [vR (some (11, 0)), vL x6, vL x4, vI x3]) (L2 := [some (vR (some (11, 0))), w1, some (vI x2), some (vI x3), some (vL x4), w5, some (vL x6), w7, some (vI x8), w9, w10, w11]) (st2 := []) (h2 := h) (v := some (vI q197.1)) (h1 := q197.2) (st3 := [vI q197.1]) zm_X11_just rfl rfl rfl rfl rfl zm_X11_tell rfl (by omega) (ev_X11_tell (by omega) hq) rfl ?_
      cases H
      exact zEv.ret zm_X11_just rfl rfl rfl rfl
    · refine zEv.iteF (L2 := [some (vR (some (11, 0))), w1, some (vI x2), some (vI x3), some (vL x4), w5, some (vL x6), w7, some (vI x8), w9, w10, w11]) (st2 := []) (h2 := h) zm_X11_just rfl rfl rfl rfl (decide_eq_false hc) ?_
      refine zEv.loc (L2 := [some (vR (some (11, 0))), w1, some (vI x2), some (vI x3), some (vL (x4 * 5)), none, some (vL x6), none, some (vI (x8 + 1)), w9, w10, w11]) (st2 := []) (h2 := h) zm_X11_just rfl rfl rfl rfl (fun h => (nomatch h)) ?_
      exact ih H
def f_X11_just_106 : Nat → Int32 → Int32 → Int64 → Int64 → Int32 → zM → Option (Int32 × zM)
  | 0 => fun _ _ _ _ _ _ => none
  | k + 1 => fun x2 x3 x4 x6 x8 h => (if x8 < 0 then (f_X11_just_171  1000 x2 x3 x4 x6 0 h) else ((f_X11_ways x2 x8 h).bind fun q114 => (f_X11_just_122 (f_X11_just_106 k) 1000 x2 x3 x4 x6 x8 q114.1 0 q114.2)))
set_option maxRecDepth 20000 in
theorem ev_X11_just_106 {d : Nat} (hd : 1 ≤ d) : ∀ (k : Nat) {w1 : Option zV} {w5 : Option zV} {w7 : Option zV} {w9 : Option zV} {w10 : Option zV} {w11 : Option zV} {x2 : Int32} {x3 : Int32} {x4 : Int64} {x6 : Int64} {x8 : Int32} {h : zM} {r : Int32 × zM}, f_X11_just_106 k x2 x3 x4 x6 x8 h = some r → zEv zmt d 193 106 ([some (vR (some (11, 0))), w1, some (vI x2), some (vI x3), some (vL x4), w5, some (vL x6), w7, some (vI x8), w9, w10, w11], [], h, true) (some (vI r.1), r.2) := by
  intro k
  induction k with
  | zero => intro w1 w5 w7 w9 w10 w11 x2 x3 x4 x6 x8 h r H; cases H
  | succ k ih =>
    intro w1 w5 w7 w9 w10 w11 x2 x3 x4 x6 x8 h r H
    rcases ifc H with ⟨hc, H⟩ | ⟨hc, H⟩
    · refine zEv.iteT (L2 := [some (vR (some (11, 0))), w1, some (vI x2), some (vI x3), some (vL x4), w5, some (vL x6), w7, some (vI x8), w9, w10, w11]) (st2 := []) (h2 := h) zm_X11_just rfl rfl rfl rfl (decide_eq_true hc) ?_
      refine zEv.loc (L2 := [some (vR (some (11, 0))), w1, some (vI x2), some (vI x3), some (vL x4), w5, some (vL x6), none, some (vI 0), w9, w10, w11]) (st2 := []) (h2 := h) zm_X11_just rfl rfl rfl rfl (fun h => (nomatch h)) ?_
      exact ev_X11_just_171 (by omega)  1000 H
    · refine zEv.iteF (L2 := [some (vR (some (11, 0))), w1, some (vI x2), some (vI x3), some (vL x4), w5, some (vL x6), w7, some (vI x8), w9, w10, w11]) (st2 := []) (h2 := h) zm_X11_just rfl rfl rfl rfl (decide_eq_false hc) ?_
      obtain ⟨q114, hq, H⟩ := bnd H
      refine zEv.call (k := 192) (as := [vI x2, vI x8]) (L2 := [some (vR (some (11, 0))), w1, some (vI x2), some (vI x3), some (vL x4), w5, some (vL x6), w7, some (vI x8), w9, w10, w11]) (st2 := []) (h2 := h) (v := some (vL q114.1)) (h1 := q114.2) (st3 := [vL q114.1]) zm_X11_just rfl rfl rfl rfl rfl zm_X11_ways rfl (by omega) (ev_X11_ways (by omega) hq) rfl ?_
      refine zEv.loc (L2 := [some (vR (some (11, 0))), w1, some (vI x2), some (vI x3), some (vL x4), w5, some (vL x6), w7, some (vI x8), some (vL q114.1), none, some (vI 0)]) (st2 := []) (h2 := q114.2) zm_X11_just rfl rfl rfl rfl (fun h => (nomatch h)) ?_
      exact ev_X11_just_122 (by omega) ih 1000 H
def f_X11_just_87 (x2 : Int32) (x3 : Int32) (h : zM) : Option (Int32 × zM) := (if ¬ x2 = 0 then (f_X11_just_106  1000 x2 x3 1 0 x2 h) else ((f_X11_meets 4 h).bind fun q93 => (some (q93.1, q93.2))))
set_option maxRecDepth 20000 in
theorem ev_X11_just_87 {d : Nat} (hd : 1 ≤ d) {w1 : Option zV} {w4 : Option zV} {w5 : Option zV} {w6 : Option zV} {w7 : Option zV} {w8 : Option zV} {w9 : Option zV} {w10 : Option zV} {w11 : Option zV} {x2 : Int32} {x3 : Int32} {h : zM} {r : Int32 × zM} (H : f_X11_just_87 x2 x3 h = some r) : zEv zmt d 193 87 ([some (vR (some (11, 0))), w1, some (vI x2), some (vI x3), w4, w5, w6, w7, w8, w9, w10, w11], [], h, true) (some (vI r.1), r.2) := by
  rcases ifc H with ⟨hc, H⟩ | ⟨hc, H⟩
  · refine zEv.iteT (L2 := [some (vR (some (11, 0))), w1, some (vI x2), some (vI x3), w4, w5, w6, w7, w8, w9, w10, w11]) (st2 := []) (h2 := h) zm_X11_just rfl rfl rfl rfl (decide_eq_true hc) ?_
    refine zEv.loc (L2 := [some (vR (some (11, 0))), w1, some (vI x2), some (vI x3), some (vL 1), none, some (vL 0), none, some (vI x2), w9, w10, w11]) (st2 := []) (h2 := h) zm_X11_just rfl rfl rfl rfl (fun h => (nomatch h)) ?_
    exact ev_X11_just_106 (by omega)  1000 H
  · refine zEv.iteF (L2 := [some (vR (some (11, 0))), w1, some (vI x2), some (vI x3), w4, w5, w6, w7, w8, w9, w10, w11]) (st2 := []) (h2 := h) zm_X11_just rfl rfl rfl rfl (decide_eq_false hc) ?_
    obtain ⟨q93, hq, H⟩ := bnd H
    refine zEv.call (k := 128) (as := [vR (some (11, 0)), vI 4]) (L2 := [some (vR (some (11, 0))), w1, some (vI x2), some (vI x3), w4, w5, w6, w7, w8, w9, w10, w11]) (st2 := []) (h2 := h) (v := some (vI q93.1)) (h1 := q93.2) (st3 := [vI q93.1]) zm_X11_just rfl rfl rfl rfl rfl zm_X11_meets rfl (by omega) (ev_X11_meets (by omega) hq) rfl ?_
    cases H
    exact zEv.ret zm_X11_just rfl rfl rfl rfl
def f_X11_just_79 (K20 : Int32 → Int32 → Int32 → Int32 → zM → Option (Int32 × zM)) (x1 : Int32) (x2 : Int32) (x4 : Int32) (s0 : Int32) (s1 : Int32) (h : zM) : Option (Int32 × zM) := (K20 x1 x2 (s0 + s1) (x4 + 1) h)
set_option maxRecDepth 20000 in
theorem ev_X11_just_79 {d : Nat} (hd : 1 ≤ d) {K20 : Int32 → Int32 → Int32 → Int32 → zM → Option (Int32 × zM)} (hK20 : ∀ {w5 : Option zV} {w6 : Option zV} {w7 : Option zV} {w8 : Option zV} {w9 : Option zV} {w10 : Option zV} {w11 : Option zV} {x1 : Int32} {x2 : Int32} {x3 : Int32} {x4 : Int32} {h : zM} {r : Int32 × zM}, K20 x1 x2 x3 x4 h = some r → zEv zmt d 193 20 ([some (vR (some (11, 0))), some (vI x1), some (vI x2), some (vI x3), some (vI x4), w5, w6, w7, w8, w9, w10, w11], [], h, true) (some (vI r.1), r.2)) {w3 : Option zV} {w5 : Option zV} {w6 : Option zV} {w7 : Option zV} {w8 : Option zV} {w9 : Option zV} {w10 : Option zV} {w11 : Option zV} {x1 : Int32} {x2 : Int32} {x4 : Int32} {s0 : Int32} {s1 : Int32} {h : zM} {r : Int32 × zM} (H : f_X11_just_79 K20 x1 x2 x4 s0 s1 h = some r) : zEv zmt d 193 79 ([some (vR (some (11, 0))), some (vI x1), some (vI x2), w3, some (vI x4), w5, w6, w7, w8, w9, w10, w11], [vI s1, vI s0], h, true) (some (vI r.1), r.2) := by
  refine zEv.loc (L2 := [some (vR (some (11, 0))), some (vI x1), some (vI x2), some (vI (s0 + s1)), some (vI (x4 + 1)), w5, w6, w7, w8, w9, w10, w11]) (st2 := []) (h2 := h) zm_X11_just rfl rfl rfl rfl (fun h => (nomatch h)) ?_
  exact hK20 H
def f_X11_just_60 (K20 : Int32 → Int32 → Int32 → Int32 → zM → Option (Int32 × zM)) (x1 : Int32) (x3 : Int32) (x4 : Int32) (s0 : Int32) (s1 : Int32) (h : zM) : Option (Int32 × zM) := ((f_X11_part x4 5 h).bind fun q67 => (if ¬ q67.1 = x1 then (f_X11_just_79 K20 x1 (s0 + s1) x4 x3 0 q67.2) else (f_X11_just_79 K20 x1 (s0 + s1) x4 x3 1 q67.2)))
set_option maxRecDepth 20000 in
theorem ev_X11_just_60 {d : Nat} (hd : 1 ≤ d) {K20 : Int32 → Int32 → Int32 → Int32 → zM → Option (Int32 × zM)} (hK20 : ∀ {w5 : Option zV} {w6 : Option zV} {w7 : Option zV} {w8 : Option zV} {w9 : Option zV} {w10 : Option zV} {w11 : Option zV} {x1 : Int32} {x2 : Int32} {x3 : Int32} {x4 : Int32} {h : zM} {r : Int32 × zM}, K20 x1 x2 x3 x4 h = some r → zEv zmt d 193 20 ([some (vR (some (11, 0))), some (vI x1), some (vI x2), some (vI x3), some (vI x4), w5, w6, w7, w8, w9, w10, w11], [], h, true) (some (vI r.1), r.2)) {w2 : Option zV} {w5 : Option zV} {w6 : Option zV} {w7 : Option zV} {w8 : Option zV} {w9 : Option zV} {w10 : Option zV} {w11 : Option zV} {x1 : Int32} {x3 : Int32} {x4 : Int32} {s0 : Int32} {s1 : Int32} {h : zM} {r : Int32 × zM} (H : f_X11_just_60 K20 x1 x3 x4 s0 s1 h = some r) : zEv zmt d 193 60 ([some (vR (some (11, 0))), some (vI x1), w2, some (vI x3), some (vI x4), w5, w6, w7, w8, w9, w10, w11], [vI s1, vI s0], h, true) (some (vI r.1), r.2) := by
  obtain ⟨q67, hq, H⟩ := bnd H
  refine zEv.call (k := 148) (as := [vR (some (11, 0)), vI x4, vI 5]) (L2 := [some (vR (some (11, 0))), some (vI x1), some (vI (s0 + s1)), some (vI x3), some (vI x4), w5, w6, w7, w8, w9, w10, w11]) (st2 := [vI x3]) (h2 := h) (v := some (vI q67.1)) (h1 := q67.2) (st3 := [vI q67.1, vI x3]) zm_X11_just rfl rfl rfl rfl rfl zm_X11_part rfl (by omega) (ev_X11_part (by omega) hq) rfl ?_
  rcases ifc H with ⟨hc, H⟩ | ⟨hc, H⟩
  · refine zEv.iteT (L2 := [some (vR (some (11, 0))), some (vI x1), some (vI (s0 + s1)), some (vI x3), some (vI x4), w5, w6, w7, w8, w9, w10, w11]) (st2 := [vI x3]) (h2 := q67.2) zm_X11_just rfl rfl rfl rfl (decide_eq_true hc) ?_
    refine zEv.loc (L2 := [some (vR (some (11, 0))), some (vI x1), some (vI (s0 + s1)), some (vI x3), some (vI x4), w5, w6, w7, w8, w9, w10, w11]) (st2 := [vI 0, vI x3]) (h2 := q67.2) zm_X11_just rfl rfl rfl rfl (fun h => (nomatch h)) ?_
    exact ev_X11_just_79 (by omega) hK20 H
  · refine zEv.iteF (L2 := [some (vR (some (11, 0))), some (vI x1), some (vI (s0 + s1)), some (vI x3), some (vI x4), w5, w6, w7, w8, w9, w10, w11]) (st2 := [vI x3]) (h2 := q67.2) zm_X11_just rfl rfl rfl rfl (decide_eq_false hc) ?_
    refine zEv.loc (L2 := [some (vR (some (11, 0))), some (vI x1), some (vI (s0 + s1)), some (vI x3), some (vI x4), w5, w6, w7, w8, w9, w10, w11]) (st2 := [vI 1, vI x3]) (h2 := q67.2) zm_X11_just rfl rfl rfl rfl (fun h => (nomatch h)) ?_
    exact ev_X11_just_79 (by omega) hK20 H
def f_X11_just_20 : Nat → Int32 → Int32 → Int32 → Int32 → zM → Option (Int32 × zM)
  | 0 => fun _ _ _ _ _ => none
  | k + 1 => fun x1 x2 x3 x4 h => (if (rI h 11 0 13) ≤ x4 then (f_X11_just_87  x2 x3 h) else (if 20 ≤ x2 then (f_X11_just_87  x2 x3 h) else ((f_X11_part x4 5 h).bind fun q40 => ((f_X11_in q40.1 (x1 - 2) (x1 + 2) q40.2).bind fun q49 => (if q49.1 = 0 then (f_X11_just_60 (f_X11_just_20 k) x1 x3 x4 x2 0 q49.2) else (f_X11_just_60 (f_X11_just_20 k) x1 x3 x4 x2 1 q49.2))))))
set_option maxRecDepth 20000 in
theorem ev_X11_just_20 {d : Nat} (hd : 1 ≤ d) : ∀ (k : Nat) {w5 : Option zV} {w6 : Option zV} {w7 : Option zV} {w8 : Option zV} {w9 : Option zV} {w10 : Option zV} {w11 : Option zV} {x1 : Int32} {x2 : Int32} {x3 : Int32} {x4 : Int32} {h : zM} {r : Int32 × zM}, f_X11_just_20 k x1 x2 x3 x4 h = some r → zEv zmt d 193 20 ([some (vR (some (11, 0))), some (vI x1), some (vI x2), some (vI x3), some (vI x4), w5, w6, w7, w8, w9, w10, w11], [], h, true) (some (vI r.1), r.2) := by
  intro k
  induction k with
  | zero => intro w5 w6 w7 w8 w9 w10 w11 x1 x2 x3 x4 h r H; cases H
  | succ k ih =>
    intro w5 w6 w7 w8 w9 w10 w11 x1 x2 x3 x4 h r H
    rcases ifc H with ⟨hc, H⟩ | ⟨hc, H⟩
    · refine zEv.iteT (L2 := [some (vR (some (11, 0))), some (vI x1), some (vI x2), some (vI x3), some (vI x4), w5, w6, w7, w8, w9, w10, w11]) (st2 := []) (h2 := h) zm_X11_just rfl rfl rfl rfl (decide_eq_true hc) ?_
      exact ev_X11_just_87 (by omega)  H
    · refine zEv.iteF (L2 := [some (vR (some (11, 0))), some (vI x1), some (vI x2), some (vI x3), some (vI x4), w5, w6, w7, w8, w9, w10, w11]) (st2 := []) (h2 := h) zm_X11_just rfl rfl rfl rfl (decide_eq_false hc) ?_
      rcases ifc H with ⟨hc, H⟩ | ⟨hc, H⟩
      · refine zEv.iteT (L2 := [some (vR (some (11, 0))), some (vI x1), some (vI x2), some (vI x3), some (vI x4), w5, w6, w7, w8, w9, w10, w11]) (st2 := []) (h2 := h) zm_X11_just rfl rfl rfl rfl (decide_eq_true hc) ?_
        exact ev_X11_just_87 (by omega)  H
      · refine zEv.iteF (L2 := [some (vR (some (11, 0))), some (vI x1), some (vI x2), some (vI x3), some (vI x4), w5, w6, w7, w8, w9, w10, w11]) (st2 := []) (h2 := h) zm_X11_just rfl rfl rfl rfl (decide_eq_false hc) ?_
        obtain ⟨q40, hq, H⟩ := bnd H
        refine zEv.call (k := 148) (as := [vR (some (11, 0)), vI x4, vI 5]) (L2 := [some (vR (some (11, 0))), some (vI x1), some (vI x2), some (vI x3), some (vI x4), w5, w6, w7, w8, w9, w10, w11]) (st2 := [vI x2]) (h2 := h) (v := some (vI q40.1)) (h1 := q40.2) (st3 := [vI q40.1, vI x2]) zm_X11_just rfl rfl rfl rfl rfl zm_X11_part rfl (by omega) (ev_X11_part (by omega) hq) rfl ?_
        obtain ⟨q49, hq, H⟩ := bnd H
        refine zEv.call (k := 127) (as := [vI q40.1, vI (x1 - 2), vI (x1 + 2)]) (L2 := [some (vR (some (11, 0))), some (vI x1), some (vI x2), some (vI x3), some (vI x4), w5, w6, w7, w8, w9, w10, w11]) (st2 := [vI x2]) (h2 := q40.2) (v := some (vI q49.1)) (h1 := q49.2) (st3 := [vI q49.1, vI x2]) zm_X11_just rfl rfl rfl rfl rfl zm_X11_in rfl (by omega) (ev_X11_in (by omega) hq) rfl ?_
        rcases ifc H with ⟨hc, H⟩ | ⟨hc, H⟩
        · refine zEv.iteT (L2 := [some (vR (some (11, 0))), some (vI x1), some (vI x2), some (vI x3), some (vI x4), w5, w6, w7, w8, w9, w10, w11]) (st2 := [vI x2]) (h2 := q49.2) zm_X11_just rfl rfl rfl rfl (decide_eq_true hc) ?_
          refine zEv.loc (L2 := [some (vR (some (11, 0))), some (vI x1), some (vI x2), some (vI x3), some (vI x4), w5, w6, w7, w8, w9, w10, w11]) (st2 := [vI 0, vI x2]) (h2 := q49.2) zm_X11_just rfl rfl rfl rfl (fun h => (nomatch h)) ?_
          exact ev_X11_just_60 (by omega) ih H
        · refine zEv.iteF (L2 := [some (vR (some (11, 0))), some (vI x1), some (vI x2), some (vI x3), some (vI x4), w5, w6, w7, w8, w9, w10, w11]) (st2 := [vI x2]) (h2 := q49.2) zm_X11_just rfl rfl rfl rfl (decide_eq_false hc) ?_
          refine zEv.loc (L2 := [some (vR (some (11, 0))), some (vI x1), some (vI x2), some (vI x3), some (vI x4), w5, w6, w7, w8, w9, w10, w11]) (st2 := [vI 1, vI x2]) (h2 := q49.2) zm_X11_just rfl rfl rfl rfl (fun h => (nomatch h)) ?_
          exact ev_X11_just_60 (by omega) ih H
def f_X11_just (x1 : Int32) (h : zM) : Option (Int32 × zM) := ((f_X11_in x1 (-58) 58 h).bind fun q5 => (if ¬ q5.1 = 0 then (f_X11_just_20  1000 x1 0 0 0 q5.2) else (some ((-1), q5.2))))
set_option maxRecDepth 20000 in
theorem ev_X11_just {d : Nat} (hd : 1 ≤ d) {w2 : Option zV} {w3 : Option zV} {w4 : Option zV} {w5 : Option zV} {w6 : Option zV} {w7 : Option zV} {w8 : Option zV} {w9 : Option zV} {w10 : Option zV} {w11 : Option zV} {x1 : Int32} {h : zM} {r : Int32 × zM} (H : f_X11_just x1 h = some r) : zEv zmt d 193 0 ([some (vR (some (11, 0))), some (vI x1), w2, w3, w4, w5, w6, w7, w8, w9, w10, w11], [], h, true) (some (vI r.1), r.2) := by
  obtain ⟨q5, hq, H⟩ := bnd H
  refine zEv.call (k := 127) (as := [vI x1, vI (-58), vI 58]) (L2 := [some (vR (some (11, 0))), some (vI x1), w2, w3, w4, w5, w6, w7, w8, w9, w10, w11]) (st2 := []) (h2 := h) (v := some (vI q5.1)) (h1 := q5.2) (st3 := [vI q5.1]) zm_X11_just rfl rfl rfl rfl rfl zm_X11_in rfl (by omega) (ev_X11_in (by omega) hq) rfl ?_
  rcases ifc H with ⟨hc, H⟩ | ⟨hc, H⟩
  · refine zEv.iteT (L2 := [some (vR (some (11, 0))), some (vI x1), w2, w3, w4, w5, w6, w7, w8, w9, w10, w11]) (st2 := []) (h2 := q5.2) zm_X11_just rfl rfl rfl rfl (decide_eq_true hc) ?_
    refine zEv.loc (L2 := [some (vR (some (11, 0))), some (vI x1), some (vI 0), some (vI 0), some (vI 0), w5, w6, w7, w8, w9, w10, w11]) (st2 := []) (h2 := q5.2) zm_X11_just rfl rfl rfl rfl (fun h => (nomatch h)) ?_
    exact ev_X11_just_20 (by omega)  1000 H
  · refine zEv.iteF (L2 := [some (vR (some (11, 0))), some (vI x1), w2, w3, w4, w5, w6, w7, w8, w9, w10, w11]) (st2 := []) (h2 := q5.2) zm_X11_just rfl rfl rfl rfl (decide_eq_false hc) ?_
    cases H
    exact zEv.ret zm_X11_just rfl rfl rfl rfl
def f_X11_isLet_203 (h : zM) : Option (Int32 × zM) := (some (0, h))
set_option maxRecDepth 20000 in
theorem ev_X11_isLet_203 {d : Nat} (hd : 1 ≤ d) {w0 : Option zV} {w1 : Option zV} {w2 : Option zV} {w3 : Option zV} {w4 : Option zV} {h : zM} {r : Int32 × zM} (H : f_X11_isLet_203  h = some r) : zEv zmt d 194 203 ([w0, w1, w2, w3, w4], [], h, true) (some (vI r.1), r.2) := by
  refine zEv.loc (L2 := [w0, w1, w2, w3, w4]) (st2 := [vI 0]) (h2 := h) zm_X11_isLet rfl rfl rfl rfl (fun h => (nomatch h)) ?_
  cases H
  exact zEv.ret zm_X11_isLet rfl rfl rfl rfl
def f_X11_isLet_199 (h : zM) : Option (Int32 × zM) := (some (1, h))
set_option maxRecDepth 20000 in
theorem ev_X11_isLet_199 {d : Nat} (hd : 1 ≤ d) {w0 : Option zV} {w1 : Option zV} {w2 : Option zV} {w3 : Option zV} {w4 : Option zV} {h : zM} {r : Int32 × zM} (H : f_X11_isLet_199  h = some r) : zEv zmt d 194 199 ([w0, w1, w2, w3, w4], [], h, true) (some (vI r.1), r.2) := by
  refine zEv.loc (L2 := [w0, w1, w2, w3, w4]) (st2 := [vI 1]) (h2 := h) zm_X11_isLet rfl rfl rfl rfl (fun h => (nomatch h)) ?_
  cases H
  exact zEv.ret zm_X11_isLet rfl rfl rfl rfl
def f_X11_isLet_184 (x4 : Int32) (h : zM) : Option (Int32 × zM) := (if ¬ x4 = 4 then (f_X11_isLet_199  h) else (if 0 < ((rI h 11 0 25) &&& 4) then (f_X11_isLet_203  h) else (f_X11_isLet_199  h)))
set_option maxRecDepth 20000 in
theorem ev_X11_isLet_184 {d : Nat} (hd : 1 ≤ d) {w1 : Option zV} {w2 : Option zV} {w3 : Option zV} {x4 : Int32} {h : zM} {r : Int32 × zM} (H : f_X11_isLet_184 x4 h = some r) : zEv zmt d 194 184 ([some (vR (some (11, 0))), w1, w2, w3, some (vI x4)], [], h, true) (some (vI r.1), r.2) := by
  rcases ifc H with ⟨hc, H⟩ | ⟨hc, H⟩
  · refine zEv.iteT (L2 := [some (vR (some (11, 0))), w1, w2, w3, some (vI x4)]) (st2 := []) (h2 := h) zm_X11_isLet rfl rfl rfl rfl (decide_eq_true hc) ?_
    exact ev_X11_isLet_199 (by omega)  H
  · refine zEv.iteF (L2 := [some (vR (some (11, 0))), w1, w2, w3, some (vI x4)]) (st2 := []) (h2 := h) zm_X11_isLet rfl rfl rfl rfl (decide_eq_false hc) ?_
    rcases ifc H with ⟨hc, H⟩ | ⟨hc, H⟩
    · refine zEv.iteT (L2 := [some (vR (some (11, 0))), w1, w2, w3, some (vI x4)]) (st2 := []) (h2 := h) zm_X11_isLet rfl rfl rfl rfl (decide_eq_true hc) ?_
      exact ev_X11_isLet_203 (by omega)  H
    · refine zEv.iteF (L2 := [some (vR (some (11, 0))), w1, w2, w3, some (vI x4)]) (st2 := []) (h2 := h) zm_X11_isLet rfl rfl rfl rfl (decide_eq_false hc) ?_
      exact ev_X11_isLet_199 (by omega)  H
def f_X11_isLet_169 (x4 : Int32) (h : zM) : Option (Int32 × zM) := (if ¬ x4 = 3 then (f_X11_isLet_184  x4 h) else (if 0 < ((rI h 11 0 25) &&& 2) then (f_X11_isLet_203  h) else (f_X11_isLet_184  x4 h)))
set_option maxRecDepth 20000 in
theorem ev_X11_isLet_169 {d : Nat} (hd : 1 ≤ d) {w1 : Option zV} {w2 : Option zV} {w3 : Option zV} {x4 : Int32} {h : zM} {r : Int32 × zM} (H : f_X11_isLet_169 x4 h = some r) : zEv zmt d 194 169 ([some (vR (some (11, 0))), w1, w2, w3, some (vI x4)], [], h, true) (some (vI r.1), r.2) := by
  rcases ifc H with ⟨hc, H⟩ | ⟨hc, H⟩
  · refine zEv.iteT (L2 := [some (vR (some (11, 0))), w1, w2, w3, some (vI x4)]) (st2 := []) (h2 := h) zm_X11_isLet rfl rfl rfl rfl (decide_eq_true hc) ?_
    exact ev_X11_isLet_184 (by omega)  H
  · refine zEv.iteF (L2 := [some (vR (some (11, 0))), w1, w2, w3, some (vI x4)]) (st2 := []) (h2 := h) zm_X11_isLet rfl rfl rfl rfl (decide_eq_false hc) ?_
    rcases ifc H with ⟨hc, H⟩ | ⟨hc, H⟩
    · refine zEv.iteT (L2 := [some (vR (some (11, 0))), w1, w2, w3, some (vI x4)]) (st2 := []) (h2 := h) zm_X11_isLet rfl rfl rfl rfl (decide_eq_true hc) ?_
      exact ev_X11_isLet_203 (by omega)  H
    · refine zEv.iteF (L2 := [some (vR (some (11, 0))), w1, w2, w3, some (vI x4)]) (st2 := []) (h2 := h) zm_X11_isLet rfl rfl rfl rfl (decide_eq_false hc) ?_
      exact ev_X11_isLet_184 (by omega)  H
def f_X11_isLet_141 (x1 : Int32) (s0 : Int32) (h : zM) : Option (Int32 × zM) := ((f_X11_part x1 0 h).bind fun q145 => (if s0 = 0 then (f_X11_isLet_203  q145.2) else (if ¬ q145.1 = 5 then (f_X11_isLet_169  q145.1 q145.2) else (if 0 < ((rI q145.2 11 0 25) &&& 1) then (f_X11_isLet_203  q145.2) else (f_X11_isLet_169  q145.1 q145.2)))))
set_option maxRecDepth 20000 in
theorem ev_X11_isLet_141 {d : Nat} (hd : 1 ≤ d) {w2 : Option zV} {w3 : Option zV} {w4 : Option zV} {x1 : Int32} {s0 : Int32} {h : zM} {r : Int32 × zM} (H : f_X11_isLet_141 x1 s0 h = some r) : zEv zmt d 194 141 ([some (vR (some (11, 0))), some (vI x1), w2, w3, w4], [vI s0], h, true) (some (vI r.1), r.2) := by
  obtain ⟨q145, hq, H⟩ := bnd H
  refine zEv.call (k := 148) (as := [vR (some (11, 0)), vI x1, vI 0]) (L2 := [some (vR (some (11, 0))), some (vI x1), none, some (vI s0), w4]) (st2 := []) (h2 := h) (v := some (vI q145.1)) (h1 := q145.2) (st3 := [vI q145.1]) zm_X11_isLet rfl rfl rfl rfl rfl zm_X11_part rfl (by omega) (ev_X11_part (by omega) hq) rfl ?_
  rcases ifc H with ⟨hc, H⟩ | ⟨hc, H⟩
  · refine zEv.iteT (L2 := [some (vR (some (11, 0))), some (vI x1), none, some (vI s0), some (vI q145.1)]) (st2 := []) (h2 := q145.2) zm_X11_isLet rfl rfl rfl rfl (decide_eq_true hc) ?_
    exact ev_X11_isLet_203 (by omega)  H
  · refine zEv.iteF (L2 := [some (vR (some (11, 0))), some (vI x1), none, some (vI s0), some (vI q145.1)]) (st2 := []) (h2 := q145.2) zm_X11_isLet rfl rfl rfl rfl (decide_eq_false hc) ?_
    rcases ifc H with ⟨hc, H⟩ | ⟨hc, H⟩
    · refine zEv.iteT (L2 := [some (vR (some (11, 0))), some (vI x1), none, some (vI s0), some (vI q145.1)]) (st2 := []) (h2 := q145.2) zm_X11_isLet rfl rfl rfl rfl (decide_eq_true hc) ?_
      exact ev_X11_isLet_169 (by omega)  H
    · refine zEv.iteF (L2 := [some (vR (some (11, 0))), some (vI x1), none, some (vI s0), some (vI q145.1)]) (st2 := []) (h2 := q145.2) zm_X11_isLet rfl rfl rfl rfl (decide_eq_false hc) ?_
      rcases ifc H with ⟨hc, H⟩ | ⟨hc, H⟩
      · refine zEv.iteT (L2 := [some (vR (some (11, 0))), some (vI x1), none, some (vI s0), some (vI q145.1)]) (st2 := []) (h2 := q145.2) zm_X11_isLet rfl rfl rfl rfl (decide_eq_true hc) ?_
        exact ev_X11_isLet_203 (by omega)  H
      · refine zEv.iteF (L2 := [some (vR (some (11, 0))), some (vI x1), none, some (vI s0), some (vI q145.1)]) (st2 := []) (h2 := q145.2) zm_X11_isLet rfl rfl rfl rfl (decide_eq_false hc) ?_
        exact ev_X11_isLet_169 (by omega)  H
def f_X11_isLet_140 (x1 : Int32) (h : zM) : Option (Int32 × zM) := (f_X11_isLet_141  x1 0 h)
set_option maxRecDepth 20000 in
theorem ev_X11_isLet_140 {d : Nat} (hd : 1 ≤ d) {w2 : Option zV} {w3 : Option zV} {w4 : Option zV} {x1 : Int32} {h : zM} {r : Int32 × zM} (H : f_X11_isLet_140 x1 h = some r) : zEv zmt d 194 140 ([some (vR (some (11, 0))), some (vI x1), w2, w3, w4], [], h, true) (some (vI r.1), r.2) := by
  refine zEv.loc (L2 := [some (vR (some (11, 0))), some (vI x1), w2, w3, w4]) (st2 := [vI 0]) (h2 := h) zm_X11_isLet rfl rfl rfl rfl (fun h => (nomatch h)) ?_
  exact ev_X11_isLet_141 (by omega)  H
def f_X11_isLet_114 (x1 : Int32) (s0 : Int32) (h : zM) : Option (Int32 × zM) := (if s0 = 0 then (f_X11_isLet_140  x1 h) else ((f_X11_part x1 6 h).bind fun q127 => (if ¬ (((rI h 11 0 24) >>> (q127.1 &&& 31)) &&& 1) = 0 then (f_X11_isLet_140  x1 q127.2) else (f_X11_isLet_141  x1 1 q127.2))))
set_option maxRecDepth 20000 in
theorem ev_X11_isLet_114 {d : Nat} (hd : 1 ≤ d) {w2 : Option zV} {w3 : Option zV} {w4 : Option zV} {x1 : Int32} {s0 : Int32} {h : zM} {r : Int32 × zM} (H : f_X11_isLet_114 x1 s0 h = some r) : zEv zmt d 194 114 ([some (vR (some (11, 0))), some (vI x1), w2, w3, w4], [vI s0], h, true) (some (vI r.1), r.2) := by
  rcases ifc H with ⟨hc, H⟩ | ⟨hc, H⟩
  · refine zEv.iteT (L2 := [some (vR (some (11, 0))), some (vI x1), none, some (vI s0), w4]) (st2 := []) (h2 := h) zm_X11_isLet rfl rfl rfl rfl (decide_eq_true hc) ?_
    exact ev_X11_isLet_140 (by omega)  H
  · refine zEv.iteF (L2 := [some (vR (some (11, 0))), some (vI x1), none, some (vI s0), w4]) (st2 := []) (h2 := h) zm_X11_isLet rfl rfl rfl rfl (decide_eq_false hc) ?_
    obtain ⟨q127, hq, H⟩ := bnd H
    refine zEv.call (k := 148) (as := [vR (some (11, 0)), vI x1, vI 6]) (L2 := [some (vR (some (11, 0))), some (vI x1), none, some (vI s0), w4]) (st2 := [vI (rI h 11 0 24)]) (h2 := h) (v := some (vI q127.1)) (h1 := q127.2) (st3 := [vI q127.1, vI (rI h 11 0 24)]) zm_X11_isLet rfl rfl rfl rfl rfl zm_X11_part rfl (by omega) (ev_X11_part (by omega) hq) rfl ?_
    rcases ifc H with ⟨hc, H⟩ | ⟨hc, H⟩
    · refine zEv.iteT (L2 := [some (vR (some (11, 0))), some (vI x1), none, some (vI s0), w4]) (st2 := []) (h2 := q127.2) zm_X11_isLet rfl rfl rfl rfl (decide_eq_true hc) ?_
      exact ev_X11_isLet_140 (by omega)  H
    · refine zEv.iteF (L2 := [some (vR (some (11, 0))), some (vI x1), none, some (vI s0), w4]) (st2 := []) (h2 := q127.2) zm_X11_isLet rfl rfl rfl rfl (decide_eq_false hc) ?_
      refine zEv.loc (L2 := [some (vR (some (11, 0))), some (vI x1), none, some (vI s0), w4]) (st2 := [vI 1]) (h2 := q127.2) zm_X11_isLet rfl rfl rfl rfl (fun h => (nomatch h)) ?_
      exact ev_X11_isLet_141 (by omega)  H
def f_X11_isLet_113 (x1 : Int32) (h : zM) : Option (Int32 × zM) := (f_X11_isLet_114  x1 0 h)
set_option maxRecDepth 20000 in
theorem ev_X11_isLet_113 {d : Nat} (hd : 1 ≤ d) {w2 : Option zV} {w3 : Option zV} {w4 : Option zV} {x1 : Int32} {h : zM} {r : Int32 × zM} (H : f_X11_isLet_113 x1 h = some r) : zEv zmt d 194 113 ([some (vR (some (11, 0))), some (vI x1), w2, w3, w4], [], h, true) (some (vI r.1), r.2) := by
  refine zEv.loc (L2 := [some (vR (some (11, 0))), some (vI x1), w2, w3, w4]) (st2 := [vI 0]) (h2 := h) zm_X11_isLet rfl rfl rfl rfl (fun h => (nomatch h)) ?_
  exact ev_X11_isLet_114 (by omega)  H
def f_X11_isLet_109 (x1 : Int32) (h : zM) : Option (Int32 × zM) := (f_X11_isLet_114  x1 1 h)
set_option maxRecDepth 20000 in
theorem ev_X11_isLet_109 {d : Nat} (hd : 1 ≤ d) {w2 : Option zV} {w3 : Option zV} {w4 : Option zV} {x1 : Int32} {h : zM} {r : Int32 × zM} (H : f_X11_isLet_109 x1 h = some r) : zEv zmt d 194 109 ([some (vR (some (11, 0))), some (vI x1), w2, w3, w4], [], h, true) (some (vI r.1), r.2) := by
  refine zEv.loc (L2 := [some (vR (some (11, 0))), some (vI x1), w2, w3, w4]) (st2 := [vI 1]) (h2 := h) zm_X11_isLet rfl rfl rfl rfl (fun h => (nomatch h)) ?_
  exact ev_X11_isLet_114 (by omega)  H
def f_X11_isLet_77 (x1 : Int32) (s0 : Int32) (h : zM) : Option (Int32 × zM) := (if s0 = 0 then (f_X11_isLet_113  x1 h) else (if (rI h 11 0 23) = (-9999) then (f_X11_isLet_109  x1 h) else ((f_X11_part x1 3 h).bind fun q95 => (if (q95.1 / 365) < (rI q95.2 11 0 23) then (f_X11_isLet_113  x1 q95.2) else (f_X11_isLet_109  x1 q95.2)))))
set_option maxRecDepth 20000 in
theorem ev_X11_isLet_77 {d : Nat} (hd : 1 ≤ d) {w2 : Option zV} {w3 : Option zV} {w4 : Option zV} {x1 : Int32} {s0 : Int32} {h : zM} {r : Int32 × zM} (H : f_X11_isLet_77 x1 s0 h = some r) : zEv zmt d 194 77 ([some (vR (some (11, 0))), some (vI x1), w2, w3, w4], [vI s0], h, true) (some (vI r.1), r.2) := by
  rcases ifc H with ⟨hc, H⟩ | ⟨hc, H⟩
  · refine zEv.iteT (L2 := [some (vR (some (11, 0))), some (vI x1), none, some (vI s0), w4]) (st2 := []) (h2 := h) zm_X11_isLet rfl rfl rfl rfl (decide_eq_true hc) ?_
    exact ev_X11_isLet_113 (by omega)  H
  · refine zEv.iteF (L2 := [some (vR (some (11, 0))), some (vI x1), none, some (vI s0), w4]) (st2 := []) (h2 := h) zm_X11_isLet rfl rfl rfl rfl (decide_eq_false hc) ?_
    rcases ifc H with ⟨hc, H⟩ | ⟨hc, H⟩
    · refine zEv.iteT (L2 := [some (vR (some (11, 0))), some (vI x1), none, some (vI s0), w4]) (st2 := []) (h2 := h) zm_X11_isLet rfl rfl rfl rfl (decide_eq_true hc) ?_
      exact ev_X11_isLet_109 (by omega)  H
    · refine zEv.iteF (L2 := [some (vR (some (11, 0))), some (vI x1), none, some (vI s0), w4]) (st2 := []) (h2 := h) zm_X11_isLet rfl rfl rfl rfl (decide_eq_false hc) ?_
      obtain ⟨q95, hq, H⟩ := bnd H
      refine zEv.call (k := 148) (as := [vR (some (11, 0)), vI x1, vI 3]) (L2 := [some (vR (some (11, 0))), some (vI x1), none, some (vI s0), w4]) (st2 := []) (h2 := h) (v := some (vI q95.1)) (h1 := q95.2) (st3 := [vI q95.1]) zm_X11_isLet rfl rfl rfl rfl rfl zm_X11_part rfl (by omega) (ev_X11_part (by omega) hq) rfl ?_
      rcases ifc H with ⟨hc, H⟩ | ⟨hc, H⟩
      · refine zEv.iteT (L2 := [some (vR (some (11, 0))), some (vI x1), none, some (vI s0), w4]) (st2 := []) (h2 := q95.2) zm_X11_isLet rfl rfl rfl rfl (decide_eq_true hc) ?_
        exact ev_X11_isLet_113 (by omega)  H
      · refine zEv.iteF (L2 := [some (vR (some (11, 0))), some (vI x1), none, some (vI s0), w4]) (st2 := []) (h2 := q95.2) zm_X11_isLet rfl rfl rfl rfl (decide_eq_false hc) ?_
        exact ev_X11_isLet_109 (by omega)  H
def f_X11_isLet_76 (x1 : Int32) (h : zM) : Option (Int32 × zM) := (f_X11_isLet_77  x1 0 h)
set_option maxRecDepth 20000 in
theorem ev_X11_isLet_76 {d : Nat} (hd : 1 ≤ d) {w2 : Option zV} {w3 : Option zV} {w4 : Option zV} {x1 : Int32} {h : zM} {r : Int32 × zM} (H : f_X11_isLet_76 x1 h = some r) : zEv zmt d 194 76 ([some (vR (some (11, 0))), some (vI x1), w2, w3, w4], [], h, true) (some (vI r.1), r.2) := by
  refine zEv.loc (L2 := [some (vR (some (11, 0))), some (vI x1), w2, w3, w4]) (st2 := [vI 0]) (h2 := h) zm_X11_isLet rfl rfl rfl rfl (fun h => (nomatch h)) ?_
  exact ev_X11_isLet_77 (by omega)  H
def f_X11_isLet_72 (x1 : Int32) (h : zM) : Option (Int32 × zM) := (f_X11_isLet_77  x1 1 h)
set_option maxRecDepth 20000 in
theorem ev_X11_isLet_72 {d : Nat} (hd : 1 ≤ d) {w2 : Option zV} {w3 : Option zV} {w4 : Option zV} {x1 : Int32} {h : zM} {r : Int32 × zM} (H : f_X11_isLet_72 x1 h = some r) : zEv zmt d 194 72 ([some (vR (some (11, 0))), some (vI x1), w2, w3, w4], [], h, true) (some (vI r.1), r.2) := by
  refine zEv.loc (L2 := [some (vR (some (11, 0))), some (vI x1), w2, w3, w4]) (st2 := [vI 1]) (h2 := h) zm_X11_isLet rfl rfl rfl rfl (fun h => (nomatch h)) ?_
  exact ev_X11_isLet_77 (by omega)  H
def f_X11_isLet_37 (x1 : Int32) (s0 : Int32) (h : zM) : Option (Int32 × zM) := (if s0 = 0 then (f_X11_isLet_76  x1 h) else (if (rI h 11 0 22) = (-9999) then (f_X11_isLet_72  x1 h) else (if (true && (true && (true && (decide (rR h 11 0 12 = (some (38, 0))) && true)))) = true then ((f_X11_part x1 2 h).bind fun q60 => (if (true && (true && (ixOk 32 (4 * q60.1) && true))) = true then (if (rI q60.2 11 0 22) < (rI q60.2 38 0 (Int32.toNatClampNeg (4 * q60.1))) then (f_X11_isLet_76  x1 q60.2) else (f_X11_isLet_72  x1 q60.2)) else none)) else none)))
set_option maxRecDepth 20000 in
theorem ev_X11_isLet_37 {d : Nat} (hd : 1 ≤ d) {w2 : Option zV} {w3 : Option zV} {w4 : Option zV} {x1 : Int32} {s0 : Int32} {h : zM} {r : Int32 × zM} (H : f_X11_isLet_37 x1 s0 h = some r) : zEv zmt d 194 37 ([some (vR (some (11, 0))), some (vI x1), w2, w3, w4], [vI s0], h, true) (some (vI r.1), r.2) := by
  rcases ifc H with ⟨hc, H⟩ | ⟨hc, H⟩
  · refine zEv.iteT (L2 := [some (vR (some (11, 0))), some (vI x1), none, some (vI s0), w4]) (st2 := []) (h2 := h) zm_X11_isLet rfl rfl rfl rfl (decide_eq_true hc) ?_
    exact ev_X11_isLet_76 (by omega)  H
  · refine zEv.iteF (L2 := [some (vR (some (11, 0))), some (vI x1), none, some (vI s0), w4]) (st2 := []) (h2 := h) zm_X11_isLet rfl rfl rfl rfl (decide_eq_false hc) ?_
    rcases ifc H with ⟨hc, H⟩ | ⟨hc, H⟩
    · refine zEv.iteT (L2 := [some (vR (some (11, 0))), some (vI x1), none, some (vI s0), w4]) (st2 := []) (h2 := h) zm_X11_isLet rfl rfl rfl rfl (decide_eq_true hc) ?_
      exact ev_X11_isLet_72 (by omega)  H
    · refine zEv.iteF (L2 := [some (vR (some (11, 0))), some (vI x1), none, some (vI s0), w4]) (st2 := []) (h2 := h) zm_X11_isLet rfl rfl rfl rfl (decide_eq_false hc) ?_
      obtain ⟨hg, H⟩ := ifg H
      obtain ⟨q60, hq, H⟩ := bnd H
      refine zEv.call (k := 148) (as := [vR (some (11, 0)), vI x1, vI 2]) (L2 := [some (vR (some (11, 0))), some (vI x1), none, some (vI s0), w4]) (st2 := [vI 4, vR (some (38, 0))]) (h2 := h) (v := some (vI q60.1)) (h1 := q60.2) (st3 := [vI q60.1, vI 4, vR (some (38, 0))]) zm_X11_isLet rfl (and2 (and2 hg).2).2 rfl hg rfl zm_X11_part rfl (by omega) (ev_X11_part (by omega) hq) rfl ?_
      obtain ⟨hg, H⟩ := ifg H
      rcases ifc H with ⟨hc, H⟩ | ⟨hc, H⟩
      · refine zEv.iteT (L2 := [some (vR (some (11, 0))), some (vI x1), none, some (vI s0), w4]) (st2 := []) (h2 := q60.2) zm_X11_isLet rfl hg rfl hg (decide_eq_true hc) ?_
        exact ev_X11_isLet_76 (by omega)  H
      · refine zEv.iteF (L2 := [some (vR (some (11, 0))), some (vI x1), none, some (vI s0), w4]) (st2 := []) (h2 := q60.2) zm_X11_isLet rfl hg rfl hg (decide_eq_false hc) ?_
        exact ev_X11_isLet_72 (by omega)  H
def f_X11_isLet_32 (x1 : Int32) (h : zM) : Option (Int32 × zM) := (f_X11_isLet_37  x1 1 h)
set_option maxRecDepth 20000 in
theorem ev_X11_isLet_32 {d : Nat} (hd : 1 ≤ d) {w2 : Option zV} {w3 : Option zV} {w4 : Option zV} {x1 : Int32} {h : zM} {r : Int32 × zM} (H : f_X11_isLet_32 x1 h = some r) : zEv zmt d 194 32 ([some (vR (some (11, 0))), some (vI x1), w2, w3, w4], [], h, true) (some (vI r.1), r.2) := by
  refine zEv.loc (L2 := [some (vR (some (11, 0))), some (vI x1), w2, w3, w4]) (st2 := [vI 1]) (h2 := h) zm_X11_isLet rfl rfl rfl rfl (fun h => (nomatch h)) ?_
  exact ev_X11_isLet_37 (by omega)  H
def f_X11_isLet_36 (x1 : Int32) (h : zM) : Option (Int32 × zM) := (f_X11_isLet_37  x1 0 h)
set_option maxRecDepth 20000 in
theorem ev_X11_isLet_36 {d : Nat} (hd : 1 ≤ d) {w2 : Option zV} {w3 : Option zV} {w4 : Option zV} {x1 : Int32} {h : zM} {r : Int32 × zM} (H : f_X11_isLet_36 x1 h = some r) : zEv zmt d 194 36 ([some (vR (some (11, 0))), some (vI x1), w2, w3, w4], [], h, true) (some (vI r.1), r.2) := by
  refine zEv.loc (L2 := [some (vR (some (11, 0))), some (vI x1), w2, w3, w4]) (st2 := [vI 0]) (h2 := h) zm_X11_isLet rfl rfl rfl rfl (fun h => (nomatch h)) ?_
  exact ev_X11_isLet_37 (by omega)  H
def f_X11_isLet (x1 : Int32) (h : zM) : Option (Int32 × zM) := ((f_X11_part x1 5 h).bind fun q3 => (if (rI q3.2 11 0 21) = (-9999) then (f_X11_isLet_32  x1 q3.2) else (if q3.1 = (-9999) then (f_X11_isLet_36  x1 q3.2) else (if (rI q3.2 11 0 21) < q3.1 then (f_X11_isLet_36  x1 q3.2) else (f_X11_isLet_32  x1 q3.2)))))
set_option maxRecDepth 20000 in
theorem ev_X11_isLet {d : Nat} (hd : 1 ≤ d) {w2 : Option zV} {w3 : Option zV} {w4 : Option zV} {x1 : Int32} {h : zM} {r : Int32 × zM} (H : f_X11_isLet x1 h = some r) : zEv zmt d 194 0 ([some (vR (some (11, 0))), some (vI x1), w2, w3, w4], [], h, true) (some (vI r.1), r.2) := by
  obtain ⟨q3, hq, H⟩ := bnd H
  refine zEv.call (k := 148) (as := [vR (some (11, 0)), vI x1, vI 5]) (L2 := [some (vR (some (11, 0))), some (vI x1), w2, w3, w4]) (st2 := []) (h2 := h) (v := some (vI q3.1)) (h1 := q3.2) (st3 := [vI q3.1]) zm_X11_isLet rfl rfl rfl rfl rfl zm_X11_part rfl (by omega) (ev_X11_part (by omega) hq) rfl ?_
  rcases ifc H with ⟨hc, H⟩ | ⟨hc, H⟩
  · refine zEv.iteT (L2 := [some (vR (some (11, 0))), some (vI x1), some (vI q3.1), w3, w4]) (st2 := []) (h2 := q3.2) zm_X11_isLet rfl rfl rfl rfl (decide_eq_true hc) ?_
    exact ev_X11_isLet_32 (by omega)  H
  · refine zEv.iteF (L2 := [some (vR (some (11, 0))), some (vI x1), some (vI q3.1), w3, w4]) (st2 := []) (h2 := q3.2) zm_X11_isLet rfl rfl rfl rfl (decide_eq_false hc) ?_
    rcases ifc H with ⟨hc, H⟩ | ⟨hc, H⟩
    · refine zEv.iteT (L2 := [some (vR (some (11, 0))), some (vI x1), some (vI q3.1), w3, w4]) (st2 := []) (h2 := q3.2) zm_X11_isLet rfl rfl rfl rfl (decide_eq_true hc) ?_
      exact ev_X11_isLet_36 (by omega)  H
    · refine zEv.iteF (L2 := [some (vR (some (11, 0))), some (vI x1), some (vI q3.1), w3, w4]) (st2 := []) (h2 := q3.2) zm_X11_isLet rfl rfl rfl rfl (decide_eq_false hc) ?_
      rcases ifc H with ⟨hc, H⟩ | ⟨hc, H⟩
      · refine zEv.iteT (L2 := [some (vR (some (11, 0))), some (vI x1), some (vI q3.1), w3, w4]) (st2 := []) (h2 := q3.2) zm_X11_isLet rfl rfl rfl rfl (decide_eq_true hc) ?_
        exact ev_X11_isLet_36 (by omega)  H
      · refine zEv.iteF (L2 := [some (vR (some (11, 0))), some (vI x1), some (vI q3.1), w3, w4]) (st2 := []) (h2 := q3.2) zm_X11_isLet rfl rfl rfl rfl (decide_eq_false hc) ?_
        exact ev_X11_isLet_32 (by omega)  H
def f_X11_worth (x1 : Int32) (h : zM) : Option (Int32 × zM) := (if ((rI h 11 0 25) &&& 8) ≤ 0 then ((f_X11_part x1 4 h).bind fun q28 => (some (q28.1, q28.2))) else ((f_X11_part x1 5 h).bind fun q16 => ((f_X11_homeWith 0 x1 q16.1 q16.2).bind fun q19 => (some (q19.1, q19.2)))))
set_option maxRecDepth 20000 in
theorem ev_X11_worth {d : Nat} (hd : 5 ≤ d) {x1 : Int32} {h : zM} {r : Int32 × zM} (H : f_X11_worth x1 h = some r) : zEv zmt d 195 0 ([some (vR (some (11, 0))), some (vI x1)], [], h, true) (some (vI r.1), r.2) := by
  rcases ifc H with ⟨hc, H⟩ | ⟨hc, H⟩
  · refine zEv.iteT (L2 := [some (vR (some (11, 0))), some (vI x1)]) (st2 := []) (h2 := h) zm_X11_worth rfl rfl rfl rfl (decide_eq_true hc) ?_
    obtain ⟨q28, hq, H⟩ := bnd H
    refine zEv.call (k := 148) (as := [vR (some (11, 0)), vI x1, vI 4]) (L2 := [some (vR (some (11, 0))), some (vI x1)]) (st2 := []) (h2 := h) (v := some (vI q28.1)) (h1 := q28.2) (st3 := [vI q28.1]) zm_X11_worth rfl rfl rfl rfl rfl zm_X11_part rfl (by omega) (ev_X11_part (by omega) hq) rfl ?_
    cases H
    exact zEv.ret zm_X11_worth rfl rfl rfl rfl
  · refine zEv.iteF (L2 := [some (vR (some (11, 0))), some (vI x1)]) (st2 := []) (h2 := h) zm_X11_worth rfl rfl rfl rfl (decide_eq_false hc) ?_
    obtain ⟨q16, hq, H⟩ := bnd H
    refine zEv.call (k := 148) (as := [vR (some (11, 0)), vI x1, vI 5]) (L2 := [some (vR (some (11, 0))), some (vI x1)]) (st2 := [vI x1, vI 0, vR (some (11, 0))]) (h2 := h) (v := some (vI q16.1)) (h1 := q16.2) (st3 := [vI q16.1, vI x1, vI 0, vR (some (11, 0))]) zm_X11_worth rfl rfl rfl rfl rfl zm_X11_part rfl (by omega) (ev_X11_part (by omega) hq) rfl ?_
    obtain ⟨q19, hq, H⟩ := bnd H
    refine zEv.call (k := 180) (as := [vR (some (11, 0)), vI 0, vI x1, vI q16.1]) (L2 := [some (vR (some (11, 0))), some (vI x1)]) (st2 := []) (h2 := q16.2) (v := some (vI q19.1)) (h1 := q19.2) (st3 := [vI q19.1]) zm_X11_worth rfl rfl rfl rfl rfl zm_X11_homeWith rfl (by omega) (ev_X11_homeWith (by omega) hq) rfl ?_
    refine zEv.loc (L2 := [some (vR (some (11, 0))), some (vI x1)]) (st2 := [vI q19.1]) (h2 := q19.2) zm_X11_worth rfl rfl rfl rfl (fun h => (nomatch h)) ?_
    cases H
    exact zEv.ret zm_X11_worth rfl rfl rfl rfl
def f_X11_setList_89 (K7 : Int32 → Int32 → zM → Option (zM)) (x1 : Int32) (x2 : Int32) (h : zM) : Option (zM) := (K7 x1 (x2 + 1) h)
set_option maxRecDepth 20000 in
theorem ev_X11_setList_89 {d : Nat} (hd : 6 ≤ d) {K7 : Int32 → Int32 → zM → Option (zM)} (hK7 : ∀ {w3 : Option zV} {w4 : Option zV} {w5 : Option zV} {x1 : Int32} {x2 : Int32} {h : zM} {r : zM}, K7 x1 x2 h = some r → zEv zmt d 196 7 ([some (vR (some (11, 0))), some (vI x1), some (vI x2), w3, w4, w5], [], h, true) (none, r)) {w3 : Option zV} {w4 : Option zV} {w5 : Option zV} {x1 : Int32} {x2 : Int32} {h : zM} {r : zM} (H : f_X11_setList_89 K7 x1 x2 h = some r) : zEv zmt d 196 89 ([some (vR (some (11, 0))), some (vI x1), some (vI x2), w3, w4, w5], [], h, true) (none, r) := by
  refine zEv.loc (L2 := [some (vR (some (11, 0))), some (vI x1), some (vI (x2 + 1)), w3, w4, w5]) (st2 := []) (h2 := h) zm_X11_setList rfl rfl rfl rfl (fun h => (nomatch h)) ?_
  exact hK7 H
def f_X11_setList_72 (K7 : Int32 → Int32 → zM → Option (zM)) (x1 : Int32) (x2 : Int32) (x3 : Int32) (h : zM) : Option (zM) := (if (true && (true && (true && (true && (ixOk 40 x3 && (true && (decide (rR h 11 0 29 = (some (45, 0))) && true))))))) = true then (f_X11_setList_89 K7 x1 x2 (wI (wI h 45 0 (Int32.toNatClampNeg x3) x2) 11 0 28 ((rI (wI h 45 0 (Int32.toNatClampNeg x3) x2) 11 0 28) + 1))) else none)
set_option maxRecDepth 20000 in
theorem ev_X11_setList_72 {d : Nat} (hd : 6 ≤ d) {K7 : Int32 → Int32 → zM → Option (zM)} (hK7 : ∀ {w3 : Option zV} {w4 : Option zV} {w5 : Option zV} {x1 : Int32} {x2 : Int32} {h : zM} {r : zM}, K7 x1 x2 h = some r → zEv zmt d 196 7 ([some (vR (some (11, 0))), some (vI x1), some (vI x2), w3, w4, w5], [], h, true) (none, r)) {w4 : Option zV} {w5 : Option zV} {x1 : Int32} {x2 : Int32} {x3 : Int32} {h : zM} {r : zM} (H : f_X11_setList_72 K7 x1 x2 x3 h = some r) : zEv zmt d 196 72 ([some (vR (some (11, 0))), some (vI x1), some (vI x2), some (vI x3), w4, w5], [], h, true) (none, r) := by
  obtain ⟨hg, H⟩ := ifg H
  refine zEv.loc (L2 := [some (vR (some (11, 0))), some (vI x1), some (vI x2), some (vI x3), w4, w5]) (st2 := []) (h2 := (wI (wI h 45 0 (Int32.toNatClampNeg x3) x2) 11 0 28 ((rI (wI h 45 0 (Int32.toNatClampNeg x3) x2) 11 0 28) + 1))) zm_X11_setList rfl hg rfl hg (fun h => (nomatch h)) ?_
  exact ev_X11_setList_89 (by omega) hK7 H
def f_X11_setList_28 (K7 : Int32 → Int32 → zM → Option (zM)) : Nat → Int32 → Int32 → Int32 → zM → Option (zM)
  | 0 => fun _ _ _ _ => none
  | k + 1 => fun x1 x2 x3 h => (if x3 ≤ 0 then (f_X11_setList_72 K7 x1 x2 x3 h) else (if (true && (true && (true && (ixOk 40 (x3 - 1) && (true && (decide (rR h 11 0 29 = (some (45, 0))) && true)))))) = true then ((f_X11_worth (rI h 45 0 (Int32.toNatClampNeg (x3 - 1))) h).bind fun q41 => ((f_X11_worth x2 q41.2).bind fun q46 => (if q46.1 ≤ q41.1 then (f_X11_setList_72 K7 x1 x2 x3 q46.2) else (if (true && (ixOk 40 x3 && (true && (ixOk 40 (x3 - 1) && (true && (decide (rR q46.2 11 0 29 = (some (45, 0))) && (true && (decide (rR q46.2 11 0 29 = (some (45, 0))) && true)))))))) = true then (f_X11_setList_28 K7 k x1 x2 (x3 + (-1)) (wI q46.2 45 0 (Int32.toNatClampNeg x3) (rI q46.2 45 0 (Int32.toNatClampNeg (x3 - 1))))) else none)))) else none))
set_option maxRecDepth 20000 in
theorem ev_X11_setList_28 {d : Nat} (hd : 6 ≤ d) {K7 : Int32 → Int32 → zM → Option (zM)} (hK7 : ∀ {w3 : Option zV} {w4 : Option zV} {w5 : Option zV} {x1 : Int32} {x2 : Int32} {h : zM} {r : zM}, K7 x1 x2 h = some r → zEv zmt d 196 7 ([some (vR (some (11, 0))), some (vI x1), some (vI x2), w3, w4, w5], [], h, true) (none, r)) : ∀ (k : Nat) {w4 : Option zV} {w5 : Option zV} {x1 : Int32} {x2 : Int32} {x3 : Int32} {h : zM} {r : zM}, f_X11_setList_28 K7 k x1 x2 x3 h = some r → zEv zmt d 196 28 ([some (vR (some (11, 0))), some (vI x1), some (vI x2), some (vI x3), w4, w5], [], h, true) (none, r) := by
  intro k
  induction k with
  | zero => intro w4 w5 x1 x2 x3 h r H; cases H
  | succ k ih =>
    intro w4 w5 x1 x2 x3 h r H
    rcases ifc H with ⟨hc, H⟩ | ⟨hc, H⟩
    · refine zEv.iteT (L2 := [some (vR (some (11, 0))), some (vI x1), some (vI x2), some (vI x3), w4, w5]) (st2 := []) (h2 := h) zm_X11_setList rfl rfl rfl rfl (decide_eq_true hc) ?_
      exact ev_X11_setList_72 (by omega) hK7 H
    · refine zEv.iteF (L2 := [some (vR (some (11, 0))), some (vI x1), some (vI x2), some (vI x3), w4, w5]) (st2 := []) (h2 := h) zm_X11_setList rfl rfl rfl rfl (decide_eq_false hc) ?_
      obtain ⟨hg, H⟩ := ifg H
      obtain ⟨q41, hq, H⟩ := bnd H
      refine zEv.call (k := 195) (as := [vR (some (11, 0)), vI (rI h 45 0 (Int32.toNatClampNeg (x3 - 1)))]) (L2 := [some (vR (some (11, 0))), some (vI x1), some (vI x2), some (vI x3), w4, w5]) (st2 := []) (h2 := h) (v := some (vI q41.1)) (h1 := q41.2) (st3 := [vI q41.1]) zm_X11_setList rfl (and2 (and2 hg).2).2 rfl hg rfl zm_X11_worth rfl (by omega) (ev_X11_worth (by omega) hq) rfl ?_
      obtain ⟨q46, hq, H⟩ := bnd H
      refine zEv.call (k := 195) (as := [vR (some (11, 0)), vI x2]) (L2 := [some (vR (some (11, 0))), some (vI x1), some (vI x2), some (vI x3), w4, w5]) (st2 := [vI q41.1]) (h2 := q41.2) (v := some (vI q46.1)) (h1 := q46.2) (st3 := [vI q46.1, vI q41.1]) zm_X11_setList rfl rfl rfl rfl rfl zm_X11_worth rfl (by omega) (ev_X11_worth (by omega) hq) rfl ?_
      rcases ifc H with ⟨hc, H⟩ | ⟨hc, H⟩
      · refine zEv.iteT (L2 := [some (vR (some (11, 0))), some (vI x1), some (vI x2), some (vI x3), w4, w5]) (st2 := []) (h2 := q46.2) zm_X11_setList rfl rfl rfl rfl (decide_eq_true hc) ?_
        exact ev_X11_setList_72 (by omega) hK7 H
      · refine zEv.iteF (L2 := [some (vR (some (11, 0))), some (vI x1), some (vI x2), some (vI x3), w4, w5]) (st2 := []) (h2 := q46.2) zm_X11_setList rfl rfl rfl rfl (decide_eq_false hc) ?_
        obtain ⟨hg, H⟩ := ifg H
        refine zEv.loc (L2 := [some (vR (some (11, 0))), some (vI x1), some (vI x2), some (vI (x3 + (-1))), w4, w5]) (st2 := []) (h2 := (wI q46.2 45 0 (Int32.toNatClampNeg x3) (rI q46.2 45 0 (Int32.toNatClampNeg (x3 - 1))))) zm_X11_setList rfl hg rfl hg (fun h => (nomatch h)) ?_
        exact ih H
def f_X11_setList_167 (x1 : Int32) (x2 : Int32) (h : zM) : Option (zM) := (if x1 = 0 then (some (wI h 11 0 28 (rI h 11 0 28))) else (some (wI h 11 0 28 x2)))
set_option maxRecDepth 20000 in
theorem ev_X11_setList_167 {d : Nat} (hd : 6 ≤ d) {w3 : Option zV} {w4 : Option zV} {w5 : Option zV} {x1 : Int32} {x2 : Int32} {h : zM} {r : zM} (H : f_X11_setList_167 x1 x2 h = some r) : zEv zmt d 196 167 ([some (vR (some (11, 0))), some (vI x1), some (vI x2), w3, w4, w5], [], h, true) (none, r) := by
  rcases ifc H with ⟨hc, H⟩ | ⟨hc, H⟩
  · refine zEv.iteT (L2 := [some (vR (some (11, 0))), some (vI x1), some (vI x2), w3, w4, w5]) (st2 := [vR (some (11, 0))]) (h2 := h) zm_X11_setList rfl rfl rfl rfl (decide_eq_true hc) ?_
    refine zEv.loc (L2 := [some (vR (some (11, 0))), some (vI x1), some (vI x2), w3, w4, w5]) (st2 := [vI (rI h 11 0 28), vR (some (11, 0))]) (h2 := h) zm_X11_setList rfl rfl rfl rfl (fun h => (nomatch h)) ?_
    cases H
    exact zEv.ret zm_X11_setList rfl rfl rfl rfl
  · refine zEv.iteF (L2 := [some (vR (some (11, 0))), some (vI x1), some (vI x2), w3, w4, w5]) (st2 := [vR (some (11, 0))]) (h2 := h) zm_X11_setList rfl rfl rfl rfl (decide_eq_false hc) ?_
    refine zEv.loc (L2 := [some (vR (some (11, 0))), some (vI x1), some (vI x2), w3, w4, w5]) (st2 := [vI x2, vR (some (11, 0))]) (h2 := h) zm_X11_setList rfl rfl rfl rfl (fun h => (nomatch h)) ?_
    cases H
    exact zEv.ret zm_X11_setList rfl rfl rfl rfl
def f_X11_setList_154 (K102 : Int32 → Int32 → Int32 → Int32 → zM → Option (zM)) (x1 : Int32) (x2 : Int32) (x3 : Int32) (x4 : Int32) (x5 : Int32) (h : zM) : Option (zM) := (K102 x1 x2 (x3 ||| (1 <<< (x5 &&& 31))) (x4 + 1) h)
set_option maxRecDepth 20000 in
theorem ev_X11_setList_154 {d : Nat} (hd : 6 ≤ d) {K102 : Int32 → Int32 → Int32 → Int32 → zM → Option (zM)} (hK102 : ∀ {w5 : Option zV} {x1 : Int32} {x2 : Int32} {x3 : Int32} {x4 : Int32} {h : zM} {r : zM}, K102 x1 x2 x3 x4 h = some r → zEv zmt d 196 102 ([some (vR (some (11, 0))), some (vI x1), some (vI x2), some (vI x3), some (vI x4), w5], [], h, true) (none, r)) {x1 : Int32} {x2 : Int32} {x3 : Int32} {x4 : Int32} {x5 : Int32} {h : zM} {r : zM} (H : f_X11_setList_154 K102 x1 x2 x3 x4 x5 h = some r) : zEv zmt d 196 154 ([some (vR (some (11, 0))), some (vI x1), some (vI x2), some (vI x3), some (vI x4), some (vI x5)], [], h, true) (none, r) := by
  refine zEv.loc (L2 := [some (vR (some (11, 0))), some (vI x1), some (vI x2), some (vI (x3 ||| (1 <<< (x5 &&& 31)))), some (vI (x4 + 1)), some (vI x5)]) (st2 := []) (h2 := h) zm_X11_setList rfl rfl rfl rfl (fun h => (nomatch h)) ?_
  exact hK102 H
def f_X11_setList_102 : Nat → Int32 → Int32 → Int32 → Int32 → zM → Option (zM)
  | 0 => fun _ _ _ _ _ => none
  | k + 1 => fun x1 x2 x3 x4 h => (if (rI h 11 0 28) ≤ x4 then (f_X11_setList_167  x1 x2 h) else (if x1 = 0 then (f_X11_setList_167  x1 x2 h) else (if (true && (true && (true && (ixOk 40 x4 && (true && (decide (rR h 11 0 29 = (some (45, 0))) && true)))))) = true then ((f_X11_part (rI h 45 0 (Int32.toNatClampNeg x4)) 1 h).bind fun q124 => (if ¬ ((x3 >>> (q124.1 &&& 31)) &&& 1) = 0 then (f_X11_setList_154 (f_X11_setList_102 k) x1 x2 x3 x4 q124.1 q124.2) else (if (true && (ixOk 40 x2 && (true && (ixOk 40 x4 && (true && (decide (rR q124.2 11 0 29 = (some (45, 0))) && (true && (decide (rR q124.2 11 0 29 = (some (45, 0))) && true)))))))) = true then (f_X11_setList_154 (f_X11_setList_102 k) x1 (x2 + 1) x3 x4 q124.1 (wI q124.2 45 0 (Int32.toNatClampNeg x2) (rI q124.2 45 0 (Int32.toNatClampNeg x4)))) else none))) else none)))
set_option maxRecDepth 20000 in
theorem ev_X11_setList_102 {d : Nat} (hd : 6 ≤ d) : ∀ (k : Nat) {w5 : Option zV} {x1 : Int32} {x2 : Int32} {x3 : Int32} {x4 : Int32} {h : zM} {r : zM}, f_X11_setList_102 k x1 x2 x3 x4 h = some r → zEv zmt d 196 102 ([some (vR (some (11, 0))), some (vI x1), some (vI x2), some (vI x3), some (vI x4), w5], [], h, true) (none, r) := by
  intro k
  induction k with
  | zero => intro w5 x1 x2 x3 x4 h r H; cases H
  | succ k ih =>
    intro w5 x1 x2 x3 x4 h r H
    rcases ifc H with ⟨hc, H⟩ | ⟨hc, H⟩
    · refine zEv.iteT (L2 := [some (vR (some (11, 0))), some (vI x1), some (vI x2), some (vI x3), some (vI x4), w5]) (st2 := []) (h2 := h) zm_X11_setList rfl rfl rfl rfl (decide_eq_true hc) ?_
      exact ev_X11_setList_167 (by omega)  H
    · refine zEv.iteF (L2 := [some (vR (some (11, 0))), some (vI x1), some (vI x2), some (vI x3), some (vI x4), w5]) (st2 := []) (h2 := h) zm_X11_setList rfl rfl rfl rfl (decide_eq_false hc) ?_
      rcases ifc H with ⟨hc, H⟩ | ⟨hc, H⟩
      · refine zEv.iteT (L2 := [some (vR (some (11, 0))), some (vI x1), some (vI x2), some (vI x3), some (vI x4), w5]) (st2 := []) (h2 := h) zm_X11_setList rfl rfl rfl rfl (decide_eq_true hc) ?_
        exact ev_X11_setList_167 (by omega)  H
      · refine zEv.iteF (L2 := [some (vR (some (11, 0))), some (vI x1), some (vI x2), some (vI x3), some (vI x4), w5]) (st2 := []) (h2 := h) zm_X11_setList rfl rfl rfl rfl (decide_eq_false hc) ?_
        obtain ⟨hg, H⟩ := ifg H
        obtain ⟨q124, hq, H⟩ := bnd H
        refine zEv.call (k := 148) (as := [vR (some (11, 0)), vI (rI h 45 0 (Int32.toNatClampNeg x4)), vI 1]) (L2 := [some (vR (some (11, 0))), some (vI x1), some (vI x2), some (vI x3), some (vI x4), w5]) (st2 := []) (h2 := h) (v := some (vI q124.1)) (h1 := q124.2) (st3 := [vI q124.1]) zm_X11_setList rfl (and2 (and2 hg).2).2 rfl hg rfl zm_X11_part rfl (by omega) (ev_X11_part (by omega) hq) rfl ?_
        rcases ifc H with ⟨hc, H⟩ | ⟨hc, H⟩
        · refine zEv.iteT (L2 := [some (vR (some (11, 0))), some (vI x1), some (vI x2), some (vI x3), some (vI x4), some (vI q124.1)]) (st2 := []) (h2 := q124.2) zm_X11_setList rfl rfl rfl rfl (decide_eq_true hc) ?_
          exact ev_X11_setList_154 (by omega) ih H
        · refine zEv.iteF (L2 := [some (vR (some (11, 0))), some (vI x1), some (vI x2), some (vI x3), some (vI x4), some (vI q124.1)]) (st2 := []) (h2 := q124.2) zm_X11_setList rfl rfl rfl rfl (decide_eq_false hc) ?_
          obtain ⟨hg, H⟩ := ifg H
          refine zEv.loc (L2 := [some (vR (some (11, 0))), some (vI x1), some (vI (x2 + 1)), some (vI x3), some (vI x4), some (vI q124.1)]) (st2 := []) (h2 := (wI q124.2 45 0 (Int32.toNatClampNeg x2) (rI q124.2 45 0 (Int32.toNatClampNeg x4)))) zm_X11_setList rfl hg rfl hg (fun h => (nomatch h)) ?_
          exact ev_X11_setList_154 (by omega) ih H
def f_X11_setList_7 : Nat → Int32 → Int32 → zM → Option (zM)
  | 0 => fun _ _ _ => none
  | k + 1 => fun x1 x2 h => (if (rI h 11 0 13) ≤ x2 then (f_X11_setList_102  1000 x1 0 0 0 h) else ((f_X11_isLet x2 h).bind fun q17 => (if q17.1 = 0 then (f_X11_setList_89 (f_X11_setList_7 k) x1 x2 q17.2) else (f_X11_setList_28 (f_X11_setList_7 k) 1000 x1 x2 (rI q17.2 11 0 28) q17.2))))
set_option maxRecDepth 20000 in
theorem ev_X11_setList_7 {d : Nat} (hd : 6 ≤ d) : ∀ (k : Nat) {w3 : Option zV} {w4 : Option zV} {w5 : Option zV} {x1 : Int32} {x2 : Int32} {h : zM} {r : zM}, f_X11_setList_7 k x1 x2 h = some r → zEv zmt d 196 7 ([some (vR (some (11, 0))), some (vI x1), some (vI x2), w3, w4, w5], [], h, true) (none, r) := by
  intro k
  induction k with
  | zero => intro w3 w4 w5 x1 x2 h r H; cases H
  | succ k ih =>
    intro w3 w4 w5 x1 x2 h r H
    rcases ifc H with ⟨hc, H⟩ | ⟨hc, H⟩
    · refine zEv.iteT (L2 := [some (vR (some (11, 0))), some (vI x1), some (vI x2), w3, w4, w5]) (st2 := []) (h2 := h) zm_X11_setList rfl rfl rfl rfl (decide_eq_true hc) ?_
      refine zEv.loc (L2 := [some (vR (some (11, 0))), some (vI x1), some (vI 0), some (vI 0), some (vI 0), w5]) (st2 := []) (h2 := h) zm_X11_setList rfl rfl rfl rfl (fun h => (nomatch h)) ?_
      exact ev_X11_setList_102 (by omega)  1000 H
    · refine zEv.iteF (L2 := [some (vR (some (11, 0))), some (vI x1), some (vI x2), w3, w4, w5]) (st2 := []) (h2 := h) zm_X11_setList rfl rfl rfl rfl (decide_eq_false hc) ?_
      obtain ⟨q17, hq, H⟩ := bnd H
      refine zEv.call (k := 194) (as := [vR (some (11, 0)), vI x2]) (L2 := [some (vR (some (11, 0))), some (vI x1), some (vI x2), w3, w4, w5]) (st2 := []) (h2 := h) (v := some (vI q17.1)) (h1 := q17.2) (st3 := [vI q17.1]) zm_X11_setList rfl rfl rfl rfl rfl zm_X11_isLet rfl (by omega) (ev_X11_isLet (by omega) hq) rfl ?_
      rcases ifc H with ⟨hc, H⟩ | ⟨hc, H⟩
      · refine zEv.iteT (L2 := [some (vR (some (11, 0))), some (vI x1), some (vI x2), w3, w4, w5]) (st2 := []) (h2 := q17.2) zm_X11_setList rfl rfl rfl rfl (decide_eq_true hc) ?_
        exact ev_X11_setList_89 (by omega) ih H
      · refine zEv.iteF (L2 := [some (vR (some (11, 0))), some (vI x1), some (vI x2), w3, w4, w5]) (st2 := []) (h2 := q17.2) zm_X11_setList rfl rfl rfl rfl (decide_eq_false hc) ?_
        refine zEv.loc (L2 := [some (vR (some (11, 0))), some (vI x1), some (vI x2), some (vI (rI q17.2 11 0 28)), w4, w5]) (st2 := []) (h2 := q17.2) zm_X11_setList rfl rfl rfl rfl (fun h => (nomatch h)) ?_
        exact ev_X11_setList_28 (by omega) ih 1000 H
def f_X11_setList (x1 : Int32) (h : zM) : Option (zM) := (f_X11_setList_7  1000 x1 0 (wI h 11 0 28 0))
set_option maxRecDepth 20000 in
theorem ev_X11_setList {d : Nat} (hd : 6 ≤ d) {w2 : Option zV} {w3 : Option zV} {w4 : Option zV} {w5 : Option zV} {x1 : Int32} {h : zM} {r : zM} (H : f_X11_setList x1 h = some r) : zEv zmt d 196 0 ([some (vR (some (11, 0))), some (vI x1), w2, w3, w4, w5], [], h, true) (none, r) := by
  refine zEv.loc (L2 := [some (vR (some (11, 0))), some (vI x1), some (vI 0), w3, w4, w5]) (st2 := []) (h2 := (wI h 11 0 28 0)) zm_X11_setList rfl rfl rfl rfl (fun h => (nomatch h)) ?_
  exact ev_X11_setList_7 (by omega)  1000 H
def f_X11_askedRules_54 (h : zM) : Option (Int32 × zM) := (some (0, h))
set_option maxRecDepth 20000 in
theorem ev_X11_askedRules_54 {d : Nat} (hd : 5 ≤ d) {w0 : Option zV} {w1 : Option zV} {w2 : Option zV} {h : zM} {r : Int32 × zM} (H : f_X11_askedRules_54  h = some r) : zEv zmt d 197 54 ([w0, w1, w2], [], h, true) (some (vI r.1), r.2) := by
  refine zEv.loc (L2 := [w0, w1, w2]) (st2 := [vI 0]) (h2 := h) zm_X11_askedRules rfl rfl rfl rfl (fun h => (nomatch h)) ?_
  cases H
  exact zEv.ret zm_X11_askedRules rfl rfl rfl rfl
def f_X11_askedRules (x1 : Int32) (h : zM) : Option (Int32 × zM) := ((f_X11_askedText x1 h).bind fun q2 => (if 0 ≤ q2.1 then ((f_X11_reads x1 1 q2.2).bind fun q15 => (if q15.1 = (-9999) then (if ((rI q15.2 11 0 25) &&& 8) ≤ 0 then (f_X11_askedRules_54  q15.2) else (if (true && (true && (true && (decide (rR q15.2 11 0 26 = (some (43, 0))) && true)))) = true then (if ¬ (rI q15.2 43 0 (Int32.toNatClampNeg 0)) = 0 then (f_X11_askedRules_54  q15.2) else ((f_X11_meets 1 q15.2).bind fun q48 => (some (q48.1, q48.2)))) else none)) else (some ((-4), q15.2)))) else (some (q2.1, q2.2))))
set_option maxRecDepth 20000 in
theorem ev_X11_askedRules {d : Nat} (hd : 5 ≤ d) {w2 : Option zV} {x1 : Int32} {h : zM} {r : Int32 × zM} (H : f_X11_askedRules x1 h = some r) : zEv zmt d 197 0 ([some (vR (some (11, 0))), some (vI x1), w2], [], h, true) (some (vI r.1), r.2) := by
  obtain ⟨q2, hq, H⟩ := bnd H
  refine zEv.call (k := 134) (as := [vR (some (11, 0)), vI x1]) (L2 := [some (vR (some (11, 0))), some (vI x1), w2]) (st2 := []) (h2 := h) (v := some (vI q2.1)) (h1 := q2.2) (st3 := [vI q2.1]) zm_X11_askedRules rfl rfl rfl rfl rfl zm_X11_askedText rfl (by omega) (ev_X11_askedText (by omega) hq) rfl ?_
  rcases ifc H with ⟨hc, H⟩ | ⟨hc, H⟩
  · refine zEv.iteT (L2 := [some (vR (some (11, 0))), some (vI x1), some (vI q2.1)]) (st2 := []) (h2 := q2.2) zm_X11_askedRules rfl rfl rfl rfl (decide_eq_true hc) ?_
    obtain ⟨q15, hq, H⟩ := bnd H
    refine zEv.call (k := 170) (as := [vR (some (11, 0)), vI x1, vI 1]) (L2 := [some (vR (some (11, 0))), some (vI x1), some (vI q2.1)]) (st2 := []) (h2 := q2.2) (v := some (vI q15.1)) (h1 := q15.2) (st3 := [vI q15.1]) zm_X11_askedRules rfl rfl rfl rfl rfl zm_X11_reads rfl (by omega) (ev_X11_reads (by omega) hq) rfl ?_
    rcases ifc H with ⟨hc, H⟩ | ⟨hc, H⟩
    · refine zEv.iteT (L2 := [some (vR (some (11, 0))), some (vI x1), some (vI q2.1)]) (st2 := []) (h2 := q15.2) zm_X11_askedRules rfl rfl rfl rfl (decide_eq_true hc) ?_
      rcases ifc H with ⟨hc, H⟩ | ⟨hc, H⟩
      · refine zEv.iteT (L2 := [some (vR (some (11, 0))), some (vI x1), some (vI q2.1)]) (st2 := []) (h2 := q15.2) zm_X11_askedRules rfl rfl rfl rfl (decide_eq_true hc) ?_
        exact ev_X11_askedRules_54 (by omega)  H
      · refine zEv.iteF (L2 := [some (vR (some (11, 0))), some (vI x1), some (vI q2.1)]) (st2 := []) (h2 := q15.2) zm_X11_askedRules rfl rfl rfl rfl (decide_eq_false hc) ?_
        obtain ⟨hg, H⟩ := ifg H
        rcases ifc H with ⟨hc, H⟩ | ⟨hc, H⟩
        · refine zEv.iteT (L2 := [some (vR (some (11, 0))), some (vI x1), some (vI q2.1)]) (st2 := []) (h2 := q15.2) zm_X11_askedRules rfl hg rfl hg (decide_eq_true hc) ?_
          exact ev_X11_askedRules_54 (by omega)  H
        · refine zEv.iteF (L2 := [some (vR (some (11, 0))), some (vI x1), some (vI q2.1)]) (st2 := []) (h2 := q15.2) zm_X11_askedRules rfl hg rfl hg (decide_eq_false hc) ?_
          obtain ⟨q48, hq, H⟩ := bnd H
          refine zEv.call (k := 128) (as := [vR (some (11, 0)), vI 1]) (L2 := [some (vR (some (11, 0))), some (vI x1), some (vI q2.1)]) (st2 := []) (h2 := q15.2) (v := some (vI q48.1)) (h1 := q48.2) (st3 := [vI q48.1]) zm_X11_askedRules rfl rfl rfl rfl rfl zm_X11_meets rfl (by omega) (ev_X11_meets (by omega) hq) rfl ?_
          refine zEv.loc (L2 := [some (vR (some (11, 0))), some (vI x1), some (vI q2.1)]) (st2 := [vI q48.1]) (h2 := q48.2) zm_X11_askedRules rfl rfl rfl rfl (fun h => (nomatch h)) ?_
          cases H
          exact zEv.ret zm_X11_askedRules rfl rfl rfl rfl
    · refine zEv.iteF (L2 := [some (vR (some (11, 0))), some (vI x1), some (vI q2.1)]) (st2 := []) (h2 := q15.2) zm_X11_askedRules rfl rfl rfl rfl (decide_eq_false hc) ?_
      cases H
      exact zEv.ret zm_X11_askedRules rfl rfl rfl rfl
  · refine zEv.iteF (L2 := [some (vR (some (11, 0))), some (vI x1), some (vI q2.1)]) (st2 := []) (h2 := q2.2) zm_X11_askedRules rfl rfl rfl rfl (decide_eq_false hc) ?_
    cases H
    exact zEv.ret zm_X11_askedRules rfl rfl rfl rfl
def f_X11_list_37 (s1 : Int32) (h : zM) : Option (Int32 × zM) := ((f_X11_ask s1 (rI h 11 0 28) h).bind fun q41 => (some (q41.1, q41.2)))
set_option maxRecDepth 20000 in
theorem ev_X11_list_37 {d : Nat} (hd : 7 ≤ d) {w1 : Option zV} {w2 : Option zV} {s1 : Int32} {h : zM} {r : Int32 × zM} (H : f_X11_list_37 s1 h = some r) : zEv zmt d 198 37 ([some (vR (some (11, 0))), w1, w2], [vI s1, vR (some (11, 0))], h, true) (some (vI r.1), r.2) := by
  obtain ⟨q41, hq, H⟩ := bnd H
  refine zEv.call (k := 129) (as := [vR (some (11, 0)), vI s1, vI (rI h 11 0 28)]) (L2 := [some (vR (some (11, 0))), w1, w2]) (st2 := []) (h2 := h) (v := some (vI q41.1)) (h1 := q41.2) (st3 := [vI q41.1]) zm_X11_list rfl rfl rfl rfl rfl zm_X11_ask rfl (by omega) (ev_X11_ask (by omega) hq) rfl ?_
  cases H
  exact zEv.ret zm_X11_list rfl rfl rfl rfl
def f_X11_list (x1 : Int32) (h : zM) : Option (Int32 × zM) := ((f_X11_askedRules x1 h).bind fun q2 => (if 0 ≤ q2.1 then ((f_X11_setList 1 q2.2).bind fun q14 => (if ¬ (rI q14 11 0 28) = 0 then (if (true && (true && (true && (decide (rR q14 11 0 29 = (some (45, 0))) && true)))) = true then (f_X11_list_37  (rI q14 45 0 (Int32.toNatClampNeg 0)) q14) else none) else (f_X11_list_37  (-9999) q14))) else (some (q2.1, q2.2))))
set_option maxRecDepth 20000 in
theorem ev_X11_list {d : Nat} (hd : 7 ≤ d) {w2 : Option zV} {x1 : Int32} {h : zM} {r : Int32 × zM} (H : f_X11_list x1 h = some r) : zEv zmt d 198 0 ([some (vR (some (11, 0))), some (vI x1), w2], [], h, true) (some (vI r.1), r.2) := by
  obtain ⟨q2, hq, H⟩ := bnd H
  refine zEv.call (k := 197) (as := [vR (some (11, 0)), vI x1]) (L2 := [some (vR (some (11, 0))), some (vI x1), w2]) (st2 := []) (h2 := h) (v := some (vI q2.1)) (h1 := q2.2) (st3 := [vI q2.1]) zm_X11_list rfl rfl rfl rfl rfl zm_X11_askedRules rfl (by omega) (ev_X11_askedRules (by omega) hq) rfl ?_
  rcases ifc H with ⟨hc, H⟩ | ⟨hc, H⟩
  · refine zEv.iteT (L2 := [some (vR (some (11, 0))), none, some (vI q2.1)]) (st2 := []) (h2 := q2.2) zm_X11_list rfl rfl rfl rfl (decide_eq_true hc) ?_
    obtain ⟨q14, hq, H⟩ := bnd H
    refine zEv.call (k := 196) (as := [vR (some (11, 0)), vI 1]) (L2 := [some (vR (some (11, 0))), none, some (vI q2.1)]) (st2 := []) (h2 := q2.2) (v := none) (h1 := q14) (st3 := []) zm_X11_list rfl rfl rfl rfl rfl zm_X11_setList rfl (by omega) (ev_X11_setList (by omega) hq) rfl ?_
    rcases ifc H with ⟨hc, H⟩ | ⟨hc, H⟩
    · refine zEv.iteT (L2 := [some (vR (some (11, 0))), none, some (vI q2.1)]) (st2 := [vR (some (11, 0))]) (h2 := q14) zm_X11_list rfl rfl rfl rfl (decide_eq_true hc) ?_
      obtain ⟨hg, H⟩ := ifg H
      refine zEv.loc (L2 := [some (vR (some (11, 0))), none, some (vI q2.1)]) (st2 := [vI (rI q14 45 0 (Int32.toNatClampNeg 0)), vR (some (11, 0))]) (h2 := q14) zm_X11_list rfl hg rfl hg (fun h => (nomatch h)) ?_
      exact ev_X11_list_37 (by omega)  H
    · refine zEv.iteF (L2 := [some (vR (some (11, 0))), none, some (vI q2.1)]) (st2 := [vR (some (11, 0))]) (h2 := q14) zm_X11_list rfl rfl rfl rfl (decide_eq_false hc) ?_
      refine zEv.loc (L2 := [some (vR (some (11, 0))), none, some (vI q2.1)]) (st2 := [vI (-9999), vR (some (11, 0))]) (h2 := q14) zm_X11_list rfl rfl rfl rfl (fun h => (nomatch h)) ?_
      exact ev_X11_list_37 (by omega)  H
  · refine zEv.iteF (L2 := [some (vR (some (11, 0))), none, some (vI q2.1)]) (st2 := []) (h2 := q2.2) zm_X11_list rfl rfl rfl rfl (decide_eq_false hc) ?_
    cases H
    exact zEv.ret zm_X11_list rfl rfl rfl rfl
def f_X11_listed (x1 : Int32) (x2 : Int32) (h : zM) : Option (Int32 × zM) := (if 0 ≤ x2 then ((f_X11_askedRules x1 h).bind fun q8 => (if 0 ≤ q8.1 then ((f_X11_setList 1 q8.2).bind fun q20 => (if (rI q20 11 0 28) ≤ x2 then (some ((-9999), q20)) else (if (true && (true && (true && (ixOk 40 x2 && (true && (decide (rR q20 11 0 29 = (some (45, 0))) && true)))))) = true then ((f_X11_worth (rI q20 45 0 (Int32.toNatClampNeg x2)) q20).bind fun q39 => (if (true && (true && (true && (ixOk 40 x2 && (true && (decide (rR q39.2 11 0 29 = (some (45, 0))) && true)))))) = true then ((f_X11_ask q39.1 (rI q39.2 45 0 (Int32.toNatClampNeg x2)) q39.2).bind fun q48 => (some (q48.1, q48.2))) else none)) else none))) else (some (q8.1, q8.2)))) else (some ((-1), h)))
set_option maxRecDepth 20000 in
theorem ev_X11_listed {d : Nat} (hd : 7 ≤ d) {w3 : Option zV} {x1 : Int32} {x2 : Int32} {h : zM} {r : Int32 × zM} (H : f_X11_listed x1 x2 h = some r) : zEv zmt d 199 0 ([some (vR (some (11, 0))), some (vI x1), some (vI x2), w3], [], h, true) (some (vI r.1), r.2) := by
  rcases ifc H with ⟨hc, H⟩ | ⟨hc, H⟩
  · refine zEv.iteT (L2 := [some (vR (some (11, 0))), some (vI x1), some (vI x2), w3]) (st2 := []) (h2 := h) zm_X11_listed rfl rfl rfl rfl (decide_eq_true hc) ?_
    obtain ⟨q8, hq, H⟩ := bnd H
    refine zEv.call (k := 197) (as := [vR (some (11, 0)), vI x1]) (L2 := [some (vR (some (11, 0))), some (vI x1), some (vI x2), w3]) (st2 := []) (h2 := h) (v := some (vI q8.1)) (h1 := q8.2) (st3 := [vI q8.1]) zm_X11_listed rfl rfl rfl rfl rfl zm_X11_askedRules rfl (by omega) (ev_X11_askedRules (by omega) hq) rfl ?_
    rcases ifc H with ⟨hc, H⟩ | ⟨hc, H⟩
    · refine zEv.iteT (L2 := [some (vR (some (11, 0))), some (vI x1), some (vI x2), some (vI q8.1)]) (st2 := []) (h2 := q8.2) zm_X11_listed rfl rfl rfl rfl (decide_eq_true hc) ?_
      obtain ⟨q20, hq, H⟩ := bnd H
      refine zEv.call (k := 196) (as := [vR (some (11, 0)), vI 1]) (L2 := [some (vR (some (11, 0))), some (vI x1), some (vI x2), some (vI q8.1)]) (st2 := []) (h2 := q8.2) (v := none) (h1 := q20) (st3 := []) zm_X11_listed rfl rfl rfl rfl rfl zm_X11_setList rfl (by omega) (ev_X11_setList (by omega) hq) rfl ?_
      rcases ifc H with ⟨hc, H⟩ | ⟨hc, H⟩
      · refine zEv.iteT (L2 := [some (vR (some (11, 0))), some (vI x1), some (vI x2), some (vI q8.1)]) (st2 := []) (h2 := q20) zm_X11_listed rfl rfl rfl rfl (decide_eq_true hc) ?_
        refine zEv.loc (L2 := [some (vR (some (11, 0))), some (vI x1), some (vI x2), some (vI q8.1)]) (st2 := [vI (-9999)]) (h2 := q20) zm_X11_listed rfl rfl rfl rfl (fun h => (nomatch h)) ?_
        cases H
        exact zEv.ret zm_X11_listed rfl rfl rfl rfl
      · refine zEv.iteF (L2 := [some (vR (some (11, 0))), some (vI x1), some (vI x2), some (vI q8.1)]) (st2 := []) (h2 := q20) zm_X11_listed rfl rfl rfl rfl (decide_eq_false hc) ?_
        obtain ⟨hg, H⟩ := ifg H
        obtain ⟨q39, hq, H⟩ := bnd H
        refine zEv.call (k := 195) (as := [vR (some (11, 0)), vI (rI q20 45 0 (Int32.toNatClampNeg x2))]) (L2 := [some (vR (some (11, 0))), some (vI x1), some (vI x2), some (vI q8.1)]) (st2 := [vR (some (11, 0))]) (h2 := q20) (v := some (vI q39.1)) (h1 := q39.2) (st3 := [vI q39.1, vR (some (11, 0))]) zm_X11_listed rfl (and2 (and2 hg).2).2 rfl hg rfl zm_X11_worth rfl (by omega) (ev_X11_worth (by omega) hq) rfl ?_
        obtain ⟨hg, H⟩ := ifg H
        obtain ⟨q48, hq, H⟩ := bnd H
        refine zEv.call (k := 129) (as := [vR (some (11, 0)), vI q39.1, vI (rI q39.2 45 0 (Int32.toNatClampNeg x2))]) (L2 := [some (vR (some (11, 0))), some (vI x1), some (vI x2), some (vI q8.1)]) (st2 := []) (h2 := q39.2) (v := some (vI q48.1)) (h1 := q48.2) (st3 := [vI q48.1]) zm_X11_listed rfl (and2 (and2 hg).2).2 rfl hg rfl zm_X11_ask rfl (by omega) (ev_X11_ask (by omega) hq) rfl ?_
        refine zEv.loc (L2 := [some (vR (some (11, 0))), some (vI x1), some (vI x2), some (vI q8.1)]) (st2 := [vI q48.1]) (h2 := q48.2) zm_X11_listed rfl rfl rfl rfl (fun h => (nomatch h)) ?_
        cases H
        exact zEv.ret zm_X11_listed rfl rfl rfl rfl
    · refine zEv.iteF (L2 := [some (vR (some (11, 0))), some (vI x1), some (vI x2), some (vI q8.1)]) (st2 := []) (h2 := q8.2) zm_X11_listed rfl rfl rfl rfl (decide_eq_false hc) ?_
      cases H
      exact zEv.ret zm_X11_listed rfl rfl rfl rfl
  · refine zEv.iteF (L2 := [some (vR (some (11, 0))), some (vI x1), some (vI x2), w3]) (st2 := []) (h2 := h) zm_X11_listed rfl rfl rfl rfl (decide_eq_false hc) ?_
    cases H
    exact zEv.ret zm_X11_listed rfl rfl rfl rfl
def f_X11_setRanks_29 : Nat → Int32 → zM → Option (zM)
  | 0 => fun _ _ => none
  | k + 1 => fun x1 h => (if (rI h 11 0 28) ≤ x1 then (some h) else (if (true && (true && (true && (ixOk 40 x1 && (true && (decide (rR h 11 0 29 = (some (45, 0))) && (true && (decide (rR h 11 0 30 = (some (46, 0))) && true)))))))) = true then ((f_X11_part (rI h 45 0 (Int32.toNatClampNeg x1)) 1 h).bind fun q49 => (if (true && (ixOk 12 q49.1 && true)) = true then (f_X11_setRanks_29 k (x1 + 1) (wI q49.2 46 0 (Int32.toNatClampNeg q49.1) x1)) else none)) else none))
set_option maxRecDepth 20000 in
theorem ev_X11_setRanks_29 {d : Nat} (hd : 7 ≤ d) : ∀ (k : Nat) {x1 : Int32} {h : zM} {r : zM}, f_X11_setRanks_29 k x1 h = some r → zEv zmt d 200 29 ([some (vR (some (11, 0))), some (vI x1)], [], h, true) (none, r) := by
  intro k
  induction k with
  | zero => intro x1 h r H; cases H
  | succ k ih =>
    intro x1 h r H
    rcases ifc H with ⟨hc, H⟩ | ⟨hc, H⟩
    · refine zEv.iteT (L2 := [some (vR (some (11, 0))), some (vI x1)]) (st2 := []) (h2 := h) zm_X11_setRanks rfl rfl rfl rfl (decide_eq_true hc) ?_
      cases H
      exact zEv.ret zm_X11_setRanks rfl rfl rfl rfl
    · refine zEv.iteF (L2 := [some (vR (some (11, 0))), some (vI x1)]) (st2 := []) (h2 := h) zm_X11_setRanks rfl rfl rfl rfl (decide_eq_false hc) ?_
      obtain ⟨hg, H⟩ := ifg H
      obtain ⟨q49, hq, H⟩ := bnd H
      refine zEv.call (k := 148) (as := [vR (some (11, 0)), vI (rI h 45 0 (Int32.toNatClampNeg x1)), vI 1]) (L2 := [some (vR (some (11, 0))), some (vI x1)]) (st2 := [vR (some (46, 0))]) (h2 := h) (v := some (vI q49.1)) (h1 := q49.2) (st3 := [vI q49.1, vR (some (46, 0))]) zm_X11_setRanks rfl (and2 (and2 hg).2).2 rfl hg rfl zm_X11_part rfl (by omega) (ev_X11_part (by omega) hq) rfl ?_
      obtain ⟨hg, H⟩ := ifg H
      refine zEv.loc (L2 := [some (vR (some (11, 0))), some (vI (x1 + 1))]) (st2 := []) (h2 := (wI q49.2 46 0 (Int32.toNatClampNeg q49.1) x1)) zm_X11_setRanks rfl hg rfl hg (fun h => (nomatch h)) ?_
      exact ih H
def f_X11_setRanks_7 : Nat → Int32 → zM → Option (zM)
  | 0 => fun _ _ => none
  | k + 1 => fun x1 h => (if 12 ≤ x1 then (f_X11_setRanks_29  1000 0 h) else (if (true && (ixOk 12 x1 && (true && (decide (rR h 11 0 30 = (some (46, 0))) && true)))) = true then (f_X11_setRanks_7 k (x1 + 1) (wI h 46 0 (Int32.toNatClampNeg x1) 40)) else none))
set_option maxRecDepth 20000 in
theorem ev_X11_setRanks_7 {d : Nat} (hd : 7 ≤ d) : ∀ (k : Nat) {x1 : Int32} {h : zM} {r : zM}, f_X11_setRanks_7 k x1 h = some r → zEv zmt d 200 7 ([some (vR (some (11, 0))), some (vI x1)], [], h, true) (none, r) := by
  intro k
  induction k with
  | zero => intro x1 h r H; cases H
  | succ k ih =>
    intro x1 h r H
    rcases ifc H with ⟨hc, H⟩ | ⟨hc, H⟩
    · refine zEv.iteT (L2 := [some (vR (some (11, 0))), some (vI x1)]) (st2 := []) (h2 := h) zm_X11_setRanks rfl rfl rfl rfl (decide_eq_true hc) ?_
      refine zEv.loc (L2 := [some (vR (some (11, 0))), some (vI 0)]) (st2 := []) (h2 := h) zm_X11_setRanks rfl rfl rfl rfl (fun h => (nomatch h)) ?_
      exact ev_X11_setRanks_29 (by omega)  1000 H
    · refine zEv.iteF (L2 := [some (vR (some (11, 0))), some (vI x1)]) (st2 := []) (h2 := h) zm_X11_setRanks rfl rfl rfl rfl (decide_eq_false hc) ?_
      obtain ⟨hg, H⟩ := ifg H
      refine zEv.loc (L2 := [some (vR (some (11, 0))), some (vI (x1 + 1))]) (st2 := []) (h2 := (wI h 46 0 (Int32.toNatClampNeg x1) 40)) zm_X11_setRanks rfl hg rfl hg (fun h => (nomatch h)) ?_
      exact ih H
def f_X11_setRanks (h : zM) : Option (zM) := ((f_X11_setList 1 h).bind fun q2 => (f_X11_setRanks_7  1000 0 q2))
set_option maxRecDepth 20000 in
theorem ev_X11_setRanks {d : Nat} (hd : 7 ≤ d) {w1 : Option zV} {h : zM} {r : zM} (H : f_X11_setRanks  h = some r) : zEv zmt d 200 0 ([some (vR (some (11, 0))), w1], [], h, true) (none, r) := by
  obtain ⟨q2, hq, H⟩ := bnd H
  refine zEv.call (k := 196) (as := [vR (some (11, 0)), vI 1]) (L2 := [some (vR (some (11, 0))), w1]) (st2 := []) (h2 := h) (v := none) (h1 := q2) (st3 := []) zm_X11_setRanks rfl rfl rfl rfl rfl zm_X11_setList rfl (by omega) (ev_X11_setList (by omega) hq) rfl ?_
  refine zEv.loc (L2 := [some (vR (some (11, 0))), some (vI 0)]) (st2 := []) (h2 := q2) zm_X11_setRanks rfl rfl rfl rfl (fun h => (nomatch h)) ?_
  exact ev_X11_setRanks_7 (by omega)  1000 H
def f_X11_gains_34 (h : zM) : Option (Int32 × zM) := ((f_X11_meets 1 h).bind fun q36 => (some (q36.1, q36.2)))
set_option maxRecDepth 20000 in
theorem ev_X11_gains_34 {d : Nat} (hd : 8 ≤ d) {w1 : Option zV} {w2 : Option zV} {w3 : Option zV} {w4 : Option zV} {w5 : Option zV} {w6 : Option zV} {h : zM} {r : Int32 × zM} (H : f_X11_gains_34  h = some r) : zEv zmt d 201 34 ([some (vR (some (11, 0))), w1, w2, w3, w4, w5, w6], [], h, true) (some (vI r.1), r.2) := by
  obtain ⟨q36, hq, H⟩ := bnd H
  refine zEv.call (k := 128) (as := [vR (some (11, 0)), vI 1]) (L2 := [some (vR (some (11, 0))), w1, w2, w3, w4, w5, w6]) (st2 := []) (h2 := h) (v := some (vI q36.1)) (h1 := q36.2) (st3 := [vI q36.1]) zm_X11_gains rfl rfl rfl rfl rfl zm_X11_meets rfl (by omega) (ev_X11_meets (by omega) hq) rfl ?_
  cases H
  exact zEv.ret zm_X11_gains rfl rfl rfl rfl
def f_X11_gains_207 (K146 : Int32 → Int32 → Int32 → zM → Option (Int32 × zM)) (x4 : Int32) (x6 : Int32) (s0 : Int32) (s1 : Int32) (h : zM) : Option (Int32 × zM) := (K146 x4 (s0 + s1) (x6 + 1) h)
set_option maxRecDepth 20000 in
theorem ev_X11_gains_207 {d : Nat} (hd : 8 ≤ d) {K146 : Int32 → Int32 → Int32 → zM → Option (Int32 × zM)} (hK146 : ∀ {w1 : Option zV} {w2 : Option zV} {w3 : Option zV} {x4 : Int32} {x5 : Int32} {x6 : Int32} {h : zM} {r : Int32 × zM}, K146 x4 x5 x6 h = some r → zEv zmt d 201 146 ([some (vR (some (11, 0))), w1, w2, w3, some (vI x4), some (vI x5), some (vI x6)], [], h, true) (some (vI r.1), r.2)) {w1 : Option zV} {w2 : Option zV} {w3 : Option zV} {w5 : Option zV} {x4 : Int32} {x6 : Int32} {s0 : Int32} {s1 : Int32} {h : zM} {r : Int32 × zM} (H : f_X11_gains_207 K146 x4 x6 s0 s1 h = some r) : zEv zmt d 201 207 ([some (vR (some (11, 0))), w1, w2, w3, some (vI x4), w5, some (vI x6)], [vI s1, vI s0], h, true) (some (vI r.1), r.2) := by
  refine zEv.loc (L2 := [some (vR (some (11, 0))), w1, w2, w3, some (vI x4), some (vI (s0 + s1)), some (vI (x6 + 1))]) (st2 := []) (h2 := h) zm_X11_gains rfl rfl rfl rfl (fun h => (nomatch h)) ?_
  exact hK146 H
def f_X11_gains_180 (K146 : Int32 → Int32 → Int32 → zM → Option (Int32 × zM)) (x5 : Int32) (x6 : Int32) (s0 : Int32) (s1 : Int32) (h : zM) : Option (Int32 × zM) := (if (true && (ixOk 40 x6 && (true && (decide (rR h 11 0 8 = (some (35, 0))) && (true && (ixOk 12 x6 && (true && (decide (rR h 11 0 30 = (some (46, 0))) && (true && true))))))))) = true then (if (rI h 35 0 (Int32.toNatClampNeg x6)) ≤ (rI h 46 0 (Int32.toNatClampNeg x6)) then (f_X11_gains_207 K146 (s0 ||| s1) x6 x5 0 h) else (f_X11_gains_207 K146 (s0 ||| s1) x6 x5 1 h)) else none)
set_option maxRecDepth 20000 in
theorem ev_X11_gains_180 {d : Nat} (hd : 8 ≤ d) {K146 : Int32 → Int32 → Int32 → zM → Option (Int32 × zM)} (hK146 : ∀ {w1 : Option zV} {w2 : Option zV} {w3 : Option zV} {x4 : Int32} {x5 : Int32} {x6 : Int32} {h : zM} {r : Int32 × zM}, K146 x4 x5 x6 h = some r → zEv zmt d 201 146 ([some (vR (some (11, 0))), w1, w2, w3, some (vI x4), some (vI x5), some (vI x6)], [], h, true) (some (vI r.1), r.2)) {w1 : Option zV} {w2 : Option zV} {w3 : Option zV} {w4 : Option zV} {x5 : Int32} {x6 : Int32} {s0 : Int32} {s1 : Int32} {h : zM} {r : Int32 × zM} (H : f_X11_gains_180 K146 x5 x6 s0 s1 h = some r) : zEv zmt d 201 180 ([some (vR (some (11, 0))), w1, w2, w3, w4, some (vI x5), some (vI x6)], [vI s1, vI s0], h, true) (some (vI r.1), r.2) := by
  obtain ⟨hg, H⟩ := ifg H
  rcases ifc H with ⟨hc, H⟩ | ⟨hc, H⟩
  · refine zEv.iteT (L2 := [some (vR (some (11, 0))), w1, w2, none, some (vI (s0 ||| s1)), some (vI x5), some (vI x6)]) (st2 := [vI x5]) (h2 := h) zm_X11_gains rfl hg rfl hg (decide_eq_true hc) ?_
    refine zEv.loc (L2 := [some (vR (some (11, 0))), w1, w2, none, some (vI (s0 ||| s1)), some (vI x5), some (vI x6)]) (st2 := [vI 0, vI x5]) (h2 := h) zm_X11_gains rfl rfl rfl rfl (fun h => (nomatch h)) ?_
    exact ev_X11_gains_207 (by omega) hK146 H
  · refine zEv.iteF (L2 := [some (vR (some (11, 0))), w1, w2, none, some (vI (s0 ||| s1)), some (vI x5), some (vI x6)]) (st2 := [vI x5]) (h2 := h) zm_X11_gains rfl hg rfl hg (decide_eq_false hc) ?_
    refine zEv.loc (L2 := [some (vR (some (11, 0))), w1, w2, none, some (vI (s0 ||| s1)), some (vI x5), some (vI x6)]) (st2 := [vI 1, vI x5]) (h2 := h) zm_X11_gains rfl rfl rfl rfl (fun h => (nomatch h)) ?_
    exact ev_X11_gains_207 (by omega) hK146 H
def f_X11_gains_146 : Nat → Int32 → Int32 → Int32 → zM → Option (Int32 × zM)
  | 0 => fun _ _ _ _ => none
  | k + 1 => fun x4 x5 x6 h => (if 12 ≤ x6 then ((f_X11_ask x4 x5 h).bind fun q221 => (some (q221.1, q221.2))) else (if (true && (ixOk 40 x6 && (true && (decide (rR h 11 0 8 = (some (35, 0))) && (true && (ixOk 12 x6 && (true && (decide (rR h 11 0 30 = (some (46, 0))) && true)))))))) = true then (if (rI h 35 0 (Int32.toNatClampNeg x6)) ≤ (rI h 46 0 (Int32.toNatClampNeg x6)) then (f_X11_gains_180 (f_X11_gains_146 k) x5 x6 x4 0 h) else (f_X11_gains_180 (f_X11_gains_146 k) x5 x6 x4 (1 <<< (x6 &&& 31)) h)) else none))
set_option maxRecDepth 20000 in
theorem ev_X11_gains_146 {d : Nat} (hd : 8 ≤ d) : ∀ (k : Nat) {w1 : Option zV} {w2 : Option zV} {w3 : Option zV} {x4 : Int32} {x5 : Int32} {x6 : Int32} {h : zM} {r : Int32 × zM}, f_X11_gains_146 k x4 x5 x6 h = some r → zEv zmt d 201 146 ([some (vR (some (11, 0))), w1, w2, w3, some (vI x4), some (vI x5), some (vI x6)], [], h, true) (some (vI r.1), r.2) := by
  intro k
  induction k with
  | zero => intro w1 w2 w3 x4 x5 x6 h r H; cases H
  | succ k ih =>
    intro w1 w2 w3 x4 x5 x6 h r H
    rcases ifc H with ⟨hc, H⟩ | ⟨hc, H⟩
    · refine zEv.iteT (L2 := [some (vR (some (11, 0))), w1, w2, w3, some (vI x4), some (vI x5), some (vI x6)]) (st2 := []) (h2 := h) zm_X11_gains rfl rfl rfl rfl (decide_eq_true hc) ?_
      obtain ⟨q221, hq, H⟩ := bnd H
      refine zEv.call (k := 129) (as := [vR (some (11, 0)), vI x4, vI x5]) (L2 := [some (vR (some (11, 0))), w1, w2, w3, some (vI x4), some (vI x5), some (vI x6)]) (st2 := []) (h2 := h) (v := some (vI q221.1)) (h1 := q221.2) (st3 := [vI q221.1]) zm_X11_gains rfl rfl rfl rfl rfl zm_X11_ask rfl (by omega) (ev_X11_ask (by omega) hq) rfl ?_
      cases H
      exact zEv.ret zm_X11_gains rfl rfl rfl rfl
    · refine zEv.iteF (L2 := [some (vR (some (11, 0))), w1, w2, w3, some (vI x4), some (vI x5), some (vI x6)]) (st2 := []) (h2 := h) zm_X11_gains rfl rfl rfl rfl (decide_eq_false hc) ?_
      obtain ⟨hg, H⟩ := ifg H
      rcases ifc H with ⟨hc, H⟩ | ⟨hc, H⟩
      · refine zEv.iteT (L2 := [some (vR (some (11, 0))), w1, w2, w3, some (vI x4), some (vI x5), some (vI x6)]) (st2 := [vI x4]) (h2 := h) zm_X11_gains rfl hg rfl hg (decide_eq_true hc) ?_
        refine zEv.loc (L2 := [some (vR (some (11, 0))), w1, w2, w3, some (vI x4), some (vI x5), some (vI x6)]) (st2 := [vI 0, vI x4]) (h2 := h) zm_X11_gains rfl rfl rfl rfl (fun h => (nomatch h)) ?_
        exact ev_X11_gains_180 (by omega) ih H
      · refine zEv.iteF (L2 := [some (vR (some (11, 0))), w1, w2, w3, some (vI x4), some (vI x5), some (vI x6)]) (st2 := [vI x4]) (h2 := h) zm_X11_gains rfl hg rfl hg (decide_eq_false hc) ?_
        refine zEv.loc (L2 := [some (vR (some (11, 0))), w1, w2, w3, some (vI x4), some (vI x5), some (vI x6)]) (st2 := [vI (1 <<< (x6 &&& 31)), vI x4]) (h2 := h) zm_X11_gains rfl rfl rfl rfl (fun h => (nomatch h)) ?_
        exact ev_X11_gains_180 (by omega) ih H
def f_X11_gains_100 : Nat → Int32 → Int32 → zM → Option (Int32 × zM)
  | 0 => fun _ _ _ => none
  | k + 1 => fun x1 x4 h => (if 12 ≤ x4 then ((f_X11_askedRules x1 h).bind fun q129 => ((f_X11_setRanks  q129.2).bind fun q134 => (f_X11_gains_146  1000 0 0 0 q134))) else (if (true && (ixOk 40 x4 && (true && (ixOk 12 x4 && (true && (decide (rR h 11 0 30 = (some (46, 0))) && (true && (decide (rR h 11 0 8 = (some (35, 0))) && true)))))))) = true then (f_X11_gains_100 k x1 (x4 + 1) (wI h 35 0 (Int32.toNatClampNeg x4) (rI h 46 0 (Int32.toNatClampNeg x4)))) else none))
set_option maxRecDepth 20000 in
theorem ev_X11_gains_100 {d : Nat} (hd : 8 ≤ d) : ∀ (k : Nat) {w2 : Option zV} {w3 : Option zV} {w5 : Option zV} {w6 : Option zV} {x1 : Int32} {x4 : Int32} {h : zM} {r : Int32 × zM}, f_X11_gains_100 k x1 x4 h = some r → zEv zmt d 201 100 ([some (vR (some (11, 0))), some (vI x1), w2, w3, some (vI x4), w5, w6], [], h, true) (some (vI r.1), r.2) := by
  intro k
  induction k with
  | zero => intro w2 w3 w5 w6 x1 x4 h r H; cases H
  | succ k ih =>
    intro w2 w3 w5 w6 x1 x4 h r H
    rcases ifc H with ⟨hc, H⟩ | ⟨hc, H⟩
    · refine zEv.iteT (L2 := [some (vR (some (11, 0))), some (vI x1), w2, w3, some (vI x4), w5, w6]) (st2 := []) (h2 := h) zm_X11_gains rfl rfl rfl rfl (decide_eq_true hc) ?_
      obtain ⟨q129, hq, H⟩ := bnd H
      refine zEv.call (k := 197) (as := [vR (some (11, 0)), vI x1]) (L2 := [some (vR (some (11, 0))), some (vI x1), w2, w3, some (vI x4), w5, w6]) (st2 := []) (h2 := h) (v := some (vI q129.1)) (h1 := q129.2) (st3 := [vI q129.1]) zm_X11_gains rfl rfl rfl rfl rfl zm_X11_askedRules rfl (by omega) (ev_X11_askedRules (by omega) hq) rfl ?_
      obtain ⟨q134, hq, H⟩ := bnd H
      refine zEv.call (k := 200) (as := [vR (some (11, 0))]) (L2 := [some (vR (some (11, 0))), some (vI x1), none, some (vI q129.1), some (vI x4), w5, w6]) (st2 := []) (h2 := q129.2) (v := none) (h1 := q134) (st3 := []) zm_X11_gains rfl rfl rfl rfl rfl zm_X11_setRanks rfl (by omega) (ev_X11_setRanks (by omega) hq) rfl ?_
      refine zEv.loc (L2 := [some (vR (some (11, 0))), some (vI x1), none, none, some (vI 0), some (vI 0), some (vI 0)]) (st2 := []) (h2 := q134) zm_X11_gains rfl rfl rfl rfl (fun h => (nomatch h)) ?_
      exact ev_X11_gains_146 (by omega)  1000 H
    · refine zEv.iteF (L2 := [some (vR (some (11, 0))), some (vI x1), w2, w3, some (vI x4), w5, w6]) (st2 := []) (h2 := h) zm_X11_gains rfl rfl rfl rfl (decide_eq_false hc) ?_
      obtain ⟨hg, H⟩ := ifg H
      refine zEv.loc (L2 := [some (vR (some (11, 0))), some (vI x1), w2, none, some (vI (x4 + 1)), w5, w6]) (st2 := []) (h2 := (wI h 35 0 (Int32.toNatClampNeg x4) (rI h 46 0 (Int32.toNatClampNeg x4)))) zm_X11_gains rfl hg rfl hg (fun h => (nomatch h)) ?_
      exact ih H
def f_X11_gains_86 (x1 : Int32) (s0 : Int32) (h : zM) : Option (Int32 × zM) := (if 0 ≤ s0 then ((f_X11_setRanks  h).bind fun q94 => (f_X11_gains_100  1000 x1 0 q94)) else (some (s0, h)))
set_option maxRecDepth 20000 in
theorem ev_X11_gains_86 {d : Nat} (hd : 8 ≤ d) {w2 : Option zV} {w3 : Option zV} {w4 : Option zV} {w5 : Option zV} {w6 : Option zV} {x1 : Int32} {s0 : Int32} {h : zM} {r : Int32 × zM} (H : f_X11_gains_86 x1 s0 h = some r) : zEv zmt d 201 86 ([some (vR (some (11, 0))), some (vI x1), w2, w3, w4, w5, w6], [vI s0], h, true) (some (vI r.1), r.2) := by
  rcases ifc H with ⟨hc, H⟩ | ⟨hc, H⟩
  · refine zEv.iteT (L2 := [some (vR (some (11, 0))), some (vI x1), none, some (vI s0), w4, w5, w6]) (st2 := []) (h2 := h) zm_X11_gains rfl rfl rfl rfl (decide_eq_true hc) ?_
    obtain ⟨q94, hq, H⟩ := bnd H
    refine zEv.call (k := 200) (as := [vR (some (11, 0))]) (L2 := [some (vR (some (11, 0))), some (vI x1), none, some (vI s0), w4, w5, w6]) (st2 := []) (h2 := h) (v := none) (h1 := q94) (st3 := []) zm_X11_gains rfl rfl rfl rfl rfl zm_X11_setRanks rfl (by omega) (ev_X11_setRanks (by omega) hq) rfl ?_
    refine zEv.loc (L2 := [some (vR (some (11, 0))), some (vI x1), none, none, some (vI 0), w5, w6]) (st2 := []) (h2 := q94) zm_X11_gains rfl rfl rfl rfl (fun h => (nomatch h)) ?_
    exact ev_X11_gains_100 (by omega)  1000 H
  · refine zEv.iteF (L2 := [some (vR (some (11, 0))), some (vI x1), none, some (vI s0), w4, w5, w6]) (st2 := []) (h2 := h) zm_X11_gains rfl rfl rfl rfl (decide_eq_false hc) ?_
    cases H
    exact zEv.ret zm_X11_gains rfl rfl rfl rfl
def f_X11_gains (x1 : Int32) (x2 : Int32) (h : zM) : Option (Int32 × zM) := ((f_X11_isText x1 h).bind fun q1 => (if q1.1 = 0 then (some ((-1), q1.2)) else ((f_X11_isText x2 q1.2).bind fun q8 => (if ¬ q8.1 = 0 then (if (true && (ixOk 4 x1 && (true && (decide (rR q8.2 11 0 9 = (some (36, 0))) && true)))) = true then (if (rI q8.2 36 0 (Int32.toNatClampNeg x1)) < 0 then (f_X11_gains_34  q8.2) else (if (true && (ixOk 4 x2 && (true && (decide (rR q8.2 11 0 9 = (some (36, 0))) && true)))) = true then (if 0 ≤ (rI q8.2 36 0 (Int32.toNatClampNeg x2)) then ((f_X11_reads x1 1 q8.2).bind fun q43 => (if ¬ q43.1 = (-9999) then (some ((-4), q43.2)) else ((f_X11_reads x2 1 q43.2).bind fun q55 => (if q55.1 = (-9999) then ((f_X11_askedRules x1 q55.2).bind fun q69 => (if 0 ≤ q69.1 then ((f_X11_askedRules x2 q69.2).bind fun q83 => (f_X11_gains_86  x1 q83.1 q83.2)) else (f_X11_gains_86  x1 q69.1 q69.2))) else (some ((-4), q55.2)))))) else (f_X11_gains_34  q8.2)) else none)) else none) else (some ((-1), q8.2))))))
set_option maxRecDepth 20000 in
theorem ev_X11_gains {d : Nat} (hd : 8 ≤ d) {w3 : Option zV} {w4 : Option zV} {w5 : Option zV} {w6 : Option zV} {x1 : Int32} {x2 : Int32} {h : zM} {r : Int32 × zM} (H : f_X11_gains x1 x2 h = some r) : zEv zmt d 201 0 ([some (vR (some (11, 0))), some (vI x1), some (vI x2), w3, w4, w5, w6], [], h, true) (some (vI r.1), r.2) := by
  obtain ⟨q1, hq, H⟩ := bnd H
  refine zEv.call (k := 132) (as := [vI x1]) (L2 := [some (vR (some (11, 0))), some (vI x1), some (vI x2), w3, w4, w5, w6]) (st2 := []) (h2 := h) (v := some (vI q1.1)) (h1 := q1.2) (st3 := [vI q1.1]) zm_X11_gains rfl rfl rfl rfl rfl zm_X11_isText rfl (by omega) (ev_X11_isText (by omega) hq) rfl ?_
  rcases ifc H with ⟨hc, H⟩ | ⟨hc, H⟩
  · refine zEv.iteT (L2 := [some (vR (some (11, 0))), some (vI x1), some (vI x2), w3, w4, w5, w6]) (st2 := []) (h2 := q1.2) zm_X11_gains rfl rfl rfl rfl (decide_eq_true hc) ?_
    cases H
    exact zEv.ret zm_X11_gains rfl rfl rfl rfl
  · refine zEv.iteF (L2 := [some (vR (some (11, 0))), some (vI x1), some (vI x2), w3, w4, w5, w6]) (st2 := []) (h2 := q1.2) zm_X11_gains rfl rfl rfl rfl (decide_eq_false hc) ?_
    obtain ⟨q8, hq, H⟩ := bnd H
    refine zEv.call (k := 132) (as := [vI x2]) (L2 := [some (vR (some (11, 0))), some (vI x1), some (vI x2), w3, w4, w5, w6]) (st2 := []) (h2 := q1.2) (v := some (vI q8.1)) (h1 := q8.2) (st3 := [vI q8.1]) zm_X11_gains rfl rfl rfl rfl rfl zm_X11_isText rfl (by omega) (ev_X11_isText (by omega) hq) rfl ?_
    rcases ifc H with ⟨hc, H⟩ | ⟨hc, H⟩
    · refine zEv.iteT (L2 := [some (vR (some (11, 0))), some (vI x1), some (vI x2), w3, w4, w5, w6]) (st2 := []) (h2 := q8.2) zm_X11_gains rfl rfl rfl rfl (decide_eq_true hc) ?_
      obtain ⟨hg, H⟩ := ifg H
      rcases ifc H with ⟨hc, H⟩ | ⟨hc, H⟩
      · refine zEv.iteT (L2 := [some (vR (some (11, 0))), some (vI x1), some (vI x2), w3, w4, w5, w6]) (st2 := []) (h2 := q8.2) zm_X11_gains rfl hg rfl hg (decide_eq_true hc) ?_
        exact ev_X11_gains_34 (by omega)  H
      · refine zEv.iteF (L2 := [some (vR (some (11, 0))), some (vI x1), some (vI x2), w3, w4, w5, w6]) (st2 := []) (h2 := q8.2) zm_X11_gains rfl hg rfl hg (decide_eq_false hc) ?_
        obtain ⟨hg, H⟩ := ifg H
        rcases ifc H with ⟨hc, H⟩ | ⟨hc, H⟩
        · refine zEv.iteT (L2 := [some (vR (some (11, 0))), some (vI x1), some (vI x2), w3, w4, w5, w6]) (st2 := []) (h2 := q8.2) zm_X11_gains rfl hg rfl hg (decide_eq_true hc) ?_
          obtain ⟨q43, hq, H⟩ := bnd H
          refine zEv.call (k := 170) (as := [vR (some (11, 0)), vI x1, vI 1]) (L2 := [some (vR (some (11, 0))), some (vI x1), some (vI x2), w3, w4, w5, w6]) (st2 := []) (h2 := q8.2) (v := some (vI q43.1)) (h1 := q43.2) (st3 := [vI q43.1]) zm_X11_gains rfl rfl rfl rfl rfl zm_X11_reads rfl (by omega) (ev_X11_reads (by omega) hq) rfl ?_
          rcases ifc H with ⟨hc, H⟩ | ⟨hc, H⟩
          · refine zEv.iteT (L2 := [some (vR (some (11, 0))), some (vI x1), some (vI x2), w3, w4, w5, w6]) (st2 := []) (h2 := q43.2) zm_X11_gains rfl rfl rfl rfl (decide_eq_true hc) ?_
            cases H
            exact zEv.ret zm_X11_gains rfl rfl rfl rfl
          · refine zEv.iteF (L2 := [some (vR (some (11, 0))), some (vI x1), some (vI x2), w3, w4, w5, w6]) (st2 := []) (h2 := q43.2) zm_X11_gains rfl rfl rfl rfl (decide_eq_false hc) ?_
            obtain ⟨q55, hq, H⟩ := bnd H
            refine zEv.call (k := 170) (as := [vR (some (11, 0)), vI x2, vI 1]) (L2 := [some (vR (some (11, 0))), some (vI x1), some (vI x2), w3, w4, w5, w6]) (st2 := []) (h2 := q43.2) (v := some (vI q55.1)) (h1 := q55.2) (st3 := [vI q55.1]) zm_X11_gains rfl rfl rfl rfl rfl zm_X11_reads rfl (by omega) (ev_X11_reads (by omega) hq) rfl ?_
            rcases ifc H with ⟨hc, H⟩ | ⟨hc, H⟩
            · refine zEv.iteT (L2 := [some (vR (some (11, 0))), some (vI x1), some (vI x2), w3, w4, w5, w6]) (st2 := []) (h2 := q55.2) zm_X11_gains rfl rfl rfl rfl (decide_eq_true hc) ?_
              obtain ⟨q69, hq, H⟩ := bnd H
              refine zEv.call (k := 197) (as := [vR (some (11, 0)), vI x1]) (L2 := [some (vR (some (11, 0))), some (vI x1), some (vI x2), w3, w4, w5, w6]) (st2 := []) (h2 := q55.2) (v := some (vI q69.1)) (h1 := q69.2) (st3 := [vI q69.1]) zm_X11_gains rfl rfl rfl rfl rfl zm_X11_askedRules rfl (by omega) (ev_X11_askedRules (by omega) hq) rfl ?_
              rcases ifc H with ⟨hc, H⟩ | ⟨hc, H⟩
              · refine zEv.iteT (L2 := [some (vR (some (11, 0))), some (vI x1), some (vI x2), some (vI q69.1), w4, w5, w6]) (st2 := []) (h2 := q69.2) zm_X11_gains rfl rfl rfl rfl (decide_eq_true hc) ?_
                obtain ⟨q83, hq, H⟩ := bnd H
                refine zEv.call (k := 197) (as := [vR (some (11, 0)), vI x2]) (L2 := [some (vR (some (11, 0))), some (vI x1), some (vI x2), some (vI q69.1), w4, w5, w6]) (st2 := []) (h2 := q69.2) (v := some (vI q83.1)) (h1 := q83.2) (st3 := [vI q83.1]) zm_X11_gains rfl rfl rfl rfl rfl zm_X11_askedRules rfl (by omega) (ev_X11_askedRules (by omega) hq) rfl ?_
                exact ev_X11_gains_86 (by omega)  H
              · refine zEv.iteF (L2 := [some (vR (some (11, 0))), some (vI x1), some (vI x2), some (vI q69.1), w4, w5, w6]) (st2 := []) (h2 := q69.2) zm_X11_gains rfl rfl rfl rfl (decide_eq_false hc) ?_
                refine zEv.loc (L2 := [some (vR (some (11, 0))), some (vI x1), some (vI x2), some (vI q69.1), w4, w5, w6]) (st2 := [vI q69.1]) (h2 := q69.2) zm_X11_gains rfl rfl rfl rfl (fun h => (nomatch h)) ?_
                exact ev_X11_gains_86 (by omega)  H
            · refine zEv.iteF (L2 := [some (vR (some (11, 0))), some (vI x1), some (vI x2), w3, w4, w5, w6]) (st2 := []) (h2 := q55.2) zm_X11_gains rfl rfl rfl rfl (decide_eq_false hc) ?_
              cases H
              exact zEv.ret zm_X11_gains rfl rfl rfl rfl
        · refine zEv.iteF (L2 := [some (vR (some (11, 0))), some (vI x1), some (vI x2), w3, w4, w5, w6]) (st2 := []) (h2 := q8.2) zm_X11_gains rfl hg rfl hg (decide_eq_false hc) ?_
          exact ev_X11_gains_34 (by omega)  H
    · refine zEv.iteF (L2 := [some (vR (some (11, 0))), some (vI x1), some (vI x2), w3, w4, w5, w6]) (st2 := []) (h2 := q8.2) zm_X11_gains rfl rfl rfl rfl (decide_eq_false hc) ?_
      cases H
      exact zEv.ret zm_X11_gains rfl rfl rfl rfl
def f_X11_far_53 (h : zM) : Option (Int32 × zM) := ((f_X11_meets 4 h).bind fun q55 => (some (q55.1, q55.2)))
set_option maxRecDepth 20000 in
theorem ev_X11_far_53 {d : Nat} (hd : 7 ≤ d) {w1 : Option zV} {w2 : Option zV} {h : zM} {r : Int32 × zM} (H : f_X11_far_53  h = some r) : zEv zmt d 202 53 ([some (vR (some (11, 0))), w1, w2], [], h, true) (some (vI r.1), r.2) := by
  obtain ⟨q55, hq, H⟩ := bnd H
  refine zEv.call (k := 128) (as := [vR (some (11, 0)), vI 4]) (L2 := [some (vR (some (11, 0))), w1, w2]) (st2 := []) (h2 := h) (v := some (vI q55.1)) (h1 := q55.2) (st3 := [vI q55.1]) zm_X11_far rfl rfl rfl rfl rfl zm_X11_meets rfl (by omega) (ev_X11_meets (by omega) hq) rfl ?_
  cases H
  exact zEv.ret zm_X11_far rfl rfl rfl rfl
def f_X11_far (x1 : Int32) (h : zM) : Option (Int32 × zM) := ((f_X11_askedRules x1 h).bind fun q2 => (if 0 ≤ q2.1 then ((f_X11_setList 1 q2.2).bind fun q14 => (if (rI q14 11 0 28) < 3 then (f_X11_far_53  q14) else (if (true && (true && (true && (true && (true && (decide (rR q14 11 0 29 = (some (45, 0))) && true)))))) = true then ((f_X11_worth (rI q14 45 0 (Int32.toNatClampNeg 1)) q14).bind fun q32 => (if (true && (true && (true && (ixOk 40 ((rI q32.2 11 0 28) - 1) && (true && (true && (decide (rR q32.2 11 0 29 = (some (45, 0))) && true))))))) = true then ((f_X11_worth (rI q32.2 45 0 (Int32.toNatClampNeg ((rI q32.2 11 0 28) - 1))) q32.2).bind fun q47 => (if ¬ q32.1 = q47.1 then (if (true && (true && (true && (true && (true && (decide (rR q47.2 11 0 29 = (some (45, 0))) && true)))))) = true then ((f_X11_worth (rI q47.2 45 0 (Int32.toNatClampNeg 0)) q47.2).bind fun q67 => (if (true && (true && (true && (true && (true && (decide (rR q67.2 11 0 29 = (some (45, 0))) && true)))))) = true then ((f_X11_worth (rI q67.2 45 0 (Int32.toNatClampNeg 1)) q67.2).bind fun q77 => (if (true && (true && (true && (true && (true && (decide (rR q77.2 11 0 29 = (some (45, 0))) && true)))))) = true then ((f_X11_worth (rI q77.2 45 0 (Int32.toNatClampNeg 1)) q77.2).bind fun q89 => (if (true && (true && (true && (ixOk 40 ((rI q89.2 11 0 28) - 1) && (true && (true && (decide (rR q89.2 11 0 29 = (some (45, 0))) && true))))))) = true then ((f_X11_worth (rI q89.2 45 0 (Int32.toNatClampNeg ((rI q89.2 11 0 28) - 1))) q89.2).bind fun q104 => ((f_X11_tell (Int32.toInt64 (q67.1 - q77.1)) (Int32.toInt64 (q89.1 - q104.1)) (rI q104.2 11 0 28) q104.2).bind fun q113 => (some (q113.1, q113.2)))) else none)) else none)) else none)) else none) else (f_X11_far_53  q47.2))) else none)) else none))) else (some (q2.1, q2.2))))
set_option maxRecDepth 20000 in
theorem ev_X11_far {d : Nat} (hd : 7 ≤ d) {w2 : Option zV} {x1 : Int32} {h : zM} {r : Int32 × zM} (H : f_X11_far x1 h = some r) : zEv zmt d 202 0 ([some (vR (some (11, 0))), some (vI x1), w2], [], h, true) (some (vI r.1), r.2) := by
  obtain ⟨q2, hq, H⟩ := bnd H
  refine zEv.call (k := 197) (as := [vR (some (11, 0)), vI x1]) (L2 := [some (vR (some (11, 0))), some (vI x1), w2]) (st2 := []) (h2 := h) (v := some (vI q2.1)) (h1 := q2.2) (st3 := [vI q2.1]) zm_X11_far rfl rfl rfl rfl rfl zm_X11_askedRules rfl (by omega) (ev_X11_askedRules (by omega) hq) rfl ?_
  rcases ifc H with ⟨hc, H⟩ | ⟨hc, H⟩
  · refine zEv.iteT (L2 := [some (vR (some (11, 0))), none, some (vI q2.1)]) (st2 := []) (h2 := q2.2) zm_X11_far rfl rfl rfl rfl (decide_eq_true hc) ?_
    obtain ⟨q14, hq, H⟩ := bnd H
    refine zEv.call (k := 196) (as := [vR (some (11, 0)), vI 1]) (L2 := [some (vR (some (11, 0))), none, some (vI q2.1)]) (st2 := []) (h2 := q2.2) (v := none) (h1 := q14) (st3 := []) zm_X11_far rfl rfl rfl rfl rfl zm_X11_setList rfl (by omega) (ev_X11_setList (by omega) hq) rfl ?_
    rcases ifc H with ⟨hc, H⟩ | ⟨hc, H⟩
    · refine zEv.iteT (L2 := [some (vR (some (11, 0))), none, some (vI q2.1)]) (st2 := []) (h2 := q14) zm_X11_far rfl rfl rfl rfl (decide_eq_true hc) ?_
      exact ev_X11_far_53 (by omega)  H
    · refine zEv.iteF (L2 := [some (vR (some (11, 0))), none, some (vI q2.1)]) (st2 := []) (h2 := q14) zm_X11_far rfl rfl rfl rfl (decide_eq_false hc) ?_
      obtain ⟨hg, H⟩ := ifg H
      obtain ⟨q32, hq, H⟩ := bnd H
      refine zEv.call (k := 195) (as := [vR (some (11, 0)), vI (rI q14 45 0 (Int32.toNatClampNeg 1))]) (L2 := [some (vR (some (11, 0))), none, some (vI q2.1)]) (st2 := []) (h2 := q14) (v := some (vI q32.1)) (h1 := q32.2) (st3 := [vI q32.1]) zm_X11_far rfl (and2 (and2 hg).2).2 rfl hg rfl zm_X11_worth rfl (by omega) (ev_X11_worth (by omega) hq) rfl ?_
      obtain ⟨hg, H⟩ := ifg H
      obtain ⟨q47, hq, H⟩ := bnd H
      refine zEv.call (k := 195) (as := [vR (some (11, 0)), vI (rI q32.2 45 0 (Int32.toNatClampNeg ((rI q32.2 11 0 28) - 1)))]) (L2 := [some (vR (some (11, 0))), none, some (vI q2.1)]) (st2 := [vI q32.1]) (h2 := q32.2) (v := some (vI q47.1)) (h1 := q47.2) (st3 := [vI q47.1, vI q32.1]) zm_X11_far rfl (and2 (and2 hg).2).2 rfl hg rfl zm_X11_worth rfl (by omega) (ev_X11_worth (by omega) hq) rfl ?_
      rcases ifc H with ⟨hc, H⟩ | ⟨hc, H⟩
      · refine zEv.iteT (L2 := [some (vR (some (11, 0))), none, some (vI q2.1)]) (st2 := []) (h2 := q47.2) zm_X11_far rfl rfl rfl rfl (decide_eq_true hc) ?_
        obtain ⟨hg, H⟩ := ifg H
        obtain ⟨q67, hq, H⟩ := bnd H
        refine zEv.call (k := 195) (as := [vR (some (11, 0)), vI (rI q47.2 45 0 (Int32.toNatClampNeg 0))]) (L2 := [some (vR (some (11, 0))), none, some (vI q2.1)]) (st2 := [vR (some (11, 0))]) (h2 := q47.2) (v := some (vI q67.1)) (h1 := q67.2) (st3 := [vI q67.1, vR (some (11, 0))]) zm_X11_far rfl (and2 (and2 hg).2).2 rfl hg rfl zm_X11_worth rfl (by omega) (ev_X11_worth (by omega) hq) rfl ?_
        obtain ⟨hg, H⟩ := ifg H
        obtain ⟨q77, hq, H⟩ := bnd H
        refine zEv.call (k := 195) (as := [vR (some (11, 0)), vI (rI q67.2 45 0 (Int32.toNatClampNeg 1))]) (L2 := [some (vR (some (11, 0))), none, some (vI q2.1)]) (st2 := [vI q67.1, vR (some (11, 0))]) (h2 := q67.2) (v := some (vI q77.1)) (h1 := q77.2) (st3 := [vI q77.1, vI q67.1, vR (some (11, 0))]) zm_X11_far rfl (and2 (and2 hg).2).2 rfl hg rfl zm_X11_worth rfl (by omega) (ev_X11_worth (by omega) hq) rfl ?_
        obtain ⟨hg, H⟩ := ifg H
        obtain ⟨q89, hq, H⟩ := bnd H
        refine zEv.call (k := 195) (as := [vR (some (11, 0)), vI (rI q77.2 45 0 (Int32.toNatClampNeg 1))]) (L2 := [some (vR (some (11, 0))), none, some (vI q2.1)]) (st2 := [vL (Int32.toInt64 (q67.1 - q77.1)), vR (some (11, 0))]) (h2 := q77.2) (v := some (vI q89.1)) (h1 := q89.2) (st3 := [vI q89.1, vL (Int32.toInt64 (q67.1 - q77.1)), vR (some (11, 0))]) zm_X11_far rfl (and2 (and2 hg).2).2 rfl hg rfl zm_X11_worth rfl (by omega) (ev_X11_worth (by omega) hq) rfl ?_
        obtain ⟨hg, H⟩ := ifg H
        obtain ⟨q104, hq, H⟩ := bnd H
        refine zEv.call (k := 195) (as := [vR (some (11, 0)), vI (rI q89.2 45 0 (Int32.toNatClampNeg ((rI q89.2 11 0 28) - 1)))]) (L2 := [some (vR (some (11, 0))), none, some (vI q2.1)]) (st2 := [vI q89.1, vL (Int32.toInt64 (q67.1 - q77.1)), vR (some (11, 0))]) (h2 := q89.2) (v := some (vI q104.1)) (h1 := q104.2) (st3 := [vI q104.1, vI q89.1, vL (Int32.toInt64 (q67.1 - q77.1)), vR (some (11, 0))]) zm_X11_far rfl (and2 (and2 hg).2).2 rfl hg rfl zm_X11_worth rfl (by omega) (ev_X11_worth (by omega) hq) rfl ?_
        obtain ⟨q113, hq, H⟩ := bnd H
        refine zEv.call (k := 130) (as := [vR (some (11, 0)), vL (Int32.toInt64 (q67.1 - q77.1)), vL (Int32.toInt64 (q89.1 - q104.1)), vI (rI q104.2 11 0 28)]) (L2 := [some (vR (some (11, 0))), none, some (vI q2.1)]) (st2 := []) (h2 := q104.2) (v := some (vI q113.1)) (h1 := q113.2) (st3 := [vI q113.1]) zm_X11_far rfl rfl rfl rfl rfl zm_X11_tell rfl (by omega) (ev_X11_tell (by omega) hq) rfl ?_
        cases H
        exact zEv.ret zm_X11_far rfl rfl rfl rfl
      · refine zEv.iteF (L2 := [some (vR (some (11, 0))), none, some (vI q2.1)]) (st2 := []) (h2 := q47.2) zm_X11_far rfl rfl rfl rfl (decide_eq_false hc) ?_
        exact ev_X11_far_53 (by omega)  H
  · refine zEv.iteF (L2 := [some (vR (some (11, 0))), none, some (vI q2.1)]) (st2 := []) (h2 := q2.2) zm_X11_far rfl rfl rfl rfl (decide_eq_false hc) ?_
    cases H
    exact zEv.ret zm_X11_far rfl rfl rfl rfl
def f_X11_fall_36 (h : zM) : Option (Int32 × zM) := (some ((-1), h))
set_option maxRecDepth 20000 in
theorem ev_X11_fall_36 {d : Nat} (hd : 1 ≤ d) {w0 : Option zV} {w1 : Option zV} {w2 : Option zV} {h : zM} {r : Int32 × zM} (H : f_X11_fall_36  h = some r) : zEv zmt d 203 36 ([w0, w1, w2], [], h, true) (some (vI r.1), r.2) := by
  refine zEv.loc (L2 := [w0, w1, w2]) (st2 := [vI (-1)]) (h2 := h) zm_X11_fall rfl rfl rfl rfl (fun h => (nomatch h)) ?_
  cases H
  exact zEv.ret zm_X11_fall rfl rfl rfl rfl
def f_X11_fall (x1 : Int32) (x2 : Int32) (h : zM) : Option (Int32 × zM) := ((f_X11_in x1 0 9999 h).bind fun q5 => (if q5.1 = 0 then (f_X11_fall_36  q5.2) else ((f_X11_in x2 1 9999 q5.2).bind fun q16 => (if q16.1 = 0 then (f_X11_fall_36  q16.2) else ((f_X11_tell (Int32.toInt64 x2) (Int32.toInt64 (x1 + x2)) 1 q16.2).bind fun q30 => (some (q30.1, q30.2)))))))
set_option maxRecDepth 20000 in
theorem ev_X11_fall {d : Nat} (hd : 1 ≤ d) {x1 : Int32} {x2 : Int32} {h : zM} {r : Int32 × zM} (H : f_X11_fall x1 x2 h = some r) : zEv zmt d 203 0 ([some (vR (some (11, 0))), some (vI x1), some (vI x2)], [], h, true) (some (vI r.1), r.2) := by
  obtain ⟨q5, hq, H⟩ := bnd H
  refine zEv.call (k := 127) (as := [vI x1, vI 0, vI 9999]) (L2 := [some (vR (some (11, 0))), some (vI x1), some (vI x2)]) (st2 := []) (h2 := h) (v := some (vI q5.1)) (h1 := q5.2) (st3 := [vI q5.1]) zm_X11_fall rfl rfl rfl rfl rfl zm_X11_in rfl (by omega) (ev_X11_in (by omega) hq) rfl ?_
  rcases ifc H with ⟨hc, H⟩ | ⟨hc, H⟩
  · refine zEv.iteT (L2 := [some (vR (some (11, 0))), some (vI x1), some (vI x2)]) (st2 := []) (h2 := q5.2) zm_X11_fall rfl rfl rfl rfl (decide_eq_true hc) ?_
    exact ev_X11_fall_36 (by omega)  H
  · refine zEv.iteF (L2 := [some (vR (some (11, 0))), some (vI x1), some (vI x2)]) (st2 := []) (h2 := q5.2) zm_X11_fall rfl rfl rfl rfl (decide_eq_false hc) ?_
    obtain ⟨q16, hq, H⟩ := bnd H
    refine zEv.call (k := 127) (as := [vI x2, vI 1, vI 9999]) (L2 := [some (vR (some (11, 0))), some (vI x1), some (vI x2)]) (st2 := []) (h2 := q5.2) (v := some (vI q16.1)) (h1 := q16.2) (st3 := [vI q16.1]) zm_X11_fall rfl rfl rfl rfl rfl zm_X11_in rfl (by omega) (ev_X11_in (by omega) hq) rfl ?_
    rcases ifc H with ⟨hc, H⟩ | ⟨hc, H⟩
    · refine zEv.iteT (L2 := [some (vR (some (11, 0))), some (vI x1), some (vI x2)]) (st2 := []) (h2 := q16.2) zm_X11_fall rfl rfl rfl rfl (decide_eq_true hc) ?_
      exact ev_X11_fall_36 (by omega)  H
    · refine zEv.iteF (L2 := [some (vR (some (11, 0))), some (vI x1), some (vI x2)]) (st2 := []) (h2 := q16.2) zm_X11_fall rfl rfl rfl rfl (decide_eq_false hc) ?_
      obtain ⟨q30, hq, H⟩ := bnd H
      refine zEv.call (k := 130) (as := [vR (some (11, 0)), vL (Int32.toInt64 x2), vL (Int32.toInt64 (x1 + x2)), vI 1]) (L2 := [some (vR (some (11, 0))), some (vI x1), some (vI x2)]) (st2 := []) (h2 := q16.2) (v := some (vI q30.1)) (h1 := q30.2) (st3 := [vI q30.1]) zm_X11_fall rfl rfl rfl rfl rfl zm_X11_tell rfl (by omega) (ev_X11_tell (by omega) hq) rfl ?_
      refine zEv.loc (L2 := [some (vR (some (11, 0))), some (vI x1), some (vI x2)]) (st2 := [vI q30.1]) (h2 := q30.2) zm_X11_fall rfl rfl rfl rfl (fun h => (nomatch h)) ?_
      cases H
      exact zEv.ret zm_X11_fall rfl rfl rfl rfl
