def f_X1_greatestAtHome_11 : Nat → zR → zR → Int32 → Int32 → Int32 → zM → Option (Int32 × zM)
  | 0 => fun _ _ _ _ _ _ => none
  | k + 1 => fun x0 x1 x2 x3 x4 h => (if (memN [2] (clR x1) && true) = true then (if ¬ (rI h (clR x1) (ixR x1) 5) = (-9999) then (some (x3, h)) else (if 20 < x4 then (some (x3, h)) else (if (memN [1] (clR x0) && (true && true)) = true then ((f_X1_windGiven x0 x4 h).bind fun q33 => (f_X1_greatestAtHome_11 k x0 x1 x2 (if x3 < (x2 - q33.1) then (x2 - q33.1) else x3) (x4 + 1) q33.2)) else none))) else none)
set_option maxRecDepth 20000 in
theorem ev_X1_greatestAtHome_11 {d : Nat} (hd : 4 ≤ d) : ∀ (k : Nat) {x0 : zR} {x1 : zR} {x2 : Int32} {x3 : Int32} {x4 : Int32} {h : zM} {r : Int32 × zM}, f_X1_greatestAtHome_11 k x0 x1 x2 x3 x4 h = some r → zEv zmt d 15 11 ([some (vR x0), some (vR x1), some (vI x2), some (vI x3), some (vI x4)], [], h, true) (some (vI r.1), r.2) := by
  intro k
  induction k with
  | zero => intro x0 x1 x2 x3 x4 h r H; cases H
  | succ k ih =>
    intro x0 x1 x2 x3 x4 h r H
    obtain ⟨hg, H⟩ := ifg H
    rcases ifc H with ⟨hc, H⟩ | ⟨hc, H⟩
    · refine zEv.iteT (L2 := [some (vR x0), some (vR x1), some (vI x2), some (vI x3), some (vI x4)]) (st2 := []) (h2 := h) zm_X1_greatestAtHome rfl hg rfl hg (decide_eq_true hc) ?_
      cases H
      exact zEv.ret zm_X1_greatestAtHome rfl rfl rfl rfl
    · refine zEv.iteF (L2 := [some (vR x0), some (vR x1), some (vI x2), some (vI x3), some (vI x4)]) (st2 := []) (h2 := h) zm_X1_greatestAtHome rfl hg rfl hg (decide_eq_false hc) ?_
      rcases ifc H with ⟨hc, H⟩ | ⟨hc, H⟩
      · refine zEv.iteT (L2 := [some (vR x0), some (vR x1), some (vI x2), some (vI x3), some (vI x4)]) (st2 := []) (h2 := h) zm_X1_greatestAtHome rfl rfl rfl rfl (decide_eq_true hc) ?_
        cases H
        exact zEv.ret zm_X1_greatestAtHome rfl rfl rfl rfl
      · refine zEv.iteF (L2 := [some (vR x0), some (vR x1), some (vI x2), some (vI x3), some (vI x4)]) (st2 := []) (h2 := h) zm_X1_greatestAtHome rfl rfl rfl rfl (decide_eq_false hc) ?_
        obtain ⟨hg, H⟩ := ifg H
        obtain ⟨q33, hq, H⟩ := bnd H
        refine zEv.call (k := 11) (as := [vR x0, vI x4]) (L2 := [some (vR x0), some (vR x1), some (vI x2), some (vI x3), some (vI x4)]) (st2 := [vI x2, vI x3]) (h2 := h) (v := some (vI q33.1)) (h1 := q33.2) (st3 := [vI q33.1, vI x2, vI x3]) zm_X1_greatestAtHome rfl (and2 (and2 hg).2).2 rfl hg rfl zm_X1_windGiven rfl (by omega) (ev_X1_windGiven (by omega) hq) rfl ?_
        refine zEv.loc (L2 := [some (vR x0), some (vR x1), some (vI x2), some (vI x3), some (vI x4)]) (st2 := [vI (if x3 < (x2 - q33.1) then (x2 - q33.1) else x3)]) (h2 := q33.2) zm_X1_greatestAtHome rfl rfl rfl rfl (fun _ => by omega) ?_
        refine zEv.loc (L2 := [some (vR x0), some (vR x1), some (vI x2), some (vI (if x3 < (x2 - q33.1) then (x2 - q33.1) else x3)), some (vI (x4 + 1))]) (st2 := []) (h2 := q33.2) zm_X1_greatestAtHome rfl rfl rfl rfl (fun h => (nomatch h)) ?_
        exact ih H
def f_X1_greatestAtHome (x0 : zR) (x1 : zR) (h : zM) : Option (Int32 × zM) := (if (memN [1] (clR x0) && (true && true)) = true then ((f_X1_valueAtHome x0 x1 h).bind fun q2 => (f_X1_greatestAtHome_11  1000 x0 x1 q2.1 q2.1 1 q2.2)) else none)
set_option maxRecDepth 20000 in
theorem ev_X1_greatestAtHome {d : Nat} (hd : 4 ≤ d) {w2 : Option zV} {w3 : Option zV} {w4 : Option zV} {x0 : zR} {x1 : zR} {h : zM} {r : Int32 × zM} (H : f_X1_greatestAtHome x0 x1 h = some r) : zEv zmt d 15 0 ([some (vR x0), some (vR x1), w2, w3, w4], [], h, true) (some (vI r.1), r.2) := by
  obtain ⟨hg, H⟩ := ifg H
  obtain ⟨q2, hq, H⟩ := bnd H
  refine zEv.call (k := 13) (as := [vR x0, vR x1]) (L2 := [some (vR x0), some (vR x1), w2, w3, w4]) (st2 := []) (h2 := h) (v := some (vI q2.1)) (h1 := q2.2) (st3 := [vI q2.1]) zm_X1_greatestAtHome rfl (and2 (and2 hg).2).2 rfl hg rfl zm_X1_valueAtHome rfl (by omega) (ev_X1_valueAtHome (by omega) hq) rfl ?_
  refine zEv.loc (L2 := [some (vR x0), some (vR x1), some (vI q2.1), some (vI q2.1), some (vI 1)]) (st2 := []) (h2 := q2.2) zm_X1_greatestAtHome rfl rfl rfl rfl (fun h => (nomatch h)) ?_
  exact ev_X1_greatestAtHome_11 (by omega)  1000 H
def f_X1_firstBelowNought_12 : Nat → zR → Int32 → Int32 → Int32 → Int32 → zM → Option (Int32 × zM)
  | 0 => fun _ _ _ _ _ _ => none
  | k + 1 => fun x0 x1 x2 x3 x4 h => (if x2 < x4 then (some ((-9999), h)) else (if x3 ≤ 0 then (some ((-9999), h)) else (if (!decide (x3 = 0) && (true && (ixOk 10 x1 && (memN [1] (clR x0) && (decide (rR h (clR x0) (ixR x0) 0 = (some (20, (ixR x0)))) && true))))) = true then (if (x4 / x3) ≤ (rI h 20 (ixR x0) (Int32.toNatClampNeg x1)) then (f_X1_firstBelowNought_12 k x0 x1 x2 x3 (x4 + 1) h) else (some (x4, h))) else none)))
set_option maxRecDepth 20000 in
theorem ev_X1_firstBelowNought_12 {d : Nat} (hd : 0 ≤ d) : ∀ (k : Nat) {x0 : zR} {x1 : Int32} {x2 : Int32} {x3 : Int32} {x4 : Int32} {h : zM} {r : Int32 × zM}, f_X1_firstBelowNought_12 k x0 x1 x2 x3 x4 h = some r → zEv zmt d 16 12 ([some (vR x0), some (vI x1), some (vI x2), some (vI x3), some (vI x4)], [], h, true) (some (vI r.1), r.2) := by
  intro k
  induction k with
  | zero => intro x0 x1 x2 x3 x4 h r H; cases H
  | succ k ih =>
    intro x0 x1 x2 x3 x4 h r H
    rcases ifc H with ⟨hc, H⟩ | ⟨hc, H⟩
    · refine zEv.iteT (L2 := [some (vR x0), some (vI x1), some (vI x2), some (vI x3), some (vI x4)]) (st2 := []) (h2 := h) zm_X1_firstBelowNought rfl rfl rfl rfl (decide_eq_true hc) ?_
      cases H
      exact zEv.ret zm_X1_firstBelowNought rfl rfl rfl rfl
    · refine zEv.iteF (L2 := [some (vR x0), some (vI x1), some (vI x2), some (vI x3), some (vI x4)]) (st2 := []) (h2 := h) zm_X1_firstBelowNought rfl rfl rfl rfl (decide_eq_false hc) ?_
      rcases ifc H with ⟨hc, H⟩ | ⟨hc, H⟩
      · refine zEv.iteT (L2 := [some (vR x0), some (vI x1), some (vI x2), some (vI x3), some (vI x4)]) (st2 := []) (h2 := h) zm_X1_firstBelowNought rfl rfl rfl rfl (decide_eq_true hc) ?_
        cases H
        exact zEv.ret zm_X1_firstBelowNought rfl rfl rfl rfl
      · refine zEv.iteF (L2 := [some (vR x0), some (vI x1), some (vI x2), some (vI x3), some (vI x4)]) (st2 := []) (h2 := h) zm_X1_firstBelowNought rfl rfl rfl rfl (decide_eq_false hc) ?_
        obtain ⟨hg, H⟩ := ifg H
        rcases ifc H with ⟨hc, H⟩ | ⟨hc, H⟩
        · refine zEv.iteT (L2 := [some (vR x0), some (vI x1), some (vI x2), some (vI x3), some (vI x4)]) (st2 := []) (h2 := h) zm_X1_firstBelowNought rfl hg rfl hg (decide_eq_true hc) ?_
          refine zEv.loc (L2 := [some (vR x0), some (vI x1), some (vI x2), some (vI x3), some (vI (x4 + 1))]) (st2 := []) (h2 := h) zm_X1_firstBelowNought rfl rfl rfl rfl (fun h => (nomatch h)) ?_
          exact ih H
        · refine zEv.iteF (L2 := [some (vR x0), some (vI x1), some (vI x2), some (vI x3), some (vI x4)]) (st2 := []) (h2 := h) zm_X1_firstBelowNought rfl hg rfl hg (decide_eq_false hc) ?_
          cases H
          exact zEv.ret zm_X1_firstBelowNought rfl rfl rfl rfl
def f_X1_firstBelowNought (x0 : zR) (x1 : Int32) (x2 : Int32) (h : zM) : Option (Int32 × zM) := (if (true && (true && (true && (ixOk 10 (x1 + 1) && (memN [1] (clR x0) && (decide (rR h (clR x0) (ixR x0) 0 = (some (20, (ixR x0)))) && true)))))) = true then (f_X1_firstBelowNought_12  1000 x0 x1 x2 (rI h 20 (ixR x0) (Int32.toNatClampNeg (x1 + 1))) 1 h) else none)
set_option maxRecDepth 20000 in
theorem ev_X1_firstBelowNought {d : Nat} (hd : 0 ≤ d) {w3 : Option zV} {w4 : Option zV} {x0 : zR} {x1 : Int32} {x2 : Int32} {h : zM} {r : Int32 × zM} (H : f_X1_firstBelowNought x0 x1 x2 h = some r) : zEv zmt d 16 0 ([some (vR x0), some (vI x1), some (vI x2), w3, w4], [], h, true) (some (vI r.1), r.2) := by
  obtain ⟨hg, H⟩ := ifg H
  refine zEv.loc (L2 := [some (vR x0), some (vI x1), some (vI x2), some (vI (rI h 20 (ixR x0) (Int32.toNatClampNeg (x1 + 1)))), some (vI 1)]) (st2 := []) (h2 := h) zm_X1_firstBelowNought rfl hg rfl hg (fun h => (nomatch h)) ?_
  exact ev_X1_firstBelowNought_12 (by omega)  1000 H
def f_X1_mixInto_5 : Nat → zR → Int64 → Int32 → zM → Option (Int64 × zM)
  | 0 => fun _ _ _ _ => none
  | k + 1 => fun x0 x3 x5 h => (if 10 ≤ x5 then (some (x3, h)) else (if (true && (true && (ixOk 10 x5 && (memN [1] (clR x0) && (decide (rR h (clR x0) (ixR x0) 0 = (some (20, (ixR x0)))) && true))))) = true then (f_X1_mixInto_5 k x0 ((31 * x3) + (Int32.toInt64 (rI h 20 (ixR x0) (Int32.toNatClampNeg x5)))) (x5 + 1) h) else none))
set_option maxRecDepth 20000 in
theorem ev_X1_mixInto_5 {d : Nat} (hd : 0 ≤ d) : ∀ (k : Nat) {w1 : Option zV} {w2 : Option zV} {w4 : Option zV} {x0 : zR} {x3 : Int64} {x5 : Int32} {h : zM} {r : Int64 × zM}, f_X1_mixInto_5 k x0 x3 x5 h = some r → zEv zmt d 17 5 ([some (vR x0), w1, w2, some (vL x3), w4, some (vI x5)], [], h, true) (some (vL r.1), r.2) := by
  intro k
  induction k with
  | zero => intro w1 w2 w4 x0 x3 x5 h r H; cases H
  | succ k ih =>
    intro w1 w2 w4 x0 x3 x5 h r H
    rcases ifc H with ⟨hc, H⟩ | ⟨hc, H⟩
    · refine zEv.iteT (L2 := [some (vR x0), w1, w2, some (vL x3), w4, some (vI x5)]) (st2 := []) (h2 := h) zm_X1_mixInto rfl rfl rfl rfl (decide_eq_true hc) ?_
      cases H
      exact zEv.ret zm_X1_mixInto rfl rfl rfl rfl
    · refine zEv.iteF (L2 := [some (vR x0), w1, w2, some (vL x3), w4, some (vI x5)]) (st2 := []) (h2 := h) zm_X1_mixInto rfl rfl rfl rfl (decide_eq_false hc) ?_
      obtain ⟨hg, H⟩ := ifg H
      refine zEv.loc (L2 := [some (vR x0), w1, none, some (vL ((31 * x3) + (Int32.toInt64 (rI h 20 (ixR x0) (Int32.toNatClampNeg x5))))), none, some (vI (x5 + 1))]) (st2 := []) (h2 := h) zm_X1_mixInto rfl hg rfl hg (fun h => (nomatch h)) ?_
      exact ih H
def f_X1_mixInto (x0 : zR) (x1 : Int64) (h : zM) : Option (Int64 × zM) := (f_X1_mixInto_5  1000 x0 x1 0 h)
set_option maxRecDepth 20000 in
theorem ev_X1_mixInto {d : Nat} (hd : 0 ≤ d) {w2 : Option zV} {w3 : Option zV} {w4 : Option zV} {w5 : Option zV} {x0 : zR} {x1 : Int64} {h : zM} {r : Int64 × zM} (H : f_X1_mixInto x0 x1 h = some r) : zEv zmt d 17 0 ([some (vR x0), some (vL x1), w2, w3, w4, w5], [], h, true) (some (vL r.1), r.2) := by
  refine zEv.loc (L2 := [some (vR x0), some (vL x1), none, some (vL x1), none, some (vI 0)]) (st2 := []) (h2 := h) zm_X1_mixInto rfl rfl rfl rfl (fun h => (nomatch h)) ?_
  exact ev_X1_mixInto_5 (by omega)  1000 H
def f_X2_init (x0 : zR) (x1 : Int32) (x2 : Int32) (x3 : zR) (x4 : Int32) (x5 : Int32) (x6 : Int32) (x7 : Int32) (h : zM) : Option (zM) := (if (Nat.blt (clR x0) 99 && (true && true)) = true then (if (memN [2] (clR x0) && (memN [2] (clR x0) && (memN [2] (clR x0) && (memN [2] (clR x0) && (memN [2] (clR x0) && (memN [2] (clR x0) && (memN [2] (clR x0) && true))))))) = true then (some (wI (wI (wI (wI (wR (wI (wI h (clR x0) (ixR x0) 0 x1) (clR x0) (ixR x0) 1 x2) (clR x0) (ixR x0) 2 x3) (clR x0) (ixR x0) 3 x4) (clR x0) (ixR x0) 4 x5) (clR x0) (ixR x0) 5 x6) (clR x0) (ixR x0) 6 x7)) else none) else none)
set_option maxRecDepth 20000 in
theorem ev_X2_init {d : Nat} (hd : 1 ≤ d) {x0 : zR} {x1 : Int32} {x2 : Int32} {x3 : zR} {x4 : Int32} {x5 : Int32} {x6 : Int32} {x7 : Int32} {h : zM} {r : zM} (H : f_X2_init x0 x1 x2 x3 x4 x5 x6 x7 h = some r) : zEv zmt d 18 0 ([some (vR x0), some (vI x1), some (vI x2), some (vR x3), some (vI x4), some (vI x5), some (vI x6), some (vI x7)], [], h, true) (none, r) := by
  obtain ⟨hg, H⟩ := ifg H
  refine zEv.loc (L2 := [some (vR x0), some (vI x1), some (vI x2), some (vR x3), some (vI x4), some (vI x5), some (vI x6), some (vI x7)]) (st2 := []) (h2 := h) zm_X2_init rfl (and2 (and2 hg).2).2 rfl hg (fun _ => by omega) ?_
  obtain ⟨hg, H⟩ := ifg H
  cases H
  exact zEv.ret zm_X2_init rfl hg rfl hg
def f_X2_turnInto (x0 : zR) (x1 : Int32) (x2 : Int32) (x3 : Int32) (h : zM) : Option (zM) := (if (memN [2] (clR x0) && (memN [2] (clR x0) && (memN [2] (clR x0) && true))) = true then (some (wI (wI (wI h (clR x0) (ixR x0) 7 x1) (clR x0) (ixR x0) 8 x2) (clR x0) (ixR x0) 9 x3)) else none)
set_option maxRecDepth 20000 in
theorem ev_X2_turnInto {d : Nat} (hd : 0 ≤ d) {x0 : zR} {x1 : Int32} {x2 : Int32} {x3 : Int32} {h : zM} {r : zM} (H : f_X2_turnInto x0 x1 x2 x3 h = some r) : zEv zmt d 19 0 ([some (vR x0), some (vI x1), some (vI x2), some (vI x3)], [], h, true) (none, r) := by
  obtain ⟨hg, H⟩ := ifg H
  cases H
  exact zEv.ret zm_X2_turnInto rfl hg rfl hg
def f_X2_isHelped_24 (h : zM) : Option (Int32 × zM) := (some (1, h))
set_option maxRecDepth 20000 in
theorem ev_X2_isHelped_24 {d : Nat} (hd : 0 ≤ d) {w0 : Option zV} {h : zM} {r : Int32 × zM} (H : f_X2_isHelped_24  h = some r) : zEv zmt d 20 24 ([w0], [], h, true) (some (vI r.1), r.2) := by
  refine zEv.loc (L2 := [w0]) (st2 := [vI 1]) (h2 := h) zm_X2_isHelped rfl rfl rfl rfl (fun h => (nomatch h)) ?_
  cases H
  exact zEv.ret zm_X2_isHelped rfl rfl rfl rfl
def f_X2_isHelped (x0 : zR) (h : zM) : Option (Int32 × zM) := (if (memN [2] (clR x0) && true) = true then (if (rI h (clR x0) (ixR x0) 7) = 1 then (f_X2_isHelped_24  h) else (if (memN [2] (clR x0) && true) = true then (if (rI h (clR x0) (ixR x0) 7) = 2 then (f_X2_isHelped_24  h) else (if (memN [2] (clR x0) && true) = true then (if ¬ (rI h (clR x0) (ixR x0) 7) = 3 then (some (0, h)) else (f_X2_isHelped_24  h)) else none)) else none)) else none)
set_option maxRecDepth 20000 in
theorem ev_X2_isHelped {d : Nat} (hd : 0 ≤ d) {x0 : zR} {h : zM} {r : Int32 × zM} (H : f_X2_isHelped x0 h = some r) : zEv zmt d 20 0 ([some (vR x0)], [], h, true) (some (vI r.1), r.2) := by
  obtain ⟨hg, H⟩ := ifg H
  rcases ifc H with ⟨hc, H⟩ | ⟨hc, H⟩
  · refine zEv.iteT (L2 := [some (vR x0)]) (st2 := []) (h2 := h) zm_X2_isHelped rfl hg rfl hg (decide_eq_true hc) ?_
    exact ev_X2_isHelped_24 (by omega)  H
  · refine zEv.iteF (L2 := [some (vR x0)]) (st2 := []) (h2 := h) zm_X2_isHelped rfl hg rfl hg (decide_eq_false hc) ?_
    obtain ⟨hg, H⟩ := ifg H
    rcases ifc H with ⟨hc, H⟩ | ⟨hc, H⟩
    · refine zEv.iteT (L2 := [some (vR x0)]) (st2 := []) (h2 := h) zm_X2_isHelped rfl hg rfl hg (decide_eq_true hc) ?_
      exact ev_X2_isHelped_24 (by omega)  H
    · refine zEv.iteF (L2 := [some (vR x0)]) (st2 := []) (h2 := h) zm_X2_isHelped rfl hg rfl hg (decide_eq_false hc) ?_
      obtain ⟨hg, H⟩ := ifg H
      rcases ifc H with ⟨hc, H⟩ | ⟨hc, H⟩
      · refine zEv.iteT (L2 := [some (vR x0)]) (st2 := []) (h2 := h) zm_X2_isHelped rfl hg rfl hg (decide_eq_true hc) ?_
        refine zEv.loc (L2 := [some (vR x0)]) (st2 := [vI 0]) (h2 := h) zm_X2_isHelped rfl rfl rfl rfl (fun h => (nomatch h)) ?_
        cases H
        exact zEv.ret zm_X2_isHelped rfl rfl rfl rfl
      · refine zEv.iteF (L2 := [some (vR x0)]) (st2 := []) (h2 := h) zm_X2_isHelped rfl hg rfl hg (decide_eq_false hc) ?_
        exact ev_X2_isHelped_24 (by omega)  H
def f_X2_part (x0 : zR) (x1 : Int32) (h : zM) : Option (Int32 × zM) := (if x1 = 0 then (if (memN [2] (clR x0) && true) = true then (some ((rI h (clR x0) (ixR x0) 7), h)) else none) else (if x1 = 1 then (if (memN [2] (clR x0) && true) = true then (some ((rI h (clR x0) (ixR x0) 0), h)) else none) else (if x1 = 2 then (if (memN [2] (clR x0) && true) = true then (some ((rI h (clR x0) (ixR x0) 1), h)) else none) else (if x1 = 3 then (if (memN [2] (clR x0) && true) = true then (some ((rI h (clR x0) (ixR x0) 3), h)) else none) else (if x1 = 4 then (if (memN [2] (clR x0) && true) = true then (some ((rI h (clR x0) (ixR x0) 4), h)) else none) else (if x1 = 5 then (if (memN [2] (clR x0) && true) = true then (some ((rI h (clR x0) (ixR x0) 5), h)) else none) else (if (memN [2] (clR x0) && true) = true then (some ((rI h (clR x0) (ixR x0) 6), h)) else none)))))))
set_option maxRecDepth 20000 in
theorem ev_X2_part {d : Nat} (hd : 0 ≤ d) {x0 : zR} {x1 : Int32} {h : zM} {r : Int32 × zM} (H : f_X2_part x0 x1 h = some r) : zEv zmt d 21 0 ([some (vR x0), some (vI x1)], [], h, true) (some (vI r.1), r.2) := by
  rcases ifc H with ⟨hc0, H⟩ | ⟨hc0, H⟩
  · refine zEv.sw (x := swL 0 5 [40, 45, 50, 55, 60, 65] 70 (x1)) (L2 := [some (vR x0), some (vI x1)]) (st2 := []) (h2 := h) zm_X2_part rfl rfl rfl rfl (lab' := 40) (by rw [hc0]; decide) ?_
    obtain ⟨hg, H⟩ := ifg H
    cases H
    exact zEv.ret zm_X2_part rfl hg rfl hg
  rcases ifc H with ⟨hc1, H⟩ | ⟨hc1, H⟩
  · refine zEv.sw (x := swL 0 5 [40, 45, 50, 55, 60, 65] 70 (x1)) (L2 := [some (vR x0), some (vI x1)]) (st2 := []) (h2 := h) zm_X2_part rfl rfl rfl rfl (lab' := 45) (by rw [hc1]; decide) ?_
    obtain ⟨hg, H⟩ := ifg H
    cases H
    exact zEv.ret zm_X2_part rfl hg rfl hg
  rcases ifc H with ⟨hc2, H⟩ | ⟨hc2, H⟩
  · refine zEv.sw (x := swL 0 5 [40, 45, 50, 55, 60, 65] 70 (x1)) (L2 := [some (vR x0), some (vI x1)]) (st2 := []) (h2 := h) zm_X2_part rfl rfl rfl rfl (lab' := 50) (by rw [hc2]; decide) ?_
    obtain ⟨hg, H⟩ := ifg H
    cases H
    exact zEv.ret zm_X2_part rfl hg rfl hg
  rcases ifc H with ⟨hc3, H⟩ | ⟨hc3, H⟩
  · refine zEv.sw (x := swL 0 5 [40, 45, 50, 55, 60, 65] 70 (x1)) (L2 := [some (vR x0), some (vI x1)]) (st2 := []) (h2 := h) zm_X2_part rfl rfl rfl rfl (lab' := 55) (by rw [hc3]; decide) ?_
    obtain ⟨hg, H⟩ := ifg H
    cases H
    exact zEv.ret zm_X2_part rfl hg rfl hg
  rcases ifc H with ⟨hc4, H⟩ | ⟨hc4, H⟩
  · refine zEv.sw (x := swL 0 5 [40, 45, 50, 55, 60, 65] 70 (x1)) (L2 := [some (vR x0), some (vI x1)]) (st2 := []) (h2 := h) zm_X2_part rfl rfl rfl rfl (lab' := 60) (by rw [hc4]; decide) ?_
    obtain ⟨hg, H⟩ := ifg H
    cases H
    exact zEv.ret zm_X2_part rfl hg rfl hg
  rcases ifc H with ⟨hc5, H⟩ | ⟨hc5, H⟩
  · refine zEv.sw (x := swL 0 5 [40, 45, 50, 55, 60, 65] 70 (x1)) (L2 := [some (vR x0), some (vI x1)]) (st2 := []) (h2 := h) zm_X2_part rfl rfl rfl rfl (lab' := 65) (by rw [hc5]; decide) ?_
    obtain ⟨hg, H⟩ := ifg H
    cases H
    exact zEv.ret zm_X2_part rfl hg rfl hg
  have hout : ∀ j, j < 6 → ¬ x1 = Int32.ofNat j := by
    intro j hj
    rcases (show j = 0 ∨ j = 1 ∨ j = 2 ∨ j = 3 ∨ j = 4 ∨ j = 5 by omega) with rfl | rfl | rfl | rfl | rfl | rfl
    · exact hc0
    · exact hc1
    · exact hc2
    · exact hc3
    · exact hc4
    · exact hc5
  refine zEv.sw (x := swL 0 5 [40, 45, 50, 55, 60, 65] 70 (x1)) (L2 := [some (vR x0), some (vI x1)]) (st2 := []) (h2 := h) zm_X2_part rfl rfl rfl rfl (lab' := 70) (swOut (n := 6) (by decide) hout) ?_
  obtain ⟨hg, H⟩ := ifg H
  cases H
  exact zEv.ret zm_X2_part rfl hg rfl hg
def f_X2_measure (x0 : zR) (x1 : Int32) (h : zM) : Option (Int32 × zM) := (if x1 = 0 then (if (memN [2] (clR x0) && true) = true then (some ((rI h (clR x0) (ixR x0) 5), h)) else none) else (if x1 = 1 then (if (memN [3] (clR (rR h (clR x0) (ixR x0) 2)) && (memN [2] (clR x0) && true)) = true then (some ((rI h (clR (rR h (clR x0) (ixR x0) 2)) (ixR (rR h (clR x0) (ixR x0) 2)) 0), h)) else none) else (if x1 = 2 then (if (memN [3] (clR (rR h (clR x0) (ixR x0) 2)) && (memN [2] (clR x0) && true)) = true then (some ((rI h (clR (rR h (clR x0) (ixR x0) 2)) (ixR (rR h (clR x0) (ixR x0) 2)) 1), h)) else none) else (if x1 = 3 then (if (memN [3] (clR (rR h (clR x0) (ixR x0) 2)) && (memN [2] (clR x0) && true)) = true then (some ((rI h (clR (rR h (clR x0) (ixR x0) 2)) (ixR (rR h (clR x0) (ixR x0) 2)) 2), h)) else none) else (if (memN [2] (clR x0) && true) = true then (some ((rI h (clR x0) (ixR x0) 6), h)) else none)))))
set_option maxRecDepth 20000 in
theorem ev_X2_measure {d : Nat} (hd : 0 ≤ d) {x0 : zR} {x1 : Int32} {h : zM} {r : Int32 × zM} (H : f_X2_measure x0 x1 h = some r) : zEv zmt d 22 0 ([some (vR x0), some (vI x1)], [], h, true) (some (vI r.1), r.2) := by
  rcases ifc H with ⟨hc0, H⟩ | ⟨hc0, H⟩
  · refine zEv.sw (x := swL 0 3 [32, 37, 45, 53] 61 (x1)) (L2 := [some (vR x0), some (vI x1)]) (st2 := []) (h2 := h) zm_X2_measure rfl rfl rfl rfl (lab' := 32) (by rw [hc0]; decide) ?_
    obtain ⟨hg, H⟩ := ifg H
    cases H
    exact zEv.ret zm_X2_measure rfl hg rfl hg
  rcases ifc H with ⟨hc1, H⟩ | ⟨hc1, H⟩
  · refine zEv.sw (x := swL 0 3 [32, 37, 45, 53] 61 (x1)) (L2 := [some (vR x0), some (vI x1)]) (st2 := []) (h2 := h) zm_X2_measure rfl rfl rfl rfl (lab' := 37) (by rw [hc1]; decide) ?_
    obtain ⟨hg, H⟩ := ifg H
    cases H
    exact zEv.ret zm_X2_measure rfl hg rfl hg
  rcases ifc H with ⟨hc2, H⟩ | ⟨hc2, H⟩
  · refine zEv.sw (x := swL 0 3 [32, 37, 45, 53] 61 (x1)) (L2 := [some (vR x0), some (vI x1)]) (st2 := []) (h2 := h) zm_X2_measure rfl rfl rfl rfl (lab' := 45) (by rw [hc2]; decide) ?_
    obtain ⟨hg, H⟩ := ifg H
    cases H
    exact zEv.ret zm_X2_measure rfl hg rfl hg
  rcases ifc H with ⟨hc3, H⟩ | ⟨hc3, H⟩
  · refine zEv.sw (x := swL 0 3 [32, 37, 45, 53] 61 (x1)) (L2 := [some (vR x0), some (vI x1)]) (st2 := []) (h2 := h) zm_X2_measure rfl rfl rfl rfl (lab' := 53) (by rw [hc3]; decide) ?_
    obtain ⟨hg, H⟩ := ifg H
    cases H
    exact zEv.ret zm_X2_measure rfl hg rfl hg
  have hout : ∀ j, j < 4 → ¬ x1 = Int32.ofNat j := by
    intro j hj
    rcases (show j = 0 ∨ j = 1 ∨ j = 2 ∨ j = 3 by omega) with rfl | rfl | rfl | rfl
    · exact hc0
    · exact hc1
    · exact hc2
    · exact hc3
  refine zEv.sw (x := swL 0 3 [32, 37, 45, 53] 61 (x1)) (L2 := [some (vR x0), some (vI x1)]) (st2 := []) (h2 := h) zm_X2_measure rfl rfl rfl rfl (lab' := 61) (swOut (n := 4) (by decide) hout) ?_
  obtain ⟨hg, H⟩ := ifg H
  cases H
  exact zEv.ret zm_X2_measure rfl hg rfl hg
def f_X2_mixInto_5 : Nat → zR → Int64 → Int32 → zM → Option (Int64 × zM)
  | 0 => fun _ _ _ _ => none
  | k + 1 => fun x0 x3 x5 h => (if 6 < x5 then (if (memN [2] (clR x0) && true) = true then (some (((31 * x3) + (Int32.toInt64 (rI h (clR x0) (ixR x0) 9))), h)) else none) else (if (memN [2] (clR x0) && (true && true)) = true then ((f_X2_part x0 x5 h).bind fun q20 => (f_X2_mixInto_5 k x0 ((31 * x3) + (Int32.toInt64 q20.1)) (x5 + 1) q20.2)) else none))
set_option maxRecDepth 20000 in
theorem ev_X2_mixInto_5 {d : Nat} (hd : 1 ≤ d) : ∀ (k : Nat) {w1 : Option zV} {w2 : Option zV} {w4 : Option zV} {x0 : zR} {x3 : Int64} {x5 : Int32} {h : zM} {r : Int64 × zM}, f_X2_mixInto_5 k x0 x3 x5 h = some r → zEv zmt d 23 5 ([some (vR x0), w1, w2, some (vL x3), w4, some (vI x5)], [], h, true) (some (vL r.1), r.2) := by
  intro k
  induction k with
  | zero => intro w1 w2 w4 x0 x3 x5 h r H; cases H
  | succ k ih =>
    intro w1 w2 w4 x0 x3 x5 h r H
    rcases ifc H with ⟨hc, H⟩ | ⟨hc, H⟩
    · refine zEv.iteT (L2 := [some (vR x0), w1, w2, some (vL x3), w4, some (vI x5)]) (st2 := []) (h2 := h) zm_X2_mixInto rfl rfl rfl rfl (decide_eq_true hc) ?_
      obtain ⟨hg, H⟩ := ifg H
      cases H
      exact zEv.ret zm_X2_mixInto rfl hg rfl hg
    · refine zEv.iteF (L2 := [some (vR x0), w1, w2, some (vL x3), w4, some (vI x5)]) (st2 := []) (h2 := h) zm_X2_mixInto rfl rfl rfl rfl (decide_eq_false hc) ?_
      obtain ⟨hg, H⟩ := ifg H
      obtain ⟨q20, hq, H⟩ := bnd H
      refine zEv.call (k := 21) (as := [vR x0, vI x5]) (L2 := [some (vR x0), w1, w2, some (vL x3), w4, some (vI x5)]) (st2 := [vL (31 * x3)]) (h2 := h) (v := some (vI q20.1)) (h1 := q20.2) (st3 := [vI q20.1, vL (31 * x3)]) zm_X2_mixInto rfl (and2 (and2 hg).2).2 rfl hg rfl zm_X2_part rfl (by omega) (ev_X2_part (by omega) hq) rfl ?_
      refine zEv.loc (L2 := [some (vR x0), w1, none, some (vL ((31 * x3) + (Int32.toInt64 q20.1))), none, some (vI (x5 + 1))]) (st2 := []) (h2 := q20.2) zm_X2_mixInto rfl rfl rfl rfl (fun h => (nomatch h)) ?_
      exact ih H
def f_X2_mixInto (x0 : zR) (x1 : Int64) (h : zM) : Option (Int64 × zM) := (f_X2_mixInto_5  1000 x0 x1 0 h)
set_option maxRecDepth 20000 in
theorem ev_X2_mixInto {d : Nat} (hd : 1 ≤ d) {w2 : Option zV} {w3 : Option zV} {w4 : Option zV} {w5 : Option zV} {x0 : zR} {x1 : Int64} {h : zM} {r : Int64 × zM} (H : f_X2_mixInto x0 x1 h = some r) : zEv zmt d 23 0 ([some (vR x0), some (vL x1), w2, w3, w4, w5], [], h, true) (some (vL r.1), r.2) := by
  refine zEv.loc (L2 := [some (vR x0), some (vL x1), none, some (vL x1), none, some (vI 0)]) (st2 := []) (h2 := h) zm_X2_mixInto rfl rfl rfl rfl (fun h => (nomatch h)) ?_
  exact ev_X2_mixInto_5 (by omega)  1000 H
def f_X3_init (x0 : zR) (x1 : Int32) (x2 : Int32) (x3 : Int32) (x4 : Int32) (h : zM) : Option (zM) := (if (Nat.blt (clR x0) 99 && (true && true)) = true then (if (memN [3] (clR x0) && (memN [3] (clR x0) && (memN [3] (clR x0) && (memN [3] (clR x0) && true)))) = true then (some (wI (wI (wI (wI h (clR x0) (ixR x0) 0 x1) (clR x0) (ixR x0) 1 x2) (clR x0) (ixR x0) 2 x3) (clR x0) (ixR x0) 3 x4)) else none) else none)
set_option maxRecDepth 20000 in
theorem ev_X3_init {d : Nat} (hd : 1 ≤ d) {x0 : zR} {x1 : Int32} {x2 : Int32} {x3 : Int32} {x4 : Int32} {h : zM} {r : zM} (H : f_X3_init x0 x1 x2 x3 x4 h = some r) : zEv zmt d 24 0 ([some (vR x0), some (vI x1), some (vI x2), some (vI x3), some (vI x4)], [], h, true) (none, r) := by
  obtain ⟨hg, H⟩ := ifg H
  refine zEv.loc (L2 := [some (vR x0), some (vI x1), some (vI x2), some (vI x3), some (vI x4)]) (st2 := []) (h2 := h) zm_X3_init rfl (and2 (and2 hg).2).2 rfl hg (fun _ => by omega) ?_
  obtain ⟨hg, H⟩ := ifg H
  cases H
  exact zEv.ret zm_X3_init rfl hg rfl hg
def f_X3_part (x0 : zR) (x1 : Int32) (h : zM) : Option (Int32 × zM) := (if x1 = 0 then (if (memN [3] (clR x0) && true) = true then (some ((rI h (clR x0) (ixR x0) 0), h)) else none) else (if x1 = 1 then (if (memN [3] (clR x0) && true) = true then (some ((rI h (clR x0) (ixR x0) 1), h)) else none) else (if x1 = 2 then (if (memN [3] (clR x0) && true) = true then (some ((rI h (clR x0) (ixR x0) 2), h)) else none) else (if (memN [3] (clR x0) && true) = true then (some ((rI h (clR x0) (ixR x0) 3), h)) else none))))
set_option maxRecDepth 20000 in
theorem ev_X3_part {d : Nat} (hd : 0 ≤ d) {x0 : zR} {x1 : Int32} {h : zM} {r : Int32 × zM} (H : f_X3_part x0 x1 h = some r) : zEv zmt d 25 0 ([some (vR x0), some (vI x1)], [], h, true) (some (vI r.1), r.2) := by
  rcases ifc H with ⟨hc0, H⟩ | ⟨hc0, H⟩
  · refine zEv.sw (x := swL 0 2 [28, 33, 38] 43 (x1)) (L2 := [some (vR x0), some (vI x1)]) (st2 := []) (h2 := h) zm_X3_part rfl rfl rfl rfl (lab' := 28) (by rw [hc0]; decide) ?_
    obtain ⟨hg, H⟩ := ifg H
    cases H
    exact zEv.ret zm_X3_part rfl hg rfl hg
  rcases ifc H with ⟨hc1, H⟩ | ⟨hc1, H⟩
  · refine zEv.sw (x := swL 0 2 [28, 33, 38] 43 (x1)) (L2 := [some (vR x0), some (vI x1)]) (st2 := []) (h2 := h) zm_X3_part rfl rfl rfl rfl (lab' := 33) (by rw [hc1]; decide) ?_
    obtain ⟨hg, H⟩ := ifg H
    cases H
    exact zEv.ret zm_X3_part rfl hg rfl hg
  rcases ifc H with ⟨hc2, H⟩ | ⟨hc2, H⟩
  · refine zEv.sw (x := swL 0 2 [28, 33, 38] 43 (x1)) (L2 := [some (vR x0), some (vI x1)]) (st2 := []) (h2 := h) zm_X3_part rfl rfl rfl rfl (lab' := 38) (by rw [hc2]; decide) ?_
    obtain ⟨hg, H⟩ := ifg H
    cases H
    exact zEv.ret zm_X3_part rfl hg rfl hg
  have hout : ∀ j, j < 3 → ¬ x1 = Int32.ofNat j := by
    intro j hj
    rcases (show j = 0 ∨ j = 1 ∨ j = 2 by omega) with rfl | rfl | rfl
    · exact hc0
    · exact hc1
    · exact hc2
  refine zEv.sw (x := swL 0 2 [28, 33, 38] 43 (x1)) (L2 := [some (vR x0), some (vI x1)]) (st2 := []) (h2 := h) zm_X3_part rfl rfl rfl rfl (lab' := 43) (swOut (n := 3) (by decide) hout) ?_
  obtain ⟨hg, H⟩ := ifg H
  cases H
  exact zEv.ret zm_X3_part rfl hg rfl hg
def f_X3_mixInto_5 : Nat → zR → Int64 → Int32 → zM → Option (Int64 × zM)
  | 0 => fun _ _ _ _ => none
  | k + 1 => fun x0 x3 x5 h => (if 3 < x5 then (some (x3, h)) else (if (memN [3] (clR x0) && (true && true)) = true then ((f_X3_part x0 x5 h).bind fun q19 => (f_X3_mixInto_5 k x0 ((31 * x3) + (Int32.toInt64 q19.1)) (x5 + 1) q19.2)) else none))
set_option maxRecDepth 20000 in
theorem ev_X3_mixInto_5 {d : Nat} (hd : 1 ≤ d) : ∀ (k : Nat) {w1 : Option zV} {w2 : Option zV} {w4 : Option zV} {x0 : zR} {x3 : Int64} {x5 : Int32} {h : zM} {r : Int64 × zM}, f_X3_mixInto_5 k x0 x3 x5 h = some r → zEv zmt d 26 5 ([some (vR x0), w1, w2, some (vL x3), w4, some (vI x5)], [], h, true) (some (vL r.1), r.2) := by
  intro k
  induction k with
  | zero => intro w1 w2 w4 x0 x3 x5 h r H; cases H
  | succ k ih =>
    intro w1 w2 w4 x0 x3 x5 h r H
    rcases ifc H with ⟨hc, H⟩ | ⟨hc, H⟩
    · refine zEv.iteT (L2 := [some (vR x0), w1, w2, some (vL x3), w4, some (vI x5)]) (st2 := []) (h2 := h) zm_X3_mixInto rfl rfl rfl rfl (decide_eq_true hc) ?_
      cases H
      exact zEv.ret zm_X3_mixInto rfl rfl rfl rfl
    · refine zEv.iteF (L2 := [some (vR x0), w1, w2, some (vL x3), w4, some (vI x5)]) (st2 := []) (h2 := h) zm_X3_mixInto rfl rfl rfl rfl (decide_eq_false hc) ?_
      obtain ⟨hg, H⟩ := ifg H
      obtain ⟨q19, hq, H⟩ := bnd H
      refine zEv.call (k := 25) (as := [vR x0, vI x5]) (L2 := [some (vR x0), w1, w2, some (vL x3), w4, some (vI x5)]) (st2 := [vL (31 * x3)]) (h2 := h) (v := some (vI q19.1)) (h1 := q19.2) (st3 := [vI q19.1, vL (31 * x3)]) zm_X3_mixInto rfl (and2 (and2 hg).2).2 rfl hg rfl zm_X3_part rfl (by omega) (ev_X3_part (by omega) hq) rfl ?_
      refine zEv.loc (L2 := [some (vR x0), w1, none, some (vL ((31 * x3) + (Int32.toInt64 q19.1))), none, some (vI (x5 + 1))]) (st2 := []) (h2 := q19.2) zm_X3_mixInto rfl rfl rfl rfl (fun h => (nomatch h)) ?_
      exact ih H
def f_X3_mixInto (x0 : zR) (x1 : Int64) (h : zM) : Option (Int64 × zM) := (f_X3_mixInto_5  1000 x0 x1 0 h)
set_option maxRecDepth 20000 in
theorem ev_X3_mixInto {d : Nat} (hd : 1 ≤ d) {w2 : Option zV} {w3 : Option zV} {w4 : Option zV} {w5 : Option zV} {x0 : zR} {x1 : Int64} {h : zM} {r : Int64 × zM} (H : f_X3_mixInto x0 x1 h = some r) : zEv zmt d 26 0 ([some (vR x0), some (vL x1), w2, w3, w4, w5], [], h, true) (some (vL r.1), r.2) := by
  refine zEv.loc (L2 := [some (vR x0), some (vL x1), none, some (vL x1), none, some (vI 0)]) (st2 := []) (h2 := h) zm_X3_mixInto rfl rfl rfl rfl (fun h => (nomatch h)) ?_
  exact ev_X3_mixInto_5 (by omega)  1000 H
def f_X4_init (x0 : zR) (h : zM) : Option (zM) := (if (Nat.blt (clR x0) 99 && (true && true)) = true then (if (memN [4] (clR x0) && (true && (memN [4] (clR x0) && (true && (memN [4] (clR x0) && (true && true)))))) = true then (some (wR (nwM (wR (nwM (wR (nwM h 21 40) (clR x0) (ixR x0) 0 (some (21, (cnM h 21)))) 22 40) (clR x0) (ixR x0) 1 (some (22, (cnM h 22)))) 23 12) (clR x0) (ixR x0) 2 (some (23, (cnM h 23))))) else none) else none)
set_option maxRecDepth 20000 in
theorem ev_X4_init {d : Nat} (hd : 1 ≤ d) {x0 : zR} {h : zM} {r : zM} (H : f_X4_init x0 h = some r) : zEv zmt d 27 0 ([some (vR x0)], [], h, true) (none, r) := by
  obtain ⟨hg, H⟩ := ifg H
  refine zEv.loc (L2 := [some (vR x0)]) (st2 := []) (h2 := h) zm_X4_init rfl (and2 (and2 hg).2).2 rfl hg (fun _ => by omega) ?_
  obtain ⟨hg, H⟩ := ifg H
  cases H
  exact zEv.ret zm_X4_init rfl hg rfl hg
def f_X4_add_65 (x0 : zR) (x1 : Int32) (x2 : Int32) (x3 : Int32) (h : zM) : Option (zM) := (if (memN [4] (clR x0) && (memN [4] (clR x0) && (true && (true && (ixOk 40 x3 && (memN [4] (clR x0) && (decide (rR h (clR x0) (ixR x0) 1 = (some (22, (ixR x0)))) && (true && (ixOk 40 x3 && (memN [4] (clR x0) && (decide (rR h (clR x0) (ixR x0) 0 = (some (21, (ixR x0)))) && true))))))))))) = true then (some (wI (wI (wI h 21 (ixR x0) (Int32.toNatClampNeg x3) x1) 22 (ixR x0) (Int32.toNatClampNeg x3) x2) (clR x0) (ixR x0) 3 ((rI (wI (wI h 21 (ixR x0) (Int32.toNatClampNeg x3) x1) 22 (ixR x0) (Int32.toNatClampNeg x3) x2) (clR x0) (ixR x0) 3) + 1))) else none)
set_option maxRecDepth 20000 in
theorem ev_X4_add_65 {d : Nat} (hd : 0 ≤ d) {x0 : zR} {x1 : Int32} {x2 : Int32} {x3 : Int32} {h : zM} {r : zM} (H : f_X4_add_65 x0 x1 x2 x3 h = some r) : zEv zmt d 28 65 ([some (vR x0), some (vI x1), some (vI x2), some (vI x3)], [], h, true) (none, r) := by
  obtain ⟨hg, H⟩ := ifg H
  cases H
  exact zEv.ret zm_X4_add rfl hg rfl hg
def f_X4_add_15 : Nat → zR → Int32 → Int32 → Int32 → zM → Option (zM)
  | 0 => fun _ _ _ _ _ => none
  | k + 1 => fun x0 x1 x2 x3 h => (if x3 ≤ 0 then (f_X4_add_65  x0 x1 x2 x3 h) else (if (true && (ixOk 40 (x3 - 1) && (memN [4] (clR x0) && (decide (rR h (clR x0) (ixR x0) 1 = (some (22, (ixR x0)))) && true)))) = true then (if x2 ≤ (rI h 22 (ixR x0) (Int32.toNatClampNeg (x3 - 1))) then (f_X4_add_65  x0 x1 x2 x3 h) else (if (true && (ixOk 40 x3 && (true && (ixOk 40 (x3 - 1) && (memN [4] (clR x0) && (decide (rR h (clR x0) (ixR x0) 1 = (some (22, (ixR x0)))) && (memN [4] (clR x0) && (decide (rR h (clR x0) (ixR x0) 1 = (some (22, (ixR x0)))) && (true && (ixOk 40 x3 && (true && (ixOk 40 (x3 - 1) && (memN [4] (clR x0) && (decide (rR h (clR x0) (ixR x0) 0 = (some (21, (ixR x0)))) && (memN [4] (clR x0) && (decide (rR h (clR x0) (ixR x0) 0 = (some (21, (ixR x0)))) && true)))))))))))))))) = true then (f_X4_add_15 k x0 x1 x2 (x3 + (-1)) (wI (wI h 21 (ixR x0) (Int32.toNatClampNeg x3) (rI h 21 (ixR x0) (Int32.toNatClampNeg (x3 - 1)))) 22 (ixR x0) (Int32.toNatClampNeg x3) (rI (wI h 21 (ixR x0) (Int32.toNatClampNeg x3) (rI h 21 (ixR x0) (Int32.toNatClampNeg (x3 - 1)))) 22 (ixR x0) (Int32.toNatClampNeg (x3 - 1))))) else none)) else none))
set_option maxRecDepth 20000 in
theorem ev_X4_add_15 {d : Nat} (hd : 0 ≤ d) : ∀ (k : Nat) {x0 : zR} {x1 : Int32} {x2 : Int32} {x3 : Int32} {h : zM} {r : zM}, f_X4_add_15 k x0 x1 x2 x3 h = some r → zEv zmt d 28 15 ([some (vR x0), some (vI x1), some (vI x2), some (vI x3)], [], h, true) (none, r) := by
  intro k
  induction k with
  | zero => intro x0 x1 x2 x3 h r H; cases H
  | succ k ih =>
    intro x0 x1 x2 x3 h r H
    rcases ifc H with ⟨hc, H⟩ | ⟨hc, H⟩
    · refine zEv.iteT (L2 := [some (vR x0), some (vI x1), some (vI x2), some (vI x3)]) (st2 := []) (h2 := h) zm_X4_add rfl rfl rfl rfl (decide_eq_true hc) ?_
      exact ev_X4_add_65 (by omega)  H
    · refine zEv.iteF (L2 := [some (vR x0), some (vI x1), some (vI x2), some (vI x3)]) (st2 := []) (h2 := h) zm_X4_add rfl rfl rfl rfl (decide_eq_false hc) ?_
      obtain ⟨hg, H⟩ := ifg H
      rcases ifc H with ⟨hc, H⟩ | ⟨hc, H⟩
      · refine zEv.iteT (L2 := [some (vR x0), some (vI x1), some (vI x2), some (vI x3)]) (st2 := []) (h2 := h) zm_X4_add rfl hg rfl hg (decide_eq_true hc) ?_
        exact ev_X4_add_65 (by omega)  H
      · refine zEv.iteF (L2 := [some (vR x0), some (vI x1), some (vI x2), some (vI x3)]) (st2 := []) (h2 := h) zm_X4_add rfl hg rfl hg (decide_eq_false hc) ?_
        obtain ⟨hg, H⟩ := ifg H
        refine zEv.loc (L2 := [some (vR x0), some (vI x1), some (vI x2), some (vI (x3 + (-1)))]) (st2 := []) (h2 := (wI (wI h 21 (ixR x0) (Int32.toNatClampNeg x3) (rI h 21 (ixR x0) (Int32.toNatClampNeg (x3 - 1)))) 22 (ixR x0) (Int32.toNatClampNeg x3) (rI (wI h 21 (ixR x0) (Int32.toNatClampNeg x3) (rI h 21 (ixR x0) (Int32.toNatClampNeg (x3 - 1)))) 22 (ixR x0) (Int32.toNatClampNeg (x3 - 1))))) zm_X4_add rfl hg rfl hg (fun h => (nomatch h)) ?_
        exact ih H
def f_X4_add (x0 : zR) (x1 : Int32) (x2 : Int32) (h : zM) : Option (zM) := (if (memN [4] (clR x0) && true) = true then (if (rI h (clR x0) (ixR x0) 3) < 40 then (if (true && (memN [4] (clR x0) && true)) = true then (f_X4_add_15  1000 x0 x1 x2 (rI h (clR x0) (ixR x0) 3) h) else none) else (some h)) else none)
set_option maxRecDepth 20000 in
theorem ev_X4_add {d : Nat} (hd : 0 ≤ d) {w3 : Option zV} {x0 : zR} {x1 : Int32} {x2 : Int32} {h : zM} {r : zM} (H : f_X4_add x0 x1 x2 h = some r) : zEv zmt d 28 0 ([some (vR x0), some (vI x1), some (vI x2), w3], [], h, true) (none, r) := by
  obtain ⟨hg, H⟩ := ifg H
  rcases ifc H with ⟨hc, H⟩ | ⟨hc, H⟩
  · refine zEv.iteT (L2 := [some (vR x0), some (vI x1), some (vI x2), w3]) (st2 := []) (h2 := h) zm_X4_add rfl hg rfl hg (decide_eq_true hc) ?_
    obtain ⟨hg, H⟩ := ifg H
    refine zEv.loc (L2 := [some (vR x0), some (vI x1), some (vI x2), some (vI (rI h (clR x0) (ixR x0) 3))]) (st2 := []) (h2 := h) zm_X4_add rfl hg rfl hg (fun h => (nomatch h)) ?_
    exact ev_X4_add_15 (by omega)  1000 H
  · refine zEv.iteF (L2 := [some (vR x0), some (vI x1), some (vI x2), w3]) (st2 := []) (h2 := h) zm_X4_add rfl hg rfl hg (decide_eq_false hc) ?_
    cases H
    exact zEv.ret zm_X4_add rfl rfl rfl rfl
def f_X4_keepBestOfEach_81 (K13 : zR → zR → Int32 → Int32 → zM → Option (zM)) (x0 : zR) (x1 : zR) (x2 : Int32) (x3 : Int32) (h : zM) : Option (zM) := (K13 x0 x1 x2 (x3 + 1) h)
set_option maxRecDepth 20000 in
theorem ev_X4_keepBestOfEach_81 {d : Nat} (hd : 1 ≤ d) {K13 : zR → zR → Int32 → Int32 → zM → Option (zM)} (hK13 : ∀ {w4 : Option zV} {x0 : zR} {x1 : zR} {x2 : Int32} {x3 : Int32} {h : zM} {r : zM}, K13 x0 x1 x2 x3 h = some r → zEv zmt d 29 13 ([some (vR x0), some (vR x1), some (vI x2), some (vI x3), w4], [], h, true) (none, r)) {w4 : Option zV} {x0 : zR} {x1 : zR} {x2 : Int32} {x3 : Int32} {h : zM} {r : zM} (H : f_X4_keepBestOfEach_81 K13 x0 x1 x2 x3 h = some r) : zEv zmt d 29 81 ([some (vR x0), some (vR x1), some (vI x2), some (vI x3), w4], [], h, true) (none, r) := by
  refine zEv.loc (L2 := [some (vR x0), some (vR x1), some (vI x2), some (vI (x3 + 1)), w4]) (st2 := []) (h2 := h) zm_X4_keepBestOfEach rfl rfl rfl rfl (fun h => (nomatch h)) ?_
  exact hK13 H
def f_X4_keepBestOfEach_13 : Nat → zR → zR → Int32 → Int32 → zM → Option (zM)
  | 0 => fun _ _ _ _ _ => none
  | k + 1 => fun x0 x1 x2 x3 h => (if (memN [4] (clR x0) && true) = true then (if (rI h (clR x0) (ixR x0) 3) ≤ x3 then (if (memN [4] (clR x0) && true) = true then (some (wI h (clR x0) (ixR x0) 3 x2)) else none) else (if (true && (ixOk 12 (rI h (clR (rR h (clR x1) (ixR x1) (Int32.toNatClampNeg (rI h 21 (ixR x0) (Int32.toNatClampNeg x3))))) (ixR (rR h (clR x1) (ixR x1) (Int32.toNatClampNeg (rI h 21 (ixR x0) (Int32.toNatClampNeg x3))))) 0) && (memN [4] (clR x0) && (decide (rR h (clR x0) (ixR x0) 2 = (some (23, (ixR x0)))) && (true && (memN [2] (clR (rR h (clR x1) (ixR x1) (Int32.toNatClampNeg (rI h 21 (ixR x0) (Int32.toNatClampNeg x3))))) && (memN [7] (akd (clR x1)) && (ixOk (aln (clR x1)) (rI h 21 (ixR x0) (Int32.toNatClampNeg x3)) && (true && (ixOk 40 x3 && (memN [4] (clR x0) && (decide (rR h (clR x0) (ixR x0) 0 = (some (21, (ixR x0)))) && true)))))))))))) = true then (if ¬ (rI h 23 (ixR x0) (Int32.toNatClampNeg (rI h (clR (rR h (clR x1) (ixR x1) (Int32.toNatClampNeg (rI h 21 (ixR x0) (Int32.toNatClampNeg x3))))) (ixR (rR h (clR x1) (ixR x1) (Int32.toNatClampNeg (rI h 21 (ixR x0) (Int32.toNatClampNeg x3))))) 0))) = 99 then (f_X4_keepBestOfEach_81 (f_X4_keepBestOfEach_13 k) x0 x1 x2 x3 h) else (if (true && (ixOk 40 x2 && (true && (ixOk 40 x3 && (memN [4] (clR x0) && (decide (rR h (clR x0) (ixR x0) 1 = (some (22, (ixR x0)))) && (memN [4] (clR x0) && (decide (rR h (clR x0) (ixR x0) 1 = (some (22, (ixR x0)))) && (true && (ixOk 40 x2 && (true && (ixOk 40 x3 && (memN [4] (clR x0) && (decide (rR h (clR x0) (ixR x0) 0 = (some (21, (ixR x0)))) && (memN [4] (clR x0) && (decide (rR h (clR x0) (ixR x0) 0 = (some (21, (ixR x0)))) && (true && (ixOk 12 (rI h (clR (rR h (clR x1) (ixR x1) (Int32.toNatClampNeg (rI h 21 (ixR x0) (Int32.toNatClampNeg x3))))) (ixR (rR h (clR x1) (ixR x1) (Int32.toNatClampNeg (rI h 21 (ixR x0) (Int32.toNatClampNeg x3))))) 0) && (memN [4] (clR x0) && (decide (rR h (clR x0) (ixR x0) 2 = (some (23, (ixR x0)))) && true)))))))))))))))))))) = true then (f_X4_keepBestOfEach_81 (f_X4_keepBestOfEach_13 k) x0 x1 (x2 + 1) x3 (wI (wI (wI h 23 (ixR x0) (Int32.toNatClampNeg (rI h (clR (rR h (clR x1) (ixR x1) (Int32.toNatClampNeg (rI h 21 (ixR x0) (Int32.toNatClampNeg x3))))) (ixR (rR h (clR x1) (ixR x1) (Int32.toNatClampNeg (rI h 21 (ixR x0) (Int32.toNatClampNeg x3))))) 0)) x2) 21 (ixR x0) (Int32.toNatClampNeg x2) (rI (wI h 23 (ixR x0) (Int32.toNatClampNeg (rI h (clR (rR h (clR x1) (ixR x1) (Int32.toNatClampNeg (rI h 21 (ixR x0) (Int32.toNatClampNeg x3))))) (ixR (rR h (clR x1) (ixR x1) (Int32.toNatClampNeg (rI h 21 (ixR x0) (Int32.toNatClampNeg x3))))) 0)) x2) 21 (ixR x0) (Int32.toNatClampNeg x3))) 22 (ixR x0) (Int32.toNatClampNeg x2) (rI (wI (wI h 23 (ixR x0) (Int32.toNatClampNeg (rI h (clR (rR h (clR x1) (ixR x1) (Int32.toNatClampNeg (rI h 21 (ixR x0) (Int32.toNatClampNeg x3))))) (ixR (rR h (clR x1) (ixR x1) (Int32.toNatClampNeg (rI h 21 (ixR x0) (Int32.toNatClampNeg x3))))) 0)) x2) 21 (ixR x0) (Int32.toNatClampNeg x2) (rI (wI h 23 (ixR x0) (Int32.toNatClampNeg (rI h (clR (rR h (clR x1) (ixR x1) (Int32.toNatClampNeg (rI h 21 (ixR x0) (Int32.toNatClampNeg x3))))) (ixR (rR h (clR x1) (ixR x1) (Int32.toNatClampNeg (rI h 21 (ixR x0) (Int32.toNatClampNeg x3))))) 0)) x2) 21 (ixR x0) (Int32.toNatClampNeg x3))) 22 (ixR x0) (Int32.toNatClampNeg x3)))) else none)) else none)) else none)
set_option maxRecDepth 20000 in
theorem ev_X4_keepBestOfEach_13 {d : Nat} (hd : 1 ≤ d) : ∀ (k : Nat) {w4 : Option zV} {x0 : zR} {x1 : zR} {x2 : Int32} {x3 : Int32} {h : zM} {r : zM}, f_X4_keepBestOfEach_13 k x0 x1 x2 x3 h = some r → zEv zmt d 29 13 ([some (vR x0), some (vR x1), some (vI x2), some (vI x3), w4], [], h, true) (none, r) := by
  intro k
  induction k with
  | zero => intro w4 x0 x1 x2 x3 h r H; cases H
  | succ k ih =>
    intro w4 x0 x1 x2 x3 h r H
    obtain ⟨hg, H⟩ := ifg H
    rcases ifc H with ⟨hc, H⟩ | ⟨hc, H⟩
    · refine zEv.iteT (L2 := [some (vR x0), some (vR x1), some (vI x2), some (vI x3), w4]) (st2 := []) (h2 := h) zm_X4_keepBestOfEach rfl hg rfl hg (decide_eq_true hc) ?_
      obtain ⟨hg, H⟩ := ifg H
      cases H
      exact zEv.ret zm_X4_keepBestOfEach rfl hg rfl hg
    · refine zEv.iteF (L2 := [some (vR x0), some (vR x1), some (vI x2), some (vI x3), w4]) (st2 := []) (h2 := h) zm_X4_keepBestOfEach rfl hg rfl hg (decide_eq_false hc) ?_
      obtain ⟨hg, H⟩ := ifg H
      rcases ifc H with ⟨hc, H⟩ | ⟨hc, H⟩
      · refine zEv.iteT (L2 := [some (vR x0), some (vR x1), some (vI x2), some (vI x3), some (vI (rI h (clR (rR h (clR x1) (ixR x1) (Int32.toNatClampNeg (rI h 21 (ixR x0) (Int32.toNatClampNeg x3))))) (ixR (rR h (clR x1) (ixR x1) (Int32.toNatClampNeg (rI h 21 (ixR x0) (Int32.toNatClampNeg x3))))) 0))]) (st2 := []) (h2 := h) zm_X4_keepBestOfEach rfl hg rfl hg (decide_eq_true hc) ?_
        exact ev_X4_keepBestOfEach_81 (by omega) ih H
      · refine zEv.iteF (L2 := [some (vR x0), some (vR x1), some (vI x2), some (vI x3), some (vI (rI h (clR (rR h (clR x1) (ixR x1) (Int32.toNatClampNeg (rI h 21 (ixR x0) (Int32.toNatClampNeg x3))))) (ixR (rR h (clR x1) (ixR x1) (Int32.toNatClampNeg (rI h 21 (ixR x0) (Int32.toNatClampNeg x3))))) 0))]) (st2 := []) (h2 := h) zm_X4_keepBestOfEach rfl hg rfl hg (decide_eq_false hc) ?_
        obtain ⟨hg, H⟩ := ifg H
        refine zEv.loc (L2 := [some (vR x0), some (vR x1), some (vI (x2 + 1)), some (vI x3), some (vI (rI h (clR (rR h (clR x1) (ixR x1) (Int32.toNatClampNeg (rI h 21 (ixR x0) (Int32.toNatClampNeg x3))))) (ixR (rR h (clR x1) (ixR x1) (Int32.toNatClampNeg (rI h 21 (ixR x0) (Int32.toNatClampNeg x3))))) 0))]) (st2 := []) (h2 := (wI (wI (wI h 23 (ixR x0) (Int32.toNatClampNeg (rI h (clR (rR h (clR x1) (ixR x1) (Int32.toNatClampNeg (rI h 21 (ixR x0) (Int32.toNatClampNeg x3))))) (ixR (rR h (clR x1) (ixR x1) (Int32.toNatClampNeg (rI h 21 (ixR x0) (Int32.toNatClampNeg x3))))) 0)) x2) 21 (ixR x0) (Int32.toNatClampNeg x2) (rI (wI h 23 (ixR x0) (Int32.toNatClampNeg (rI h (clR (rR h (clR x1) (ixR x1) (Int32.toNatClampNeg (rI h 21 (ixR x0) (Int32.toNatClampNeg x3))))) (ixR (rR h (clR x1) (ixR x1) (Int32.toNatClampNeg (rI h 21 (ixR x0) (Int32.toNatClampNeg x3))))) 0)) x2) 21 (ixR x0) (Int32.toNatClampNeg x3))) 22 (ixR x0) (Int32.toNatClampNeg x2) (rI (wI (wI h 23 (ixR x0) (Int32.toNatClampNeg (rI h (clR (rR h (clR x1) (ixR x1) (Int32.toNatClampNeg (rI h 21 (ixR x0) (Int32.toNatClampNeg x3))))) (ixR (rR h (clR x1) (ixR x1) (Int32.toNatClampNeg (rI h 21 (ixR x0) (Int32.toNatClampNeg x3))))) 0)) x2) 21 (ixR x0) (Int32.toNatClampNeg x2) (rI (wI h 23 (ixR x0) (Int32.toNatClampNeg (rI h (clR (rR h (clR x1) (ixR x1) (Int32.toNatClampNeg (rI h 21 (ixR x0) (Int32.toNatClampNeg x3))))) (ixR (rR h (clR x1) (ixR x1) (Int32.toNatClampNeg (rI h 21 (ixR x0) (Int32.toNatClampNeg x3))))) 0)) x2) 21 (ixR x0) (Int32.toNatClampNeg x3))) 22 (ixR x0) (Int32.toNatClampNeg x3)))) zm_X4_keepBestOfEach rfl hg rfl hg (fun h => (nomatch h)) ?_
        exact ev_X4_keepBestOfEach_81 (by omega) ih H
def f_X4_keepBestOfEach (x0 : zR) (x1 : zR) (h : zM) : Option (zM) := (if (true && (memN [4] (clR x0) && (decide (rR h (clR x0) (ixR x0) 2 = (some (23, (ixR x0)))) && true))) = true then ((f_J7_fill_53178 (some (23, (ixR x0))) 99 h).bind fun q6 => (f_X4_keepBestOfEach_13  1000 x0 x1 0 0 q6)) else none)
set_option maxRecDepth 20000 in
theorem ev_X4_keepBestOfEach {d : Nat} (hd : 1 ≤ d) {w2 : Option zV} {w3 : Option zV} {w4 : Option zV} {x0 : zR} {x1 : zR} {h : zM} {r : zM} (H : f_X4_keepBestOfEach x0 x1 h = some r) : zEv zmt d 29 0 ([some (vR x0), some (vR x1), w2, w3, w4], [], h, true) (none, r) := by
  obtain ⟨hg, H⟩ := ifg H
  obtain ⟨q6, hq, H⟩ := bnd H
  refine zEv.call (k := 0) (as := [vR (some (23, (ixR x0))), vI 99]) (L2 := [some (vR x0), some (vR x1), w2, w3, w4]) (st2 := []) (h2 := h) (v := none) (h1 := q6) (st3 := []) zm_X4_keepBestOfEach rfl (and2 hg).2 rfl hg rfl zm_J7_fill_53178 rfl (by omega) (ev_J7_fill_53178 (by omega) hq) rfl ?_
  refine zEv.loc (L2 := [some (vR x0), some (vR x1), some (vI 0), some (vI 0), w4]) (st2 := []) (h2 := q6) zm_X4_keepBestOfEach rfl rfl rfl rfl (fun h => (nomatch h)) ?_
  exact ev_X4_keepBestOfEach_13 (by omega)  1000 H
def f_X5_init (x0 : zR) (x1 : zR) (h : zM) : Option (zM) := (if (Nat.blt (clR x0) 99 && (true && true)) = true then (if (memN [5] (clR x0) && (memN [9] (clR x1) && (memN [5] (clR x0) && (memN [9] (clR x1) && (decide (rR h (clR x1) (ixR x1) 1 = (some (25, (ixR x1)))) && true))))) = true then (some (wI (wR h (clR x0) (ixR x0) 0 (some (25, (ixR x1)))) (clR x0) (ixR x0) 1 (rI h (clR x1) (ixR x1) 0))) else none) else none)
set_option maxRecDepth 20000 in
theorem ev_X5_init {d : Nat} (hd : 1 ≤ d) {x0 : zR} {x1 : zR} {h : zM} {r : zM} (H : f_X5_init x0 x1 h = some r) : zEv zmt d 30 0 ([some (vR x0), some (vR x1)], [], h, true) (none, r) := by
  obtain ⟨hg, H⟩ := ifg H
  refine zEv.loc (L2 := [some (vR x0), some (vR x1)]) (st2 := []) (h2 := h) zm_X5_init rfl (and2 (and2 hg).2).2 rfl hg (fun _ => by omega) ?_
  obtain ⟨hg, H⟩ := ifg H
  cases H
  exact zEv.ret zm_X5_init rfl hg rfl hg
def f_X8_init (x0 : zR) (h : zM) : Option (zM) := (if (Nat.blt (clR x0) 99 && (true && true)) = true then (if (memN [6, 9] (clR x0) && true) = true then (some (wI h (clR x0) (ixR x0) 0 (-1))) else none) else none)
set_option maxRecDepth 20000 in
theorem ev_X8_init {d : Nat} (hd : 1 ≤ d) {x0 : zR} {h : zM} {r : zM} (H : f_X8_init x0 h = some r) : zEv zmt d 48 0 ([some (vR x0)], [], h, true) (none, r) := by
  obtain ⟨hg, H⟩ := ifg H
  refine zEv.loc (L2 := [some (vR x0)]) (st2 := []) (h2 := h) zm_X8_init rfl (and2 (and2 hg).2).2 rfl hg (fun _ => by omega) ?_
  obtain ⟨hg, H⟩ := ifg H
  cases H
  exact zEv.ret zm_X8_init rfl hg rfl hg
def f_X6_init (x0 : zR) (h : zM) : Option (zM) := (if (memN [6] (clR x0) && (true && true)) = true then ((f_X8_init x0 h).bind fun q1 => (if (memN [6] (clR x0) && (true && true)) = true then (some (wR (nwM q1 24 40) (clR x0) (ixR x0) 1 (some (24, (cnM q1 24))))) else none)) else none)
set_option maxRecDepth 20000 in
theorem ev_X6_init {d : Nat} (hd : 2 ≤ d) {x0 : zR} {h : zM} {r : zM} (H : f_X6_init x0 h = some r) : zEv zmt d 36 0 ([some (vR x0)], [], h, true) (none, r) := by
  obtain ⟨hg, H⟩ := ifg H
  obtain ⟨q1, hq, H⟩ := bnd H
  refine zEv.call (k := 48) (as := [vR x0]) (L2 := [some (vR x0)]) (st2 := []) (h2 := h) (v := none) (h1 := q1) (st3 := []) zm_X6_init rfl (and2 (and2 hg).2).2 rfl hg rfl zm_X8_init rfl (by omega) (ev_X8_init (by omega) hq) rfl ?_
  obtain ⟨hg, H⟩ := ifg H
  cases H
  exact zEv.ret zm_X6_init rfl hg rfl hg
def f_X8_has_16 (h : zM) : Option (Int32 × zM) := (some (0, h))
set_option maxRecDepth 20000 in
theorem ev_X8_has_16 {d : Nat} (hd : 0 ≤ d) {w0 : Option zV} {w1 : Option zV} {h : zM} {r : Int32 × zM} (H : f_X8_has_16  h = some r) : zEv zmt d 50 16 ([w0, w1], [], h, true) (some (vI r.1), r.2) := by
  refine zEv.loc (L2 := [w0, w1]) (st2 := [vI 0]) (h2 := h) zm_X8_has rfl rfl rfl rfl (fun h => (nomatch h)) ?_
  cases H
  exact zEv.ret zm_X8_has rfl rfl rfl rfl
def f_X8_has (x0 : zR) (x1 : Int32) (h : zM) : Option (Int32 × zM) := (if x1 < 0 then (f_X8_has_16  h) else (if (memN [6, 9] (clR x0) && true) = true then (if (rI h (clR x0) (ixR x0) 0) ≤ x1 then (f_X8_has_16  h) else (some (1, h))) else none))
set_option maxRecDepth 20000 in
theorem ev_X8_has {d : Nat} (hd : 0 ≤ d) {x0 : zR} {x1 : Int32} {h : zM} {r : Int32 × zM} (H : f_X8_has x0 x1 h = some r) : zEv zmt d 50 0 ([some (vR x0), some (vI x1)], [], h, true) (some (vI r.1), r.2) := by
  rcases ifc H with ⟨hc, H⟩ | ⟨hc, H⟩
  · refine zEv.iteT (L2 := [some (vR x0), some (vI x1)]) (st2 := []) (h2 := h) zm_X8_has rfl rfl rfl rfl (decide_eq_true hc) ?_
    exact ev_X8_has_16 (by omega)  H
  · refine zEv.iteF (L2 := [some (vR x0), some (vI x1)]) (st2 := []) (h2 := h) zm_X8_has rfl rfl rfl rfl (decide_eq_false hc) ?_
    obtain ⟨hg, H⟩ := ifg H
    rcases ifc H with ⟨hc, H⟩ | ⟨hc, H⟩
    · refine zEv.iteT (L2 := [some (vR x0), some (vI x1)]) (st2 := []) (h2 := h) zm_X8_has rfl hg rfl hg (decide_eq_true hc) ?_
      exact ev_X8_has_16 (by omega)  H
    · refine zEv.iteF (L2 := [some (vR x0), some (vI x1)]) (st2 := []) (h2 := h) zm_X8_has rfl hg rfl hg (decide_eq_false hc) ?_
      refine zEv.loc (L2 := [some (vR x0), some (vI x1)]) (st2 := [vI 1]) (h2 := h) zm_X8_has rfl rfl rfl rfl (fun h => (nomatch h)) ?_
      cases H
      exact zEv.ret zm_X8_has rfl rfl rfl rfl
def f_X6_cell (x0 : zR) (x1 : Int32) (h : zM) : Option (Int32 × zM) := (if (memN [6] (clR x0) && (true && true)) = true then ((f_X8_has x0 x1 h).bind fun q2 => (if q2.1 = 0 then (some (0, q2.2)) else (if (true && (ixOk 40 x1 && (memN [6] (clR x0) && (decide (rR q2.2 (clR x0) (ixR x0) 1 = (some (24, (ixR x0)))) && true)))) = true then (some ((rI q2.2 24 (ixR x0) (Int32.toNatClampNeg x1)), q2.2)) else none))) else none)
set_option maxRecDepth 20000 in
theorem ev_X6_cell {d : Nat} (hd : 1 ≤ d) {x0 : zR} {x1 : Int32} {h : zM} {r : Int32 × zM} (H : f_X6_cell x0 x1 h = some r) : zEv zmt d 37 0 ([some (vR x0), some (vI x1)], [], h, true) (some (vI r.1), r.2) := by
  obtain ⟨hg, H⟩ := ifg H
  obtain ⟨q2, hq, H⟩ := bnd H
  refine zEv.call (k := 50) (as := [vR x0, vI x1]) (L2 := [some (vR x0), some (vI x1)]) (st2 := []) (h2 := h) (v := some (vI q2.1)) (h1 := q2.2) (st3 := [vI q2.1]) zm_X6_cell rfl (and2 (and2 hg).2).2 rfl hg rfl zm_X8_has rfl (by omega) (ev_X8_has (by omega) hq) rfl ?_
  rcases ifc H with ⟨hc, H⟩ | ⟨hc, H⟩
  · refine zEv.iteT (L2 := [some (vR x0), some (vI x1)]) (st2 := []) (h2 := q2.2) zm_X6_cell rfl rfl rfl rfl (decide_eq_true hc) ?_
    refine zEv.loc (L2 := [some (vR x0), some (vI x1)]) (st2 := [vI 0]) (h2 := q2.2) zm_X6_cell rfl rfl rfl rfl (fun h => (nomatch h)) ?_
    cases H
    exact zEv.ret zm_X6_cell rfl rfl rfl rfl
  · refine zEv.iteF (L2 := [some (vR x0), some (vI x1)]) (st2 := []) (h2 := q2.2) zm_X6_cell rfl rfl rfl rfl (decide_eq_false hc) ?_
    obtain ⟨hg, H⟩ := ifg H
    refine zEv.loc (L2 := [some (vR x0), some (vI x1)]) (st2 := [vI (rI q2.2 24 (ixR x0) (Int32.toNatClampNeg x1))]) (h2 := q2.2) zm_X6_cell rfl hg rfl hg (fun h => (nomatch h)) ?_
    cases H
    exact zEv.ret zm_X6_cell rfl rfl rfl rfl
def f_X6_begin (x0 : zR) (x1 : Int32) (h : zM) : Option (zM) := (if (true && (memN [6] (clR x0) && (decide (rR h (clR x0) (ixR x0) 1 = (some (24, (ixR x0)))) && (memN [6] (clR x0) && true)))) = true then ((f_J7_fill_53178 (some (24, (ixR x0))) 0 (wI h (clR x0) (ixR x0) 0 x1)).bind fun q10 => (some q10)) else none)
set_option maxRecDepth 20000 in
theorem ev_X6_begin {d : Nat} (hd : 1 ≤ d) {x0 : zR} {x1 : Int32} {h : zM} {r : zM} (H : f_X6_begin x0 x1 h = some r) : zEv zmt d 38 0 ([some (vR x0), some (vI x1)], [], h, true) (none, r) := by
  obtain ⟨hg, H⟩ := ifg H
  obtain ⟨q10, hq, H⟩ := bnd H
  refine zEv.call (k := 0) (as := [vR (some (24, (ixR x0))), vI 0]) (L2 := [some (vR x0), some (vI x1)]) (st2 := []) (h2 := (wI h (clR x0) (ixR x0) 0 x1)) (v := none) (h1 := q10) (st3 := []) zm_X6_begin rfl (and2 hg).2 rfl hg rfl zm_J7_fill_53178 rfl (by omega) (ev_J7_fill_53178 (by omega) hq) rfl ?_
  cases H
  exact zEv.ret zm_X6_begin rfl rfl rfl rfl
def f_X6_sum_4 : Nat → zR → Int64 → Int32 → zM → Option (Int64 × zM)
  | 0 => fun _ _ _ _ => none
  | k + 1 => fun x0 x1 x3 h => (if (memN [6] (clR x0) && true) = true then (if (rI h (clR x0) (ixR x0) 0) ≤ x3 then (some (x1, h)) else (if (memN [6] (clR x0) && (true && true)) = true then ((f_X6_cell x0 x3 h).bind fun q15 => (f_X6_sum_4 k x0 (x1 + (Int32.toInt64 q15.1)) (x3 + 1) q15.2)) else none)) else none)
set_option maxRecDepth 20000 in
theorem ev_X6_sum_4 {d : Nat} (hd : 2 ≤ d) : ∀ (k : Nat) {w2 : Option zV} {x0 : zR} {x1 : Int64} {x3 : Int32} {h : zM} {r : Int64 × zM}, f_X6_sum_4 k x0 x1 x3 h = some r → zEv zmt d 39 4 ([some (vR x0), some (vL x1), w2, some (vI x3)], [], h, true) (some (vL r.1), r.2) := by
  intro k
  induction k with
  | zero => intro w2 x0 x1 x3 h r H; cases H
  | succ k ih =>
    intro w2 x0 x1 x3 h r H
    obtain ⟨hg, H⟩ := ifg H
    rcases ifc H with ⟨hc, H⟩ | ⟨hc, H⟩
    · refine zEv.iteT (L2 := [some (vR x0), some (vL x1), w2, some (vI x3)]) (st2 := []) (h2 := h) zm_X6_sum rfl hg rfl hg (decide_eq_true hc) ?_
      cases H
      exact zEv.ret zm_X6_sum rfl rfl rfl rfl
    · refine zEv.iteF (L2 := [some (vR x0), some (vL x1), w2, some (vI x3)]) (st2 := []) (h2 := h) zm_X6_sum rfl hg rfl hg (decide_eq_false hc) ?_
      obtain ⟨hg, H⟩ := ifg H
      obtain ⟨q15, hq, H⟩ := bnd H
      refine zEv.call (k := 37) (as := [vR x0, vI x3]) (L2 := [some (vR x0), some (vL x1), w2, some (vI x3)]) (st2 := [vL x1]) (h2 := h) (v := some (vI q15.1)) (h1 := q15.2) (st3 := [vI q15.1, vL x1]) zm_X6_sum rfl (and2 (and2 hg).2).2 rfl hg rfl zm_X6_cell rfl (by omega) (ev_X6_cell (by omega) hq) rfl ?_
      refine zEv.loc (L2 := [some (vR x0), some (vL (x1 + (Int32.toInt64 q15.1))), none, some (vI (x3 + 1))]) (st2 := []) (h2 := q15.2) zm_X6_sum rfl rfl rfl rfl (fun h => (nomatch h)) ?_
      exact ih H
def f_X6_sum (x0 : zR) (h : zM) : Option (Int64 × zM) := (f_X6_sum_4  1000 x0 0 0 h)
set_option maxRecDepth 20000 in
theorem ev_X6_sum {d : Nat} (hd : 2 ≤ d) {w1 : Option zV} {w2 : Option zV} {w3 : Option zV} {x0 : zR} {h : zM} {r : Int64 × zM} (H : f_X6_sum x0 h = some r) : zEv zmt d 39 0 ([some (vR x0), w1, w2, w3], [], h, true) (some (vL r.1), r.2) := by
  refine zEv.loc (L2 := [some (vR x0), some (vL 0), none, some (vI 0)]) (st2 := []) (h2 := h) zm_X6_sum rfl rfl rfl rfl (fun h => (nomatch h)) ?_
  exact ev_X6_sum_4 (by omega)  1000 H
def f_X7_init (x0 : zR) (h : zM) : Option (zM) := (if (memN [7] (clR x0) && (true && true)) = true then ((f_X0_init x0 h).bind fun q1 => (if (memN [7] (clR x0) && (memN [7] (clR x0) && true)) = true then (some (wI (wI q1 (clR x0) (ixR x0) 1 60) (clR x0) (ixR x0) 2 40)) else none)) else none)
set_option maxRecDepth 20000 in
theorem ev_X7_init {d : Nat} (hd : 2 ≤ d) {x0 : zR} {h : zM} {r : zM} (H : f_X7_init x0 h = some r) : zEv zmt d 40 0 ([some (vR x0)], [], h, true) (none, r) := by
  obtain ⟨hg, H⟩ := ifg H
  obtain ⟨q1, hq, H⟩ := bnd H
  refine zEv.call (k := 3) (as := [vR x0]) (L2 := [some (vR x0)]) (st2 := []) (h2 := h) (v := none) (h1 := q1) (st3 := []) zm_X7_init rfl (and2 (and2 hg).2).2 rfl hg rfl zm_X0_init rfl (by omega) (ev_X0_init (by omega) hq) rfl ?_
  obtain ⟨hg, H⟩ := ifg H
  cases H
  exact zEv.ret zm_X7_init rfl hg rfl hg
def f_X7_let_123 (h : zM) : Option (Int32 × zM) := (some (1, h))
set_option maxRecDepth 20000 in
theorem ev_X7_let_123 {d : Nat} (hd : 0 ≤ d) {w0 : Option zV} {w1 : Option zV} {h : zM} {r : Int32 × zM} (H : f_X7_let_123  h = some r) : zEv zmt d 47 123 ([w0, w1], [], h, true) (some (vI r.1), r.2) := by
  refine zEv.loc (L2 := [w0, w1]) (st2 := [vI 1]) (h2 := h) zm_X7_let rfl rfl rfl rfl (fun h => (nomatch h)) ?_
  cases H
  exact zEv.ret zm_X7_let rfl rfl rfl rfl
def f_X7_let_127 (h : zM) : Option (Int32 × zM) := (some (0, h))
set_option maxRecDepth 20000 in
theorem ev_X7_let_127 {d : Nat} (hd : 0 ≤ d) {w0 : Option zV} {w1 : Option zV} {h : zM} {r : Int32 × zM} (H : f_X7_let_127  h = some r) : zEv zmt d 47 127 ([w0, w1], [], h, true) (some (vI r.1), r.2) := by
  refine zEv.loc (L2 := [w0, w1]) (st2 := [vI 0]) (h2 := h) zm_X7_let rfl rfl rfl rfl (fun h => (nomatch h)) ?_
  cases H
  exact zEv.ret zm_X7_let rfl rfl rfl rfl
def f_X7_let_108 (x0 : zR) (x1 : zR) (h : zM) : Option (Int32 × zM) := (if (memN [7] (clR x0) && true) = true then (if (rI h (clR x0) (ixR x0) 7) = 0 then (f_X7_let_123  h) else (if (memN [2] (clR x1) && true) = true then (if (rI h (clR x1) (ixR x1) 7) = 4 then (f_X7_let_127  h) else (f_X7_let_123  h)) else none)) else none)
set_option maxRecDepth 20000 in
theorem ev_X7_let_108 {d : Nat} (hd : 0 ≤ d) {x0 : zR} {x1 : zR} {h : zM} {r : Int32 × zM} (H : f_X7_let_108 x0 x1 h = some r) : zEv zmt d 47 108 ([some (vR x0), some (vR x1)], [], h, true) (some (vI r.1), r.2) := by
  obtain ⟨hg, H⟩ := ifg H
  rcases ifc H with ⟨hc, H⟩ | ⟨hc, H⟩
  · refine zEv.iteT (L2 := [some (vR x0), some (vR x1)]) (st2 := []) (h2 := h) zm_X7_let rfl hg rfl hg (decide_eq_true hc) ?_
    exact ev_X7_let_123 (by omega)  H
  · refine zEv.iteF (L2 := [some (vR x0), some (vR x1)]) (st2 := []) (h2 := h) zm_X7_let rfl hg rfl hg (decide_eq_false hc) ?_
    obtain ⟨hg, H⟩ := ifg H
    rcases ifc H with ⟨hc, H⟩ | ⟨hc, H⟩
    · refine zEv.iteT (L2 := [some (vR x0), some (vR x1)]) (st2 := []) (h2 := h) zm_X7_let rfl hg rfl hg (decide_eq_true hc) ?_
      exact ev_X7_let_127 (by omega)  H
    · refine zEv.iteF (L2 := [some (vR x0), some (vR x1)]) (st2 := []) (h2 := h) zm_X7_let rfl hg rfl hg (decide_eq_false hc) ?_
      exact ev_X7_let_123 (by omega)  H
def f_X7_let_93 (x0 : zR) (x1 : zR) (h : zM) : Option (Int32 × zM) := (if (memN [7] (clR x0) && true) = true then (if (rI h (clR x0) (ixR x0) 6) = 0 then (f_X7_let_108  x0 x1 h) else (if (memN [2] (clR x1) && true) = true then (if (rI h (clR x1) (ixR x1) 7) = 3 then (f_X7_let_127  h) else (f_X7_let_108  x0 x1 h)) else none)) else none)
set_option maxRecDepth 20000 in
theorem ev_X7_let_93 {d : Nat} (hd : 0 ≤ d) {x0 : zR} {x1 : zR} {h : zM} {r : Int32 × zM} (H : f_X7_let_93 x0 x1 h = some r) : zEv zmt d 47 93 ([some (vR x0), some (vR x1)], [], h, true) (some (vI r.1), r.2) := by
  obtain ⟨hg, H⟩ := ifg H
  rcases ifc H with ⟨hc, H⟩ | ⟨hc, H⟩
  · refine zEv.iteT (L2 := [some (vR x0), some (vR x1)]) (st2 := []) (h2 := h) zm_X7_let rfl hg rfl hg (decide_eq_true hc) ?_
    exact ev_X7_let_108 (by omega)  H
  · refine zEv.iteF (L2 := [some (vR x0), some (vR x1)]) (st2 := []) (h2 := h) zm_X7_let rfl hg rfl hg (decide_eq_false hc) ?_
    obtain ⟨hg, H⟩ := ifg H
    rcases ifc H with ⟨hc, H⟩ | ⟨hc, H⟩
    · refine zEv.iteT (L2 := [some (vR x0), some (vR x1)]) (st2 := []) (h2 := h) zm_X7_let rfl hg rfl hg (decide_eq_true hc) ?_
      exact ev_X7_let_127 (by omega)  H
    · refine zEv.iteF (L2 := [some (vR x0), some (vR x1)]) (st2 := []) (h2 := h) zm_X7_let rfl hg rfl hg (decide_eq_false hc) ?_
      exact ev_X7_let_108 (by omega)  H
def f_X7_let_30 (x0 : zR) (x1 : zR) (h : zM) : Option (Int32 × zM) := (if (memN [7] (clR x0) && (memN [3] (clR (rR h (clR x1) (ixR x1) 2)) && (memN [2] (clR x1) && true))) = true then (if (rI h (clR x0) (ixR x0) 2) < (rI h (clR (rR h (clR x1) (ixR x1) 2)) (ixR (rR h (clR x1) (ixR x1) 2)) 0) then (some (0, h)) else (if (memN [7] (clR x0) && (true && (memN [2] (clR x1) && true))) = true then (if (rI h (clR x0) (ixR x0) 4) ≤ ((rI h (clR x1) (ixR x1) 3) / 365) then (if (memN [2] (clR x1) && (memN [7] (clR x0) && true)) = true then (if ¬ (((rI h (clR x0) (ixR x0) 3) >>> ((rI h (clR x1) (ixR x1) 6) &&& 31)) &&& 1) = 1 then (if (memN [7] (clR x0) && true) = true then (if (rI h (clR x0) (ixR x0) 5) = 0 then (f_X7_let_93  x0 x1 h) else (if (memN [2] (clR x1) && true) = true then (if (rI h (clR x1) (ixR x1) 7) = 5 then (f_X7_let_127  h) else (f_X7_let_93  x0 x1 h)) else none)) else none) else (some (0, h))) else none) else (some (0, h))) else none)) else none)
set_option maxRecDepth 20000 in
theorem ev_X7_let_30 {d : Nat} (hd : 0 ≤ d) {x0 : zR} {x1 : zR} {h : zM} {r : Int32 × zM} (H : f_X7_let_30 x0 x1 h = some r) : zEv zmt d 47 30 ([some (vR x0), some (vR x1)], [], h, true) (some (vI r.1), r.2) := by
  obtain ⟨hg, H⟩ := ifg H
  rcases ifc H with ⟨hc, H⟩ | ⟨hc, H⟩
  · refine zEv.iteT (L2 := [some (vR x0), some (vR x1)]) (st2 := []) (h2 := h) zm_X7_let rfl hg rfl hg (decide_eq_true hc) ?_
    cases H
    exact zEv.ret zm_X7_let rfl rfl rfl rfl
  · refine zEv.iteF (L2 := [some (vR x0), some (vR x1)]) (st2 := []) (h2 := h) zm_X7_let rfl hg rfl hg (decide_eq_false hc) ?_
    obtain ⟨hg, H⟩ := ifg H
    rcases ifc H with ⟨hc, H⟩ | ⟨hc, H⟩
    · refine zEv.iteT (L2 := [some (vR x0), some (vR x1)]) (st2 := []) (h2 := h) zm_X7_let rfl hg rfl hg (decide_eq_true hc) ?_
      obtain ⟨hg, H⟩ := ifg H
      rcases ifc H with ⟨hc, H⟩ | ⟨hc, H⟩
      · refine zEv.iteT (L2 := [some (vR x0), some (vR x1)]) (st2 := []) (h2 := h) zm_X7_let rfl hg rfl hg (decide_eq_true hc) ?_
        obtain ⟨hg, H⟩ := ifg H
        rcases ifc H with ⟨hc, H⟩ | ⟨hc, H⟩
        · refine zEv.iteT (L2 := [some (vR x0), some (vR x1)]) (st2 := []) (h2 := h) zm_X7_let rfl hg rfl hg (decide_eq_true hc) ?_
          exact ev_X7_let_93 (by omega)  H
        · refine zEv.iteF (L2 := [some (vR x0), some (vR x1)]) (st2 := []) (h2 := h) zm_X7_let rfl hg rfl hg (decide_eq_false hc) ?_
          obtain ⟨hg, H⟩ := ifg H
          rcases ifc H with ⟨hc, H⟩ | ⟨hc, H⟩
          · refine zEv.iteT (L2 := [some (vR x0), some (vR x1)]) (st2 := []) (h2 := h) zm_X7_let rfl hg rfl hg (decide_eq_true hc) ?_
            exact ev_X7_let_127 (by omega)  H
          · refine zEv.iteF (L2 := [some (vR x0), some (vR x1)]) (st2 := []) (h2 := h) zm_X7_let rfl hg rfl hg (decide_eq_false hc) ?_
            exact ev_X7_let_93 (by omega)  H
      · refine zEv.iteF (L2 := [some (vR x0), some (vR x1)]) (st2 := []) (h2 := h) zm_X7_let rfl hg rfl hg (decide_eq_false hc) ?_
        cases H
        exact zEv.ret zm_X7_let rfl rfl rfl rfl
    · refine zEv.iteF (L2 := [some (vR x0), some (vR x1)]) (st2 := []) (h2 := h) zm_X7_let rfl hg rfl hg (decide_eq_false hc) ?_
      cases H
      exact zEv.ret zm_X7_let rfl rfl rfl rfl
def f_X7_let (x0 : zR) (x1 : zR) (h : zM) : Option (Int32 × zM) := (if (memN [7] (clR x0) && true) = true then (if (rI h (clR x0) (ixR x0) 0) = 0 then (f_X7_let_30  x0 x1 h) else (if (memN [2] (clR x1) && true) = true then (if (rI h (clR x1) (ixR x1) 5) = (-9999) then (some (0, h)) else (if (memN [7] (clR x0) && (memN [2] (clR x1) && true)) = true then (if (rI h (clR x1) (ixR x1) 5) ≤ (rI h (clR x0) (ixR x0) 1) then (f_X7_let_30  x0 x1 h) else (some (0, h))) else none)) else none)) else none)
set_option maxRecDepth 20000 in
theorem ev_X7_let {d : Nat} (hd : 0 ≤ d) {x0 : zR} {x1 : zR} {h : zM} {r : Int32 × zM} (H : f_X7_let x0 x1 h = some r) : zEv zmt d 47 0 ([some (vR x0), some (vR x1)], [], h, true) (some (vI r.1), r.2) := by
  obtain ⟨hg, H⟩ := ifg H
  rcases ifc H with ⟨hc, H⟩ | ⟨hc, H⟩
  · refine zEv.iteT (L2 := [some (vR x0), some (vR x1)]) (st2 := []) (h2 := h) zm_X7_let rfl hg rfl hg (decide_eq_true hc) ?_
    exact ev_X7_let_30 (by omega)  H
  · refine zEv.iteF (L2 := [some (vR x0), some (vR x1)]) (st2 := []) (h2 := h) zm_X7_let rfl hg rfl hg (decide_eq_false hc) ?_
    obtain ⟨hg, H⟩ := ifg H
    rcases ifc H with ⟨hc, H⟩ | ⟨hc, H⟩
    · refine zEv.iteT (L2 := [some (vR x0), some (vR x1)]) (st2 := []) (h2 := h) zm_X7_let rfl hg rfl hg (decide_eq_true hc) ?_
      cases H
      exact zEv.ret zm_X7_let rfl rfl rfl rfl
    · refine zEv.iteF (L2 := [some (vR x0), some (vR x1)]) (st2 := []) (h2 := h) zm_X7_let rfl hg rfl hg (decide_eq_false hc) ?_
      obtain ⟨hg, H⟩ := ifg H
      rcases ifc H with ⟨hc, H⟩ | ⟨hc, H⟩
      · refine zEv.iteT (L2 := [some (vR x0), some (vR x1)]) (st2 := []) (h2 := h) zm_X7_let rfl hg rfl hg (decide_eq_true hc) ?_
        exact ev_X7_let_30 (by omega)  H
      · refine zEv.iteF (L2 := [some (vR x0), some (vR x1)]) (st2 := []) (h2 := h) zm_X7_let rfl hg rfl hg (decide_eq_false hc) ?_
        cases H
        exact zEv.ret zm_X7_let rfl rfl rfl rfl
def f_X8_isMissing (x0 : zR) (h : zM) : Option (Int32 × zM) := (if (memN [6, 9] (clR x0) && true) = true then (if 0 ≤ (rI h (clR x0) (ixR x0) 0) then (some (0, h)) else (some (1, h))) else none)
set_option maxRecDepth 20000 in
theorem ev_X8_isMissing {d : Nat} (hd : 0 ≤ d) {x0 : zR} {h : zM} {r : Int32 × zM} (H : f_X8_isMissing x0 h = some r) : zEv zmt d 49 0 ([some (vR x0)], [], h, true) (some (vI r.1), r.2) := by
  obtain ⟨hg, H⟩ := ifg H
  rcases ifc H with ⟨hc, H⟩ | ⟨hc, H⟩
  · refine zEv.iteT (L2 := [some (vR x0)]) (st2 := []) (h2 := h) zm_X8_isMissing rfl hg rfl hg (decide_eq_true hc) ?_
    refine zEv.loc (L2 := [some (vR x0)]) (st2 := [vI 0]) (h2 := h) zm_X8_isMissing rfl rfl rfl rfl (fun h => (nomatch h)) ?_
    cases H
    exact zEv.ret zm_X8_isMissing rfl rfl rfl rfl
  · refine zEv.iteF (L2 := [some (vR x0)]) (st2 := []) (h2 := h) zm_X8_isMissing rfl hg rfl hg (decide_eq_false hc) ?_
    refine zEv.loc (L2 := [some (vR x0)]) (st2 := [vI 1]) (h2 := h) zm_X8_isMissing rfl rfl rfl rfl (fun h => (nomatch h)) ?_
    cases H
    exact zEv.ret zm_X8_isMissing rfl rfl rfl rfl
def f_X8_hasRun_22 (h : zM) : Option (Int32 × zM) := (some (0, h))
set_option maxRecDepth 20000 in
theorem ev_X8_hasRun_22 {d : Nat} (hd : 0 ≤ d) {w0 : Option zV} {w1 : Option zV} {w2 : Option zV} {h : zM} {r : Int32 × zM} (H : f_X8_hasRun_22  h = some r) : zEv zmt d 51 22 ([w0, w1, w2], [], h, true) (some (vI r.1), r.2) := by
  refine zEv.loc (L2 := [w0, w1, w2]) (st2 := [vI 0]) (h2 := h) zm_X8_hasRun rfl rfl rfl rfl (fun h => (nomatch h)) ?_
  cases H
  exact zEv.ret zm_X8_hasRun rfl rfl rfl rfl
def f_X8_hasRun (x0 : zR) (x1 : Int32) (x2 : Int32) (h : zM) : Option (Int32 × zM) := (if x1 < 0 then (f_X8_hasRun_22  h) else (if x2 < 0 then (f_X8_hasRun_22  h) else (if (memN [6, 9] (clR x0) && true) = true then (if ((rI h (clR x0) (ixR x0) 0) - x2) < x1 then (f_X8_hasRun_22  h) else (some (1, h))) else none)))
set_option maxRecDepth 20000 in
theorem ev_X8_hasRun {d : Nat} (hd : 0 ≤ d) {x0 : zR} {x1 : Int32} {x2 : Int32} {h : zM} {r : Int32 × zM} (H : f_X8_hasRun x0 x1 x2 h = some r) : zEv zmt d 51 0 ([some (vR x0), some (vI x1), some (vI x2)], [], h, true) (some (vI r.1), r.2) := by
  rcases ifc H with ⟨hc, H⟩ | ⟨hc, H⟩
  · refine zEv.iteT (L2 := [some (vR x0), some (vI x1), some (vI x2)]) (st2 := []) (h2 := h) zm_X8_hasRun rfl rfl rfl rfl (decide_eq_true hc) ?_
    exact ev_X8_hasRun_22 (by omega)  H
  · refine zEv.iteF (L2 := [some (vR x0), some (vI x1), some (vI x2)]) (st2 := []) (h2 := h) zm_X8_hasRun rfl rfl rfl rfl (decide_eq_false hc) ?_
    rcases ifc H with ⟨hc, H⟩ | ⟨hc, H⟩
    · refine zEv.iteT (L2 := [some (vR x0), some (vI x1), some (vI x2)]) (st2 := []) (h2 := h) zm_X8_hasRun rfl rfl rfl rfl (decide_eq_true hc) ?_
      exact ev_X8_hasRun_22 (by omega)  H
    · refine zEv.iteF (L2 := [some (vR x0), some (vI x1), some (vI x2)]) (st2 := []) (h2 := h) zm_X8_hasRun rfl rfl rfl rfl (decide_eq_false hc) ?_
      obtain ⟨hg, H⟩ := ifg H
      rcases ifc H with ⟨hc, H⟩ | ⟨hc, H⟩
      · refine zEv.iteT (L2 := [some (vR x0), some (vI x1), some (vI x2)]) (st2 := []) (h2 := h) zm_X8_hasRun rfl hg rfl hg (decide_eq_true hc) ?_
        exact ev_X8_hasRun_22 (by omega)  H
      · refine zEv.iteF (L2 := [some (vR x0), some (vI x1), some (vI x2)]) (st2 := []) (h2 := h) zm_X8_hasRun rfl hg rfl hg (decide_eq_false hc) ?_
        refine zEv.loc (L2 := [some (vR x0), some (vI x1), some (vI x2)]) (st2 := [vI 1]) (h2 := h) zm_X8_hasRun rfl rfl rfl rfl (fun h => (nomatch h)) ?_
        cases H
        exact zEv.ret zm_X8_hasRun rfl rfl rfl rfl
def f_X9_cell (x0 : zR) (x1 : Int32) (h : zM) : Option (Int32 × zM) := (if (memN [9] (clR x0) && (true && true)) = true then ((f_X8_has x0 x1 h).bind fun q2 => (if q2.1 = 0 then (some (0, q2.2)) else (if (true && (ixOk 40 x1 && (memN [9] (clR x0) && (decide (rR q2.2 (clR x0) (ixR x0) 1 = (some (25, (ixR x0)))) && true)))) = true then (some ((rI q2.2 25 (ixR x0) (Int32.toNatClampNeg x1)), q2.2)) else none))) else none)
set_option maxRecDepth 20000 in
theorem ev_X9_cell {d : Nat} (hd : 1 ≤ d) {x0 : zR} {x1 : Int32} {h : zM} {r : Int32 × zM} (H : f_X9_cell x0 x1 h = some r) : zEv zmt d 54 0 ([some (vR x0), some (vI x1)], [], h, true) (some (vI r.1), r.2) := by
  obtain ⟨hg, H⟩ := ifg H
  obtain ⟨q2, hq, H⟩ := bnd H
  refine zEv.call (k := 50) (as := [vR x0, vI x1]) (L2 := [some (vR x0), some (vI x1)]) (st2 := []) (h2 := h) (v := some (vI q2.1)) (h1 := q2.2) (st3 := [vI q2.1]) zm_X9_cell rfl (and2 (and2 hg).2).2 rfl hg rfl zm_X8_has rfl (by omega) (ev_X8_has (by omega) hq) rfl ?_
  rcases ifc H with ⟨hc, H⟩ | ⟨hc, H⟩
  · refine zEv.iteT (L2 := [some (vR x0), some (vI x1)]) (st2 := []) (h2 := q2.2) zm_X9_cell rfl rfl rfl rfl (decide_eq_true hc) ?_
    refine zEv.loc (L2 := [some (vR x0), some (vI x1)]) (st2 := [vI 0]) (h2 := q2.2) zm_X9_cell rfl rfl rfl rfl (fun h => (nomatch h)) ?_
    cases H
    exact zEv.ret zm_X9_cell rfl rfl rfl rfl
  · refine zEv.iteF (L2 := [some (vR x0), some (vI x1)]) (st2 := []) (h2 := q2.2) zm_X9_cell rfl rfl rfl rfl (decide_eq_false hc) ?_
    obtain ⟨hg, H⟩ := ifg H
    refine zEv.loc (L2 := [some (vR x0), some (vI x1)]) (st2 := [vI (rI q2.2 25 (ixR x0) (Int32.toNatClampNeg x1))]) (h2 := q2.2) zm_X9_cell rfl hg rfl hg (fun h => (nomatch h)) ?_
    cases H
    exact zEv.ret zm_X9_cell rfl rfl rfl rfl
def f_X8_mixInto_15 : Nat → zR → Int64 → Int32 → zM → Option (Int64 × zM)
  | 0 => fun _ _ _ _ => none
  | k + 1 => fun x0 x3 x5 h => (if (memN [6, 9] (clR x0) && true) = true then (if (rI h (clR x0) (ixR x0) 0) ≤ x5 then (some (x3, h)) else (if (memN [6, 9] (clR x0) && (true && true)) = true then (((if clR x0 = 6 then f_X6_cell x0 x5 h else f_X9_cell x0 x5 h)).bind fun q32 => (f_X8_mixInto_15 k x0 ((31 * x3) + (Int32.toInt64 q32.1)) (x5 + 1) q32.2)) else none)) else none)
set_option maxRecDepth 20000 in
theorem ev_X8_mixInto_15 {d : Nat} (hd : 2 ≤ d) : ∀ (k : Nat) {w1 : Option zV} {w2 : Option zV} {w4 : Option zV} {x0 : zR} {x3 : Int64} {x5 : Int32} {h : zM} {r : Int64 × zM}, f_X8_mixInto_15 k x0 x3 x5 h = some r → zEv zmt d 52 15 ([some (vR x0), w1, w2, some (vL x3), w4, some (vI x5)], [], h, true) (some (vL r.1), r.2) := by
  intro k
  induction k with
  | zero => intro w1 w2 w4 x0 x3 x5 h r H; cases H
  | succ k ih =>
    intro w1 w2 w4 x0 x3 x5 h r H
    obtain ⟨hg, H⟩ := ifg H
    rcases ifc H with ⟨hc, H⟩ | ⟨hc, H⟩
    · refine zEv.iteT (L2 := [some (vR x0), w1, w2, some (vL x3), w4, some (vI x5)]) (st2 := []) (h2 := h) zm_X8_mixInto rfl hg rfl hg (decide_eq_true hc) ?_
      cases H
      exact zEv.ret zm_X8_mixInto rfl rfl rfl rfl
    · refine zEv.iteF (L2 := [some (vR x0), w1, w2, some (vL x3), w4, some (vI x5)]) (st2 := []) (h2 := h) zm_X8_mixInto rfl hg rfl hg (decide_eq_false hc) ?_
      obtain ⟨hg, H⟩ := ifg H
      obtain ⟨q32, hq, H⟩ := bnd H
      rcases ifc hq with ⟨hcl, hq⟩ | ⟨hcl, hq⟩
      · refine zEv.call (k := 37) (as := [vR x0, vI x5]) (L2 := [some (vR x0), w1, w2, some (vL x3), w4, some (vI x5)]) (st2 := [vL (31 * x3)]) (h2 := h) (v := some (vI q32.1)) (h1 := q32.2) (st3 := [vI q32.1, vL (31 * x3)]) zm_X8_mixInto rfl (and2 (and2 hg).2).2 rfl hg (by rw [hcl]; rfl) zm_X6_cell rfl (by omega) (ev_X6_cell (by omega) hq) rfl ?_
        refine zEv.loc (L2 := [some (vR x0), w1, none, some (vL ((31 * x3) + (Int32.toInt64 q32.1))), none, some (vI (x5 + 1))]) (st2 := []) (h2 := q32.2) zm_X8_mixInto rfl rfl rfl rfl (fun h => (nomatch h)) ?_
        exact ih H
      · refine zEv.call (k := 54) (as := [vR x0, vI x5]) (L2 := [some (vR x0), w1, w2, some (vL x3), w4, some (vI x5)]) (st2 := [vL (31 * x3)]) (h2 := h) (v := some (vI q32.1)) (h1 := q32.2) (st3 := [vI q32.1, vL (31 * x3)]) zm_X8_mixInto rfl (and2 (and2 hg).2).2 rfl hg (by show (bif Nat.beq (clR x0) 6 then 37 else 54) = 54; rw [nbeqF hcl]; rfl) zm_X9_cell rfl (by omega) (ev_X9_cell (by omega) hq) rfl ?_
        refine zEv.loc (L2 := [some (vR x0), w1, none, some (vL ((31 * x3) + (Int32.toInt64 q32.1))), none, some (vI (x5 + 1))]) (st2 := []) (h2 := q32.2) zm_X8_mixInto rfl rfl rfl rfl (fun h => (nomatch h)) ?_
        exact ih H
def f_X8_mixInto (x0 : zR) (x1 : Int64) (h : zM) : Option (Int64 × zM) := (if (true && (true && (memN [6, 9] (clR x0) && true))) = true then (f_X8_mixInto_15  1000 x0 ((31 * x1) + (Int32.toInt64 (rI h (clR x0) (ixR x0) 0))) 0 h) else none)
set_option maxRecDepth 20000 in
theorem ev_X8_mixInto {d : Nat} (hd : 2 ≤ d) {w2 : Option zV} {w3 : Option zV} {w4 : Option zV} {w5 : Option zV} {x0 : zR} {x1 : Int64} {h : zM} {r : Int64 × zM} (H : f_X8_mixInto x0 x1 h = some r) : zEv zmt d 52 0 ([some (vR x0), some (vL x1), w2, w3, w4, w5], [], h, true) (some (vL r.1), r.2) := by
  obtain ⟨hg, H⟩ := ifg H
  refine zEv.loc (L2 := [some (vR x0), some (vL x1), none, some (vL ((31 * x1) + (Int32.toInt64 (rI h (clR x0) (ixR x0) 0)))), none, some (vI 0)]) (st2 := []) (h2 := h) zm_X8_mixInto rfl hg rfl hg (fun h => (nomatch h)) ?_
  exact ev_X8_mixInto_15 (by omega)  1000 H
def f_X9_init (x0 : zR) (h : zM) : Option (zM) := (if (memN [9] (clR x0) && (true && true)) = true then ((f_X8_init x0 h).bind fun q1 => (if (memN [9] (clR x0) && (true && true)) = true then (some (wR (nwM q1 25 40) (clR x0) (ixR x0) 1 (some (25, (cnM q1 25))))) else none)) else none)
set_option maxRecDepth 20000 in
theorem ev_X9_init {d : Nat} (hd : 2 ≤ d) {x0 : zR} {h : zM} {r : zM} (H : f_X9_init x0 h = some r) : zEv zmt d 53 0 ([some (vR x0)], [], h, true) (none, r) := by
  obtain ⟨hg, H⟩ := ifg H
  obtain ⟨q1, hq, H⟩ := bnd H
  refine zEv.call (k := 48) (as := [vR x0]) (L2 := [some (vR x0)]) (st2 := []) (h2 := h) (v := none) (h1 := q1) (st3 := []) zm_X9_init rfl (and2 (and2 hg).2).2 rfl hg rfl zm_X8_init rfl (by omega) (ev_X8_init (by omega) hq) rfl ?_
  obtain ⟨hg, H⟩ := ifg H
  cases H
  exact zEv.ret zm_X9_init rfl hg rfl hg
def f_X9_begin (x0 : zR) (x1 : Int32) (h : zM) : Option (zM) := (if (true && (memN [9] (clR x0) && (decide (rR h (clR x0) (ixR x0) 1 = (some (25, (ixR x0)))) && (memN [9] (clR x0) && true)))) = true then ((f_J7_fill_031fb (some (25, (ixR x0))) 32 (wI h (clR x0) (ixR x0) 0 x1)).bind fun q11 => (some q11)) else none)
set_option maxRecDepth 20000 in
theorem ev_X9_begin {d : Nat} (hd : 1 ≤ d) {x0 : zR} {x1 : Int32} {h : zM} {r : zM} (H : f_X9_begin x0 x1 h = some r) : zEv zmt d 55 0 ([some (vR x0), some (vI x1)], [], h, true) (none, r) := by
  obtain ⟨hg, H⟩ := ifg H
  obtain ⟨q11, hq, H⟩ := bnd H
  refine zEv.call (k := 1) (as := [vR (some (25, (ixR x0))), vI 32]) (L2 := [some (vR x0), some (vI x1)]) (st2 := []) (h2 := (wI h (clR x0) (ixR x0) 0 x1)) (v := none) (h1 := q11) (st3 := []) zm_X9_begin rfl (and2 hg).2 rfl hg rfl zm_J7_fill_031fb rfl (by omega) (ev_J7_fill_031fb (by omega) hq) rfl ?_
  cases H
  exact zEv.ret zm_X9_begin rfl rfl rfl rfl
def f_X10_init_50 : Nat → Int32 → zM → Option (zM)
  | 0 => fun _ _ => none
  | k + 1 => fun x1 h => (if 4 ≤ x1 then ((f_X4_init (some (4, (cnM h 4))) (nwM (wR (nwM (wR (nwM (wR (nwM h 28 8) 10 0 2 (some (28, (cnM h 28)))) 29 40) 10 0 3 (some (29, (cnM h 29)))) 30 2) 10 0 4 (some (30, (cnM h 30)))) 4 4)).bind fun q105 => ((f_X4_init (some (4, (cnM q105 4))) (nwM (wR q105 10 0 5 (some (4, (cnM h 4)))) 4 4)).bind fun q116 => (some (wL (wR (nwM (wR q116 10 0 6 (some (4, (cnM q105 4)))) 31 6) 10 0 7 (some (31, (cnM q116 31)))) 10 0 14 1)))) else (if (true && (true && (true && (true && (decide (rR h 10 0 1 = (some (27, 0))) && true))))) = true then ((f_X9_init (some (9, (cnM h 9))) (nwM h 9 2)).bind fun q64 => (if (true && (true && (ixOk 4 x1 && true))) = true then (f_X10_init_50 k (x1 + 1) (wR q64 27 0 (Int32.toNatClampNeg x1) (some (9, (cnM h 9))))) else none)) else none))
set_option maxRecDepth 20000 in
theorem ev_X10_init_50 {d : Nat} (hd : 3 ≤ d) : ∀ (k : Nat) {x1 : Int32} {h : zM} {r : zM}, f_X10_init_50 k x1 h = some r → zEv zmt d 56 50 ([some (vR (some (10, 0))), some (vI x1)], [], h, true) (none, r) := by
  intro k
  induction k with
  | zero => intro x1 h r H; cases H
  | succ k ih =>
    intro x1 h r H
    rcases ifc H with ⟨hc, H⟩ | ⟨hc, H⟩
    · refine zEv.iteT (L2 := [some (vR (some (10, 0))), some (vI x1)]) (st2 := []) (h2 := h) zm_X10_init rfl rfl rfl rfl (decide_eq_true hc) ?_
      obtain ⟨q105, hq, H⟩ := bnd H
      refine zEv.call (k := 27) (as := [vR (some (4, (cnM h 4)))]) (L2 := [some (vR (some (10, 0))), some (vI x1)]) (st2 := [vR (some (4, (cnM h 4))), vR (some (10, 0))]) (h2 := (nwM (wR (nwM (wR (nwM (wR (nwM h 28 8) 10 0 2 (some (28, (cnM h 28)))) 29 40) 10 0 3 (some (29, (cnM h 29)))) 30 2) 10 0 4 (some (30, (cnM h 30)))) 4 4)) (v := none) (h1 := q105) (st3 := [vR (some (4, (cnM h 4))), vR (some (10, 0))]) zm_X10_init rfl rfl rfl rfl rfl zm_X4_init rfl (by omega) (ev_X4_init (by omega) hq) rfl ?_
      obtain ⟨q116, hq, H⟩ := bnd H
      refine zEv.call (k := 27) (as := [vR (some (4, (cnM q105 4)))]) (L2 := [some (vR (some (10, 0))), some (vI x1)]) (st2 := [vR (some (4, (cnM q105 4))), vR (some (10, 0))]) (h2 := (nwM (wR q105 10 0 5 (some (4, (cnM h 4)))) 4 4)) (v := none) (h1 := q116) (st3 := [vR (some (4, (cnM q105 4))), vR (some (10, 0))]) zm_X10_init rfl rfl rfl rfl rfl zm_X4_init rfl (by omega) (ev_X4_init (by omega) hq) rfl ?_
      cases H
      exact zEv.ret zm_X10_init rfl rfl rfl rfl
    · refine zEv.iteF (L2 := [some (vR (some (10, 0))), some (vI x1)]) (st2 := []) (h2 := h) zm_X10_init rfl rfl rfl rfl (decide_eq_false hc) ?_
      obtain ⟨hg, H⟩ := ifg H
      obtain ⟨q64, hq, H⟩ := bnd H
      refine zEv.call (k := 53) (as := [vR (some (9, (cnM h 9)))]) (L2 := [some (vR (some (10, 0))), some (vI x1)]) (st2 := [vR (some (9, (cnM h 9))), vI x1, vR (some (27, 0))]) (h2 := (nwM h 9 2)) (v := none) (h1 := q64) (st3 := [vR (some (9, (cnM h 9))), vI x1, vR (some (27, 0))]) zm_X10_init rfl (and2 (and2 hg).2).2 rfl hg rfl zm_X9_init rfl (by omega) (ev_X9_init (by omega) hq) rfl ?_
      obtain ⟨hg, H⟩ := ifg H
      refine zEv.loc (L2 := [some (vR (some (10, 0))), some (vI (x1 + 1))]) (st2 := []) (h2 := (wR q64 27 0 (Int32.toNatClampNeg x1) (some (9, (cnM h 9))))) zm_X10_init rfl hg rfl hg (fun h => (nomatch h)) ?_
      exact ih H
def f_X10_init_15 : Nat → Int32 → zM → Option (zM)
  | 0 => fun _ _ => none
  | k + 1 => fun x1 h => (if 6 ≤ x1 then (f_X10_init_50  1000 0 (wR (nwM h 27 4) 10 0 1 (some (27, (cnM h 27))))) else (if (true && (true && (true && (true && (decide (rR h 10 0 0 = (some (26, 0))) && true))))) = true then ((f_X6_init (some (6, (cnM h 6))) (nwM h 6 2)).bind fun q30 => (if (true && (true && (ixOk 6 x1 && true))) = true then (f_X10_init_15 k (x1 + 1) (wR q30 26 0 (Int32.toNatClampNeg x1) (some (6, (cnM h 6))))) else none)) else none))
set_option maxRecDepth 20000 in
theorem ev_X10_init_15 {d : Nat} (hd : 3 ≤ d) : ∀ (k : Nat) {x1 : Int32} {h : zM} {r : zM}, f_X10_init_15 k x1 h = some r → zEv zmt d 56 15 ([some (vR (some (10, 0))), some (vI x1)], [], h, true) (none, r) := by
  intro k
  induction k with
  | zero => intro x1 h r H; cases H
  | succ k ih =>
    intro x1 h r H
    rcases ifc H with ⟨hc, H⟩ | ⟨hc, H⟩
    · refine zEv.iteT (L2 := [some (vR (some (10, 0))), some (vI x1)]) (st2 := []) (h2 := h) zm_X10_init rfl rfl rfl rfl (decide_eq_true hc) ?_
      refine zEv.loc (L2 := [some (vR (some (10, 0))), some (vI 0)]) (st2 := []) (h2 := (wR (nwM h 27 4) 10 0 1 (some (27, (cnM h 27))))) zm_X10_init rfl rfl rfl rfl (fun h => (nomatch h)) ?_
      exact ev_X10_init_50 (by omega)  1000 H
    · refine zEv.iteF (L2 := [some (vR (some (10, 0))), some (vI x1)]) (st2 := []) (h2 := h) zm_X10_init rfl rfl rfl rfl (decide_eq_false hc) ?_
      obtain ⟨hg, H⟩ := ifg H
      obtain ⟨q30, hq, H⟩ := bnd H
      refine zEv.call (k := 36) (as := [vR (some (6, (cnM h 6)))]) (L2 := [some (vR (some (10, 0))), some (vI x1)]) (st2 := [vR (some (6, (cnM h 6))), vI x1, vR (some (26, 0))]) (h2 := (nwM h 6 2)) (v := none) (h1 := q30) (st3 := [vR (some (6, (cnM h 6))), vI x1, vR (some (26, 0))]) zm_X10_init rfl (and2 (and2 hg).2).2 rfl hg rfl zm_X6_init rfl (by omega) (ev_X6_init (by omega) hq) rfl ?_
      obtain ⟨hg, H⟩ := ifg H
      refine zEv.loc (L2 := [some (vR (some (10, 0))), some (vI (x1 + 1))]) (st2 := []) (h2 := (wR q30 26 0 (Int32.toNatClampNeg x1) (some (6, (cnM h 6))))) zm_X10_init rfl hg rfl hg (fun h => (nomatch h)) ?_
      exact ih H
def f_X10_init (h : zM) : Option (zM) := (f_X10_init_15  1000 0 (wR (nwM h 26 6) 10 0 0 (some (26, (cnM h 26)))))
set_option maxRecDepth 20000 in
theorem ev_X10_init {d : Nat} (hd : 3 ≤ d) {w1 : Option zV} {h : zM} {r : zM} (H : f_X10_init  h = some r) : zEv zmt d 56 0 ([some (vR (some (10, 0))), w1], [], h, true) (none, r) := by
  refine zEv.loc (L2 := [some (vR (some (10, 0))), w1]) (st2 := []) (h2 := h) zm_X10_init rfl rfl rfl rfl (fun _ => by omega) ?_
  refine zEv.loc (L2 := [some (vR (some (10, 0))), some (vI 0)]) (st2 := []) (h2 := (wR (nwM h 26 6) 10 0 0 (some (26, (cnM h 26))))) zm_X10_init rfl rfl rfl rfl (fun h => (nomatch h)) ?_
  exact ev_X10_init_15 (by omega)  1000 H
def f_X10_rowAt (x1 : Int32) (h : zM) : Option (zR × zM) := ((f_X10_within x1 0 5 h).bind fun q3 => (if q3.1 = 0 then (some (none, q3.2)) else (if (true && (ixOk 6 x1 && (decide (rR q3.2 26 0 (Int32.toNatClampNeg x1) = (some (6, (Int32.toNatClampNeg x1)))) && (true && (decide (rR q3.2 10 0 0 = (some (26, 0))) && true))))) = true then (some ((some (6, (Int32.toNatClampNeg x1))), q3.2)) else none)))
set_option maxRecDepth 20000 in
theorem ev_X10_rowAt {d : Nat} (hd : 1 ≤ d) {x1 : Int32} {h : zM} {r : zR × zM} (H : f_X10_rowAt x1 h = some r) : zEv zmt d 101 0 ([some (vR (some (10, 0))), some (vI x1)], [], h, true) (some (vR r.1), r.2) := by
  obtain ⟨q3, hq, H⟩ := bnd H
  refine zEv.call (k := 100) (as := [vI x1, vI 0, vI 5]) (L2 := [some (vR (some (10, 0))), some (vI x1)]) (st2 := []) (h2 := h) (v := some (vI q3.1)) (h1 := q3.2) (st3 := [vI q3.1]) zm_X10_rowAt rfl rfl rfl rfl rfl zm_X10_within rfl (by omega) (ev_X10_within (by omega) hq) rfl ?_
  rcases ifc H with ⟨hc, H⟩ | ⟨hc, H⟩
  · refine zEv.iteT (L2 := [some (vR (some (10, 0))), some (vI x1)]) (st2 := []) (h2 := q3.2) zm_X10_rowAt rfl rfl rfl rfl (decide_eq_true hc) ?_
    refine zEv.loc (L2 := [some (vR (some (10, 0))), some (vI x1)]) (st2 := [vR none]) (h2 := q3.2) zm_X10_rowAt rfl rfl rfl rfl (fun h => (nomatch h)) ?_
    cases H
    exact zEv.ret zm_X10_rowAt rfl rfl rfl rfl
  · refine zEv.iteF (L2 := [some (vR (some (10, 0))), some (vI x1)]) (st2 := []) (h2 := q3.2) zm_X10_rowAt rfl rfl rfl rfl (decide_eq_false hc) ?_
    obtain ⟨hg, H⟩ := ifg H
    refine zEv.loc (L2 := [some (vR (some (10, 0))), some (vI x1)]) (st2 := [vR (some (6, (Int32.toNatClampNeg x1)))]) (h2 := q3.2) zm_X10_rowAt rfl hg rfl hg (fun h => (nomatch h)) ?_
    cases H
    exact zEv.ret zm_X10_rowAt rfl rfl rfl rfl
def f_X10_found (x1 : Int32) (h : zM) : Option (Int32 × zM) := (if (true && (ixOk 6 x1 && (true && (ixOk 6 x1 && (true && (true && (true && (decide (rR h 10 0 7 = (some (31, 0))) && (true && true))))))))) = true then (some ((-3), (wI (wI h 10 0 12 x1) 31 0 (Int32.toNatClampNeg x1) ((rI (wI h 10 0 12 x1) 31 0 (Int32.toNatClampNeg x1)) + 1)))) else none)
set_option maxRecDepth 20000 in
theorem ev_X10_found {d : Nat} (hd : 0 ≤ d) {x1 : Int32} {h : zM} {r : Int32 × zM} (H : f_X10_found x1 h = some r) : zEv zmt d 105 0 ([some (vR (some (10, 0))), some (vI x1)], [], h, true) (some (vI r.1), r.2) := by
  obtain ⟨hg, H⟩ := ifg H
  cases H
  exact zEv.ret zm_X10_found rfl hg rfl hg
