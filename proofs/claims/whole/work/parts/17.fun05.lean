def f_X10_stripsThere_25 (K4 : zR → Int32 → Int32 → zM → Option (Int32 × zM)) (x0 : zR) (x2 : Int32) (s0 : Int32) (s1 : Int32) (h : zM) : Option (Int32 × zM) := (K4 x0 (s0 + s1) (x2 + 1) h)
set_option maxRecDepth 20000 in
theorem ev_X10_stripsThere_25 {d : Nat} (hd : 1 ≤ d) {K4 : zR → Int32 → Int32 → zM → Option (Int32 × zM)} (hK4 : ∀ {x0 : zR} {x1 : Int32} {x2 : Int32} {h : zM} {r : Int32 × zM}, K4 x0 x1 x2 h = some r → zEv zmt d 124 4 ([some (vR x0), some (vI x1), some (vI x2)], [], h, true) (some (vI r.1), r.2)) {w1 : Option zV} {x0 : zR} {x2 : Int32} {s0 : Int32} {s1 : Int32} {h : zM} {r : Int32 × zM} (H : f_X10_stripsThere_25 K4 x0 x2 s0 s1 h = some r) : zEv zmt d 124 25 ([some (vR x0), w1, some (vI x2)], [vI s1, vI s0], h, true) (some (vI r.1), r.2) := by
  refine zEv.loc (L2 := [some (vR x0), some (vI (s0 + s1)), some (vI (x2 + 1))]) (st2 := []) (h2 := h) zm_X10_stripsThere rfl rfl rfl rfl (fun h => (nomatch h)) ?_
  exact hK4 H
def f_X10_stripsThere_4 : Nat → zR → Int32 → Int32 → zM → Option (Int32 × zM)
  | 0 => fun _ _ _ _ => none
  | k + 1 => fun x0 x1 x2 h => (if (memN [4, 5] (akd (clR x0)) && true) = true then (if (Int32.ofNat (aln (clR x0))) ≤ x2 then (some (x1, h)) else (if (memN [6, 9] (clR (rR h (clR x0) (ixR x0) (Int32.toNatClampNeg x2))) && (true && (memN [4, 5] (akd (clR x0)) && (ixOk (aln (clR x0)) x2 && true)))) = true then ((f_X8_isMissing (rR h (clR x0) (ixR x0) (Int32.toNatClampNeg x2)) h).bind fun q14 => (if q14.1 = 0 then (f_X10_stripsThere_25 (f_X10_stripsThere_4 k) x0 x2 x1 1 q14.2) else (f_X10_stripsThere_25 (f_X10_stripsThere_4 k) x0 x2 x1 0 q14.2))) else none)) else none)
set_option maxRecDepth 20000 in
theorem ev_X10_stripsThere_4 {d : Nat} (hd : 1 ≤ d) : ∀ (k : Nat) {x0 : zR} {x1 : Int32} {x2 : Int32} {h : zM} {r : Int32 × zM}, f_X10_stripsThere_4 k x0 x1 x2 h = some r → zEv zmt d 124 4 ([some (vR x0), some (vI x1), some (vI x2)], [], h, true) (some (vI r.1), r.2) := by
  intro k
  induction k with
  | zero => intro x0 x1 x2 h r H; cases H
  | succ k ih =>
    intro x0 x1 x2 h r H
    obtain ⟨hg, H⟩ := ifg H
    rcases ifc H with ⟨hc, H⟩ | ⟨hc, H⟩
    · refine zEv.iteT (L2 := [some (vR x0), some (vI x1), some (vI x2)]) (st2 := []) (h2 := h) zm_X10_stripsThere rfl hg rfl hg (decide_eq_true hc) ?_
      cases H
      exact zEv.ret zm_X10_stripsThere rfl rfl rfl rfl
    · refine zEv.iteF (L2 := [some (vR x0), some (vI x1), some (vI x2)]) (st2 := []) (h2 := h) zm_X10_stripsThere rfl hg rfl hg (decide_eq_false hc) ?_
      obtain ⟨hg, H⟩ := ifg H
      obtain ⟨q14, hq, H⟩ := bnd H
      refine zEv.call (k := 49) (as := [vR (rR h (clR x0) (ixR x0) (Int32.toNatClampNeg x2))]) (L2 := [some (vR x0), some (vI x1), some (vI x2)]) (st2 := [vI x1]) (h2 := h) (v := some (vI q14.1)) (h1 := q14.2) (st3 := [vI q14.1, vI x1]) zm_X10_stripsThere rfl (and2 (and2 hg).2).2 rfl hg rfl zm_X8_isMissing rfl (by omega) (ev_X8_isMissing (by omega) hq) rfl ?_
      rcases ifc H with ⟨hc, H⟩ | ⟨hc, H⟩
      · refine zEv.iteT (L2 := [some (vR x0), some (vI x1), some (vI x2)]) (st2 := [vI x1]) (h2 := q14.2) zm_X10_stripsThere rfl rfl rfl rfl (decide_eq_true hc) ?_
        refine zEv.loc (L2 := [some (vR x0), some (vI x1), some (vI x2)]) (st2 := [vI 1, vI x1]) (h2 := q14.2) zm_X10_stripsThere rfl rfl rfl rfl (fun h => (nomatch h)) ?_
        exact ev_X10_stripsThere_25 (by omega) ih H
      · refine zEv.iteF (L2 := [some (vR x0), some (vI x1), some (vI x2)]) (st2 := [vI x1]) (h2 := q14.2) zm_X10_stripsThere rfl rfl rfl rfl (decide_eq_false hc) ?_
        refine zEv.loc (L2 := [some (vR x0), some (vI x1), some (vI x2)]) (st2 := [vI 0, vI x1]) (h2 := q14.2) zm_X10_stripsThere rfl rfl rfl rfl (fun h => (nomatch h)) ?_
        exact ev_X10_stripsThere_25 (by omega) ih H
def f_X10_stripsThere (x0 : zR) (h : zM) : Option (Int32 × zM) := (f_X10_stripsThere_4  1000 x0 0 0 h)
set_option maxRecDepth 20000 in
theorem ev_X10_stripsThere {d : Nat} (hd : 1 ≤ d) {w1 : Option zV} {w2 : Option zV} {x0 : zR} {h : zM} {r : Int32 × zM} (H : f_X10_stripsThere x0 h = some r) : zEv zmt d 124 0 ([some (vR x0), w1, w2], [], h, true) (some (vI r.1), r.2) := by
  refine zEv.loc (L2 := [some (vR x0), some (vI 0), some (vI 0)]) (st2 := []) (h2 := h) zm_X10_stripsThere rfl rfl rfl rfl (fun h => (nomatch h)) ?_
  exact ev_X10_stripsThere_4 (by omega)  1000 H
def f_X10_lawsThere_24 (K4 : Int32 → Int32 → zM → Option (Int32 × zM)) (x2 : Int32) (s0 : Int32) (s1 : Int32) (h : zM) : Option (Int32 × zM) := (K4 (s0 + s1) (x2 + 1) h)
set_option maxRecDepth 20000 in
theorem ev_X10_lawsThere_24 {d : Nat} (hd : 0 ≤ d) {K4 : Int32 → Int32 → zM → Option (Int32 × zM)} (hK4 : ∀ {x1 : Int32} {x2 : Int32} {h : zM} {r : Int32 × zM}, K4 x1 x2 h = some r → zEv zmt d 125 4 ([some (vR (some (10, 0))), some (vI x1), some (vI x2)], [], h, true) (some (vI r.1), r.2)) {w1 : Option zV} {x2 : Int32} {s0 : Int32} {s1 : Int32} {h : zM} {r : Int32 × zM} (H : f_X10_lawsThere_24 K4 x2 s0 s1 h = some r) : zEv zmt d 125 24 ([some (vR (some (10, 0))), w1, some (vI x2)], [vI s1, vI s0], h, true) (some (vI r.1), r.2) := by
  refine zEv.loc (L2 := [some (vR (some (10, 0))), some (vI (s0 + s1)), some (vI (x2 + 1))]) (st2 := []) (h2 := h) zm_X10_lawsThere rfl rfl rfl rfl (fun h => (nomatch h)) ?_
  exact hK4 H
def f_X10_lawsThere_4 : Nat → Int32 → Int32 → zM → Option (Int32 × zM)
  | 0 => fun _ _ _ => none
  | k + 1 => fun x1 x2 h => (if 2 ≤ x2 then (some (x1, h)) else (if (true && (ixOk 2 x2 && (true && (decide (rR h 10 0 4 = (some (30, 0))) && true)))) = true then (if (rR h 30 0 (Int32.toNatClampNeg x2)) = none then (f_X10_lawsThere_24 (f_X10_lawsThere_4 k) x2 x1 0 h) else (f_X10_lawsThere_24 (f_X10_lawsThere_4 k) x2 x1 1 h)) else none))
set_option maxRecDepth 20000 in
theorem ev_X10_lawsThere_4 {d : Nat} (hd : 0 ≤ d) : ∀ (k : Nat) {x1 : Int32} {x2 : Int32} {h : zM} {r : Int32 × zM}, f_X10_lawsThere_4 k x1 x2 h = some r → zEv zmt d 125 4 ([some (vR (some (10, 0))), some (vI x1), some (vI x2)], [], h, true) (some (vI r.1), r.2) := by
  intro k
  induction k with
  | zero => intro x1 x2 h r H; cases H
  | succ k ih =>
    intro x1 x2 h r H
    rcases ifc H with ⟨hc, H⟩ | ⟨hc, H⟩
    · refine zEv.iteT (L2 := [some (vR (some (10, 0))), some (vI x1), some (vI x2)]) (st2 := []) (h2 := h) zm_X10_lawsThere rfl rfl rfl rfl (decide_eq_true hc) ?_
      cases H
      exact zEv.ret zm_X10_lawsThere rfl rfl rfl rfl
    · refine zEv.iteF (L2 := [some (vR (some (10, 0))), some (vI x1), some (vI x2)]) (st2 := []) (h2 := h) zm_X10_lawsThere rfl rfl rfl rfl (decide_eq_false hc) ?_
      obtain ⟨hg, H⟩ := ifg H
      rcases ifc H with ⟨hc, H⟩ | ⟨hc, H⟩
      · refine zEv.iteT (L2 := [some (vR (some (10, 0))), some (vI x1), some (vI x2)]) (st2 := [vI x1]) (h2 := h) zm_X10_lawsThere rfl hg rfl hg (nnT hc) ?_
        refine zEv.loc (L2 := [some (vR (some (10, 0))), some (vI x1), some (vI x2)]) (st2 := [vI 0, vI x1]) (h2 := h) zm_X10_lawsThere rfl rfl rfl rfl (fun h => (nomatch h)) ?_
        exact ev_X10_lawsThere_24 (by omega) ih H
      · refine zEv.iteF (L2 := [some (vR (some (10, 0))), some (vI x1), some (vI x2)]) (st2 := [vI x1]) (h2 := h) zm_X10_lawsThere rfl hg rfl hg (nnF hc) ?_
        refine zEv.loc (L2 := [some (vR (some (10, 0))), some (vI x1), some (vI x2)]) (st2 := [vI 1, vI x1]) (h2 := h) zm_X10_lawsThere rfl rfl rfl rfl (fun h => (nomatch h)) ?_
        exact ev_X10_lawsThere_24 (by omega) ih H
def f_X10_lawsThere (h : zM) : Option (Int32 × zM) := (f_X10_lawsThere_4  1000 0 0 h)
set_option maxRecDepth 20000 in
theorem ev_X10_lawsThere {d : Nat} (hd : 0 ≤ d) {w1 : Option zV} {w2 : Option zV} {h : zM} {r : Int32 × zM} (H : f_X10_lawsThere  h = some r) : zEv zmt d 125 0 ([some (vR (some (10, 0))), w1, w2], [], h, true) (some (vI r.1), r.2) := by
  refine zEv.loc (L2 := [some (vR (some (10, 0))), some (vI 0), some (vI 0)]) (st2 := []) (h2 := h) zm_X10_lawsThere rfl rfl rfl rfl (fun h => (nomatch h)) ?_
  exact ev_X10_lawsThere_4 (by omega)  1000 H
def f_X10_count (x1 : Int32) (h : zM) : Option (Int32 × zM) := (if x1 = 0 then (some ((rI h 10 0 8), h)) else (if x1 = 1 then (some ((rI h 10 0 9), h)) else (if x1 = 2 then (some ((rI h 10 0 10), h)) else (if x1 = 3 then ((f_X10_marksHelped  h).bind fun q64 => (some (q64.1, q64.2))) else (if x1 = 4 then ((f_X10_marksStruck  h).bind fun q69 => (some (q69.1, q69.2))) else (if x1 = 5 then (if (true && (true && (decide (rR h 10 0 0 = (some (26, 0))) && true))) = true then ((f_X10_stripsThere (some (26, 0)) h).bind fun q77 => (some (q77.1, q77.2))) else none) else (if x1 = 6 then (if (true && (true && (decide (rR h 10 0 1 = (some (27, 0))) && true))) = true then ((f_X10_stripsThere (some (27, 0)) h).bind fun q85 => (some (q85.1, q85.2))) else none) else (if x1 = 7 then ((f_X10_lawsThere  h).bind fun q90 => (some (q90.1, q90.2))) else (some ((-1), h))))))))))
set_option maxRecDepth 20000 in
theorem ev_X10_count {d : Nat} (hd : 2 ≤ d) {x1 : Int32} {h : zM} {r : Int32 × zM} (H : f_X10_count x1 h = some r) : zEv zmt d 96 0 ([some (vR (some (10, 0))), some (vI x1)], [], h, true) (some (vI r.1), r.2) := by
  rcases ifc H with ⟨hc0, H⟩ | ⟨hc0, H⟩
  · refine zEv.sw (x := swL 0 7 [48, 53, 58, 63, 68, 73, 81, 89] 94 (x1)) (L2 := [some (vR (some (10, 0))), some (vI x1)]) (st2 := []) (h2 := h) zm_X10_count rfl rfl rfl rfl (lab' := 48) (by rw [hc0]; decide) ?_
    cases H
    exact zEv.ret zm_X10_count rfl rfl rfl rfl
  rcases ifc H with ⟨hc1, H⟩ | ⟨hc1, H⟩
  · refine zEv.sw (x := swL 0 7 [48, 53, 58, 63, 68, 73, 81, 89] 94 (x1)) (L2 := [some (vR (some (10, 0))), some (vI x1)]) (st2 := []) (h2 := h) zm_X10_count rfl rfl rfl rfl (lab' := 53) (by rw [hc1]; decide) ?_
    cases H
    exact zEv.ret zm_X10_count rfl rfl rfl rfl
  rcases ifc H with ⟨hc2, H⟩ | ⟨hc2, H⟩
  · refine zEv.sw (x := swL 0 7 [48, 53, 58, 63, 68, 73, 81, 89] 94 (x1)) (L2 := [some (vR (some (10, 0))), some (vI x1)]) (st2 := []) (h2 := h) zm_X10_count rfl rfl rfl rfl (lab' := 58) (by rw [hc2]; decide) ?_
    cases H
    exact zEv.ret zm_X10_count rfl rfl rfl rfl
  rcases ifc H with ⟨hc3, H⟩ | ⟨hc3, H⟩
  · refine zEv.sw (x := swL 0 7 [48, 53, 58, 63, 68, 73, 81, 89] 94 (x1)) (L2 := [some (vR (some (10, 0))), some (vI x1)]) (st2 := []) (h2 := h) zm_X10_count rfl rfl rfl rfl (lab' := 63) (by rw [hc3]; decide) ?_
    obtain ⟨q64, hq, H⟩ := bnd H
    refine zEv.call (k := 122) (as := [vR (some (10, 0))]) (L2 := [some (vR (some (10, 0))), some (vI x1)]) (st2 := []) (h2 := h) (v := some (vI q64.1)) (h1 := q64.2) (st3 := [vI q64.1]) zm_X10_count rfl rfl rfl rfl rfl zm_X10_marksHelped rfl (by omega) (ev_X10_marksHelped (by omega) hq) rfl ?_
    cases H
    exact zEv.ret zm_X10_count rfl rfl rfl rfl
  rcases ifc H with ⟨hc4, H⟩ | ⟨hc4, H⟩
  · refine zEv.sw (x := swL 0 7 [48, 53, 58, 63, 68, 73, 81, 89] 94 (x1)) (L2 := [some (vR (some (10, 0))), some (vI x1)]) (st2 := []) (h2 := h) zm_X10_count rfl rfl rfl rfl (lab' := 68) (by rw [hc4]; decide) ?_
    obtain ⟨q69, hq, H⟩ := bnd H
    refine zEv.call (k := 123) (as := [vR (some (10, 0))]) (L2 := [some (vR (some (10, 0))), some (vI x1)]) (st2 := []) (h2 := h) (v := some (vI q69.1)) (h1 := q69.2) (st3 := [vI q69.1]) zm_X10_count rfl rfl rfl rfl rfl zm_X10_marksStruck rfl (by omega) (ev_X10_marksStruck (by omega) hq) rfl ?_
    cases H
    exact zEv.ret zm_X10_count rfl rfl rfl rfl
  rcases ifc H with ⟨hc5, H⟩ | ⟨hc5, H⟩
  · refine zEv.sw (x := swL 0 7 [48, 53, 58, 63, 68, 73, 81, 89] 94 (x1)) (L2 := [some (vR (some (10, 0))), some (vI x1)]) (st2 := []) (h2 := h) zm_X10_count rfl rfl rfl rfl (lab' := 73) (by rw [hc5]; decide) ?_
    obtain ⟨hg, H⟩ := ifg H
    obtain ⟨q77, hq, H⟩ := bnd H
    refine zEv.call (k := 124) (as := [vR (some (26, 0))]) (L2 := [some (vR (some (10, 0))), some (vI x1)]) (st2 := []) (h2 := h) (v := some (vI q77.1)) (h1 := q77.2) (st3 := [vI q77.1]) zm_X10_count rfl (and2 hg).2 rfl hg rfl zm_X10_stripsThere rfl (by omega) (ev_X10_stripsThere (by omega) hq) rfl ?_
    cases H
    exact zEv.ret zm_X10_count rfl rfl rfl rfl
  rcases ifc H with ⟨hc6, H⟩ | ⟨hc6, H⟩
  · refine zEv.sw (x := swL 0 7 [48, 53, 58, 63, 68, 73, 81, 89] 94 (x1)) (L2 := [some (vR (some (10, 0))), some (vI x1)]) (st2 := []) (h2 := h) zm_X10_count rfl rfl rfl rfl (lab' := 81) (by rw [hc6]; decide) ?_
    obtain ⟨hg, H⟩ := ifg H
    obtain ⟨q85, hq, H⟩ := bnd H
    refine zEv.call (k := 124) (as := [vR (some (27, 0))]) (L2 := [some (vR (some (10, 0))), some (vI x1)]) (st2 := []) (h2 := h) (v := some (vI q85.1)) (h1 := q85.2) (st3 := [vI q85.1]) zm_X10_count rfl (and2 hg).2 rfl hg rfl zm_X10_stripsThere rfl (by omega) (ev_X10_stripsThere (by omega) hq) rfl ?_
    cases H
    exact zEv.ret zm_X10_count rfl rfl rfl rfl
  rcases ifc H with ⟨hc7, H⟩ | ⟨hc7, H⟩
  · refine zEv.sw (x := swL 0 7 [48, 53, 58, 63, 68, 73, 81, 89] 94 (x1)) (L2 := [some (vR (some (10, 0))), some (vI x1)]) (st2 := []) (h2 := h) zm_X10_count rfl rfl rfl rfl (lab' := 89) (by rw [hc7]; decide) ?_
    obtain ⟨q90, hq, H⟩ := bnd H
    refine zEv.call (k := 125) (as := [vR (some (10, 0))]) (L2 := [some (vR (some (10, 0))), some (vI x1)]) (st2 := []) (h2 := h) (v := some (vI q90.1)) (h1 := q90.2) (st3 := [vI q90.1]) zm_X10_count rfl rfl rfl rfl rfl zm_X10_lawsThere rfl (by omega) (ev_X10_lawsThere (by omega) hq) rfl ?_
    cases H
    exact zEv.ret zm_X10_count rfl rfl rfl rfl
  have hout : ∀ j, j < 8 → ¬ x1 = Int32.ofNat j := by
    intro j hj
    rcases (show j = 0 ∨ j = 1 ∨ j = 2 ∨ j = 3 ∨ j = 4 ∨ j = 5 ∨ j = 6 ∨ j = 7 by omega) with rfl | rfl | rfl | rfl | rfl | rfl | rfl | rfl
    · exact hc0
    · exact hc1
    · exact hc2
    · exact hc3
    · exact hc4
    · exact hc5
    · exact hc6
    · exact hc7
  refine zEv.sw (x := swL 0 7 [48, 53, 58, 63, 68, 73, 81, 89] 94 (x1)) (L2 := [some (vR (some (10, 0))), some (vI x1)]) (st2 := []) (h2 := h) zm_X10_count rfl rfl rfl rfl (lab' := 94) (swOut (n := 8) (by decide) hout) ?_
  cases H
  exact zEv.ret zm_X10_count rfl rfl rfl rfl
def f_X10_finding (h : zM) : Option (Int32 × zM) := (some ((rI h 10 0 12), h))
set_option maxRecDepth 20000 in
theorem ev_X10_finding {d : Nat} (hd : 0 ≤ d) {h : zM} {r : Int32 × zM} (H : f_X10_finding  h = some r) : zEv zmt d 97 0 ([some (vR (some (10, 0)))], [], h, true) (some (vI r.1), r.2) := by
  cases H
  exact zEv.ret zm_X10_finding rfl rfl rfl rfl
def f_X10_findings (x1 : Int32) (h : zM) : Option (Int32 × zM) := ((f_X10_within x1 1 5 h).bind fun q3 => (if q3.1 = 0 then (some ((-1), q3.2)) else (if (true && (ixOk 6 x1 && (true && (decide (rR q3.2 10 0 7 = (some (31, 0))) && true)))) = true then (some ((rI q3.2 31 0 (Int32.toNatClampNeg x1)), q3.2)) else none)))
set_option maxRecDepth 20000 in
theorem ev_X10_findings {d : Nat} (hd : 1 ≤ d) {x1 : Int32} {h : zM} {r : Int32 × zM} (H : f_X10_findings x1 h = some r) : zEv zmt d 98 0 ([some (vR (some (10, 0))), some (vI x1)], [], h, true) (some (vI r.1), r.2) := by
  obtain ⟨q3, hq, H⟩ := bnd H
  refine zEv.call (k := 100) (as := [vI x1, vI 1, vI 5]) (L2 := [some (vR (some (10, 0))), some (vI x1)]) (st2 := []) (h2 := h) (v := some (vI q3.1)) (h1 := q3.2) (st3 := [vI q3.1]) zm_X10_findings rfl rfl rfl rfl rfl zm_X10_within rfl (by omega) (ev_X10_within (by omega) hq) rfl ?_
  rcases ifc H with ⟨hc, H⟩ | ⟨hc, H⟩
  · refine zEv.iteT (L2 := [some (vR (some (10, 0))), some (vI x1)]) (st2 := []) (h2 := q3.2) zm_X10_findings rfl rfl rfl rfl (decide_eq_true hc) ?_
    refine zEv.loc (L2 := [some (vR (some (10, 0))), some (vI x1)]) (st2 := [vI (-1)]) (h2 := q3.2) zm_X10_findings rfl rfl rfl rfl (fun h => (nomatch h)) ?_
    cases H
    exact zEv.ret zm_X10_findings rfl rfl rfl rfl
  · refine zEv.iteF (L2 := [some (vR (some (10, 0))), some (vI x1)]) (st2 := []) (h2 := q3.2) zm_X10_findings rfl rfl rfl rfl (decide_eq_false hc) ?_
    obtain ⟨hg, H⟩ := ifg H
    refine zEv.loc (L2 := [some (vR (some (10, 0))), some (vI x1)]) (st2 := [vI (rI q3.2 31 0 (Int32.toNatClampNeg x1))]) (h2 := q3.2) zm_X10_findings rfl hg rfl hg (fun h => (nomatch h)) ?_
    cases H
    exact zEv.ret zm_X10_findings rfl rfl rfl rfl
def f_X10_digest_121 (K87 : Int64 → Int32 → zM → Option (Int64 × zM)) (x3 : Int32) (s0 : Int64) (h : zM) : Option (Int64 × zM) := (K87 s0 (x3 + 1) h)
set_option maxRecDepth 20000 in
theorem ev_X10_digest_121 {d : Nat} (hd : 3 ≤ d) {K87 : Int64 → Int32 → zM → Option (Int64 × zM)} (hK87 : ∀ {w2 : Option zV} {x1 : Int64} {x3 : Int32} {h : zM} {r : Int64 × zM}, K87 x1 x3 h = some r → zEv zmt d 99 87 ([some (vR (some (10, 0))), some (vL x1), w2, some (vI x3)], [], h, true) (some (vL r.1), r.2)) {w1 : Option zV} {w2 : Option zV} {x3 : Int32} {s0 : Int64} {h : zM} {r : Int64 × zM} (H : f_X10_digest_121 K87 x3 s0 h = some r) : zEv zmt d 99 121 ([some (vR (some (10, 0))), w1, w2, some (vI x3)], [vL s0], h, true) (some (vL r.1), r.2) := by
  refine zEv.loc (L2 := [some (vR (some (10, 0))), some (vL s0), none, some (vI (x3 + 1))]) (st2 := []) (h2 := h) zm_X10_digest rfl rfl rfl rfl (fun h => (nomatch h)) ?_
  exact hK87 H
def f_X10_digest_155 : Nat → Int64 → Int32 → zM → Option (Int64 × zM)
  | 0 => fun _ _ _ => none
  | k + 1 => fun x1 x3 h => (if 4 ≤ x3 then (some (x1, h)) else (if (true && (true && (true && (ixOk 4 x3 && (decide (rR h 27 0 (Int32.toNatClampNeg x3) = (some (9, (Int32.toNatClampNeg x3)))) && (true && (decide (rR h 10 0 1 = (some (27, 0))) && true))))))) = true then ((f_X8_mixInto (some (9, (Int32.toNatClampNeg x3))) x1 h).bind fun q167 => (f_X10_digest_155 k q167.1 (x3 + 1) q167.2)) else none))
set_option maxRecDepth 20000 in
theorem ev_X10_digest_155 {d : Nat} (hd : 3 ≤ d) : ∀ (k : Nat) {w2 : Option zV} {x1 : Int64} {x3 : Int32} {h : zM} {r : Int64 × zM}, f_X10_digest_155 k x1 x3 h = some r → zEv zmt d 99 155 ([some (vR (some (10, 0))), some (vL x1), w2, some (vI x3)], [], h, true) (some (vL r.1), r.2) := by
  intro k
  induction k with
  | zero => intro w2 x1 x3 h r H; cases H
  | succ k ih =>
    intro w2 x1 x3 h r H
    rcases ifc H with ⟨hc, H⟩ | ⟨hc, H⟩
    · refine zEv.iteT (L2 := [some (vR (some (10, 0))), some (vL x1), w2, some (vI x3)]) (st2 := []) (h2 := h) zm_X10_digest rfl rfl rfl rfl (decide_eq_true hc) ?_
      cases H
      exact zEv.ret zm_X10_digest rfl rfl rfl rfl
    · refine zEv.iteF (L2 := [some (vR (some (10, 0))), some (vL x1), w2, some (vI x3)]) (st2 := []) (h2 := h) zm_X10_digest rfl rfl rfl rfl (decide_eq_false hc) ?_
      obtain ⟨hg, H⟩ := ifg H
      obtain ⟨q167, hq, H⟩ := bnd H
      refine zEv.call (k := 52) (as := [vR (some (9, (Int32.toNatClampNeg x3))), vL x1]) (L2 := [some (vR (some (10, 0))), some (vL x1), w2, some (vI x3)]) (st2 := []) (h2 := h) (v := some (vL q167.1)) (h1 := q167.2) (st3 := [vL q167.1]) zm_X10_digest rfl (and2 (and2 hg).2).2 rfl hg rfl zm_X8_mixInto rfl (by omega) (ev_X8_mixInto (by omega) hq) rfl ?_
      refine zEv.loc (L2 := [some (vR (some (10, 0))), some (vL q167.1), none, some (vI (x3 + 1))]) (st2 := []) (h2 := q167.2) zm_X10_digest rfl rfl rfl rfl (fun h => (nomatch h)) ?_
      exact ih H
def f_X10_digest_130 : Nat → Int64 → Int32 → zM → Option (Int64 × zM)
  | 0 => fun _ _ _ => none
  | k + 1 => fun x1 x3 h => (if 6 ≤ x3 then (f_X10_digest_155  1000 x1 0 h) else (if (true && (true && (true && (ixOk 6 x3 && (decide (rR h 26 0 (Int32.toNatClampNeg x3) = (some (6, (Int32.toNatClampNeg x3)))) && (true && (decide (rR h 10 0 0 = (some (26, 0))) && true))))))) = true then ((f_X8_mixInto (some (6, (Int32.toNatClampNeg x3))) x1 h).bind fun q143 => (f_X10_digest_130 k q143.1 (x3 + 1) q143.2)) else none))
set_option maxRecDepth 20000 in
theorem ev_X10_digest_130 {d : Nat} (hd : 3 ≤ d) : ∀ (k : Nat) {w2 : Option zV} {x1 : Int64} {x3 : Int32} {h : zM} {r : Int64 × zM}, f_X10_digest_130 k x1 x3 h = some r → zEv zmt d 99 130 ([some (vR (some (10, 0))), some (vL x1), w2, some (vI x3)], [], h, true) (some (vL r.1), r.2) := by
  intro k
  induction k with
  | zero => intro w2 x1 x3 h r H; cases H
  | succ k ih =>
    intro w2 x1 x3 h r H
    rcases ifc H with ⟨hc, H⟩ | ⟨hc, H⟩
    · refine zEv.iteT (L2 := [some (vR (some (10, 0))), some (vL x1), w2, some (vI x3)]) (st2 := []) (h2 := h) zm_X10_digest rfl rfl rfl rfl (decide_eq_true hc) ?_
      refine zEv.loc (L2 := [some (vR (some (10, 0))), some (vL x1), none, some (vI 0)]) (st2 := []) (h2 := h) zm_X10_digest rfl rfl rfl rfl (fun h => (nomatch h)) ?_
      exact ev_X10_digest_155 (by omega)  1000 H
    · refine zEv.iteF (L2 := [some (vR (some (10, 0))), some (vL x1), w2, some (vI x3)]) (st2 := []) (h2 := h) zm_X10_digest rfl rfl rfl rfl (decide_eq_false hc) ?_
      obtain ⟨hg, H⟩ := ifg H
      obtain ⟨q143, hq, H⟩ := bnd H
      refine zEv.call (k := 52) (as := [vR (some (6, (Int32.toNatClampNeg x3))), vL x1]) (L2 := [some (vR (some (10, 0))), some (vL x1), w2, some (vI x3)]) (st2 := []) (h2 := h) (v := some (vL q143.1)) (h1 := q143.2) (st3 := [vL q143.1]) zm_X10_digest rfl (and2 (and2 hg).2).2 rfl hg rfl zm_X8_mixInto rfl (by omega) (ev_X8_mixInto (by omega) hq) rfl ?_
      refine zEv.loc (L2 := [some (vR (some (10, 0))), some (vL q143.1), none, some (vI (x3 + 1))]) (st2 := []) (h2 := q143.2) zm_X10_digest rfl rfl rfl rfl (fun h => (nomatch h)) ?_
      exact ih H
def f_X10_digest_87 : Nat → Int64 → Int32 → zM → Option (Int64 × zM)
  | 0 => fun _ _ _ => none
  | k + 1 => fun x1 x3 h => (if 2 ≤ x3 then (f_X10_digest_130  1000 x1 0 h) else (if (true && (ixOk 2 x3 && (true && (decide (rR h 10 0 4 = (some (30, 0))) && true)))) = true then (if (rR h 30 0 (Int32.toNatClampNeg x3)) = none then (f_X10_digest_121 (f_X10_digest_87 k) x3 ((31 * x1) - 1) h) else (if (memN [1] (clR (rR h 30 0 (Int32.toNatClampNeg x3))) && (true && (true && (ixOk 2 x3 && (true && (decide (rR h 10 0 4 = (some (30, 0))) && true)))))) = true then ((f_X1_mixInto (rR h 30 0 (Int32.toNatClampNeg x3)) x1 h).bind fun q118 => (f_X10_digest_121 (f_X10_digest_87 k) x3 q118.1 q118.2)) else none)) else none))
set_option maxRecDepth 20000 in
theorem ev_X10_digest_87 {d : Nat} (hd : 3 ≤ d) : ∀ (k : Nat) {w2 : Option zV} {x1 : Int64} {x3 : Int32} {h : zM} {r : Int64 × zM}, f_X10_digest_87 k x1 x3 h = some r → zEv zmt d 99 87 ([some (vR (some (10, 0))), some (vL x1), w2, some (vI x3)], [], h, true) (some (vL r.1), r.2) := by
  intro k
  induction k with
  | zero => intro w2 x1 x3 h r H; cases H
  | succ k ih =>
    intro w2 x1 x3 h r H
    rcases ifc H with ⟨hc, H⟩ | ⟨hc, H⟩
    · refine zEv.iteT (L2 := [some (vR (some (10, 0))), some (vL x1), w2, some (vI x3)]) (st2 := []) (h2 := h) zm_X10_digest rfl rfl rfl rfl (decide_eq_true hc) ?_
      refine zEv.loc (L2 := [some (vR (some (10, 0))), some (vL x1), none, some (vI 0)]) (st2 := []) (h2 := h) zm_X10_digest rfl rfl rfl rfl (fun h => (nomatch h)) ?_
      exact ev_X10_digest_130 (by omega)  1000 H
    · refine zEv.iteF (L2 := [some (vR (some (10, 0))), some (vL x1), w2, some (vI x3)]) (st2 := []) (h2 := h) zm_X10_digest rfl rfl rfl rfl (decide_eq_false hc) ?_
      obtain ⟨hg, H⟩ := ifg H
      rcases ifc H with ⟨hc, H⟩ | ⟨hc, H⟩
      · refine zEv.iteT (L2 := [some (vR (some (10, 0))), some (vL x1), w2, some (vI x3)]) (st2 := []) (h2 := h) zm_X10_digest rfl hg rfl hg (nnT hc) ?_
        refine zEv.loc (L2 := [some (vR (some (10, 0))), some (vL x1), w2, some (vI x3)]) (st2 := [vL ((31 * x1) - 1)]) (h2 := h) zm_X10_digest rfl rfl rfl rfl (fun h => (nomatch h)) ?_
        exact ev_X10_digest_121 (by omega) ih H
      · refine zEv.iteF (L2 := [some (vR (some (10, 0))), some (vL x1), w2, some (vI x3)]) (st2 := []) (h2 := h) zm_X10_digest rfl hg rfl hg (nnF hc) ?_
        obtain ⟨hg, H⟩ := ifg H
        obtain ⟨q118, hq, H⟩ := bnd H
        refine zEv.call (k := 17) (as := [vR (rR h 30 0 (Int32.toNatClampNeg x3)), vL x1]) (L2 := [some (vR (some (10, 0))), some (vL x1), w2, some (vI x3)]) (st2 := []) (h2 := h) (v := some (vL q118.1)) (h1 := q118.2) (st3 := [vL q118.1]) zm_X10_digest rfl (and2 (and2 hg).2).2 rfl hg rfl zm_X1_mixInto rfl (by omega) (ev_X1_mixInto (by omega) hq) rfl ?_
        exact ev_X10_digest_121 (by omega) ih H
def f_X10_digest_60 : Nat → Int64 → Int32 → zM → Option (Int64 × zM)
  | 0 => fun _ _ _ => none
  | k + 1 => fun x1 x3 h => (if (rI h 10 0 10) ≤ x3 then (f_X10_digest_87  1000 x1 0 h) else (if (memN [2] (clR (rR h 29 0 (Int32.toNatClampNeg x3))) && (true && (true && (ixOk 40 x3 && (true && (decide (rR h 10 0 3 = (some (29, 0))) && true)))))) = true then ((f_X2_mixInto (rR h 29 0 (Int32.toNatClampNeg x3)) x1 h).bind fun q75 => (f_X10_digest_60 k q75.1 (x3 + 1) q75.2)) else none))
set_option maxRecDepth 20000 in
theorem ev_X10_digest_60 {d : Nat} (hd : 3 ≤ d) : ∀ (k : Nat) {w2 : Option zV} {x1 : Int64} {x3 : Int32} {h : zM} {r : Int64 × zM}, f_X10_digest_60 k x1 x3 h = some r → zEv zmt d 99 60 ([some (vR (some (10, 0))), some (vL x1), w2, some (vI x3)], [], h, true) (some (vL r.1), r.2) := by
  intro k
  induction k with
  | zero => intro w2 x1 x3 h r H; cases H
  | succ k ih =>
    intro w2 x1 x3 h r H
    rcases ifc H with ⟨hc, H⟩ | ⟨hc, H⟩
    · refine zEv.iteT (L2 := [some (vR (some (10, 0))), some (vL x1), w2, some (vI x3)]) (st2 := []) (h2 := h) zm_X10_digest rfl rfl rfl rfl (decide_eq_true hc) ?_
      refine zEv.loc (L2 := [some (vR (some (10, 0))), some (vL x1), none, some (vI 0)]) (st2 := []) (h2 := h) zm_X10_digest rfl rfl rfl rfl (fun h => (nomatch h)) ?_
      exact ev_X10_digest_87 (by omega)  1000 H
    · refine zEv.iteF (L2 := [some (vR (some (10, 0))), some (vL x1), w2, some (vI x3)]) (st2 := []) (h2 := h) zm_X10_digest rfl rfl rfl rfl (decide_eq_false hc) ?_
      obtain ⟨hg, H⟩ := ifg H
      obtain ⟨q75, hq, H⟩ := bnd H
      refine zEv.call (k := 23) (as := [vR (rR h 29 0 (Int32.toNatClampNeg x3)), vL x1]) (L2 := [some (vR (some (10, 0))), some (vL x1), w2, some (vI x3)]) (st2 := []) (h2 := h) (v := some (vL q75.1)) (h1 := q75.2) (st3 := [vL q75.1]) zm_X10_digest rfl (and2 (and2 hg).2).2 rfl hg rfl zm_X2_mixInto rfl (by omega) (ev_X2_mixInto (by omega) hq) rfl ?_
      refine zEv.loc (L2 := [some (vR (some (10, 0))), some (vL q75.1), none, some (vI (x3 + 1))]) (st2 := []) (h2 := q75.2) zm_X10_digest rfl rfl rfl rfl (fun h => (nomatch h)) ?_
      exact ih H
def f_X10_digest_33 : Nat → Int64 → Int32 → zM → Option (Int64 × zM)
  | 0 => fun _ _ _ => none
  | k + 1 => fun x1 x3 h => (if (rI h 10 0 9) ≤ x3 then (f_X10_digest_60  1000 x1 0 h) else (if (memN [3] (clR (rR h 28 0 (Int32.toNatClampNeg x3))) && (true && (true && (ixOk 8 x3 && (true && (decide (rR h 10 0 2 = (some (28, 0))) && true)))))) = true then ((f_X3_mixInto (rR h 28 0 (Int32.toNatClampNeg x3)) x1 h).bind fun q48 => (f_X10_digest_33 k q48.1 (x3 + 1) q48.2)) else none))
set_option maxRecDepth 20000 in
theorem ev_X10_digest_33 {d : Nat} (hd : 3 ≤ d) : ∀ (k : Nat) {w2 : Option zV} {x1 : Int64} {x3 : Int32} {h : zM} {r : Int64 × zM}, f_X10_digest_33 k x1 x3 h = some r → zEv zmt d 99 33 ([some (vR (some (10, 0))), some (vL x1), w2, some (vI x3)], [], h, true) (some (vL r.1), r.2) := by
  intro k
  induction k with
  | zero => intro w2 x1 x3 h r H; cases H
  | succ k ih =>
    intro w2 x1 x3 h r H
    rcases ifc H with ⟨hc, H⟩ | ⟨hc, H⟩
    · refine zEv.iteT (L2 := [some (vR (some (10, 0))), some (vL x1), w2, some (vI x3)]) (st2 := []) (h2 := h) zm_X10_digest rfl rfl rfl rfl (decide_eq_true hc) ?_
      refine zEv.loc (L2 := [some (vR (some (10, 0))), some (vL x1), none, some (vI 0)]) (st2 := []) (h2 := h) zm_X10_digest rfl rfl rfl rfl (fun h => (nomatch h)) ?_
      exact ev_X10_digest_60 (by omega)  1000 H
    · refine zEv.iteF (L2 := [some (vR (some (10, 0))), some (vL x1), w2, some (vI x3)]) (st2 := []) (h2 := h) zm_X10_digest rfl rfl rfl rfl (decide_eq_false hc) ?_
      obtain ⟨hg, H⟩ := ifg H
      obtain ⟨q48, hq, H⟩ := bnd H
      refine zEv.call (k := 26) (as := [vR (rR h 28 0 (Int32.toNatClampNeg x3)), vL x1]) (L2 := [some (vR (some (10, 0))), some (vL x1), w2, some (vI x3)]) (st2 := []) (h2 := h) (v := some (vL q48.1)) (h1 := q48.2) (st3 := [vL q48.1]) zm_X10_digest rfl (and2 (and2 hg).2).2 rfl hg rfl zm_X3_mixInto rfl (by omega) (ev_X3_mixInto (by omega) hq) rfl ?_
      refine zEv.loc (L2 := [some (vR (some (10, 0))), some (vL q48.1), none, some (vI (x3 + 1))]) (st2 := []) (h2 := q48.2) zm_X10_digest rfl rfl rfl rfl (fun h => (nomatch h)) ?_
      exact ih H
def f_X10_digest_6 : Nat → Int64 → Int32 → zM → Option (Int64 × zM)
  | 0 => fun _ _ _ => none
  | k + 1 => fun x1 x3 h => (if 7 < x3 then (f_X10_digest_33  1000 x1 0 h) else ((f_X10_count x3 h).bind fun q19 => (f_X10_digest_6 k ((31 * x1) + (Int32.toInt64 q19.1)) (x3 + 1) q19.2)))
set_option maxRecDepth 20000 in
theorem ev_X10_digest_6 {d : Nat} (hd : 3 ≤ d) : ∀ (k : Nat) {w2 : Option zV} {x1 : Int64} {x3 : Int32} {h : zM} {r : Int64 × zM}, f_X10_digest_6 k x1 x3 h = some r → zEv zmt d 99 6 ([some (vR (some (10, 0))), some (vL x1), w2, some (vI x3)], [], h, true) (some (vL r.1), r.2) := by
  intro k
  induction k with
  | zero => intro w2 x1 x3 h r H; cases H
  | succ k ih =>
    intro w2 x1 x3 h r H
    rcases ifc H with ⟨hc, H⟩ | ⟨hc, H⟩
    · refine zEv.iteT (L2 := [some (vR (some (10, 0))), some (vL x1), w2, some (vI x3)]) (st2 := []) (h2 := h) zm_X10_digest rfl rfl rfl rfl (decide_eq_true hc) ?_
      refine zEv.loc (L2 := [some (vR (some (10, 0))), some (vL x1), none, some (vI 0)]) (st2 := []) (h2 := h) zm_X10_digest rfl rfl rfl rfl (fun h => (nomatch h)) ?_
      exact ev_X10_digest_33 (by omega)  1000 H
    · refine zEv.iteF (L2 := [some (vR (some (10, 0))), some (vL x1), w2, some (vI x3)]) (st2 := []) (h2 := h) zm_X10_digest rfl rfl rfl rfl (decide_eq_false hc) ?_
      obtain ⟨q19, hq, H⟩ := bnd H
      refine zEv.call (k := 96) (as := [vR (some (10, 0)), vI x3]) (L2 := [some (vR (some (10, 0))), some (vL x1), w2, some (vI x3)]) (st2 := [vL (31 * x1)]) (h2 := h) (v := some (vI q19.1)) (h1 := q19.2) (st3 := [vI q19.1, vL (31 * x1)]) zm_X10_digest rfl rfl rfl rfl rfl zm_X10_count rfl (by omega) (ev_X10_count (by omega) hq) rfl ?_
      refine zEv.loc (L2 := [some (vR (some (10, 0))), some (vL ((31 * x1) + (Int32.toInt64 q19.1))), none, some (vI (x3 + 1))]) (st2 := []) (h2 := q19.2) zm_X10_digest rfl rfl rfl rfl (fun h => (nomatch h)) ?_
      exact ih H
def f_X10_digest (h : zM) : Option (Int64 × zM) := (f_X10_digest_6  1000 17 0 h)
set_option maxRecDepth 20000 in
theorem ev_X10_digest {d : Nat} (hd : 3 ≤ d) {w1 : Option zV} {w2 : Option zV} {w3 : Option zV} {h : zM} {r : Int64 × zM} (H : f_X10_digest  h = some r) : zEv zmt d 99 0 ([some (vR (some (10, 0))), w1, w2, w3], [], h, true) (some (vL r.1), r.2) := by
  refine zEv.loc (L2 := [some (vR (some (10, 0))), some (vL 17), none, some (vI 0)]) (st2 := []) (h2 := h) zm_X10_digest rfl rfl rfl rfl (fun h => (nomatch h)) ?_
  exact ev_X10_digest_6 (by omega)  1000 H
def f_X11_init_155 : Nat → Int32 → zM → Option (zM)
  | 0 => fun _ _ => none
  | k + 1 => fun x1 h => (if 4 ≤ x1 then (some h) else (if (true && (ixOk 4 x1 && (true && (decide (rR h 11 0 9 = (some (36, 0))) && true)))) = true then (f_X11_init_155 k (x1 + 1) (wI h 36 0 (Int32.toNatClampNeg x1) (-9999))) else none))
set_option maxRecDepth 20000 in
theorem ev_X11_init_155 {d : Nat} (hd : 1 ≤ d) : ∀ (k : Nat) {x1 : Int32} {h : zM} {r : zM}, f_X11_init_155 k x1 h = some r → zEv zmt d 126 155 ([some (vR (some (11, 0))), some (vI x1)], [], h, true) (none, r) := by
  intro k
  induction k with
  | zero => intro x1 h r H; cases H
  | succ k ih =>
    intro x1 h r H
    rcases ifc H with ⟨hc, H⟩ | ⟨hc, H⟩
    · refine zEv.iteT (L2 := [some (vR (some (11, 0))), some (vI x1)]) (st2 := []) (h2 := h) zm_X11_init rfl rfl rfl rfl (decide_eq_true hc) ?_
      cases H
      exact zEv.ret zm_X11_init rfl rfl rfl rfl
    · refine zEv.iteF (L2 := [some (vR (some (11, 0))), some (vI x1)]) (st2 := []) (h2 := h) zm_X11_init rfl rfl rfl rfl (decide_eq_false hc) ?_
      obtain ⟨hg, H⟩ := ifg H
      refine zEv.loc (L2 := [some (vR (some (11, 0))), some (vI (x1 + 1))]) (st2 := []) (h2 := (wI h 36 0 (Int32.toNatClampNeg x1) (-9999))) zm_X11_init rfl hg rfl hg (fun h => (nomatch h)) ?_
      exact ih H
def f_X11_init_132 : Nat → Int32 → zM → Option (zM)
  | 0 => fun _ _ => none
  | k + 1 => fun x1 h => (if 6 ≤ x1 then (f_X11_init_155  1000 0 h) else (if (true && (ixOk 6 x1 && (true && (decide (rR h 11 0 6 = (some (33, 0))) && true)))) = true then (f_X11_init_132 k (x1 + 1) (wI h 33 0 (Int32.toNatClampNeg x1) (-9999))) else none))
set_option maxRecDepth 20000 in
theorem ev_X11_init_132 {d : Nat} (hd : 1 ≤ d) : ∀ (k : Nat) {x1 : Int32} {h : zM} {r : zM}, f_X11_init_132 k x1 h = some r → zEv zmt d 126 132 ([some (vR (some (11, 0))), some (vI x1)], [], h, true) (none, r) := by
  intro k
  induction k with
  | zero => intro x1 h r H; cases H
  | succ k ih =>
    intro x1 h r H
    rcases ifc H with ⟨hc, H⟩ | ⟨hc, H⟩
    · refine zEv.iteT (L2 := [some (vR (some (11, 0))), some (vI x1)]) (st2 := []) (h2 := h) zm_X11_init rfl rfl rfl rfl (decide_eq_true hc) ?_
      refine zEv.loc (L2 := [some (vR (some (11, 0))), some (vI 0)]) (st2 := []) (h2 := h) zm_X11_init rfl rfl rfl rfl (fun h => (nomatch h)) ?_
      exact ev_X11_init_155 (by omega)  1000 H
    · refine zEv.iteF (L2 := [some (vR (some (11, 0))), some (vI x1)]) (st2 := []) (h2 := h) zm_X11_init rfl rfl rfl rfl (decide_eq_false hc) ?_
      obtain ⟨hg, H⟩ := ifg H
      refine zEv.loc (L2 := [some (vR (some (11, 0))), some (vI (x1 + 1))]) (st2 := []) (h2 := (wI h 33 0 (Int32.toNatClampNeg x1) (-9999))) zm_X11_init rfl hg rfl hg (fun h => (nomatch h)) ?_
      exact ih H
def f_X11_init (h : zM) : Option (zM) := (f_X11_init_132  1000 0 (wR (nwM (wR (nwM (wR (nwM (wR (nwM (wR (nwM (wR (nwM (wR (nwM (wR (nwM (wR (nwM (wR (nwM (wR (nwM (wR (nwM (wR (nwM (wR (nwM (wL (wR (nwM h 32 6) 11 0 1 (some (32, (cnM h 32)))) 11 0 4 1) 33 6) 11 0 6 (some (33, (cnM h 33)))) 34 240) 11 0 7 (some (34, (cnM h 34)))) 35 40) 11 0 8 (some (35, (cnM h 35)))) 36 4) 11 0 9 (some (36, (cnM h 36)))) 37 160) 11 0 10 (some (37, (cnM h 37)))) 38 32) 11 0 12 (some (38, (cnM h 38)))) 39 280) 11 0 14 (some (39, (cnM h 39)))) 40 40) 11 0 15 (some (40, (cnM h 40)))) 41 40) 11 0 16 (some (41, (cnM h 41)))) 42 10) 11 0 20 (some (42, (cnM h 42)))) 43 2) 11 0 26 (some (43, (cnM h 43)))) 44 20) 11 0 27 (some (44, (cnM h 44)))) 45 40) 11 0 29 (some (45, (cnM h 45)))) 46 12) 11 0 30 (some (46, (cnM h 46)))))
set_option maxRecDepth 20000 in
theorem ev_X11_init {d : Nat} (hd : 1 ≤ d) {w1 : Option zV} {h : zM} {r : zM} (H : f_X11_init  h = some r) : zEv zmt d 126 0 ([some (vR (some (11, 0))), w1], [], h, true) (none, r) := by
  refine zEv.loc (L2 := [some (vR (some (11, 0))), w1]) (st2 := []) (h2 := h) zm_X11_init rfl rfl rfl rfl (fun _ => by omega) ?_
  refine zEv.loc (L2 := [some (vR (some (11, 0))), some (vI 0)]) (st2 := []) (h2 := (wR (nwM (wR (nwM (wR (nwM (wR (nwM (wR (nwM (wR (nwM (wR (nwM (wR (nwM (wR (nwM (wR (nwM (wR (nwM (wR (nwM (wR (nwM (wR (nwM (wL (wR (nwM h 32 6) 11 0 1 (some (32, (cnM h 32)))) 11 0 4 1) 33 6) 11 0 6 (some (33, (cnM h 33)))) 34 240) 11 0 7 (some (34, (cnM h 34)))) 35 40) 11 0 8 (some (35, (cnM h 35)))) 36 4) 11 0 9 (some (36, (cnM h 36)))) 37 160) 11 0 10 (some (37, (cnM h 37)))) 38 32) 11 0 12 (some (38, (cnM h 38)))) 39 280) 11 0 14 (some (39, (cnM h 39)))) 40 40) 11 0 15 (some (40, (cnM h 40)))) 41 40) 11 0 16 (some (41, (cnM h 41)))) 42 10) 11 0 20 (some (42, (cnM h 42)))) 43 2) 11 0 26 (some (43, (cnM h 43)))) 44 20) 11 0 27 (some (44, (cnM h 44)))) 45 40) 11 0 29 (some (45, (cnM h 45)))) 46 12) 11 0 30 (some (46, (cnM h 46))))) zm_X11_init rfl rfl rfl rfl (fun h => (nomatch h)) ?_
  exact ev_X11_init_132 (by omega)  1000 H
def f_X11_in_14 (h : zM) : Option (Int32 × zM) := (some (0, h))
set_option maxRecDepth 20000 in
theorem ev_X11_in_14 {d : Nat} (hd : 0 ≤ d) {w0 : Option zV} {w1 : Option zV} {w2 : Option zV} {h : zM} {r : Int32 × zM} (H : f_X11_in_14  h = some r) : zEv zmt d 127 14 ([w0, w1, w2], [], h, true) (some (vI r.1), r.2) := by
  refine zEv.loc (L2 := [w0, w1, w2]) (st2 := [vI 0]) (h2 := h) zm_X11_in rfl rfl rfl rfl (fun h => (nomatch h)) ?_
  cases H
  exact zEv.ret zm_X11_in rfl rfl rfl rfl
def f_X11_in (x0 : Int32) (x1 : Int32) (x2 : Int32) (h : zM) : Option (Int32 × zM) := (if x0 < x1 then (f_X11_in_14  h) else (if x2 < x0 then (f_X11_in_14  h) else (some (1, h))))
set_option maxRecDepth 20000 in
theorem ev_X11_in {d : Nat} (hd : 0 ≤ d) {x0 : Int32} {x1 : Int32} {x2 : Int32} {h : zM} {r : Int32 × zM} (H : f_X11_in x0 x1 x2 h = some r) : zEv zmt d 127 0 ([some (vI x0), some (vI x1), some (vI x2)], [], h, true) (some (vI r.1), r.2) := by
  rcases ifc H with ⟨hc, H⟩ | ⟨hc, H⟩
  · refine zEv.iteT (L2 := [some (vI x0), some (vI x1), some (vI x2)]) (st2 := []) (h2 := h) zm_X11_in rfl rfl rfl rfl (decide_eq_true hc) ?_
    exact ev_X11_in_14 (by omega)  H
  · refine zEv.iteF (L2 := [some (vI x0), some (vI x1), some (vI x2)]) (st2 := []) (h2 := h) zm_X11_in rfl rfl rfl rfl (decide_eq_false hc) ?_
    rcases ifc H with ⟨hc, H⟩ | ⟨hc, H⟩
    · refine zEv.iteT (L2 := [some (vI x0), some (vI x1), some (vI x2)]) (st2 := []) (h2 := h) zm_X11_in rfl rfl rfl rfl (decide_eq_true hc) ?_
      exact ev_X11_in_14 (by omega)  H
    · refine zEv.iteF (L2 := [some (vI x0), some (vI x1), some (vI x2)]) (st2 := []) (h2 := h) zm_X11_in rfl rfl rfl rfl (decide_eq_false hc) ?_
      refine zEv.loc (L2 := [some (vI x0), some (vI x1), some (vI x2)]) (st2 := [vI 1]) (h2 := h) zm_X11_in rfl rfl rfl rfl (fun h => (nomatch h)) ?_
      cases H
      exact zEv.ret zm_X11_in rfl rfl rfl rfl
def f_X11_meets (x1 : Int32) (h : zM) : Option (Int32 × zM) := (if (true && (ixOk 6 x1 && (true && (ixOk 6 x1 && (true && (true && (true && (decide (rR h 11 0 1 = (some (32, 0))) && (true && true))))))))) = true then (some ((-3), (wI (wI h 11 0 0 x1) 32 0 (Int32.toNatClampNeg x1) ((rI (wI h 11 0 0 x1) 32 0 (Int32.toNatClampNeg x1)) + 1)))) else none)
set_option maxRecDepth 20000 in
theorem ev_X11_meets {d : Nat} (hd : 0 ≤ d) {x1 : Int32} {h : zM} {r : Int32 × zM} (H : f_X11_meets x1 h = some r) : zEv zmt d 128 0 ([some (vR (some (11, 0))), some (vI x1)], [], h, true) (some (vI r.1), r.2) := by
  obtain ⟨hg, H⟩ := ifg H
  cases H
  exact zEv.ret zm_X11_meets rfl hg rfl hg
def f_X11_ask (x1 : Int32) (x2 : Int32) (h : zM) : Option (Int32 × zM) := (some (x2, (wI h 11 0 2 x1)))
set_option maxRecDepth 20000 in
theorem ev_X11_ask {d : Nat} (hd : 0 ≤ d) {x1 : Int32} {x2 : Int32} {h : zM} {r : Int32 × zM} (H : f_X11_ask x1 x2 h = some r) : zEv zmt d 129 0 ([some (vR (some (11, 0))), some (vI x1), some (vI x2)], [], h, true) (some (vI r.1), r.2) := by
  cases H
  exact zEv.ret zm_X11_ask rfl rfl rfl rfl
def f_X11_tell_17 : Nat → Int64 → Int64 → Int32 → Int64 → Int64 → zM → Option (Int32 × zM)
  | 0 => fun _ _ _ _ _ _ => none
  | k + 1 => fun x1 x3 x5 x6 x8 h => (if (lg_cmp x8 0) = 0 then (if (true && (!decide (x6 = 0) && (true && (!decide (x6 = 0) && true)))) = true then (some (x5, (wL (wL h 11 0 3 (x1 / x6)) 11 0 4 (x3 / x6)))) else none) else (if (true && (true && (true && (!decide (x8 = 0) && true)))) = true then (f_X11_tell_17 k x1 x3 x5 x8 (x6 - x6 / x8 * x8) h) else none))
set_option maxRecDepth 20000 in
theorem ev_X11_tell_17 {d : Nat} (hd : 0 ≤ d) : ∀ (k : Nat) {w2 : Option zV} {w4 : Option zV} {w7 : Option zV} {w9 : Option zV} {w10 : Option zV} {w11 : Option zV} {x1 : Int64} {x3 : Int64} {x5 : Int32} {x6 : Int64} {x8 : Int64} {h : zM} {r : Int32 × zM}, f_X11_tell_17 k x1 x3 x5 x6 x8 h = some r → zEv zmt d 130 17 ([some (vR (some (11, 0))), some (vL x1), w2, some (vL x3), w4, some (vI x5), some (vL x6), w7, some (vL x8), w9, w10, w11], [], h, true) (some (vI r.1), r.2) := by
  intro k
  induction k with
  | zero => intro w2 w4 w7 w9 w10 w11 x1 x3 x5 x6 x8 h r H; cases H
  | succ k ih =>
    intro w2 w4 w7 w9 w10 w11 x1 x3 x5 x6 x8 h r H
    rcases ifc H with ⟨hc, H⟩ | ⟨hc, H⟩
    · refine zEv.iteT (L2 := [some (vR (some (11, 0))), some (vL x1), w2, some (vL x3), w4, some (vI x5), some (vL x6), w7, some (vL x8), w9, w10, w11]) (st2 := []) (h2 := h) zm_X11_tell rfl rfl rfl rfl (decide_eq_true hc) ?_
      obtain ⟨hg, H⟩ := ifg H
      cases H
      exact zEv.ret zm_X11_tell rfl hg rfl hg
    · refine zEv.iteF (L2 := [some (vR (some (11, 0))), some (vL x1), w2, some (vL x3), w4, some (vI x5), some (vL x6), w7, some (vL x8), w9, w10, w11]) (st2 := []) (h2 := h) zm_X11_tell rfl rfl rfl rfl (decide_eq_false hc) ?_
      obtain ⟨hg, H⟩ := ifg H
      refine zEv.loc (L2 := [some (vR (some (11, 0))), some (vL x1), w2, some (vL x3), w4, some (vI x5), some (vL x8), none, some (vL (x6 - x6 / x8 * x8)), none, some (vL (x6 - x6 / x8 * x8)), none]) (st2 := []) (h2 := h) zm_X11_tell rfl hg rfl hg (fun h => (nomatch h)) ?_
      exact ih H
def f_X11_tell_12 (x1 : Int64) (x3 : Int64) (x5 : Int32) (s0 : Int64) (h : zM) : Option (Int32 × zM) := (f_X11_tell_17  1000 x1 x3 x5 s0 x3 h)
set_option maxRecDepth 20000 in
theorem ev_X11_tell_12 {d : Nat} (hd : 0 ≤ d) {w2 : Option zV} {w4 : Option zV} {w6 : Option zV} {w7 : Option zV} {w8 : Option zV} {w9 : Option zV} {w10 : Option zV} {w11 : Option zV} {x1 : Int64} {x3 : Int64} {x5 : Int32} {s0 : Int64} {h : zM} {r : Int32 × zM} (H : f_X11_tell_12 x1 x3 x5 s0 h = some r) : zEv zmt d 130 12 ([some (vR (some (11, 0))), some (vL x1), w2, some (vL x3), w4, some (vI x5), w6, w7, w8, w9, w10, w11], [vL s0], h, true) (some (vI r.1), r.2) := by
  refine zEv.loc (L2 := [some (vR (some (11, 0))), some (vL x1), w2, some (vL x3), w4, some (vI x5), some (vL s0), none, some (vL x3), none, w10, w11]) (st2 := []) (h2 := h) zm_X11_tell rfl rfl rfl rfl (fun h => (nomatch h)) ?_
  exact ev_X11_tell_17 (by omega)  1000 H
def f_X11_tell (x1 : Int64) (x3 : Int64) (x5 : Int32) (h : zM) : Option (Int32 × zM) := (if 0 ≤ (lg_cmp x1 0) then (f_X11_tell_12  x1 x3 x5 x1 h) else (f_X11_tell_12  x1 x3 x5 (-x1) h))
set_option maxRecDepth 20000 in
theorem ev_X11_tell {d : Nat} (hd : 0 ≤ d) {w2 : Option zV} {w4 : Option zV} {w6 : Option zV} {w7 : Option zV} {w8 : Option zV} {w9 : Option zV} {w10 : Option zV} {w11 : Option zV} {x1 : Int64} {x3 : Int64} {x5 : Int32} {h : zM} {r : Int32 × zM} (H : f_X11_tell x1 x3 x5 h = some r) : zEv zmt d 130 0 ([some (vR (some (11, 0))), some (vL x1), w2, some (vL x3), w4, some (vI x5), w6, w7, w8, w9, w10, w11], [], h, true) (some (vI r.1), r.2) := by
  rcases ifc H with ⟨hc, H⟩ | ⟨hc, H⟩
  · refine zEv.iteT (L2 := [some (vR (some (11, 0))), some (vL x1), w2, some (vL x3), w4, some (vI x5), w6, w7, w8, w9, w10, w11]) (st2 := []) (h2 := h) zm_X11_tell rfl rfl rfl rfl (decide_eq_true hc) ?_
    refine zEv.loc (L2 := [some (vR (some (11, 0))), some (vL x1), w2, some (vL x3), w4, some (vI x5), w6, w7, w8, w9, w10, w11]) (st2 := [vL x1]) (h2 := h) zm_X11_tell rfl rfl rfl rfl (fun h => (nomatch h)) ?_
    exact ev_X11_tell_12 (by omega)  H
  · refine zEv.iteF (L2 := [some (vR (some (11, 0))), some (vL x1), w2, some (vL x3), w4, some (vI x5), w6, w7, w8, w9, w10, w11]) (st2 := []) (h2 := h) zm_X11_tell rfl rfl rfl rfl (decide_eq_false hc) ?_
    refine zEv.loc (L2 := [some (vR (some (11, 0))), some (vL x1), w2, some (vL x3), w4, some (vI x5), w6, w7, w8, w9, w10, w11]) (st2 := [vL (-x1)]) (h2 := h) zm_X11_tell rfl rfl rfl rfl (fun h => (nomatch h)) ?_
    exact ev_X11_tell_12 (by omega)  H
def f_X11_isRow (x0 : Int32) (h : zM) : Option (Int32 × zM) := ((f_X11_in x0 0 5 h).bind fun q3 => (if (isB q3.1 && true) = true then (some (q3.1, q3.2)) else none))
set_option maxRecDepth 20000 in
theorem ev_X11_isRow {d : Nat} (hd : 1 ≤ d) {x0 : Int32} {h : zM} {r : Int32 × zM} (H : f_X11_isRow x0 h = some r) : zEv zmt d 131 0 ([some (vI x0)], [], h, true) (some (vI r.1), r.2) := by
  obtain ⟨q3, hq, H⟩ := bnd H
  refine zEv.call (k := 127) (as := [vI x0, vI 0, vI 5]) (L2 := [some (vI x0)]) (st2 := []) (h2 := h) (v := some (vI q3.1)) (h1 := q3.2) (st3 := [vI q3.1]) zm_X11_isRow rfl rfl rfl rfl rfl zm_X11_in rfl (by omega) (ev_X11_in (by omega) hq) rfl ?_
  obtain ⟨hg, H⟩ := ifg H
  cases H
  exact zEv.ret zm_X11_isRow rfl (and2 hg).2 rfl hg
def f_X11_isText (x0 : Int32) (h : zM) : Option (Int32 × zM) := ((f_X11_in x0 0 3 h).bind fun q3 => (if (isB q3.1 && true) = true then (some (q3.1, q3.2)) else none))
set_option maxRecDepth 20000 in
theorem ev_X11_isText {d : Nat} (hd : 1 ≤ d) {x0 : Int32} {h : zM} {r : Int32 × zM} (H : f_X11_isText x0 h = some r) : zEv zmt d 132 0 ([some (vI x0)], [], h, true) (some (vI r.1), r.2) := by
  obtain ⟨q3, hq, H⟩ := bnd H
  refine zEv.call (k := 127) (as := [vI x0, vI 0, vI 3]) (L2 := [some (vI x0)]) (st2 := []) (h2 := h) (v := some (vI q3.1)) (h1 := q3.2) (st3 := [vI q3.1]) zm_X11_isText rfl rfl rfl rfl rfl zm_X11_in rfl (by omega) (ev_X11_in (by omega) hq) rfl ?_
  obtain ⟨hg, H⟩ := ifg H
  cases H
  exact zEv.ret zm_X11_isText rfl (and2 hg).2 rfl hg
def f_X11_askedRow (x1 : Int32) (h : zM) : Option (Int32 × zM) := ((f_X11_isRow x1 h).bind fun q1 => (if ¬ q1.1 = 0 then (if (true && (ixOk 6 x1 && (true && (decide (rR q1.2 11 0 6 = (some (33, 0))) && true)))) = true then (if 0 ≤ (rI q1.2 33 0 (Int32.toNatClampNeg x1)) then (some (0, q1.2)) else ((f_X11_meets 1 q1.2).bind fun q22 => (some (q22.1, q22.2)))) else none) else (some ((-1), q1.2))))
set_option maxRecDepth 20000 in
theorem ev_X11_askedRow {d : Nat} (hd : 2 ≤ d) {x1 : Int32} {h : zM} {r : Int32 × zM} (H : f_X11_askedRow x1 h = some r) : zEv zmt d 133 0 ([some (vR (some (11, 0))), some (vI x1)], [], h, true) (some (vI r.1), r.2) := by
  obtain ⟨q1, hq, H⟩ := bnd H
  refine zEv.call (k := 131) (as := [vI x1]) (L2 := [some (vR (some (11, 0))), some (vI x1)]) (st2 := []) (h2 := h) (v := some (vI q1.1)) (h1 := q1.2) (st3 := [vI q1.1]) zm_X11_askedRow rfl rfl rfl rfl rfl zm_X11_isRow rfl (by omega) (ev_X11_isRow (by omega) hq) rfl ?_
  rcases ifc H with ⟨hc, H⟩ | ⟨hc, H⟩
  · refine zEv.iteT (L2 := [some (vR (some (11, 0))), some (vI x1)]) (st2 := []) (h2 := q1.2) zm_X11_askedRow rfl rfl rfl rfl (decide_eq_true hc) ?_
    obtain ⟨hg, H⟩ := ifg H
    rcases ifc H with ⟨hc, H⟩ | ⟨hc, H⟩
    · refine zEv.iteT (L2 := [some (vR (some (11, 0))), some (vI x1)]) (st2 := []) (h2 := q1.2) zm_X11_askedRow rfl hg rfl hg (decide_eq_true hc) ?_
      refine zEv.loc (L2 := [some (vR (some (11, 0))), some (vI x1)]) (st2 := [vI 0]) (h2 := q1.2) zm_X11_askedRow rfl rfl rfl rfl (fun h => (nomatch h)) ?_
      cases H
      exact zEv.ret zm_X11_askedRow rfl rfl rfl rfl
    · refine zEv.iteF (L2 := [some (vR (some (11, 0))), some (vI x1)]) (st2 := []) (h2 := q1.2) zm_X11_askedRow rfl hg rfl hg (decide_eq_false hc) ?_
      obtain ⟨q22, hq, H⟩ := bnd H
      refine zEv.call (k := 128) (as := [vR (some (11, 0)), vI 1]) (L2 := [some (vR (some (11, 0))), some (vI x1)]) (st2 := []) (h2 := q1.2) (v := some (vI q22.1)) (h1 := q22.2) (st3 := [vI q22.1]) zm_X11_askedRow rfl rfl rfl rfl rfl zm_X11_meets rfl (by omega) (ev_X11_meets (by omega) hq) rfl ?_
      refine zEv.loc (L2 := [some (vR (some (11, 0))), some (vI x1)]) (st2 := [vI q22.1]) (h2 := q22.2) zm_X11_askedRow rfl rfl rfl rfl (fun h => (nomatch h)) ?_
      cases H
      exact zEv.ret zm_X11_askedRow rfl rfl rfl rfl
  · refine zEv.iteF (L2 := [some (vR (some (11, 0))), some (vI x1)]) (st2 := []) (h2 := q1.2) zm_X11_askedRow rfl rfl rfl rfl (decide_eq_false hc) ?_
    refine zEv.loc (L2 := [some (vR (some (11, 0))), some (vI x1)]) (st2 := [vI (-1)]) (h2 := q1.2) zm_X11_askedRow rfl rfl rfl rfl (fun h => (nomatch h)) ?_
    cases H
    exact zEv.ret zm_X11_askedRow rfl rfl rfl rfl
def f_X11_askedText (x1 : Int32) (h : zM) : Option (Int32 × zM) := ((f_X11_isText x1 h).bind fun q1 => (if ¬ q1.1 = 0 then (if (true && (ixOk 4 x1 && (true && (decide (rR q1.2 11 0 9 = (some (36, 0))) && true)))) = true then (if 0 ≤ (rI q1.2 36 0 (Int32.toNatClampNeg x1)) then (some (0, q1.2)) else ((f_X11_meets 1 q1.2).bind fun q22 => (some (q22.1, q22.2)))) else none) else (some ((-1), q1.2))))
set_option maxRecDepth 20000 in
theorem ev_X11_askedText {d : Nat} (hd : 2 ≤ d) {x1 : Int32} {h : zM} {r : Int32 × zM} (H : f_X11_askedText x1 h = some r) : zEv zmt d 134 0 ([some (vR (some (11, 0))), some (vI x1)], [], h, true) (some (vI r.1), r.2) := by
  obtain ⟨q1, hq, H⟩ := bnd H
  refine zEv.call (k := 132) (as := [vI x1]) (L2 := [some (vR (some (11, 0))), some (vI x1)]) (st2 := []) (h2 := h) (v := some (vI q1.1)) (h1 := q1.2) (st3 := [vI q1.1]) zm_X11_askedText rfl rfl rfl rfl rfl zm_X11_isText rfl (by omega) (ev_X11_isText (by omega) hq) rfl ?_
  rcases ifc H with ⟨hc, H⟩ | ⟨hc, H⟩
  · refine zEv.iteT (L2 := [some (vR (some (11, 0))), some (vI x1)]) (st2 := []) (h2 := q1.2) zm_X11_askedText rfl rfl rfl rfl (decide_eq_true hc) ?_
    obtain ⟨hg, H⟩ := ifg H
    rcases ifc H with ⟨hc, H⟩ | ⟨hc, H⟩
    · refine zEv.iteT (L2 := [some (vR (some (11, 0))), some (vI x1)]) (st2 := []) (h2 := q1.2) zm_X11_askedText rfl hg rfl hg (decide_eq_true hc) ?_
      refine zEv.loc (L2 := [some (vR (some (11, 0))), some (vI x1)]) (st2 := [vI 0]) (h2 := q1.2) zm_X11_askedText rfl rfl rfl rfl (fun h => (nomatch h)) ?_
      cases H
      exact zEv.ret zm_X11_askedText rfl rfl rfl rfl
    · refine zEv.iteF (L2 := [some (vR (some (11, 0))), some (vI x1)]) (st2 := []) (h2 := q1.2) zm_X11_askedText rfl hg rfl hg (decide_eq_false hc) ?_
      obtain ⟨q22, hq, H⟩ := bnd H
      refine zEv.call (k := 128) (as := [vR (some (11, 0)), vI 1]) (L2 := [some (vR (some (11, 0))), some (vI x1)]) (st2 := []) (h2 := q1.2) (v := some (vI q22.1)) (h1 := q22.2) (st3 := [vI q22.1]) zm_X11_askedText rfl rfl rfl rfl rfl zm_X11_meets rfl (by omega) (ev_X11_meets (by omega) hq) rfl ?_
      refine zEv.loc (L2 := [some (vR (some (11, 0))), some (vI x1)]) (st2 := [vI q22.1]) (h2 := q22.2) zm_X11_askedText rfl rfl rfl rfl (fun h => (nomatch h)) ?_
      cases H
      exact zEv.ret zm_X11_askedText rfl rfl rfl rfl
  · refine zEv.iteF (L2 := [some (vR (some (11, 0))), some (vI x1)]) (st2 := []) (h2 := q1.2) zm_X11_askedText rfl rfl rfl rfl (decide_eq_false hc) ?_
    refine zEv.loc (L2 := [some (vR (some (11, 0))), some (vI x1)]) (st2 := [vI (-1)]) (h2 := q1.2) zm_X11_askedText rfl rfl rfl rfl (fun h => (nomatch h)) ?_
    cases H
    exact zEv.ret zm_X11_askedText rfl rfl rfl rfl
def f_X11_rowAt (x1 : Int32) (x2 : Int32) (h : zM) : Option (Int32 × zM) := (if (true && (ixOk 240 ((40 * x1) + x2) && (true && (decide (rR h 11 0 7 = (some (34, 0))) && true)))) = true then (some ((rI h 34 0 (Int32.toNatClampNeg ((40 * x1) + x2))), h)) else none)
set_option maxRecDepth 20000 in
theorem ev_X11_rowAt {d : Nat} (hd : 0 ≤ d) {x1 : Int32} {x2 : Int32} {h : zM} {r : Int32 × zM} (H : f_X11_rowAt x1 x2 h = some r) : zEv zmt d 135 0 ([some (vR (some (11, 0))), some (vI x1), some (vI x2)], [], h, true) (some (vI r.1), r.2) := by
  obtain ⟨hg, H⟩ := ifg H
  cases H
  exact zEv.ret zm_X11_rowAt rfl hg rfl hg
def f_X11_row_34 : Nat → Int32 → Int32 → Int32 → zM → Option (Int32 × zM)
  | 0 => fun _ _ _ _ => none
  | k + 1 => fun x1 x2 x3 h => (if 40 ≤ x3 then (some (x2, h)) else (if (true && (ixOk 240 ((40 * x1) + x3) && (true && (decide (rR h 11 0 7 = (some (34, 0))) && true)))) = true then (f_X11_row_34 k x1 x2 (x3 + 1) (wI h 34 0 (Int32.toNatClampNeg ((40 * x1) + x3)) 0)) else none))
set_option maxRecDepth 20000 in
theorem ev_X11_row_34 {d : Nat} (hd : 2 ≤ d) : ∀ (k : Nat) {x1 : Int32} {x2 : Int32} {x3 : Int32} {h : zM} {r : Int32 × zM}, f_X11_row_34 k x1 x2 x3 h = some r → zEv zmt d 136 34 ([some (vR (some (11, 0))), some (vI x1), some (vI x2), some (vI x3)], [], h, true) (some (vI r.1), r.2) := by
  intro k
  induction k with
  | zero => intro x1 x2 x3 h r H; cases H
  | succ k ih =>
    intro x1 x2 x3 h r H
    rcases ifc H with ⟨hc, H⟩ | ⟨hc, H⟩
    · refine zEv.iteT (L2 := [some (vR (some (11, 0))), some (vI x1), some (vI x2), some (vI x3)]) (st2 := []) (h2 := h) zm_X11_row rfl rfl rfl rfl (decide_eq_true hc) ?_
      cases H
      exact zEv.ret zm_X11_row rfl rfl rfl rfl
    · refine zEv.iteF (L2 := [some (vR (some (11, 0))), some (vI x1), some (vI x2), some (vI x3)]) (st2 := []) (h2 := h) zm_X11_row rfl rfl rfl rfl (decide_eq_false hc) ?_
      obtain ⟨hg, H⟩ := ifg H
      refine zEv.loc (L2 := [some (vR (some (11, 0))), some (vI x1), some (vI x2), some (vI (x3 + 1))]) (st2 := []) (h2 := (wI h 34 0 (Int32.toNatClampNeg ((40 * x1) + x3)) 0)) zm_X11_row rfl hg rfl hg (fun h => (nomatch h)) ?_
      exact ih H
def f_X11_row (x1 : Int32) (x2 : Int32) (h : zM) : Option (Int32 × zM) := ((f_X11_isRow x1 h).bind fun q1 => (if q1.1 = 0 then (some ((-1), q1.2)) else (if x2 ≤ 40 then (if 0 ≤ x2 then (if (true && (true && (ixOk 6 x1 && (true && (decide (rR q1.2 11 0 6 = (some (33, 0))) && true))))) = true then (f_X11_row_34  1000 x1 x2 0 (wI q1.2 33 0 (Int32.toNatClampNeg x1) x2)) else none) else ((f_X11_meets 5 q1.2).bind fun q21 => (some (q21.1, q21.2)))) else (some ((-1), q1.2)))))
set_option maxRecDepth 20000 in
theorem ev_X11_row {d : Nat} (hd : 2 ≤ d) {w3 : Option zV} {x1 : Int32} {x2 : Int32} {h : zM} {r : Int32 × zM} (H : f_X11_row x1 x2 h = some r) : zEv zmt d 136 0 ([some (vR (some (11, 0))), some (vI x1), some (vI x2), w3], [], h, true) (some (vI r.1), r.2) := by
  obtain ⟨q1, hq, H⟩ := bnd H
  refine zEv.call (k := 131) (as := [vI x1]) (L2 := [some (vR (some (11, 0))), some (vI x1), some (vI x2), w3]) (st2 := []) (h2 := h) (v := some (vI q1.1)) (h1 := q1.2) (st3 := [vI q1.1]) zm_X11_row rfl rfl rfl rfl rfl zm_X11_isRow rfl (by omega) (ev_X11_isRow (by omega) hq) rfl ?_
  rcases ifc H with ⟨hc, H⟩ | ⟨hc, H⟩
  · refine zEv.iteT (L2 := [some (vR (some (11, 0))), some (vI x1), some (vI x2), w3]) (st2 := []) (h2 := q1.2) zm_X11_row rfl rfl rfl rfl (decide_eq_true hc) ?_
    cases H
    exact zEv.ret zm_X11_row rfl rfl rfl rfl
  · refine zEv.iteF (L2 := [some (vR (some (11, 0))), some (vI x1), some (vI x2), w3]) (st2 := []) (h2 := q1.2) zm_X11_row rfl rfl rfl rfl (decide_eq_false hc) ?_
    rcases ifc H with ⟨hc, H⟩ | ⟨hc, H⟩
    · refine zEv.iteT (L2 := [some (vR (some (11, 0))), some (vI x1), some (vI x2), w3]) (st2 := []) (h2 := q1.2) zm_X11_row rfl rfl rfl rfl (decide_eq_true hc) ?_
      rcases ifc H with ⟨hc, H⟩ | ⟨hc, H⟩
      · refine zEv.iteT (L2 := [some (vR (some (11, 0))), some (vI x1), some (vI x2), w3]) (st2 := []) (h2 := q1.2) zm_X11_row rfl rfl rfl rfl (decide_eq_true hc) ?_
        obtain ⟨hg, H⟩ := ifg H
        refine zEv.loc (L2 := [some (vR (some (11, 0))), some (vI x1), some (vI x2), some (vI 0)]) (st2 := []) (h2 := (wI q1.2 33 0 (Int32.toNatClampNeg x1) x2)) zm_X11_row rfl hg rfl hg (fun h => (nomatch h)) ?_
        exact ev_X11_row_34 (by omega)  1000 H
      · refine zEv.iteF (L2 := [some (vR (some (11, 0))), some (vI x1), some (vI x2), w3]) (st2 := []) (h2 := q1.2) zm_X11_row rfl rfl rfl rfl (decide_eq_false hc) ?_
        obtain ⟨q21, hq, H⟩ := bnd H
        refine zEv.call (k := 128) (as := [vR (some (11, 0)), vI 5]) (L2 := [some (vR (some (11, 0))), some (vI x1), some (vI x2), w3]) (st2 := []) (h2 := q1.2) (v := some (vI q21.1)) (h1 := q21.2) (st3 := [vI q21.1]) zm_X11_row rfl rfl rfl rfl rfl zm_X11_meets rfl (by omega) (ev_X11_meets (by omega) hq) rfl ?_
        cases H
        exact zEv.ret zm_X11_row rfl rfl rfl rfl
    · refine zEv.iteF (L2 := [some (vR (some (11, 0))), some (vI x1), some (vI x2), w3]) (st2 := []) (h2 := q1.2) zm_X11_row rfl rfl rfl rfl (decide_eq_false hc) ?_
      cases H
      exact zEv.ret zm_X11_row rfl rfl rfl rfl
def f_X11_lay (x1 : Int32) (x2 : Int32) (x3 : Int32) (h : zM) : Option (Int32 × zM) := ((f_X11_askedRow x1 h).bind fun q2 => (if 0 ≤ q2.1 then (if (true && (true && (ixOk 6 x1 && (true && (decide (rR q2.2 11 0 6 = (some (33, 0))) && true))))) = true then ((f_X11_in x2 0 ((rI q2.2 33 0 (Int32.toNatClampNeg x1)) - 1) q2.2).bind fun q25 => (if ¬ q25.1 = 0 then ((f_X11_rowAt x1 x2 q25.2).bind fun q41 => (if (true && (ixOk 240 ((40 * x1) + x2) && (true && (decide (rR q41.2 11 0 7 = (some (34, 0))) && (true && true))))) = true then (some (1, (wI (wI q41.2 11 0 2 q41.1) 34 0 (Int32.toNatClampNeg ((40 * x1) + x2)) x3))) else none)) else ((f_X11_meets 2 q25.2).bind fun q33 => (some (q33.1, q33.2))))) else none) else (some (q2.1, q2.2))))
set_option maxRecDepth 20000 in
theorem ev_X11_lay {d : Nat} (hd : 3 ≤ d) {w4 : Option zV} {x1 : Int32} {x2 : Int32} {x3 : Int32} {h : zM} {r : Int32 × zM} (H : f_X11_lay x1 x2 x3 h = some r) : zEv zmt d 137 0 ([some (vR (some (11, 0))), some (vI x1), some (vI x2), some (vI x3), w4], [], h, true) (some (vI r.1), r.2) := by
  obtain ⟨q2, hq, H⟩ := bnd H
  refine zEv.call (k := 133) (as := [vR (some (11, 0)), vI x1]) (L2 := [some (vR (some (11, 0))), some (vI x1), some (vI x2), some (vI x3), w4]) (st2 := []) (h2 := h) (v := some (vI q2.1)) (h1 := q2.2) (st3 := [vI q2.1]) zm_X11_lay rfl rfl rfl rfl rfl zm_X11_askedRow rfl (by omega) (ev_X11_askedRow (by omega) hq) rfl ?_
  rcases ifc H with ⟨hc, H⟩ | ⟨hc, H⟩
  · refine zEv.iteT (L2 := [some (vR (some (11, 0))), some (vI x1), some (vI x2), some (vI x3), some (vI q2.1)]) (st2 := []) (h2 := q2.2) zm_X11_lay rfl rfl rfl rfl (decide_eq_true hc) ?_
    obtain ⟨hg, H⟩ := ifg H
    obtain ⟨q25, hq, H⟩ := bnd H
    refine zEv.call (k := 127) (as := [vI x2, vI 0, vI ((rI q2.2 33 0 (Int32.toNatClampNeg x1)) - 1)]) (L2 := [some (vR (some (11, 0))), some (vI x1), some (vI x2), some (vI x3), some (vI q2.1)]) (st2 := []) (h2 := q2.2) (v := some (vI q25.1)) (h1 := q25.2) (st3 := [vI q25.1]) zm_X11_lay rfl (and2 hg).2 rfl hg rfl zm_X11_in rfl (by omega) (ev_X11_in (by omega) hq) rfl ?_
    rcases ifc H with ⟨hc, H⟩ | ⟨hc, H⟩
    · refine zEv.iteT (L2 := [some (vR (some (11, 0))), some (vI x1), some (vI x2), some (vI x3), some (vI q2.1)]) (st2 := []) (h2 := q25.2) zm_X11_lay rfl rfl rfl rfl (decide_eq_true hc) ?_
      obtain ⟨q41, hq, H⟩ := bnd H
      refine zEv.call (k := 135) (as := [vR (some (11, 0)), vI x1, vI x2]) (L2 := [some (vR (some (11, 0))), some (vI x1), some (vI x2), some (vI x3), some (vI q2.1)]) (st2 := [vR (some (11, 0))]) (h2 := q25.2) (v := some (vI q41.1)) (h1 := q41.2) (st3 := [vI q41.1, vR (some (11, 0))]) zm_X11_lay rfl rfl rfl rfl rfl zm_X11_rowAt rfl (by omega) (ev_X11_rowAt (by omega) hq) rfl ?_
      obtain ⟨hg, H⟩ := ifg H
      cases H
      exact zEv.ret zm_X11_lay rfl hg rfl hg
    · refine zEv.iteF (L2 := [some (vR (some (11, 0))), some (vI x1), some (vI x2), some (vI x3), some (vI q2.1)]) (st2 := []) (h2 := q25.2) zm_X11_lay rfl rfl rfl rfl (decide_eq_false hc) ?_
      obtain ⟨q33, hq, H⟩ := bnd H
      refine zEv.call (k := 128) (as := [vR (some (11, 0)), vI 2]) (L2 := [some (vR (some (11, 0))), some (vI x1), some (vI x2), some (vI x3), some (vI q2.1)]) (st2 := []) (h2 := q25.2) (v := some (vI q33.1)) (h1 := q33.2) (st3 := [vI q33.1]) zm_X11_lay rfl rfl rfl rfl rfl zm_X11_meets rfl (by omega) (ev_X11_meets (by omega) hq) rfl ?_
      cases H
      exact zEv.ret zm_X11_lay rfl rfl rfl rfl
  · refine zEv.iteF (L2 := [some (vR (some (11, 0))), some (vI x1), some (vI x2), some (vI x3), some (vI q2.1)]) (st2 := []) (h2 := q2.2) zm_X11_lay rfl rfl rfl rfl (decide_eq_false hc) ?_
    cases H
    exact zEv.ret zm_X11_lay rfl rfl rfl rfl
def f_X11_tear (x1 : Int32) (h : zM) : Option (Int32 × zM) := ((f_X11_askedRow x1 h).bind fun q2 => (if 0 ≤ q2.1 then (if (true && (ixOk 6 x1 && (true && (decide (rR q2.2 11 0 6 = (some (33, 0))) && true)))) = true then (some (1, (wI q2.2 33 0 (Int32.toNatClampNeg x1) (-9999)))) else none) else (some (q2.1, q2.2))))
set_option maxRecDepth 20000 in
theorem ev_X11_tear {d : Nat} (hd : 3 ≤ d) {w2 : Option zV} {x1 : Int32} {h : zM} {r : Int32 × zM} (H : f_X11_tear x1 h = some r) : zEv zmt d 138 0 ([some (vR (some (11, 0))), some (vI x1), w2], [], h, true) (some (vI r.1), r.2) := by
  obtain ⟨q2, hq, H⟩ := bnd H
  refine zEv.call (k := 133) (as := [vR (some (11, 0)), vI x1]) (L2 := [some (vR (some (11, 0))), some (vI x1), w2]) (st2 := []) (h2 := h) (v := some (vI q2.1)) (h1 := q2.2) (st3 := [vI q2.1]) zm_X11_tear rfl rfl rfl rfl rfl zm_X11_askedRow rfl (by omega) (ev_X11_askedRow (by omega) hq) rfl ?_
  rcases ifc H with ⟨hc, H⟩ | ⟨hc, H⟩
  · refine zEv.iteT (L2 := [some (vR (some (11, 0))), some (vI x1), some (vI q2.1)]) (st2 := []) (h2 := q2.2) zm_X11_tear rfl rfl rfl rfl (decide_eq_true hc) ?_
    obtain ⟨hg, H⟩ := ifg H
    cases H
    exact zEv.ret zm_X11_tear rfl hg rfl hg
  · refine zEv.iteF (L2 := [some (vR (some (11, 0))), some (vI x1), some (vI q2.1)]) (st2 := []) (h2 := q2.2) zm_X11_tear rfl rfl rfl rfl (decide_eq_false hc) ?_
    cases H
    exact zEv.ret zm_X11_tear rfl rfl rfl rfl
def f_X11_copy_45 (h : zM) : Option (Int32 × zM) := ((f_X11_meets 1 h).bind fun q47 => (some (q47.1, q47.2)))
set_option maxRecDepth 20000 in
theorem ev_X11_copy_45 {d : Nat} (hd : 2 ≤ d) {w1 : Option zV} {w2 : Option zV} {w3 : Option zV} {w4 : Option zV} {w5 : Option zV} {w6 : Option zV} {h : zM} {r : Int32 × zM} (H : f_X11_copy_45  h = some r) : zEv zmt d 139 45 ([some (vR (some (11, 0))), w1, w2, w3, w4, w5, w6], [], h, true) (some (vI r.1), r.2) := by
  obtain ⟨q47, hq, H⟩ := bnd H
  refine zEv.call (k := 128) (as := [vR (some (11, 0)), vI 1]) (L2 := [some (vR (some (11, 0))), w1, w2, w3, w4, w5, w6]) (st2 := []) (h2 := h) (v := some (vI q47.1)) (h1 := q47.2) (st3 := [vI q47.1]) zm_X11_copy rfl rfl rfl rfl rfl zm_X11_meets rfl (by omega) (ev_X11_meets (by omega) hq) rfl ?_
  cases H
  exact zEv.ret zm_X11_copy rfl rfl rfl rfl
def f_X11_copy_95 (h : zM) : Option (Int32 × zM) := ((f_X11_meets 2 h).bind fun q97 => (some (q97.1, q97.2)))
set_option maxRecDepth 20000 in
theorem ev_X11_copy_95 {d : Nat} (hd : 2 ≤ d) {w1 : Option zV} {w2 : Option zV} {w3 : Option zV} {w4 : Option zV} {w5 : Option zV} {w6 : Option zV} {h : zM} {r : Int32 × zM} (H : f_X11_copy_95  h = some r) : zEv zmt d 139 95 ([some (vR (some (11, 0))), w1, w2, w3, w4, w5, w6], [], h, true) (some (vI r.1), r.2) := by
  obtain ⟨q97, hq, H⟩ := bnd H
  refine zEv.call (k := 128) (as := [vR (some (11, 0)), vI 2]) (L2 := [some (vR (some (11, 0))), w1, w2, w3, w4, w5, w6]) (st2 := []) (h2 := h) (v := some (vI q97.1)) (h1 := q97.2) (st3 := [vI q97.1]) zm_X11_copy rfl rfl rfl rfl rfl zm_X11_meets rfl (by omega) (ev_X11_meets (by omega) hq) rfl ?_
  cases H
  exact zEv.ret zm_X11_copy rfl rfl rfl rfl
def f_X11_copy_136 : Nat → Int32 → Int32 → Int32 → Int32 → zM → Option (Int32 × zM)
  | 0 => fun _ _ _ _ _ => none
  | k + 1 => fun x3 x4 x5 x6 h => (if x5 ≤ x6 then (some (1, h)) else (if (true && (ixOk 240 (((40 * x3) + x4) + x6) && (true && (ixOk 40 x6 && (true && (decide (rR h 11 0 8 = (some (35, 0))) && (true && (decide (rR h 11 0 7 = (some (34, 0))) && true)))))))) = true then (f_X11_copy_136 k x3 x4 x5 (x6 + 1) (wI h 34 0 (Int32.toNatClampNeg (((40 * x3) + x4) + x6)) (rI h 35 0 (Int32.toNatClampNeg x6)))) else none))
set_option maxRecDepth 20000 in
theorem ev_X11_copy_136 {d : Nat} (hd : 2 ≤ d) : ∀ (k : Nat) {w1 : Option zV} {w2 : Option zV} {x3 : Int32} {x4 : Int32} {x5 : Int32} {x6 : Int32} {h : zM} {r : Int32 × zM}, f_X11_copy_136 k x3 x4 x5 x6 h = some r → zEv zmt d 139 136 ([some (vR (some (11, 0))), w1, w2, some (vI x3), some (vI x4), some (vI x5), some (vI x6)], [], h, true) (some (vI r.1), r.2) := by
  intro k
  induction k with
  | zero => intro w1 w2 x3 x4 x5 x6 h r H; cases H
  | succ k ih =>
    intro w1 w2 x3 x4 x5 x6 h r H
    rcases ifc H with ⟨hc, H⟩ | ⟨hc, H⟩
    · refine zEv.iteT (L2 := [some (vR (some (11, 0))), w1, w2, some (vI x3), some (vI x4), some (vI x5), some (vI x6)]) (st2 := []) (h2 := h) zm_X11_copy rfl rfl rfl rfl (decide_eq_true hc) ?_
      cases H
      exact zEv.ret zm_X11_copy rfl rfl rfl rfl
    · refine zEv.iteF (L2 := [some (vR (some (11, 0))), w1, w2, some (vI x3), some (vI x4), some (vI x5), some (vI x6)]) (st2 := []) (h2 := h) zm_X11_copy rfl rfl rfl rfl (decide_eq_false hc) ?_
      obtain ⟨hg, H⟩ := ifg H
      refine zEv.loc (L2 := [some (vR (some (11, 0))), w1, w2, some (vI x3), some (vI x4), some (vI x5), some (vI (x6 + 1))]) (st2 := []) (h2 := (wI h 34 0 (Int32.toNatClampNeg (((40 * x3) + x4) + x6)) (rI h 35 0 (Int32.toNatClampNeg x6)))) zm_X11_copy rfl hg rfl hg (fun h => (nomatch h)) ?_
      exact ih H
def f_X11_copy_104 : Nat → Int32 → Int32 → Int32 → Int32 → Int32 → Int32 → zM → Option (Int32 × zM)
  | 0 => fun _ _ _ _ _ _ _ => none
  | k + 1 => fun x1 x2 x3 x4 x5 x6 h => (if x5 ≤ x6 then (f_X11_copy_136  1000 x3 x4 x5 0 h) else (if (true && (true && (true && (decide (rR h 11 0 8 = (some (35, 0))) && true)))) = true then ((f_X11_rowAt x1 (x2 + x6) h).bind fun q123 => (if (true && (ixOk 40 x6 && true)) = true then (f_X11_copy_104 k x1 x2 x3 x4 x5 (x6 + 1) (wI q123.2 35 0 (Int32.toNatClampNeg x6) q123.1)) else none)) else none))
set_option maxRecDepth 20000 in
theorem ev_X11_copy_104 {d : Nat} (hd : 2 ≤ d) : ∀ (k : Nat) {x1 : Int32} {x2 : Int32} {x3 : Int32} {x4 : Int32} {x5 : Int32} {x6 : Int32} {h : zM} {r : Int32 × zM}, f_X11_copy_104 k x1 x2 x3 x4 x5 x6 h = some r → zEv zmt d 139 104 ([some (vR (some (11, 0))), some (vI x1), some (vI x2), some (vI x3), some (vI x4), some (vI x5), some (vI x6)], [], h, true) (some (vI r.1), r.2) := by
  intro k
  induction k with
  | zero => intro x1 x2 x3 x4 x5 x6 h r H; cases H
  | succ k ih =>
    intro x1 x2 x3 x4 x5 x6 h r H
    rcases ifc H with ⟨hc, H⟩ | ⟨hc, H⟩
    · refine zEv.iteT (L2 := [some (vR (some (11, 0))), some (vI x1), some (vI x2), some (vI x3), some (vI x4), some (vI x5), some (vI x6)]) (st2 := []) (h2 := h) zm_X11_copy rfl rfl rfl rfl (decide_eq_true hc) ?_
      refine zEv.loc (L2 := [some (vR (some (11, 0))), some (vI x1), some (vI x2), some (vI x3), some (vI x4), some (vI x5), some (vI 0)]) (st2 := []) (h2 := h) zm_X11_copy rfl rfl rfl rfl (fun h => (nomatch h)) ?_
      exact ev_X11_copy_136 (by omega)  1000 H
    · refine zEv.iteF (L2 := [some (vR (some (11, 0))), some (vI x1), some (vI x2), some (vI x3), some (vI x4), some (vI x5), some (vI x6)]) (st2 := []) (h2 := h) zm_X11_copy rfl rfl rfl rfl (decide_eq_false hc) ?_
      obtain ⟨hg, H⟩ := ifg H
      obtain ⟨q123, hq, H⟩ := bnd H
      refine zEv.call (k := 135) (as := [vR (some (11, 0)), vI x1, vI (x2 + x6)]) (L2 := [some (vR (some (11, 0))), some (vI x1), some (vI x2), some (vI x3), some (vI x4), some (vI x5), some (vI x6)]) (st2 := [vI x6, vR (some (35, 0))]) (h2 := h) (v := some (vI q123.1)) (h1 := q123.2) (st3 := [vI q123.1, vI x6, vR (some (35, 0))]) zm_X11_copy rfl (and2 (and2 hg).2).2 rfl hg rfl zm_X11_rowAt rfl (by omega) (ev_X11_rowAt (by omega) hq) rfl ?_
      obtain ⟨hg, H⟩ := ifg H
      refine zEv.loc (L2 := [some (vR (some (11, 0))), some (vI x1), some (vI x2), some (vI x3), some (vI x4), some (vI x5), some (vI (x6 + 1))]) (st2 := []) (h2 := (wI q123.2 35 0 (Int32.toNatClampNeg x6) q123.1)) zm_X11_copy rfl hg rfl hg (fun h => (nomatch h)) ?_
      exact ih H
def f_X11_copy (x1 : Int32) (x2 : Int32) (x3 : Int32) (x4 : Int32) (x5 : Int32) (h : zM) : Option (Int32 × zM) := ((f_X11_isRow x1 h).bind fun q1 => (if q1.1 = 0 then (some ((-1), q1.2)) else ((f_X11_isRow x3 q1.2).bind fun q8 => (if ¬ q8.1 = 0 then (if 0 ≤ x5 then (if (true && (ixOk 6 x1 && (true && (decide (rR q8.2 11 0 6 = (some (33, 0))) && true)))) = true then (if (rI q8.2 33 0 (Int32.toNatClampNeg x1)) < 0 then (f_X11_copy_45  q8.2) else (if (true && (ixOk 6 x3 && (true && (decide (rR q8.2 11 0 6 = (some (33, 0))) && true)))) = true then (if 0 ≤ (rI q8.2 33 0 (Int32.toNatClampNeg x3)) then (if x2 < 0 then (f_X11_copy_95  q8.2) else (if x4 < 0 then (f_X11_copy_95  q8.2) else (if (true && (ixOk 6 x1 && (true && (decide (rR q8.2 11 0 6 = (some (33, 0))) && true)))) = true then (if 0 < (lg_cmp ((Int32.toInt64 x2) + (Int32.toInt64 x5)) (Int32.toInt64 (rI q8.2 33 0 (Int32.toNatClampNeg x1)))) then (f_X11_copy_95  q8.2) else (if (true && (ixOk 6 x3 && (true && (decide (rR q8.2 11 0 6 = (some (33, 0))) && true)))) = true then (if (lg_cmp ((Int32.toInt64 x4) + (Int32.toInt64 x5)) (Int32.toInt64 (rI q8.2 33 0 (Int32.toNatClampNeg x3)))) ≤ 0 then (f_X11_copy_104  1000 x1 x2 x3 x4 x5 0 q8.2) else (f_X11_copy_95  q8.2)) else none)) else none))) else (f_X11_copy_45  q8.2)) else none)) else none) else ((f_X11_meets 5 q8.2).bind fun q23 => (some (q23.1, q23.2)))) else (some ((-1), q8.2))))))
set_option maxRecDepth 20000 in
theorem ev_X11_copy {d : Nat} (hd : 2 ≤ d) {w6 : Option zV} {x1 : Int32} {x2 : Int32} {x3 : Int32} {x4 : Int32} {x5 : Int32} {h : zM} {r : Int32 × zM} (H : f_X11_copy x1 x2 x3 x4 x5 h = some r) : zEv zmt d 139 0 ([some (vR (some (11, 0))), some (vI x1), some (vI x2), some (vI x3), some (vI x4), some (vI x5), w6], [], h, true) (some (vI r.1), r.2) := by
  obtain ⟨q1, hq, H⟩ := bnd H
  refine zEv.call (k := 131) (as := [vI x1]) (L2 := [some (vR (some (11, 0))), some (vI x1), some (vI x2), some (vI x3), some (vI x4), some (vI x5), w6]) (st2 := []) (h2 := h) (v := some (vI q1.1)) (h1 := q1.2) (st3 := [vI q1.1]) zm_X11_copy rfl rfl rfl rfl rfl zm_X11_isRow rfl (by omega) (ev_X11_isRow (by omega) hq) rfl ?_
  rcases ifc H with ⟨hc, H⟩ | ⟨hc, H⟩
  · refine zEv.iteT (L2 := [some (vR (some (11, 0))), some (vI x1), some (vI x2), some (vI x3), some (vI x4), some (vI x5), w6]) (st2 := []) (h2 := q1.2) zm_X11_copy rfl rfl rfl rfl (decide_eq_true hc) ?_
    cases H
    exact zEv.ret zm_X11_copy rfl rfl rfl rfl
  · refine zEv.iteF (L2 := [some (vR (some (11, 0))), some (vI x1), some (vI x2), some (vI x3), some (vI x4), some (vI x5), w6]) (st2 := []) (h2 := q1.2) zm_X11_copy rfl rfl rfl rfl (decide_eq_false hc) ?_
    obtain ⟨q8, hq, H⟩ := bnd H
    refine zEv.call (k := 131) (as := [vI x3]) (L2 := [some (vR (some (11, 0))), some (vI x1), some (vI x2), some (vI x3), some (vI x4), some (vI x5), w6]) (st2 := []) (h2 := q1.2) (v := some (vI q8.1)) (h1 := q8.2) (st3 := [vI q8.1]) zm_X11_copy rfl rfl rfl rfl rfl zm_X11_isRow rfl (by omega) (ev_X11_isRow (by omega) hq) rfl ?_
    rcases ifc H with ⟨hc, H⟩ | ⟨hc, H⟩
    · refine zEv.iteT (L2 := [some (vR (some (11, 0))), some (vI x1), some (vI x2), some (vI x3), some (vI x4), some (vI x5), w6]) (st2 := []) (h2 := q8.2) zm_X11_copy rfl rfl rfl rfl (decide_eq_true hc) ?_
      rcases ifc H with ⟨hc, H⟩ | ⟨hc, H⟩
      · refine zEv.iteT (L2 := [some (vR (some (11, 0))), some (vI x1), some (vI x2), some (vI x3), some (vI x4), some (vI x5), w6]) (st2 := []) (h2 := q8.2) zm_X11_copy rfl rfl rfl rfl (decide_eq_true hc) ?_
        obtain ⟨hg, H⟩ := ifg H
        rcases ifc H with ⟨hc, H⟩ | ⟨hc, H⟩
        · refine zEv.iteT (L2 := [some (vR (some (11, 0))), some (vI x1), some (vI x2), some (vI x3), some (vI x4), some (vI x5), w6]) (st2 := []) (h2 := q8.2) zm_X11_copy rfl hg rfl hg (decide_eq_true hc) ?_
          exact ev_X11_copy_45 (by omega)  H
        · refine zEv.iteF (L2 := [some (vR (some (11, 0))), some (vI x1), some (vI x2), some (vI x3), some (vI x4), some (vI x5), w6]) (st2 := []) (h2 := q8.2) zm_X11_copy rfl hg rfl hg (decide_eq_false hc) ?_
          obtain ⟨hg, H⟩ := ifg H
          rcases ifc H with ⟨hc, H⟩ | ⟨hc, H⟩
          · refine zEv.iteT (L2 := [some (vR (some (11, 0))), some (vI x1), some (vI x2), some (vI x3), some (vI x4), some (vI x5), w6]) (st2 := []) (h2 := q8.2) zm_X11_copy rfl hg rfl hg (decide_eq_true hc) ?_
            rcases ifc H with ⟨hc, H⟩ | ⟨hc, H⟩
            · refine zEv.iteT (L2 := [some (vR (some (11, 0))), some (vI x1), some (vI x2), some (vI x3), some (vI x4), some (vI x5), w6]) (st2 := []) (h2 := q8.2) zm_X11_copy rfl rfl rfl rfl (decide_eq_true hc) ?_
              exact ev_X11_copy_95 (by omega)  H
            · refine zEv.iteF (L2 := [some (vR (some (11, 0))), some (vI x1), some (vI x2), some (vI x3), some (vI x4), some (vI x5), w6]) (st2 := []) (h2 := q8.2) zm_X11_copy rfl rfl rfl rfl (decide_eq_false hc) ?_
              rcases ifc H with ⟨hc, H⟩ | ⟨hc, H⟩
              · refine zEv.iteT (L2 := [some (vR (some (11, 0))), some (vI x1), some (vI x2), some (vI x3), some (vI x4), some (vI x5), w6]) (st2 := []) (h2 := q8.2) zm_X11_copy rfl rfl rfl rfl (decide_eq_true hc) ?_
                exact ev_X11_copy_95 (by omega)  H
              · refine zEv.iteF (L2 := [some (vR (some (11, 0))), some (vI x1), some (vI x2), some (vI x3), some (vI x4), some (vI x5), w6]) (st2 := []) (h2 := q8.2) zm_X11_copy rfl rfl rfl rfl (decide_eq_false hc) ?_
                obtain ⟨hg, H⟩ := ifg H
                rcases ifc H with ⟨hc, H⟩ | ⟨hc, H⟩
                · refine zEv.iteT (L2 := [some (vR (some (11, 0))), some (vI x1), some (vI x2), some (vI x3), some (vI x4), some (vI x5), w6]) (st2 := []) (h2 := q8.2) zm_X11_copy rfl hg rfl hg (decide_eq_true hc) ?_
                  exact ev_X11_copy_95 (by omega)  H
                · refine zEv.iteF (L2 := [some (vR (some (11, 0))), some (vI x1), some (vI x2), some (vI x3), some (vI x4), some (vI x5), w6]) (st2 := []) (h2 := q8.2) zm_X11_copy rfl hg rfl hg (decide_eq_false hc) ?_
                  obtain ⟨hg, H⟩ := ifg H
                  rcases ifc H with ⟨hc, H⟩ | ⟨hc, H⟩
                  · refine zEv.iteT (L2 := [some (vR (some (11, 0))), some (vI x1), some (vI x2), some (vI x3), some (vI x4), some (vI x5), w6]) (st2 := []) (h2 := q8.2) zm_X11_copy rfl hg rfl hg (decide_eq_true hc) ?_
                    refine zEv.loc (L2 := [some (vR (some (11, 0))), some (vI x1), some (vI x2), some (vI x3), some (vI x4), some (vI x5), some (vI 0)]) (st2 := []) (h2 := q8.2) zm_X11_copy rfl rfl rfl rfl (fun h => (nomatch h)) ?_
                    exact ev_X11_copy_104 (by omega)  1000 H
                  · refine zEv.iteF (L2 := [some (vR (some (11, 0))), some (vI x1), some (vI x2), some (vI x3), some (vI x4), some (vI x5), w6]) (st2 := []) (h2 := q8.2) zm_X11_copy rfl hg rfl hg (decide_eq_false hc) ?_
                    exact ev_X11_copy_95 (by omega)  H
          · refine zEv.iteF (L2 := [some (vR (some (11, 0))), some (vI x1), some (vI x2), some (vI x3), some (vI x4), some (vI x5), w6]) (st2 := []) (h2 := q8.2) zm_X11_copy rfl hg rfl hg (decide_eq_false hc) ?_
            exact ev_X11_copy_45 (by omega)  H
      · refine zEv.iteF (L2 := [some (vR (some (11, 0))), some (vI x1), some (vI x2), some (vI x3), some (vI x4), some (vI x5), w6]) (st2 := []) (h2 := q8.2) zm_X11_copy rfl rfl rfl rfl (decide_eq_false hc) ?_
        obtain ⟨q23, hq, H⟩ := bnd H
        refine zEv.call (k := 128) (as := [vR (some (11, 0)), vI 5]) (L2 := [some (vR (some (11, 0))), some (vI x1), some (vI x2), some (vI x3), some (vI x4), some (vI x5), w6]) (st2 := []) (h2 := q8.2) (v := some (vI q23.1)) (h1 := q23.2) (st3 := [vI q23.1]) zm_X11_copy rfl rfl rfl rfl rfl zm_X11_meets rfl (by omega) (ev_X11_meets (by omega) hq) rfl ?_
        cases H
        exact zEv.ret zm_X11_copy rfl rfl rfl rfl
    · refine zEv.iteF (L2 := [some (vR (some (11, 0))), some (vI x1), some (vI x2), some (vI x3), some (vI x4), some (vI x5), w6]) (st2 := []) (h2 := q8.2) zm_X11_copy rfl rfl rfl rfl (decide_eq_false hc) ?_
      cases H
      exact zEv.ret zm_X11_copy rfl rfl rfl rfl
def f_X11_mean_17 : Nat → Int32 → Int64 → Int32 → zM → Option (Int32 × zM)
  | 0 => fun _ _ _ _ => none
  | k + 1 => fun x1 x3 x5 h => (if (true && (ixOk 6 x1 && (true && (decide (rR h 11 0 6 = (some (33, 0))) && true)))) = true then (if (rI h 33 0 (Int32.toNatClampNeg x1)) ≤ x5 then (if (true && (ixOk 6 x1 && (true && (decide (rR h 11 0 6 = (some (33, 0))) && true)))) = true then (if ¬ (rI h 33 0 (Int32.toNatClampNeg x1)) = 0 then (if (true && (true && (!decide ((Int32.toInt64 (rI h 33 0 (Int32.toNatClampNeg x1))) = 0) && (true && (ixOk 6 x1 && (true && (decide (rR h 11 0 6 = (some (33, 0))) && true))))))) = true then ((f_X11_ask (Int64.toInt32 (x3 / (Int32.toInt64 (rI h 33 0 (Int32.toNatClampNeg x1))))) 1 h).bind fun q74 => (some (q74.1, q74.2))) else none) else ((f_X11_meets 4 h).bind fun q56 => (some (q56.1, q56.2)))) else none) else ((f_X11_rowAt x1 x5 h).bind fun q33 => (f_X11_mean_17 k x1 (x3 + (Int32.toInt64 q33.1)) (x5 + 1) q33.2))) else none)
set_option maxRecDepth 20000 in
theorem ev_X11_mean_17 {d : Nat} (hd : 3 ≤ d) : ∀ (k : Nat) {w2 : Option zV} {w4 : Option zV} {x1 : Int32} {x3 : Int64} {x5 : Int32} {h : zM} {r : Int32 × zM}, f_X11_mean_17 k x1 x3 x5 h = some r → zEv zmt d 140 17 ([some (vR (some (11, 0))), some (vI x1), w2, some (vL x3), w4, some (vI x5)], [], h, true) (some (vI r.1), r.2) := by
  intro k
  induction k with
  | zero => intro w2 w4 x1 x3 x5 h r H; cases H
  | succ k ih =>
    intro w2 w4 x1 x3 x5 h r H
    obtain ⟨hg, H⟩ := ifg H
    rcases ifc H with ⟨hc, H⟩ | ⟨hc, H⟩
    · refine zEv.iteT (L2 := [some (vR (some (11, 0))), some (vI x1), w2, some (vL x3), w4, some (vI x5)]) (st2 := []) (h2 := h) zm_X11_mean rfl hg rfl hg (decide_eq_true hc) ?_
      obtain ⟨hg, H⟩ := ifg H
      rcases ifc H with ⟨hc, H⟩ | ⟨hc, H⟩
      · refine zEv.iteT (L2 := [some (vR (some (11, 0))), some (vI x1), w2, some (vL x3), w4, some (vI x5)]) (st2 := []) (h2 := h) zm_X11_mean rfl hg rfl hg (decide_eq_true hc) ?_
        obtain ⟨hg, H⟩ := ifg H
        obtain ⟨q74, hq, H⟩ := bnd H
        refine zEv.call (k := 129) (as := [vR (some (11, 0)), vI (Int64.toInt32 (x3 / (Int32.toInt64 (rI h 33 0 (Int32.toNatClampNeg x1))))), vI 1]) (L2 := [some (vR (some (11, 0))), some (vI x1), w2, some (vL x3), w4, some (vI x5)]) (st2 := []) (h2 := h) (v := some (vI q74.1)) (h1 := q74.2) (st3 := [vI q74.1]) zm_X11_mean rfl (and2 (and2 hg).2).2 rfl hg rfl zm_X11_ask rfl (by omega) (ev_X11_ask (by omega) hq) rfl ?_
        cases H
        exact zEv.ret zm_X11_mean rfl rfl rfl rfl
      · refine zEv.iteF (L2 := [some (vR (some (11, 0))), some (vI x1), w2, some (vL x3), w4, some (vI x5)]) (st2 := []) (h2 := h) zm_X11_mean rfl hg rfl hg (decide_eq_false hc) ?_
        obtain ⟨q56, hq, H⟩ := bnd H
        refine zEv.call (k := 128) (as := [vR (some (11, 0)), vI 4]) (L2 := [some (vR (some (11, 0))), some (vI x1), w2, some (vL x3), w4, some (vI x5)]) (st2 := []) (h2 := h) (v := some (vI q56.1)) (h1 := q56.2) (st3 := [vI q56.1]) zm_X11_mean rfl rfl rfl rfl rfl zm_X11_meets rfl (by omega) (ev_X11_meets (by omega) hq) rfl ?_
        refine zEv.loc (L2 := [some (vR (some (11, 0))), some (vI x1), w2, some (vL x3), w4, some (vI x5)]) (st2 := [vI q56.1]) (h2 := q56.2) zm_X11_mean rfl rfl rfl rfl (fun h => (nomatch h)) ?_
        cases H
        exact zEv.ret zm_X11_mean rfl rfl rfl rfl
    · refine zEv.iteF (L2 := [some (vR (some (11, 0))), some (vI x1), w2, some (vL x3), w4, some (vI x5)]) (st2 := []) (h2 := h) zm_X11_mean rfl hg rfl hg (decide_eq_false hc) ?_
      obtain ⟨q33, hq, H⟩ := bnd H
      refine zEv.call (k := 135) (as := [vR (some (11, 0)), vI x1, vI x5]) (L2 := [some (vR (some (11, 0))), some (vI x1), w2, some (vL x3), w4, some (vI x5)]) (st2 := [vL x3]) (h2 := h) (v := some (vI q33.1)) (h1 := q33.2) (st3 := [vI q33.1, vL x3]) zm_X11_mean rfl rfl rfl rfl rfl zm_X11_rowAt rfl (by omega) (ev_X11_rowAt (by omega) hq) rfl ?_
      refine zEv.loc (L2 := [some (vR (some (11, 0))), some (vI x1), none, some (vL (x3 + (Int32.toInt64 q33.1))), none, some (vI (x5 + 1))]) (st2 := []) (h2 := q33.2) zm_X11_mean rfl rfl rfl rfl (fun h => (nomatch h)) ?_
      exact ih H
def f_X11_mean (x1 : Int32) (h : zM) : Option (Int32 × zM) := ((f_X11_askedRow x1 h).bind fun q2 => (if 0 ≤ q2.1 then (f_X11_mean_17  1000 x1 0 0 q2.2) else (some (q2.1, q2.2))))
set_option maxRecDepth 20000 in
theorem ev_X11_mean {d : Nat} (hd : 3 ≤ d) {w2 : Option zV} {w3 : Option zV} {w4 : Option zV} {w5 : Option zV} {x1 : Int32} {h : zM} {r : Int32 × zM} (H : f_X11_mean x1 h = some r) : zEv zmt d 140 0 ([some (vR (some (11, 0))), some (vI x1), w2, w3, w4, w5], [], h, true) (some (vI r.1), r.2) := by
  obtain ⟨q2, hq, H⟩ := bnd H
  refine zEv.call (k := 133) (as := [vR (some (11, 0)), vI x1]) (L2 := [some (vR (some (11, 0))), some (vI x1), w2, w3, w4, w5]) (st2 := []) (h2 := h) (v := some (vI q2.1)) (h1 := q2.2) (st3 := [vI q2.1]) zm_X11_mean rfl rfl rfl rfl rfl zm_X11_askedRow rfl (by omega) (ev_X11_askedRow (by omega) hq) rfl ?_
  rcases ifc H with ⟨hc, H⟩ | ⟨hc, H⟩
  · refine zEv.iteT (L2 := [some (vR (some (11, 0))), some (vI x1), some (vI q2.1), w3, w4, w5]) (st2 := []) (h2 := q2.2) zm_X11_mean rfl rfl rfl rfl (decide_eq_true hc) ?_
    refine zEv.loc (L2 := [some (vR (some (11, 0))), some (vI x1), none, some (vL 0), none, some (vI 0)]) (st2 := []) (h2 := q2.2) zm_X11_mean rfl rfl rfl rfl (fun h => (nomatch h)) ?_
    exact ev_X11_mean_17 (by omega)  1000 H
  · refine zEv.iteF (L2 := [some (vR (some (11, 0))), some (vI x1), some (vI q2.1), w3, w4, w5]) (st2 := []) (h2 := q2.2) zm_X11_mean rfl rfl rfl rfl (decide_eq_false hc) ?_
    cases H
    exact zEv.ret zm_X11_mean rfl rfl rfl rfl
def f_X11_text_34 : Nat → Int32 → Int32 → Int32 → zM → Option (Int32 × zM)
  | 0 => fun _ _ _ _ => none
  | k + 1 => fun x1 x2 x3 h => (if 40 ≤ x3 then (some (x2, h)) else (if (true && (ixOk 160 ((40 * x1) + x3) && (true && (decide (rR h 11 0 10 = (some (37, 0))) && true)))) = true then (f_X11_text_34 k x1 x2 (x3 + 1) (wI h 37 0 (Int32.toNatClampNeg ((40 * x1) + x3)) 32)) else none))
set_option maxRecDepth 20000 in
theorem ev_X11_text_34 {d : Nat} (hd : 2 ≤ d) : ∀ (k : Nat) {x1 : Int32} {x2 : Int32} {x3 : Int32} {h : zM} {r : Int32 × zM}, f_X11_text_34 k x1 x2 x3 h = some r → zEv zmt d 141 34 ([some (vR (some (11, 0))), some (vI x1), some (vI x2), some (vI x3)], [], h, true) (some (vI r.1), r.2) := by
  intro k
  induction k with
  | zero => intro x1 x2 x3 h r H; cases H
  | succ k ih =>
    intro x1 x2 x3 h r H
    rcases ifc H with ⟨hc, H⟩ | ⟨hc, H⟩
    · refine zEv.iteT (L2 := [some (vR (some (11, 0))), some (vI x1), some (vI x2), some (vI x3)]) (st2 := []) (h2 := h) zm_X11_text rfl rfl rfl rfl (decide_eq_true hc) ?_
      cases H
      exact zEv.ret zm_X11_text rfl rfl rfl rfl
    · refine zEv.iteF (L2 := [some (vR (some (11, 0))), some (vI x1), some (vI x2), some (vI x3)]) (st2 := []) (h2 := h) zm_X11_text rfl rfl rfl rfl (decide_eq_false hc) ?_
      obtain ⟨hg, H⟩ := ifg H
      refine zEv.loc (L2 := [some (vR (some (11, 0))), some (vI x1), some (vI x2), some (vI (x3 + 1))]) (st2 := []) (h2 := (wI h 37 0 (Int32.toNatClampNeg ((40 * x1) + x3)) 32)) zm_X11_text rfl hg rfl hg (fun h => (nomatch h)) ?_
      exact ih H
def f_X11_text (x1 : Int32) (x2 : Int32) (h : zM) : Option (Int32 × zM) := ((f_X11_isText x1 h).bind fun q1 => (if q1.1 = 0 then (some ((-1), q1.2)) else (if x2 ≤ 40 then (if 0 ≤ x2 then (if (true && (true && (ixOk 4 x1 && (true && (decide (rR q1.2 11 0 9 = (some (36, 0))) && true))))) = true then (f_X11_text_34  1000 x1 x2 0 (wI q1.2 36 0 (Int32.toNatClampNeg x1) x2)) else none) else ((f_X11_meets 5 q1.2).bind fun q21 => (some (q21.1, q21.2)))) else (some ((-1), q1.2)))))
set_option maxRecDepth 20000 in
theorem ev_X11_text {d : Nat} (hd : 2 ≤ d) {w3 : Option zV} {x1 : Int32} {x2 : Int32} {h : zM} {r : Int32 × zM} (H : f_X11_text x1 x2 h = some r) : zEv zmt d 141 0 ([some (vR (some (11, 0))), some (vI x1), some (vI x2), w3], [], h, true) (some (vI r.1), r.2) := by
  obtain ⟨q1, hq, H⟩ := bnd H
  refine zEv.call (k := 132) (as := [vI x1]) (L2 := [some (vR (some (11, 0))), some (vI x1), some (vI x2), w3]) (st2 := []) (h2 := h) (v := some (vI q1.1)) (h1 := q1.2) (st3 := [vI q1.1]) zm_X11_text rfl rfl rfl rfl rfl zm_X11_isText rfl (by omega) (ev_X11_isText (by omega) hq) rfl ?_
  rcases ifc H with ⟨hc, H⟩ | ⟨hc, H⟩
  · refine zEv.iteT (L2 := [some (vR (some (11, 0))), some (vI x1), some (vI x2), w3]) (st2 := []) (h2 := q1.2) zm_X11_text rfl rfl rfl rfl (decide_eq_true hc) ?_
    cases H
    exact zEv.ret zm_X11_text rfl rfl rfl rfl
  · refine zEv.iteF (L2 := [some (vR (some (11, 0))), some (vI x1), some (vI x2), w3]) (st2 := []) (h2 := q1.2) zm_X11_text rfl rfl rfl rfl (decide_eq_false hc) ?_
    rcases ifc H with ⟨hc, H⟩ | ⟨hc, H⟩
    · refine zEv.iteT (L2 := [some (vR (some (11, 0))), some (vI x1), some (vI x2), w3]) (st2 := []) (h2 := q1.2) zm_X11_text rfl rfl rfl rfl (decide_eq_true hc) ?_
      rcases ifc H with ⟨hc, H⟩ | ⟨hc, H⟩
      · refine zEv.iteT (L2 := [some (vR (some (11, 0))), some (vI x1), some (vI x2), w3]) (st2 := []) (h2 := q1.2) zm_X11_text rfl rfl rfl rfl (decide_eq_true hc) ?_
        obtain ⟨hg, H⟩ := ifg H
        refine zEv.loc (L2 := [some (vR (some (11, 0))), some (vI x1), some (vI x2), some (vI 0)]) (st2 := []) (h2 := (wI q1.2 36 0 (Int32.toNatClampNeg x1) x2)) zm_X11_text rfl hg rfl hg (fun h => (nomatch h)) ?_
        exact ev_X11_text_34 (by omega)  1000 H
      · refine zEv.iteF (L2 := [some (vR (some (11, 0))), some (vI x1), some (vI x2), w3]) (st2 := []) (h2 := q1.2) zm_X11_text rfl rfl rfl rfl (decide_eq_false hc) ?_
        obtain ⟨q21, hq, H⟩ := bnd H
        refine zEv.call (k := 128) (as := [vR (some (11, 0)), vI 5]) (L2 := [some (vR (some (11, 0))), some (vI x1), some (vI x2), w3]) (st2 := []) (h2 := q1.2) (v := some (vI q21.1)) (h1 := q21.2) (st3 := [vI q21.1]) zm_X11_text rfl rfl rfl rfl rfl zm_X11_meets rfl (by omega) (ev_X11_meets (by omega) hq) rfl ?_
        cases H
        exact zEv.ret zm_X11_text rfl rfl rfl rfl
    · refine zEv.iteF (L2 := [some (vR (some (11, 0))), some (vI x1), some (vI x2), w3]) (st2 := []) (h2 := q1.2) zm_X11_text rfl rfl rfl rfl (decide_eq_false hc) ?_
      cases H
      exact zEv.ret zm_X11_text rfl rfl rfl rfl
