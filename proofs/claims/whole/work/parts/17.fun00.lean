def f_J7_fill_53178_5 : Nat → zR → Int32 → Int32 → Int32 → zM → Option (zM)
  | 0 => fun _ _ _ _ _ => none
  | k + 1 => fun x0 x1 x2 x3 h => (if x3 ≤ x2 then (some h) else (if (Nat.beq (akd (clR x0)) 1 && (ixOk (aln (clR x0)) x2 && true)) = true then (f_J7_fill_53178_5 k x0 x1 (x2 + 1) x3 (wI h (clR x0) (ixR x0) (Int32.toNatClampNeg x2) x1)) else none))
set_option maxRecDepth 20000 in
theorem ev_J7_fill_53178_5 {d : Nat} (hd : 0 ≤ d) : ∀ (k : Nat) {x0 : zR} {x1 : Int32} {x2 : Int32} {x3 : Int32} {h : zM} {r : zM}, f_J7_fill_53178_5 k x0 x1 x2 x3 h = some r → zEv zmt d 0 5 ([some (vR x0), some (vI x1), some (vI x2), some (vI x3)], [], h, true) (none, r) := by
  intro k
  induction k with
  | zero => intro x0 x1 x2 x3 h r H; cases H
  | succ k ih =>
    intro x0 x1 x2 x3 h r H
    rcases ifc H with ⟨hc, H⟩ | ⟨hc, H⟩
    · refine zEv.iteT (L2 := [some (vR x0), some (vI x1), some (vI x2), some (vI x3)]) (st2 := []) (h2 := h) zm_J7_fill_53178 rfl rfl rfl rfl (decide_eq_true hc) ?_
      cases H
      exact zEv.ret zm_J7_fill_53178 rfl rfl rfl rfl
    · refine zEv.iteF (L2 := [some (vR x0), some (vI x1), some (vI x2), some (vI x3)]) (st2 := []) (h2 := h) zm_J7_fill_53178 rfl rfl rfl rfl (decide_eq_false hc) ?_
      obtain ⟨hg, H⟩ := ifg H
      refine zEv.loc (L2 := [some (vR x0), some (vI x1), some (vI (x2 + 1)), some (vI x3)]) (st2 := []) (h2 := (wI h (clR x0) (ixR x0) (Int32.toNatClampNeg x2) x1)) zm_J7_fill_53178 rfl hg rfl hg (fun h => (nomatch h)) ?_
      exact ih H
def f_J7_fill_53178 (x0 : zR) (x1 : Int32) (h : zM) : Option (zM) := (if (true && (memN [1] (akd (clR x0)) && (true && true))) = true then (f_J7_fill_53178_5  1000 x0 x1 0 (Int32.ofNat (aln (clR x0))) h) else none)
set_option maxRecDepth 20000 in
theorem ev_J7_fill_53178 {d : Nat} (hd : 0 ≤ d) {w2 : Option zV} {w3 : Option zV} {x0 : zR} {x1 : Int32} {h : zM} {r : zM} (H : f_J7_fill_53178 x0 x1 h = some r) : zEv zmt d 0 0 ([some (vR x0), some (vI x1), w2, w3], [], h, true) (none, r) := by
  obtain ⟨hg, H⟩ := ifg H
  refine zEv.loc (L2 := [some (vR x0), some (vI x1), some (vI 0), some (vI (Int32.ofNat (aln (clR x0))))]) (st2 := []) (h2 := h) zm_J7_fill_53178 rfl hg rfl hg (fun h => (nomatch h)) ?_
  exact ev_J7_fill_53178_5 (by omega)  1000 H
def f_J7_fill_031fb_5 : Nat → zR → Int32 → Int32 → Int32 → zM → Option (zM)
  | 0 => fun _ _ _ _ _ => none
  | k + 1 => fun x0 x1 x2 x3 h => (if x3 ≤ x2 then (some h) else (if (Nat.beq (akd (clR x0)) 2 && (ixOk (aln (clR x0)) x2 && true)) = true then (f_J7_fill_031fb_5 k x0 x1 (x2 + 1) x3 (wI h (clR x0) (ixR x0) (Int32.toNatClampNeg x2) (Int8.toInt32 (Int32.toInt8 x1)))) else none))
set_option maxRecDepth 20000 in
theorem ev_J7_fill_031fb_5 {d : Nat} (hd : 0 ≤ d) : ∀ (k : Nat) {x0 : zR} {x1 : Int32} {x2 : Int32} {x3 : Int32} {h : zM} {r : zM}, f_J7_fill_031fb_5 k x0 x1 x2 x3 h = some r → zEv zmt d 1 5 ([some (vR x0), some (vI x1), some (vI x2), some (vI x3)], [], h, true) (none, r) := by
  intro k
  induction k with
  | zero => intro x0 x1 x2 x3 h r H; cases H
  | succ k ih =>
    intro x0 x1 x2 x3 h r H
    rcases ifc H with ⟨hc, H⟩ | ⟨hc, H⟩
    · refine zEv.iteT (L2 := [some (vR x0), some (vI x1), some (vI x2), some (vI x3)]) (st2 := []) (h2 := h) zm_J7_fill_031fb rfl rfl rfl rfl (decide_eq_true hc) ?_
      cases H
      exact zEv.ret zm_J7_fill_031fb rfl rfl rfl rfl
    · refine zEv.iteF (L2 := [some (vR x0), some (vI x1), some (vI x2), some (vI x3)]) (st2 := []) (h2 := h) zm_J7_fill_031fb rfl rfl rfl rfl (decide_eq_false hc) ?_
      obtain ⟨hg, H⟩ := ifg H
      refine zEv.loc (L2 := [some (vR x0), some (vI x1), some (vI (x2 + 1)), some (vI x3)]) (st2 := []) (h2 := (wI h (clR x0) (ixR x0) (Int32.toNatClampNeg x2) (Int8.toInt32 (Int32.toInt8 x1)))) zm_J7_fill_031fb rfl hg rfl hg (fun h => (nomatch h)) ?_
      exact ih H
def f_J7_fill_031fb (x0 : zR) (x1 : Int32) (h : zM) : Option (zM) := (if (true && (memN [2] (akd (clR x0)) && (true && true))) = true then (f_J7_fill_031fb_5  1000 x0 x1 0 (Int32.ofNat (aln (clR x0))) h) else none)
set_option maxRecDepth 20000 in
theorem ev_J7_fill_031fb {d : Nat} (hd : 0 ≤ d) {w2 : Option zV} {w3 : Option zV} {x0 : zR} {x1 : Int32} {h : zM} {r : zM} (H : f_J7_fill_031fb x0 x1 h = some r) : zEv zmt d 1 0 ([some (vR x0), some (vI x1), w2, w3], [], h, true) (none, r) := by
  obtain ⟨hg, H⟩ := ifg H
  refine zEv.loc (L2 := [some (vR x0), some (vI x1), some (vI 0), some (vI (Int32.ofNat (aln (clR x0))))]) (st2 := []) (h2 := h) zm_J7_fill_031fb rfl hg rfl hg (fun h => (nomatch h)) ?_
  exact ev_J7_fill_031fb_5 (by omega)  1000 H
def f_J6_bitCount_0f7a4_48 (x0 : Int32) (h : zM) : Option (Int32 × zM) := (some ((x0 &&& 63), h))
set_option maxRecDepth 20000 in
theorem ev_J6_bitCount_0f7a4_48 {d : Nat} (hd : 0 ≤ d) {x0 : Int32} {h : zM} {r : Int32 × zM} (H : f_J6_bitCount_0f7a4_48 x0 h = some r) : zEv zmt d 2 48 ([some (vI x0)], [], h, true) (some (vI r.1), r.2) := by
  cases H
  exact zEv.ret zm_J6_bitCount_0f7a4 rfl rfl rfl rfl
def f_J6_bitCount_0f7a4_41 (x0 : Int32) (h : zM) : Option (Int32 × zM) := (f_J6_bitCount_0f7a4_48  (x0 + (UInt32.toInt32 ((Int32.toUInt32 x0) >>> ((Int32.toUInt32 16) &&& Int32.toUInt32 31)))) h)
set_option maxRecDepth 20000 in
theorem ev_J6_bitCount_0f7a4_41 {d : Nat} (hd : 0 ≤ d) {x0 : Int32} {h : zM} {r : Int32 × zM} (H : f_J6_bitCount_0f7a4_41 x0 h = some r) : zEv zmt d 2 41 ([some (vI x0)], [], h, true) (some (vI r.1), r.2) := by
  refine zEv.loc (L2 := [some (vI (x0 + (UInt32.toInt32 ((Int32.toUInt32 x0) >>> ((Int32.toUInt32 16) &&& Int32.toUInt32 31)))))]) (st2 := []) (h2 := h) zm_J6_bitCount_0f7a4 rfl rfl rfl rfl (fun h => (nomatch h)) ?_
  exact ev_J6_bitCount_0f7a4_48 (by omega)  H
def f_J6_bitCount_0f7a4_34 (x0 : Int32) (h : zM) : Option (Int32 × zM) := (f_J6_bitCount_0f7a4_41  (x0 + (UInt32.toInt32 ((Int32.toUInt32 x0) >>> ((Int32.toUInt32 8) &&& Int32.toUInt32 31)))) h)
set_option maxRecDepth 20000 in
theorem ev_J6_bitCount_0f7a4_34 {d : Nat} (hd : 0 ≤ d) {x0 : Int32} {h : zM} {r : Int32 × zM} (H : f_J6_bitCount_0f7a4_34 x0 h = some r) : zEv zmt d 2 34 ([some (vI x0)], [], h, true) (some (vI r.1), r.2) := by
  refine zEv.loc (L2 := [some (vI (x0 + (UInt32.toInt32 ((Int32.toUInt32 x0) >>> ((Int32.toUInt32 8) &&& Int32.toUInt32 31)))))]) (st2 := []) (h2 := h) zm_J6_bitCount_0f7a4 rfl rfl rfl rfl (fun h => (nomatch h)) ?_
  exact ev_J6_bitCount_0f7a4_41 (by omega)  H
def f_J6_bitCount_0f7a4_24 (x0 : Int32) (h : zM) : Option (Int32 × zM) := (f_J6_bitCount_0f7a4_34  ((x0 + (UInt32.toInt32 ((Int32.toUInt32 x0) >>> ((Int32.toUInt32 4) &&& Int32.toUInt32 31)))) &&& 252645135) h)
set_option maxRecDepth 20000 in
theorem ev_J6_bitCount_0f7a4_24 {d : Nat} (hd : 0 ≤ d) {x0 : Int32} {h : zM} {r : Int32 × zM} (H : f_J6_bitCount_0f7a4_24 x0 h = some r) : zEv zmt d 2 24 ([some (vI x0)], [], h, true) (some (vI r.1), r.2) := by
  refine zEv.loc (L2 := [some (vI ((x0 + (UInt32.toInt32 ((Int32.toUInt32 x0) >>> ((Int32.toUInt32 4) &&& Int32.toUInt32 31)))) &&& 252645135))]) (st2 := []) (h2 := h) zm_J6_bitCount_0f7a4 rfl rfl rfl rfl (fun h => (nomatch h)) ?_
  exact ev_J6_bitCount_0f7a4_34 (by omega)  H
def f_J6_bitCount_0f7a4_10 (x0 : Int32) (h : zM) : Option (Int32 × zM) := (f_J6_bitCount_0f7a4_24  ((x0 &&& 858993459) + ((UInt32.toInt32 ((Int32.toUInt32 x0) >>> ((Int32.toUInt32 2) &&& Int32.toUInt32 31))) &&& 858993459)) h)
set_option maxRecDepth 20000 in
theorem ev_J6_bitCount_0f7a4_10 {d : Nat} (hd : 0 ≤ d) {x0 : Int32} {h : zM} {r : Int32 × zM} (H : f_J6_bitCount_0f7a4_10 x0 h = some r) : zEv zmt d 2 10 ([some (vI x0)], [], h, true) (some (vI r.1), r.2) := by
  refine zEv.loc (L2 := [some (vI ((x0 &&& 858993459) + ((UInt32.toInt32 ((Int32.toUInt32 x0) >>> ((Int32.toUInt32 2) &&& Int32.toUInt32 31))) &&& 858993459)))]) (st2 := []) (h2 := h) zm_J6_bitCount_0f7a4 rfl rfl rfl rfl (fun h => (nomatch h)) ?_
  exact ev_J6_bitCount_0f7a4_24 (by omega)  H
def f_J6_bitCount_0f7a4 (x0 : Int32) (h : zM) : Option (Int32 × zM) := (f_J6_bitCount_0f7a4_10  (x0 - ((UInt32.toInt32 ((Int32.toUInt32 x0) >>> ((Int32.toUInt32 1) &&& Int32.toUInt32 31))) &&& 1431655765)) h)
set_option maxRecDepth 20000 in
theorem ev_J6_bitCount_0f7a4 {d : Nat} (hd : 0 ≤ d) {x0 : Int32} {h : zM} {r : Int32 × zM} (H : f_J6_bitCount_0f7a4 x0 h = some r) : zEv zmt d 2 0 ([some (vI x0)], [], h, true) (some (vI r.1), r.2) := by
  refine zEv.loc (L2 := [some (vI (x0 - ((UInt32.toInt32 ((Int32.toUInt32 x0) >>> ((Int32.toUInt32 1) &&& Int32.toUInt32 31))) &&& 1431655765)))]) (st2 := []) (h2 := h) zm_J6_bitCount_0f7a4 rfl rfl rfl rfl (fun h => (nomatch h)) ?_
  exact ev_J6_bitCount_0f7a4_10 (by omega)  H
def f_X0_init (x0 : zR) (h : zM) : Option (zM) := (if (Nat.blt (clR x0) 99 && (true && true)) = true then (some h) else none)
set_option maxRecDepth 20000 in
theorem ev_X0_init {d : Nat} (hd : 1 ≤ d) {x0 : zR} {h : zM} {r : zM} (H : f_X0_init x0 h = some r) : zEv zmt d 3 0 ([some (vR x0)], [], h, true) (none, r) := by
  obtain ⟨hg, H⟩ := ifg H
  refine zEv.loc (L2 := [some (vR x0)]) (st2 := []) (h2 := h) zm_X0_init rfl (and2 (and2 hg).2).2 rfl hg (fun _ => by omega) ?_
  cases H
  exact zEv.ret zm_X0_init rfl rfl rfl rfl
def f_X5_endsBehindBlanks_38 (x0 : zR) (h : zM) : Option (Int32 × zM) := (if (memN [5] (clR x0) && (memN [5] (clR x0) && true)) = true then (if (rI h (clR x0) (ixR x0) 2) < (rI h (clR x0) (ixR x0) 1) then (some (0, h)) else (some (1, h))) else none)
set_option maxRecDepth 20000 in
theorem ev_X5_endsBehindBlanks_38 {d : Nat} (hd : 0 ≤ d) {x0 : zR} {h : zM} {r : Int32 × zM} (H : f_X5_endsBehindBlanks_38 x0 h = some r) : zEv zmt d 31 38 ([some (vR x0)], [], h, true) (some (vI r.1), r.2) := by
  obtain ⟨hg, H⟩ := ifg H
  rcases ifc H with ⟨hc, H⟩ | ⟨hc, H⟩
  · refine zEv.iteT (L2 := [some (vR x0)]) (st2 := []) (h2 := h) zm_X5_endsBehindBlanks rfl hg rfl hg (decide_eq_true hc) ?_
    refine zEv.loc (L2 := [some (vR x0)]) (st2 := [vI 0]) (h2 := h) zm_X5_endsBehindBlanks rfl rfl rfl rfl (fun h => (nomatch h)) ?_
    cases H
    exact zEv.ret zm_X5_endsBehindBlanks rfl rfl rfl rfl
  · refine zEv.iteF (L2 := [some (vR x0)]) (st2 := []) (h2 := h) zm_X5_endsBehindBlanks rfl hg rfl hg (decide_eq_false hc) ?_
    refine zEv.loc (L2 := [some (vR x0)]) (st2 := [vI 1]) (h2 := h) zm_X5_endsBehindBlanks rfl rfl rfl rfl (fun h => (nomatch h)) ?_
    cases H
    exact zEv.ret zm_X5_endsBehindBlanks rfl rfl rfl rfl
def f_X5_endsBehindBlanks_0 : Nat → zR → zM → Option (Int32 × zM)
  | 0 => fun _ _ => none
  | k + 1 => fun x0 h => (if (memN [5] (clR x0) && (memN [5] (clR x0) && true)) = true then (if (rI h (clR x0) (ixR x0) 1) ≤ (rI h (clR x0) (ixR x0) 2) then (f_X5_endsBehindBlanks_38  x0 h) else (if (Nat.beq (akd (clR (rR h (clR x0) (ixR x0) 0))) 2 && (ixOk (aln (clR (rR h (clR x0) (ixR x0) 0))) (rI h (clR x0) (ixR x0) 2) && (memN [5] (clR x0) && (memN [5] (clR x0) && true)))) = true then (if ¬ (rI h (clR (rR h (clR x0) (ixR x0) 0)) (ixR (rR h (clR x0) (ixR x0) 0)) (Int32.toNatClampNeg (rI h (clR x0) (ixR x0) 2))) = 32 then (f_X5_endsBehindBlanks_38  x0 h) else (if (memN [5] (clR x0) && (memN [5] (clR x0) && (true && true))) = true then (f_X5_endsBehindBlanks_0 k x0 (wI h (clR x0) (ixR x0) 2 ((rI h (clR x0) (ixR x0) 2) + 1))) else none)) else none)) else none)
set_option maxRecDepth 20000 in
theorem ev_X5_endsBehindBlanks_0 {d : Nat} (hd : 0 ≤ d) : ∀ (k : Nat) {x0 : zR} {h : zM} {r : Int32 × zM}, f_X5_endsBehindBlanks_0 k x0 h = some r → zEv zmt d 31 0 ([some (vR x0)], [], h, true) (some (vI r.1), r.2) := by
  intro k
  induction k with
  | zero => intro x0 h r H; cases H
  | succ k ih =>
    intro x0 h r H
    obtain ⟨hg, H⟩ := ifg H
    rcases ifc H with ⟨hc, H⟩ | ⟨hc, H⟩
    · refine zEv.iteT (L2 := [some (vR x0)]) (st2 := []) (h2 := h) zm_X5_endsBehindBlanks rfl hg rfl hg (decide_eq_true hc) ?_
      exact ev_X5_endsBehindBlanks_38 (by omega)  H
    · refine zEv.iteF (L2 := [some (vR x0)]) (st2 := []) (h2 := h) zm_X5_endsBehindBlanks rfl hg rfl hg (decide_eq_false hc) ?_
      obtain ⟨hg, H⟩ := ifg H
      rcases ifc H with ⟨hc, H⟩ | ⟨hc, H⟩
      · refine zEv.iteT (L2 := [some (vR x0)]) (st2 := []) (h2 := h) zm_X5_endsBehindBlanks rfl hg rfl hg (decide_eq_true hc) ?_
        exact ev_X5_endsBehindBlanks_38 (by omega)  H
      · refine zEv.iteF (L2 := [some (vR x0)]) (st2 := []) (h2 := h) zm_X5_endsBehindBlanks rfl hg rfl hg (decide_eq_false hc) ?_
        obtain ⟨hg, H⟩ := ifg H
        refine zEv.loc (L2 := [some (vR x0)]) (st2 := []) (h2 := (wI h (clR x0) (ixR x0) 2 ((rI h (clR x0) (ixR x0) 2) + 1))) zm_X5_endsBehindBlanks rfl hg rfl hg (fun h => (nomatch h)) ?_
        exact ih H
def f_X5_endsBehindBlanks (x0 : zR) (h : zM) : Option (Int32 × zM) := f_X5_endsBehindBlanks_0 1000 x0 h
theorem ev_X5_endsBehindBlanks {d : Nat} (hd : 0 ≤ d) {x0 : zR} {h : zM} {r : Int32 × zM} (H : f_X5_endsBehindBlanks x0 h = some r) : zEv zmt d 31 0 ([some (vR x0)], [], h, true) (some (vI r.1), r.2) := ev_X5_endsBehindBlanks_0 hd 1000 H
def f_X5_passes (x0 : zR) (x1 : Int32) (h : zM) : Option (Int32 × zM) := (if (memN [5] (clR x0) && (memN [5] (clR x0) && true)) = true then (if (rI h (clR x0) (ixR x0) 1) ≤ (rI h (clR x0) (ixR x0) 2) then (some (0, h)) else (if (Nat.beq (akd (clR (rR h (clR x0) (ixR x0) 0))) 2 && (ixOk (aln (clR (rR h (clR x0) (ixR x0) 0))) (rI h (clR x0) (ixR x0) 2) && (memN [5] (clR x0) && (memN [5] (clR x0) && true)))) = true then (if (rI h (clR (rR h (clR x0) (ixR x0) 0)) (ixR (rR h (clR x0) (ixR x0) 0)) (Int32.toNatClampNeg (rI h (clR x0) (ixR x0) 2))) = x1 then (if (true && (memN [5] (clR x0) && (memN [5] (clR x0) && (true && true)))) = true then (some (1, (wI h (clR x0) (ixR x0) 2 ((rI h (clR x0) (ixR x0) 2) + 1)))) else none) else (some (0, h))) else none)) else none)
set_option maxRecDepth 20000 in
theorem ev_X5_passes {d : Nat} (hd : 0 ≤ d) {x0 : zR} {x1 : Int32} {h : zM} {r : Int32 × zM} (H : f_X5_passes x0 x1 h = some r) : zEv zmt d 32 0 ([some (vR x0), some (vI x1)], [], h, true) (some (vI r.1), r.2) := by
  obtain ⟨hg, H⟩ := ifg H
  rcases ifc H with ⟨hc, H⟩ | ⟨hc, H⟩
  · refine zEv.iteT (L2 := [some (vR x0), some (vI x1)]) (st2 := []) (h2 := h) zm_X5_passes rfl hg rfl hg (decide_eq_true hc) ?_
    cases H
    exact zEv.ret zm_X5_passes rfl rfl rfl rfl
  · refine zEv.iteF (L2 := [some (vR x0), some (vI x1)]) (st2 := []) (h2 := h) zm_X5_passes rfl hg rfl hg (decide_eq_false hc) ?_
    obtain ⟨hg, H⟩ := ifg H
    rcases ifc H with ⟨hc, H⟩ | ⟨hc, H⟩
    · refine zEv.iteT (L2 := [some (vR x0), some (vI x1)]) (st2 := []) (h2 := h) zm_X5_passes rfl hg rfl hg (decide_eq_true hc) ?_
      obtain ⟨hg, H⟩ := ifg H
      cases H
      exact zEv.ret zm_X5_passes rfl (and2 hg).2 rfl hg
    · refine zEv.iteF (L2 := [some (vR x0), some (vI x1)]) (st2 := []) (h2 := h) zm_X5_passes rfl hg rfl hg (decide_eq_false hc) ?_
      cases H
      exact zEv.ret zm_X5_passes rfl rfl rfl rfl
def f_X5_figures_91 (x0 : zR) (x3 : Int32) (x4 : Int32) (h : zM) : Option (Int32 × zM) := (if (memN [5] (clR x0) && true) = true then (if (rI h (clR x0) (ixR x0) 2) ≤ x3 then (some ((-9999), h)) else (some (x4, h))) else none)
set_option maxRecDepth 20000 in
theorem ev_X5_figures_91 {d : Nat} (hd : 1 ≤ d) {w1 : Option zV} {w2 : Option zV} {x0 : zR} {x3 : Int32} {x4 : Int32} {h : zM} {r : Int32 × zM} (H : f_X5_figures_91 x0 x3 x4 h = some r) : zEv zmt d 33 91 ([some (vR x0), w1, w2, some (vI x3), some (vI x4)], [], h, true) (some (vI r.1), r.2) := by
  obtain ⟨hg, H⟩ := ifg H
  rcases ifc H with ⟨hc, H⟩ | ⟨hc, H⟩
  · refine zEv.iteT (L2 := [some (vR x0), w1, w2, some (vI x3), some (vI x4)]) (st2 := []) (h2 := h) zm_X5_figures rfl hg rfl hg (decide_eq_true hc) ?_
    refine zEv.loc (L2 := [some (vR x0), w1, w2, some (vI x3), some (vI x4)]) (st2 := [vI (-9999)]) (h2 := h) zm_X5_figures rfl rfl rfl rfl (fun h => (nomatch h)) ?_
    cases H
    exact zEv.ret zm_X5_figures rfl rfl rfl rfl
  · refine zEv.iteF (L2 := [some (vR x0), w1, w2, some (vI x3), some (vI x4)]) (st2 := []) (h2 := h) zm_X5_figures rfl hg rfl hg (decide_eq_false hc) ?_
    refine zEv.loc (L2 := [some (vR x0), w1, w2, some (vI x3), some (vI x4)]) (st2 := [vI x4]) (h2 := h) zm_X5_figures rfl rfl rfl rfl (fun h => (nomatch h)) ?_
    cases H
    exact zEv.ret zm_X5_figures rfl rfl rfl rfl
def f_X5_figures_22 : Nat → zR → Int32 → Int32 → Int32 → zM → Option (Int32 × zM)
  | 0 => fun _ _ _ _ _ => none
  | k + 1 => fun x0 x2 x3 x4 h => (if (memN [5] (clR x0) && true) = true then (if x2 ≤ (rI h (clR x0) (ixR x0) 2) then (f_X5_figures_91  x0 x3 x4 h) else (if (Nat.beq (akd (clR (rR h (clR x0) (ixR x0) 0))) 2 && (ixOk (aln (clR (rR h (clR x0) (ixR x0) 0))) (rI h (clR x0) (ixR x0) 2) && (memN [5] (clR x0) && (memN [5] (clR x0) && true)))) = true then (if (rI h (clR (rR h (clR x0) (ixR x0) 0)) (ixR (rR h (clR x0) (ixR x0) 0)) (Int32.toNatClampNeg (rI h (clR x0) (ixR x0) 2))) < 48 then (f_X5_figures_91  x0 x3 x4 h) else (if (Nat.beq (akd (clR (rR h (clR x0) (ixR x0) 0))) 2 && (ixOk (aln (clR (rR h (clR x0) (ixR x0) 0))) (rI h (clR x0) (ixR x0) 2) && (memN [5] (clR x0) && (memN [5] (clR x0) && true)))) = true then (if 57 < (rI h (clR (rR h (clR x0) (ixR x0) 0)) (ixR (rR h (clR x0) (ixR x0) 0)) (Int32.toNatClampNeg (rI h (clR x0) (ixR x0) 2))) then (f_X5_figures_91  x0 x3 x4 h) else (if (memN [5] (clR x0) && (memN [5] (clR x0) && (true && (true && (Nat.beq (akd (clR (rR h (clR x0) (ixR x0) 0))) 2 && (ixOk (aln (clR (rR h (clR x0) (ixR x0) 0))) (rI h (clR x0) (ixR x0) 2) && (memN [5] (clR x0) && (memN [5] (clR x0) && true)))))))) = true then (f_X5_figures_22 k x0 x2 x3 (((10 * x4) + (rI h (clR (rR h (clR x0) (ixR x0) 0)) (ixR (rR h (clR x0) (ixR x0) 0)) (Int32.toNatClampNeg (rI h (clR x0) (ixR x0) 2)))) - 48) (wI h (clR x0) (ixR x0) 2 ((rI h (clR x0) (ixR x0) 2) + 1))) else none)) else none)) else none)) else none)
set_option maxRecDepth 20000 in
theorem ev_X5_figures_22 {d : Nat} (hd : 1 ≤ d) : ∀ (k : Nat) {w1 : Option zV} {x0 : zR} {x2 : Int32} {x3 : Int32} {x4 : Int32} {h : zM} {r : Int32 × zM}, f_X5_figures_22 k x0 x2 x3 x4 h = some r → zEv zmt d 33 22 ([some (vR x0), w1, some (vI x2), some (vI x3), some (vI x4)], [], h, true) (some (vI r.1), r.2) := by
  intro k
  induction k with
  | zero => intro w1 x0 x2 x3 x4 h r H; cases H
  | succ k ih =>
    intro w1 x0 x2 x3 x4 h r H
    obtain ⟨hg, H⟩ := ifg H
    rcases ifc H with ⟨hc, H⟩ | ⟨hc, H⟩
    · refine zEv.iteT (L2 := [some (vR x0), w1, some (vI x2), some (vI x3), some (vI x4)]) (st2 := []) (h2 := h) zm_X5_figures rfl hg rfl hg (decide_eq_true hc) ?_
      exact ev_X5_figures_91 (by omega)  H
    · refine zEv.iteF (L2 := [some (vR x0), w1, some (vI x2), some (vI x3), some (vI x4)]) (st2 := []) (h2 := h) zm_X5_figures rfl hg rfl hg (decide_eq_false hc) ?_
      obtain ⟨hg, H⟩ := ifg H
      rcases ifc H with ⟨hc, H⟩ | ⟨hc, H⟩
      · refine zEv.iteT (L2 := [some (vR x0), w1, some (vI x2), some (vI x3), some (vI x4)]) (st2 := []) (h2 := h) zm_X5_figures rfl hg rfl hg (decide_eq_true hc) ?_
        exact ev_X5_figures_91 (by omega)  H
      · refine zEv.iteF (L2 := [some (vR x0), w1, some (vI x2), some (vI x3), some (vI x4)]) (st2 := []) (h2 := h) zm_X5_figures rfl hg rfl hg (decide_eq_false hc) ?_
        obtain ⟨hg, H⟩ := ifg H
        rcases ifc H with ⟨hc, H⟩ | ⟨hc, H⟩
        · refine zEv.iteT (L2 := [some (vR x0), w1, some (vI x2), some (vI x3), some (vI x4)]) (st2 := []) (h2 := h) zm_X5_figures rfl hg rfl hg (decide_eq_true hc) ?_
          exact ev_X5_figures_91 (by omega)  H
        · refine zEv.iteF (L2 := [some (vR x0), w1, some (vI x2), some (vI x3), some (vI x4)]) (st2 := []) (h2 := h) zm_X5_figures rfl hg rfl hg (decide_eq_false hc) ?_
          obtain ⟨hg, H⟩ := ifg H
          refine zEv.loc (L2 := [some (vR x0), w1, some (vI x2), some (vI x3), some (vI (((10 * x4) + (rI h (clR (rR h (clR x0) (ixR x0) 0)) (ixR (rR h (clR x0) (ixR x0) 0)) (Int32.toNatClampNeg (rI h (clR x0) (ixR x0) 2)))) - 48))]) (st2 := []) (h2 := (wI h (clR x0) (ixR x0) 2 ((rI h (clR x0) (ixR x0) 2) + 1))) zm_X5_figures rfl hg rfl hg (fun h => (nomatch h)) ?_
          exact ih H
def f_X5_figures (x0 : zR) (x1 : Int32) (h : zM) : Option (Int32 × zM) := (if (true && (memN [5] (clR x0) && (memN [5] (clR x0) && true))) = true then (if (true && (true && (memN [5] (clR x0) && (true && true)))) = true then (f_X5_figures_22  1000 x0 (if (rI h (clR x0) (ixR x0) 1) < ((rI h (clR x0) (ixR x0) 2) + x1) then (rI h (clR x0) (ixR x0) 1) else ((rI h (clR x0) (ixR x0) 2) + x1)) (rI h (clR x0) (ixR x0) 2) 0 h) else none) else none)
set_option maxRecDepth 20000 in
theorem ev_X5_figures {d : Nat} (hd : 1 ≤ d) {w2 : Option zV} {w3 : Option zV} {w4 : Option zV} {x0 : zR} {x1 : Int32} {h : zM} {r : Int32 × zM} (H : f_X5_figures x0 x1 h = some r) : zEv zmt d 33 0 ([some (vR x0), some (vI x1), w2, w3, w4], [], h, true) (some (vI r.1), r.2) := by
  obtain ⟨hg, H⟩ := ifg H
  refine zEv.loc (L2 := [some (vR x0), some (vI x1), w2, w3, w4]) (st2 := [vI (if (rI h (clR x0) (ixR x0) 1) < ((rI h (clR x0) (ixR x0) 2) + x1) then (rI h (clR x0) (ixR x0) 1) else ((rI h (clR x0) (ixR x0) 2) + x1))]) (h2 := h) zm_X5_figures rfl (and2 hg).2 rfl hg (fun _ => by omega) ?_
  obtain ⟨hg, H⟩ := ifg H
  refine zEv.loc (L2 := [some (vR x0), none, some (vI (if (rI h (clR x0) (ixR x0) 1) < ((rI h (clR x0) (ixR x0) 2) + x1) then (rI h (clR x0) (ixR x0) 1) else ((rI h (clR x0) (ixR x0) 2) + x1))), some (vI (rI h (clR x0) (ixR x0) 2)), some (vI 0)]) (st2 := []) (h2 := h) zm_X5_figures rfl hg rfl hg (fun h => (nomatch h)) ?_
  exact ev_X5_figures_22 (by omega)  1000 H
def f_X5_signedFigures_24 (x2 : Int32) (h : zM) : Option (Int32 × zM) := (some (x2, h))
set_option maxRecDepth 20000 in
theorem ev_X5_signedFigures_24 {d : Nat} (hd : 2 ≤ d) {w0 : Option zV} {w1 : Option zV} {x2 : Int32} {h : zM} {r : Int32 × zM} (H : f_X5_signedFigures_24 x2 h = some r) : zEv zmt d 34 24 ([w0, w1, some (vI x2)], [], h, true) (some (vI r.1), r.2) := by
  refine zEv.loc (L2 := [w0, w1, some (vI x2)]) (st2 := [vI x2]) (h2 := h) zm_X5_signedFigures rfl rfl rfl rfl (fun h => (nomatch h)) ?_
  cases H
  exact zEv.ret zm_X5_signedFigures rfl rfl rfl rfl
def f_X5_signedFigures (x0 : zR) (h : zM) : Option (Int32 × zM) := (if (memN [5] (clR x0) && (true && true)) = true then ((f_X5_passes x0 45 h).bind fun q3 => (if (memN [5] (clR x0) && (true && (true && true))) = true then ((f_X5_figures x0 2 q3.2).bind fun q9 => (if q9.1 = (-9999) then (f_X5_signedFigures_24  q9.1 q9.2) else (if ¬ q3.1 = 0 then (some ((-q9.1), q9.2)) else (f_X5_signedFigures_24  q9.1 q9.2)))) else none)) else none)
set_option maxRecDepth 20000 in
theorem ev_X5_signedFigures {d : Nat} (hd : 2 ≤ d) {w1 : Option zV} {w2 : Option zV} {x0 : zR} {h : zM} {r : Int32 × zM} (H : f_X5_signedFigures x0 h = some r) : zEv zmt d 34 0 ([some (vR x0), w1, w2], [], h, true) (some (vI r.1), r.2) := by
  obtain ⟨hg, H⟩ := ifg H
  obtain ⟨q3, hq, H⟩ := bnd H
  refine zEv.call (k := 32) (as := [vR x0, vI 45]) (L2 := [some (vR x0), w1, w2]) (st2 := []) (h2 := h) (v := some (vI q3.1)) (h1 := q3.2) (st3 := [vI q3.1]) zm_X5_signedFigures rfl (and2 (and2 hg).2).2 rfl hg rfl zm_X5_passes rfl (by omega) (ev_X5_passes (by omega) hq) rfl ?_
  obtain ⟨hg, H⟩ := ifg H
  obtain ⟨q9, hq, H⟩ := bnd H
  refine zEv.call (k := 33) (as := [vR x0, vI 2]) (L2 := [some (vR x0), some (vI q3.1), w2]) (st2 := []) (h2 := q3.2) (v := some (vI q9.1)) (h1 := q9.2) (st3 := [vI q9.1]) zm_X5_signedFigures rfl (and2 (and2 hg).2).2 rfl hg rfl zm_X5_figures rfl (by omega) (ev_X5_figures (by omega) hq) rfl ?_
  rcases ifc H with ⟨hc, H⟩ | ⟨hc, H⟩
  · refine zEv.iteT (L2 := [some (vR x0), some (vI q3.1), some (vI q9.1)]) (st2 := []) (h2 := q9.2) zm_X5_signedFigures rfl rfl rfl rfl (decide_eq_true hc) ?_
    exact ev_X5_signedFigures_24 (by omega)  H
  · refine zEv.iteF (L2 := [some (vR x0), some (vI q3.1), some (vI q9.1)]) (st2 := []) (h2 := q9.2) zm_X5_signedFigures rfl rfl rfl rfl (decide_eq_false hc) ?_
    rcases ifc H with ⟨hc, H⟩ | ⟨hc, H⟩
    · refine zEv.iteT (L2 := [some (vR x0), some (vI q3.1), some (vI q9.1)]) (st2 := []) (h2 := q9.2) zm_X5_signedFigures rfl rfl rfl rfl (decide_eq_true hc) ?_
      refine zEv.loc (L2 := [some (vR x0), some (vI q3.1), some (vI q9.1)]) (st2 := [vI (-q9.1)]) (h2 := q9.2) zm_X5_signedFigures rfl rfl rfl rfl (fun h => (nomatch h)) ?_
      cases H
      exact zEv.ret zm_X5_signedFigures rfl rfl rfl rfl
    · refine zEv.iteF (L2 := [some (vR x0), some (vI q3.1), some (vI q9.1)]) (st2 := []) (h2 := q9.2) zm_X5_signedFigures rfl rfl rfl rfl (decide_eq_false hc) ?_
      exact ev_X5_signedFigures_24 (by omega)  H
def f_X1_readFalling (x0 : zR) (x1 : zR) (x2 : Int32) (h : zM) : Option (Int32 × zM) := (if (memN [5] (clR x1) && (true && (memN [1] (clR x0) && (decide (rR h (clR x0) (ixR x0) 0 = (some (20, (ixR x0)))) && true)))) = true then ((f_X5_signedFigures x1 h).bind fun q6 => (if (true && (ixOk 10 x2 && (memN [1] (clR x0) && (decide (rR q6.2 (clR x0) (ixR x0) 0 = (some (20, (ixR x0)))) && (true && (ixOk 10 x2 && true)))))) = true then (if (rI (wI q6.2 20 (ixR x0) (Int32.toNatClampNeg x2) q6.1) 20 (ixR x0) (Int32.toNatClampNeg x2)) = (-9999) then (some (0, (wI q6.2 20 (ixR x0) (Int32.toNatClampNeg x2) q6.1))) else (if (memN [5] (clR x1) && (true && true)) = true then ((f_X5_passes x1 44 (wI q6.2 20 (ixR x0) (Int32.toNatClampNeg x2) q6.1)).bind fun q25 => (if ¬ q25.1 = 0 then (if (memN [5] (clR x1) && (true && (memN [1] (clR x0) && (decide (rR q25.2 (clR x0) (ixR x0) 0 = (some (20, (ixR x0)))) && true)))) = true then ((f_X5_signedFigures x1 q25.2).bind fun q41 => (if (true && (ixOk 10 (x2 + 1) && (memN [1] (clR x0) && (decide (rR q41.2 (clR x0) (ixR x0) 0 = (some (20, (ixR x0)))) && (true && (ixOk 10 (x2 + 1) && true)))))) = true then (if (rI (wI q41.2 20 (ixR x0) (Int32.toNatClampNeg (x2 + 1)) q41.1) 20 (ixR x0) (Int32.toNatClampNeg (x2 + 1))) ≤ 0 then (some (0, (wI q41.2 20 (ixR x0) (Int32.toNatClampNeg (x2 + 1)) q41.1))) else (some (1, (wI q41.2 20 (ixR x0) (Int32.toNatClampNeg (x2 + 1)) q41.1)))) else none)) else none) else (some (0, q25.2)))) else none)) else none)) else none)
set_option maxRecDepth 20000 in
theorem ev_X1_readFalling {d : Nat} (hd : 3 ≤ d) {x0 : zR} {x1 : zR} {x2 : Int32} {h : zM} {r : Int32 × zM} (H : f_X1_readFalling x0 x1 x2 h = some r) : zEv zmt d 7 0 ([some (vR x0), some (vR x1), some (vI x2)], [], h, true) (some (vI r.1), r.2) := by
  obtain ⟨hg, H⟩ := ifg H
  obtain ⟨q6, hq, H⟩ := bnd H
  refine zEv.call (k := 34) (as := [vR x1]) (L2 := [some (vR x0), some (vR x1), some (vI x2)]) (st2 := [vI x2, vR (some (20, (ixR x0)))]) (h2 := h) (v := some (vI q6.1)) (h1 := q6.2) (st3 := [vI q6.1, vI x2, vR (some (20, (ixR x0)))]) zm_X1_readFalling rfl (and2 (and2 hg).2).2 rfl hg rfl zm_X5_signedFigures rfl (by omega) (ev_X5_signedFigures (by omega) hq) rfl ?_
  obtain ⟨hg, H⟩ := ifg H
  rcases ifc H with ⟨hc, H⟩ | ⟨hc, H⟩
  · refine zEv.iteT (L2 := [some (vR x0), some (vR x1), some (vI x2)]) (st2 := []) (h2 := (wI q6.2 20 (ixR x0) (Int32.toNatClampNeg x2) q6.1)) zm_X1_readFalling rfl hg rfl hg (decide_eq_true hc) ?_
    cases H
    exact zEv.ret zm_X1_readFalling rfl rfl rfl rfl
  · refine zEv.iteF (L2 := [some (vR x0), some (vR x1), some (vI x2)]) (st2 := []) (h2 := (wI q6.2 20 (ixR x0) (Int32.toNatClampNeg x2) q6.1)) zm_X1_readFalling rfl hg rfl hg (decide_eq_false hc) ?_
    obtain ⟨hg, H⟩ := ifg H
    obtain ⟨q25, hq, H⟩ := bnd H
    refine zEv.call (k := 32) (as := [vR x1, vI 44]) (L2 := [some (vR x0), some (vR x1), some (vI x2)]) (st2 := []) (h2 := (wI q6.2 20 (ixR x0) (Int32.toNatClampNeg x2) q6.1)) (v := some (vI q25.1)) (h1 := q25.2) (st3 := [vI q25.1]) zm_X1_readFalling rfl (and2 (and2 hg).2).2 rfl hg rfl zm_X5_passes rfl (by omega) (ev_X5_passes (by omega) hq) rfl ?_
    rcases ifc H with ⟨hc, H⟩ | ⟨hc, H⟩
    · refine zEv.iteT (L2 := [some (vR x0), some (vR x1), some (vI x2)]) (st2 := []) (h2 := q25.2) zm_X1_readFalling rfl rfl rfl rfl (decide_eq_true hc) ?_
      obtain ⟨hg, H⟩ := ifg H
      obtain ⟨q41, hq, H⟩ := bnd H
      refine zEv.call (k := 34) (as := [vR x1]) (L2 := [some (vR x0), some (vR x1), some (vI x2)]) (st2 := [vI (x2 + 1), vR (some (20, (ixR x0)))]) (h2 := q25.2) (v := some (vI q41.1)) (h1 := q41.2) (st3 := [vI q41.1, vI (x2 + 1), vR (some (20, (ixR x0)))]) zm_X1_readFalling rfl (and2 (and2 hg).2).2 rfl hg rfl zm_X5_signedFigures rfl (by omega) (ev_X5_signedFigures (by omega) hq) rfl ?_
      obtain ⟨hg, H⟩ := ifg H
      rcases ifc H with ⟨hc, H⟩ | ⟨hc, H⟩
      · refine zEv.iteT (L2 := [some (vR x0), some (vR x1), some (vI x2)]) (st2 := []) (h2 := (wI q41.2 20 (ixR x0) (Int32.toNatClampNeg (x2 + 1)) q41.1)) zm_X1_readFalling rfl hg rfl hg (decide_eq_true hc) ?_
        refine zEv.loc (L2 := [some (vR x0), some (vR x1), some (vI x2)]) (st2 := [vI 0]) (h2 := (wI q41.2 20 (ixR x0) (Int32.toNatClampNeg (x2 + 1)) q41.1)) zm_X1_readFalling rfl rfl rfl rfl (fun h => (nomatch h)) ?_
        cases H
        exact zEv.ret zm_X1_readFalling rfl rfl rfl rfl
      · refine zEv.iteF (L2 := [some (vR x0), some (vR x1), some (vI x2)]) (st2 := []) (h2 := (wI q41.2 20 (ixR x0) (Int32.toNatClampNeg (x2 + 1)) q41.1)) zm_X1_readFalling rfl hg rfl hg (decide_eq_false hc) ?_
        refine zEv.loc (L2 := [some (vR x0), some (vR x1), some (vI x2)]) (st2 := [vI 1]) (h2 := (wI q41.2 20 (ixR x0) (Int32.toNatClampNeg (x2 + 1)) q41.1)) zm_X1_readFalling rfl rfl rfl rfl (fun h => (nomatch h)) ?_
        cases H
        exact zEv.ret zm_X1_readFalling rfl rfl rfl rfl
    · refine zEv.iteF (L2 := [some (vR x0), some (vR x1), some (vI x2)]) (st2 := []) (h2 := q25.2) zm_X1_readFalling rfl rfl rfl rfl (decide_eq_false hc) ?_
      cases H
      exact zEv.ret zm_X1_readFalling rfl rfl rfl rfl
def f_X1_readSingle (x0 : zR) (x1 : zR) (x2 : Int32) (h : zM) : Option (Int32 × zM) := (if (memN [5] (clR x1) && (true && (memN [1] (clR x0) && (decide (rR h (clR x0) (ixR x0) 0 = (some (20, (ixR x0)))) && true)))) = true then ((f_X5_signedFigures x1 h).bind fun q6 => (if (true && (ixOk 10 x2 && (memN [1] (clR x0) && (decide (rR q6.2 (clR x0) (ixR x0) 0 = (some (20, (ixR x0)))) && (true && (ixOk 10 x2 && true)))))) = true then (if (rI (wI q6.2 20 (ixR x0) (Int32.toNatClampNeg x2) q6.1) 20 (ixR x0) (Int32.toNatClampNeg x2)) = (-9999) then (some (0, (wI q6.2 20 (ixR x0) (Int32.toNatClampNeg x2) q6.1))) else (some (1, (wI q6.2 20 (ixR x0) (Int32.toNatClampNeg x2) q6.1)))) else none)) else none)
set_option maxRecDepth 20000 in
theorem ev_X1_readSingle {d : Nat} (hd : 3 ≤ d) {x0 : zR} {x1 : zR} {x2 : Int32} {h : zM} {r : Int32 × zM} (H : f_X1_readSingle x0 x1 x2 h = some r) : zEv zmt d 8 0 ([some (vR x0), some (vR x1), some (vI x2)], [], h, true) (some (vI r.1), r.2) := by
  obtain ⟨hg, H⟩ := ifg H
  obtain ⟨q6, hq, H⟩ := bnd H
  refine zEv.call (k := 34) (as := [vR x1]) (L2 := [some (vR x0), some (vR x1), some (vI x2)]) (st2 := [vI x2, vR (some (20, (ixR x0)))]) (h2 := h) (v := some (vI q6.1)) (h1 := q6.2) (st3 := [vI q6.1, vI x2, vR (some (20, (ixR x0)))]) zm_X1_readSingle rfl (and2 (and2 hg).2).2 rfl hg rfl zm_X5_signedFigures rfl (by omega) (ev_X5_signedFigures (by omega) hq) rfl ?_
  obtain ⟨hg, H⟩ := ifg H
  rcases ifc H with ⟨hc, H⟩ | ⟨hc, H⟩
  · refine zEv.iteT (L2 := [some (vR x0), some (vR x1), some (vI x2)]) (st2 := []) (h2 := (wI q6.2 20 (ixR x0) (Int32.toNatClampNeg x2) q6.1)) zm_X1_readSingle rfl hg rfl hg (decide_eq_true hc) ?_
    refine zEv.loc (L2 := [some (vR x0), some (vR x1), some (vI x2)]) (st2 := [vI 0]) (h2 := (wI q6.2 20 (ixR x0) (Int32.toNatClampNeg x2) q6.1)) zm_X1_readSingle rfl rfl rfl rfl (fun h => (nomatch h)) ?_
    cases H
    exact zEv.ret zm_X1_readSingle rfl rfl rfl rfl
  · refine zEv.iteF (L2 := [some (vR x0), some (vR x1), some (vI x2)]) (st2 := []) (h2 := (wI q6.2 20 (ixR x0) (Int32.toNatClampNeg x2) q6.1)) zm_X1_readSingle rfl hg rfl hg (decide_eq_false hc) ?_
    refine zEv.loc (L2 := [some (vR x0), some (vR x1), some (vI x2)]) (st2 := [vI 1]) (h2 := (wI q6.2 20 (ixR x0) (Int32.toNatClampNeg x2) q6.1)) zm_X1_readSingle rfl rfl rfl rfl (fun h => (nomatch h)) ?_
    cases H
    exact zEv.ret zm_X1_readSingle rfl rfl rfl rfl
def f_X5_shoeFigure (x0 : zR) (h : zM) : Option (Int32 × zM) := (if (memN [5] (clR x0) && (memN [5] (clR x0) && true)) = true then (if (rI h (clR x0) (ixR x0) 1) ≤ (rI h (clR x0) (ixR x0) 2) then (some ((-9999), h)) else (if (Nat.beq (akd (clR (rR h (clR x0) (ixR x0) 0))) 2 && (ixOk (aln (clR (rR h (clR x0) (ixR x0) 0))) (rI h (clR x0) (ixR x0) 2) && (memN [5] (clR x0) && (memN [5] (clR x0) && true)))) = true then (if (rI h (clR (rR h (clR x0) (ixR x0) 0)) (ixR (rR h (clR x0) (ixR x0) 0)) (Int32.toNatClampNeg (rI h (clR x0) (ixR x0) 2))) < 48 then (some ((-9999), h)) else (if (Nat.beq (akd (clR (rR h (clR x0) (ixR x0) 0))) 2 && (ixOk (aln (clR (rR h (clR x0) (ixR x0) 0))) (rI h (clR x0) (ixR x0) 2) && (memN [5] (clR x0) && (memN [5] (clR x0) && true)))) = true then (if (rI h (clR (rR h (clR x0) (ixR x0) 0)) (ixR (rR h (clR x0) (ixR x0) 0)) (Int32.toNatClampNeg (rI h (clR x0) (ixR x0) 2))) < 52 then (if (Nat.beq (akd (clR (rR h (clR x0) (ixR x0) 0))) 2 && (ixOk (aln (clR (rR h (clR x0) (ixR x0) 0))) ((rI (wI h (clR x0) (ixR x0) 2 ((rI h (clR x0) (ixR x0) 2) + 1)) (clR x0) (ixR x0) 2) - 1) && (memN [5] (clR x0) && (memN [5] (clR x0) && (memN [5] (clR x0) && (memN [5] (clR x0) && (true && true))))))) = true then (some (((rI (wI h (clR x0) (ixR x0) 2 ((rI h (clR x0) (ixR x0) 2) + 1)) (clR (rR h (clR x0) (ixR x0) 0)) (ixR (rR h (clR x0) (ixR x0) 0)) (Int32.toNatClampNeg ((rI (wI h (clR x0) (ixR x0) 2 ((rI h (clR x0) (ixR x0) 2) + 1)) (clR x0) (ixR x0) 2) - 1))) - 48), (wI h (clR x0) (ixR x0) 2 ((rI h (clR x0) (ixR x0) 2) + 1)))) else none) else (some ((-9999), h))) else none)) else none)) else none)
set_option maxRecDepth 20000 in
theorem ev_X5_shoeFigure {d : Nat} (hd : 0 ≤ d) {x0 : zR} {h : zM} {r : Int32 × zM} (H : f_X5_shoeFigure x0 h = some r) : zEv zmt d 35 0 ([some (vR x0)], [], h, true) (some (vI r.1), r.2) := by
  obtain ⟨hg, H⟩ := ifg H
  rcases ifc H with ⟨hc, H⟩ | ⟨hc, H⟩
  · refine zEv.iteT (L2 := [some (vR x0)]) (st2 := []) (h2 := h) zm_X5_shoeFigure rfl hg rfl hg (decide_eq_true hc) ?_
    cases H
    exact zEv.ret zm_X5_shoeFigure rfl rfl rfl rfl
  · refine zEv.iteF (L2 := [some (vR x0)]) (st2 := []) (h2 := h) zm_X5_shoeFigure rfl hg rfl hg (decide_eq_false hc) ?_
    obtain ⟨hg, H⟩ := ifg H
    rcases ifc H with ⟨hc, H⟩ | ⟨hc, H⟩
    · refine zEv.iteT (L2 := [some (vR x0)]) (st2 := []) (h2 := h) zm_X5_shoeFigure rfl hg rfl hg (decide_eq_true hc) ?_
      cases H
      exact zEv.ret zm_X5_shoeFigure rfl rfl rfl rfl
    · refine zEv.iteF (L2 := [some (vR x0)]) (st2 := []) (h2 := h) zm_X5_shoeFigure rfl hg rfl hg (decide_eq_false hc) ?_
      obtain ⟨hg, H⟩ := ifg H
      rcases ifc H with ⟨hc, H⟩ | ⟨hc, H⟩
      · refine zEv.iteT (L2 := [some (vR x0)]) (st2 := []) (h2 := h) zm_X5_shoeFigure rfl hg rfl hg (decide_eq_true hc) ?_
        obtain ⟨hg, H⟩ := ifg H
        cases H
        exact zEv.ret zm_X5_shoeFigure rfl hg rfl hg
      · refine zEv.iteF (L2 := [some (vR x0)]) (st2 := []) (h2 := h) zm_X5_shoeFigure rfl hg rfl hg (decide_eq_false hc) ?_
        cases H
        exact zEv.ret zm_X5_shoeFigure rfl rfl rfl rfl
def f_X1_readShoe (x0 : zR) (x1 : zR) (h : zM) : Option (Int32 × zM) := (if (memN [5] (clR x1) && (true && true)) = true then ((f_X5_shoeFigure x1 h).bind fun q1 => (if q1.1 = (-9999) then (some (0, q1.2)) else (if (memN [5] (clR x1) && (true && true)) = true then ((f_X5_passes x1 58 q1.2).bind fun q15 => (if ¬ q15.1 = 0 then (if (memN [5] (clR x1) && (true && (memN [1] (clR x0) && (decide (rR q15.2 (clR x0) (ixR x0) 0 = (some (20, (ixR x0)))) && true)))) = true then ((f_X5_signedFigures x1 q15.2).bind fun q32 => (if (true && (ixOk 10 (6 + q1.1) && (memN [1] (clR x0) && (decide (rR q32.2 (clR x0) (ixR x0) 0 = (some (20, (ixR x0)))) && (true && (ixOk 10 (6 + q1.1) && true)))))) = true then (if (rI (wI q32.2 20 (ixR x0) (Int32.toNatClampNeg (6 + q1.1)) q32.1) 20 (ixR x0) (Int32.toNatClampNeg (6 + q1.1))) = (-9999) then (some (0, (wI q32.2 20 (ixR x0) (Int32.toNatClampNeg (6 + q1.1)) q32.1))) else (some (1, (wI q32.2 20 (ixR x0) (Int32.toNatClampNeg (6 + q1.1)) q32.1)))) else none)) else none) else (some (0, q15.2)))) else none))) else none)
set_option maxRecDepth 20000 in
theorem ev_X1_readShoe {d : Nat} (hd : 3 ≤ d) {w2 : Option zV} {x0 : zR} {x1 : zR} {h : zM} {r : Int32 × zM} (H : f_X1_readShoe x0 x1 h = some r) : zEv zmt d 9 0 ([some (vR x0), some (vR x1), w2], [], h, true) (some (vI r.1), r.2) := by
  obtain ⟨hg, H⟩ := ifg H
  obtain ⟨q1, hq, H⟩ := bnd H
  refine zEv.call (k := 35) (as := [vR x1]) (L2 := [some (vR x0), some (vR x1), w2]) (st2 := []) (h2 := h) (v := some (vI q1.1)) (h1 := q1.2) (st3 := [vI q1.1]) zm_X1_readShoe rfl (and2 (and2 hg).2).2 rfl hg rfl zm_X5_shoeFigure rfl (by omega) (ev_X5_shoeFigure (by omega) hq) rfl ?_
  rcases ifc H with ⟨hc, H⟩ | ⟨hc, H⟩
  · refine zEv.iteT (L2 := [some (vR x0), some (vR x1), some (vI q1.1)]) (st2 := []) (h2 := q1.2) zm_X1_readShoe rfl rfl rfl rfl (decide_eq_true hc) ?_
    cases H
    exact zEv.ret zm_X1_readShoe rfl rfl rfl rfl
  · refine zEv.iteF (L2 := [some (vR x0), some (vR x1), some (vI q1.1)]) (st2 := []) (h2 := q1.2) zm_X1_readShoe rfl rfl rfl rfl (decide_eq_false hc) ?_
    obtain ⟨hg, H⟩ := ifg H
    obtain ⟨q15, hq, H⟩ := bnd H
    refine zEv.call (k := 32) (as := [vR x1, vI 58]) (L2 := [some (vR x0), some (vR x1), some (vI q1.1)]) (st2 := []) (h2 := q1.2) (v := some (vI q15.1)) (h1 := q15.2) (st3 := [vI q15.1]) zm_X1_readShoe rfl (and2 (and2 hg).2).2 rfl hg rfl zm_X5_passes rfl (by omega) (ev_X5_passes (by omega) hq) rfl ?_
    rcases ifc H with ⟨hc, H⟩ | ⟨hc, H⟩
    · refine zEv.iteT (L2 := [some (vR x0), some (vR x1), some (vI q1.1)]) (st2 := []) (h2 := q15.2) zm_X1_readShoe rfl rfl rfl rfl (decide_eq_true hc) ?_
      obtain ⟨hg, H⟩ := ifg H
      obtain ⟨q32, hq, H⟩ := bnd H
      refine zEv.call (k := 34) (as := [vR x1]) (L2 := [some (vR x0), some (vR x1), some (vI q1.1)]) (st2 := [vI (6 + q1.1), vR (some (20, (ixR x0)))]) (h2 := q15.2) (v := some (vI q32.1)) (h1 := q32.2) (st3 := [vI q32.1, vI (6 + q1.1), vR (some (20, (ixR x0)))]) zm_X1_readShoe rfl (and2 (and2 hg).2).2 rfl hg rfl zm_X5_signedFigures rfl (by omega) (ev_X5_signedFigures (by omega) hq) rfl ?_
      obtain ⟨hg, H⟩ := ifg H
      rcases ifc H with ⟨hc, H⟩ | ⟨hc, H⟩
      · refine zEv.iteT (L2 := [some (vR x0), some (vR x1), some (vI q1.1)]) (st2 := []) (h2 := (wI q32.2 20 (ixR x0) (Int32.toNatClampNeg (6 + q1.1)) q32.1)) zm_X1_readShoe rfl hg rfl hg (decide_eq_true hc) ?_
        refine zEv.loc (L2 := [some (vR x0), some (vR x1), some (vI q1.1)]) (st2 := [vI 0]) (h2 := (wI q32.2 20 (ixR x0) (Int32.toNatClampNeg (6 + q1.1)) q32.1)) zm_X1_readShoe rfl rfl rfl rfl (fun h => (nomatch h)) ?_
        cases H
        exact zEv.ret zm_X1_readShoe rfl rfl rfl rfl
      · refine zEv.iteF (L2 := [some (vR x0), some (vR x1), some (vI q1.1)]) (st2 := []) (h2 := (wI q32.2 20 (ixR x0) (Int32.toNatClampNeg (6 + q1.1)) q32.1)) zm_X1_readShoe rfl hg rfl hg (decide_eq_false hc) ?_
        refine zEv.loc (L2 := [some (vR x0), some (vR x1), some (vI q1.1)]) (st2 := [vI 1]) (h2 := (wI q32.2 20 (ixR x0) (Int32.toNatClampNeg (6 + q1.1)) q32.1)) zm_X1_readShoe rfl rfl rfl rfl (fun h => (nomatch h)) ?_
        cases H
        exact zEv.ret zm_X1_readShoe rfl rfl rfl rfl
    · refine zEv.iteF (L2 := [some (vR x0), some (vR x1), some (vI q1.1)]) (st2 := []) (h2 := q15.2) zm_X1_readShoe rfl rfl rfl rfl (decide_eq_false hc) ?_
      cases H
      exact zEv.ret zm_X1_readShoe rfl rfl rfl rfl
def f_X1_readItem_85 (h : zM) : Option (Int32 × zM) := (some (0, h))
set_option maxRecDepth 20000 in
theorem ev_X1_readItem_85 {d : Nat} (hd : 4 ≤ d) {w0 : Option zV} {w1 : Option zV} {h : zM} {r : Int32 × zM} (H : f_X1_readItem_85  h = some r) : zEv zmt d 6 85 ([w0, w1], [], h, true) (some (vI r.1), r.2) := by
  refine zEv.loc (L2 := [w0, w1]) (st2 := [vI 0]) (h2 := h) zm_X1_readItem rfl rfl rfl rfl (fun h => (nomatch h)) ?_
  cases H
  exact zEv.ret zm_X1_readItem rfl rfl rfl rfl
def f_X1_readItem (x0 : zR) (x1 : zR) (h : zM) : Option (Int32 × zM) := (if (memN [5] (clR x1) && (true && true)) = true then ((f_X5_passes x1 87 h).bind fun q3 => (if q3.1 = 0 then (if (memN [5] (clR x1) && (true && true)) = true then ((f_X5_passes x1 72 q3.2).bind fun q19 => (if q19.1 = 0 then (if (memN [5] (clR x1) && (true && true)) = true then ((f_X5_passes x1 84 q19.2).bind fun q35 => (if q35.1 = 0 then (if (memN [5] (clR x1) && (true && true)) = true then ((f_X5_passes x1 70 q35.2).bind fun q51 => (if q51.1 = 0 then (if (memN [5] (clR x1) && (true && true)) = true then ((f_X5_passes x1 83 q51.2).bind fun q67 => (if q67.1 = 0 then (f_X1_readItem_85  q67.2) else (if (memN [1] (clR x0) && (true && true)) = true then ((f_X1_readShoe x0 x1 q67.2).bind fun q75 => (if q75.1 = 0 then (f_X1_readItem_85  q75.2) else (some (1, q75.2)))) else none))) else none) else (if (memN [1] (clR x0) && (true && true)) = true then ((f_X1_readSingle x0 x1 5 q51.2).bind fun q60 => (if (isB q60.1 && true) = true then (some (q60.1, q60.2)) else none)) else none))) else none) else (if (memN [1] (clR x0) && (true && true)) = true then ((f_X1_readSingle x0 x1 4 q35.2).bind fun q44 => (if (isB q44.1 && true) = true then (some (q44.1, q44.2)) else none)) else none))) else none) else (if (memN [1] (clR x0) && (true && true)) = true then ((f_X1_readFalling x0 x1 2 q19.2).bind fun q28 => (if (isB q28.1 && true) = true then (some (q28.1, q28.2)) else none)) else none))) else none) else (if (memN [1] (clR x0) && (true && true)) = true then ((f_X1_readFalling x0 x1 0 q3.2).bind fun q12 => (if (isB q12.1 && true) = true then (some (q12.1, q12.2)) else none)) else none))) else none)
set_option maxRecDepth 20000 in
theorem ev_X1_readItem {d : Nat} (hd : 4 ≤ d) {x0 : zR} {x1 : zR} {h : zM} {r : Int32 × zM} (H : f_X1_readItem x0 x1 h = some r) : zEv zmt d 6 0 ([some (vR x0), some (vR x1)], [], h, true) (some (vI r.1), r.2) := by
  obtain ⟨hg, H⟩ := ifg H
  obtain ⟨q3, hq, H⟩ := bnd H
  refine zEv.call (k := 32) (as := [vR x1, vI 87]) (L2 := [some (vR x0), some (vR x1)]) (st2 := []) (h2 := h) (v := some (vI q3.1)) (h1 := q3.2) (st3 := [vI q3.1]) zm_X1_readItem rfl (and2 (and2 hg).2).2 rfl hg rfl zm_X5_passes rfl (by omega) (ev_X5_passes (by omega) hq) rfl ?_
  rcases ifc H with ⟨hc, H⟩ | ⟨hc, H⟩
  · refine zEv.iteT (L2 := [some (vR x0), some (vR x1)]) (st2 := []) (h2 := q3.2) zm_X1_readItem rfl rfl rfl rfl (decide_eq_true hc) ?_
    obtain ⟨hg, H⟩ := ifg H
    obtain ⟨q19, hq, H⟩ := bnd H
    refine zEv.call (k := 32) (as := [vR x1, vI 72]) (L2 := [some (vR x0), some (vR x1)]) (st2 := []) (h2 := q3.2) (v := some (vI q19.1)) (h1 := q19.2) (st3 := [vI q19.1]) zm_X1_readItem rfl (and2 (and2 hg).2).2 rfl hg rfl zm_X5_passes rfl (by omega) (ev_X5_passes (by omega) hq) rfl ?_
    rcases ifc H with ⟨hc, H⟩ | ⟨hc, H⟩
    · refine zEv.iteT (L2 := [some (vR x0), some (vR x1)]) (st2 := []) (h2 := q19.2) zm_X1_readItem rfl rfl rfl rfl (decide_eq_true hc) ?_
      obtain ⟨hg, H⟩ := ifg H
      obtain ⟨q35, hq, H⟩ := bnd H
      refine zEv.call (k := 32) (as := [vR x1, vI 84]) (L2 := [some (vR x0), some (vR x1)]) (st2 := []) (h2 := q19.2) (v := some (vI q35.1)) (h1 := q35.2) (st3 := [vI q35.1]) zm_X1_readItem rfl (and2 (and2 hg).2).2 rfl hg rfl zm_X5_passes rfl (by omega) (ev_X5_passes (by omega) hq) rfl ?_
      rcases ifc H with ⟨hc, H⟩ | ⟨hc, H⟩
      · refine zEv.iteT (L2 := [some (vR x0), some (vR x1)]) (st2 := []) (h2 := q35.2) zm_X1_readItem rfl rfl rfl rfl (decide_eq_true hc) ?_
        obtain ⟨hg, H⟩ := ifg H
        obtain ⟨q51, hq, H⟩ := bnd H
        refine zEv.call (k := 32) (as := [vR x1, vI 70]) (L2 := [some (vR x0), some (vR x1)]) (st2 := []) (h2 := q35.2) (v := some (vI q51.1)) (h1 := q51.2) (st3 := [vI q51.1]) zm_X1_readItem rfl (and2 (and2 hg).2).2 rfl hg rfl zm_X5_passes rfl (by omega) (ev_X5_passes (by omega) hq) rfl ?_
        rcases ifc H with ⟨hc, H⟩ | ⟨hc, H⟩
        · refine zEv.iteT (L2 := [some (vR x0), some (vR x1)]) (st2 := []) (h2 := q51.2) zm_X1_readItem rfl rfl rfl rfl (decide_eq_true hc) ?_
          obtain ⟨hg, H⟩ := ifg H
          obtain ⟨q67, hq, H⟩ := bnd H
          refine zEv.call (k := 32) (as := [vR x1, vI 83]) (L2 := [some (vR x0), some (vR x1)]) (st2 := []) (h2 := q51.2) (v := some (vI q67.1)) (h1 := q67.2) (st3 := [vI q67.1]) zm_X1_readItem rfl (and2 (and2 hg).2).2 rfl hg rfl zm_X5_passes rfl (by omega) (ev_X5_passes (by omega) hq) rfl ?_
          rcases ifc H with ⟨hc, H⟩ | ⟨hc, H⟩
          · refine zEv.iteT (L2 := [some (vR x0), some (vR x1)]) (st2 := []) (h2 := q67.2) zm_X1_readItem rfl rfl rfl rfl (decide_eq_true hc) ?_
            exact ev_X1_readItem_85 (by omega)  H
          · refine zEv.iteF (L2 := [some (vR x0), some (vR x1)]) (st2 := []) (h2 := q67.2) zm_X1_readItem rfl rfl rfl rfl (decide_eq_false hc) ?_
            obtain ⟨hg, H⟩ := ifg H
            obtain ⟨q75, hq, H⟩ := bnd H
            refine zEv.call (k := 9) (as := [vR x0, vR x1]) (L2 := [some (vR x0), some (vR x1)]) (st2 := []) (h2 := q67.2) (v := some (vI q75.1)) (h1 := q75.2) (st3 := [vI q75.1]) zm_X1_readItem rfl (and2 (and2 hg).2).2 rfl hg rfl zm_X1_readShoe rfl (by omega) (ev_X1_readShoe (by omega) hq) rfl ?_
            rcases ifc H with ⟨hc, H⟩ | ⟨hc, H⟩
            · refine zEv.iteT (L2 := [some (vR x0), some (vR x1)]) (st2 := []) (h2 := q75.2) zm_X1_readItem rfl rfl rfl rfl (decide_eq_true hc) ?_
              exact ev_X1_readItem_85 (by omega)  H
            · refine zEv.iteF (L2 := [some (vR x0), some (vR x1)]) (st2 := []) (h2 := q75.2) zm_X1_readItem rfl rfl rfl rfl (decide_eq_false hc) ?_
              refine zEv.loc (L2 := [some (vR x0), some (vR x1)]) (st2 := [vI 1]) (h2 := q75.2) zm_X1_readItem rfl rfl rfl rfl (fun h => (nomatch h)) ?_
              cases H
              exact zEv.ret zm_X1_readItem rfl rfl rfl rfl
        · refine zEv.iteF (L2 := [some (vR x0), some (vR x1)]) (st2 := []) (h2 := q51.2) zm_X1_readItem rfl rfl rfl rfl (decide_eq_false hc) ?_
          obtain ⟨hg, H⟩ := ifg H
          obtain ⟨q60, hq, H⟩ := bnd H
          refine zEv.call (k := 8) (as := [vR x0, vR x1, vI 5]) (L2 := [some (vR x0), some (vR x1)]) (st2 := []) (h2 := q51.2) (v := some (vI q60.1)) (h1 := q60.2) (st3 := [vI q60.1]) zm_X1_readItem rfl (and2 (and2 hg).2).2 rfl hg rfl zm_X1_readSingle rfl (by omega) (ev_X1_readSingle (by omega) hq) rfl ?_
          obtain ⟨hg, H⟩ := ifg H
          cases H
          exact zEv.ret zm_X1_readItem rfl (and2 hg).2 rfl hg
      · refine zEv.iteF (L2 := [some (vR x0), some (vR x1)]) (st2 := []) (h2 := q35.2) zm_X1_readItem rfl rfl rfl rfl (decide_eq_false hc) ?_
        obtain ⟨hg, H⟩ := ifg H
        obtain ⟨q44, hq, H⟩ := bnd H
        refine zEv.call (k := 8) (as := [vR x0, vR x1, vI 4]) (L2 := [some (vR x0), some (vR x1)]) (st2 := []) (h2 := q35.2) (v := some (vI q44.1)) (h1 := q44.2) (st3 := [vI q44.1]) zm_X1_readItem rfl (and2 (and2 hg).2).2 rfl hg rfl zm_X1_readSingle rfl (by omega) (ev_X1_readSingle (by omega) hq) rfl ?_
        obtain ⟨hg, H⟩ := ifg H
        cases H
        exact zEv.ret zm_X1_readItem rfl (and2 hg).2 rfl hg
    · refine zEv.iteF (L2 := [some (vR x0), some (vR x1)]) (st2 := []) (h2 := q19.2) zm_X1_readItem rfl rfl rfl rfl (decide_eq_false hc) ?_
      obtain ⟨hg, H⟩ := ifg H
      obtain ⟨q28, hq, H⟩ := bnd H
      refine zEv.call (k := 7) (as := [vR x0, vR x1, vI 2]) (L2 := [some (vR x0), some (vR x1)]) (st2 := []) (h2 := q19.2) (v := some (vI q28.1)) (h1 := q28.2) (st3 := [vI q28.1]) zm_X1_readItem rfl (and2 (and2 hg).2).2 rfl hg rfl zm_X1_readFalling rfl (by omega) (ev_X1_readFalling (by omega) hq) rfl ?_
      obtain ⟨hg, H⟩ := ifg H
      cases H
      exact zEv.ret zm_X1_readItem rfl (and2 hg).2 rfl hg
  · refine zEv.iteF (L2 := [some (vR x0), some (vR x1)]) (st2 := []) (h2 := q3.2) zm_X1_readItem rfl rfl rfl rfl (decide_eq_false hc) ?_
    obtain ⟨hg, H⟩ := ifg H
    obtain ⟨q12, hq, H⟩ := bnd H
    refine zEv.call (k := 7) (as := [vR x0, vR x1, vI 0]) (L2 := [some (vR x0), some (vR x1)]) (st2 := []) (h2 := q3.2) (v := some (vI q12.1)) (h1 := q12.2) (st3 := [vI q12.1]) zm_X1_readItem rfl (and2 (and2 hg).2).2 rfl hg rfl zm_X1_readFalling rfl (by omega) (ev_X1_readFalling (by omega) hq) rfl ?_
    obtain ⟨hg, H⟩ := ifg H
    cases H
    exact zEv.ret zm_X1_readItem rfl (and2 hg).2 rfl hg
def f_X7_readWind (x0 : zR) (x1 : Int32) (h : zM) : Option (Int32 × zM) := (if ¬ x1 = (-9999) then (if (true && (memN [7] (clR x0) && (memN [7] (clR x0) && (true && true)))) = true then (if (true && (memN [7] (clR x0) && true)) = true then (some (1, (wI (wI h (clR x0) (ixR x0) 0 1) (clR x0) (ixR x0) 1 (if x1 < (rI (wI h (clR x0) (ixR x0) 0 1) (clR x0) (ixR x0) 1) then x1 else (rI (wI h (clR x0) (ixR x0) 0 1) (clR x0) (ixR x0) 1))))) else none) else none) else (some (0, h)))
set_option maxRecDepth 20000 in
theorem ev_X7_readWind {d : Nat} (hd : 1 ≤ d) {x0 : zR} {x1 : Int32} {h : zM} {r : Int32 × zM} (H : f_X7_readWind x0 x1 h = some r) : zEv zmt d 42 0 ([some (vR x0), some (vI x1)], [], h, true) (some (vI r.1), r.2) := by
  rcases ifc H with ⟨hc, H⟩ | ⟨hc, H⟩
  · refine zEv.iteT (L2 := [some (vR x0), some (vI x1)]) (st2 := []) (h2 := h) zm_X7_readWind rfl rfl rfl rfl (decide_eq_true hc) ?_
    obtain ⟨hg, H⟩ := ifg H
    refine zEv.loc (L2 := [some (vR x0), some (vI x1)]) (st2 := [vI (if x1 < (rI (wI h (clR x0) (ixR x0) 0 1) (clR x0) (ixR x0) 1) then x1 else (rI (wI h (clR x0) (ixR x0) 0 1) (clR x0) (ixR x0) 1)), vR x0]) (h2 := (wI h (clR x0) (ixR x0) 0 1)) zm_X7_readWind rfl (and2 hg).2 rfl hg (fun _ => by omega) ?_
    obtain ⟨hg, H⟩ := ifg H
    cases H
    exact zEv.ret zm_X7_readWind rfl (and2 hg).2 rfl hg
  · refine zEv.iteF (L2 := [some (vR x0), some (vI x1)]) (st2 := []) (h2 := h) zm_X7_readWind rfl rfl rfl rfl (decide_eq_false hc) ?_
    cases H
    exact zEv.ret zm_X7_readWind rfl rfl rfl rfl
def f_X7_readHeight (x0 : zR) (x1 : Int32) (h : zM) : Option (Int32 × zM) := (if ¬ x1 = (-9999) then (if (true && (memN [7] (clR x0) && true)) = true then (if (true && (memN [7] (clR x0) && true)) = true then (some (1, (wI h (clR x0) (ixR x0) 2 (if x1 < (rI h (clR x0) (ixR x0) 2) then x1 else (rI h (clR x0) (ixR x0) 2))))) else none) else none) else (some (0, h)))
set_option maxRecDepth 20000 in
theorem ev_X7_readHeight {d : Nat} (hd : 1 ≤ d) {x0 : zR} {x1 : Int32} {h : zM} {r : Int32 × zM} (H : f_X7_readHeight x0 x1 h = some r) : zEv zmt d 43 0 ([some (vR x0), some (vI x1)], [], h, true) (some (vI r.1), r.2) := by
  rcases ifc H with ⟨hc, H⟩ | ⟨hc, H⟩
  · refine zEv.iteT (L2 := [some (vR x0), some (vI x1)]) (st2 := []) (h2 := h) zm_X7_readHeight rfl rfl rfl rfl (decide_eq_true hc) ?_
    obtain ⟨hg, H⟩ := ifg H
    refine zEv.loc (L2 := [some (vR x0), some (vI x1)]) (st2 := [vI (if x1 < (rI h (clR x0) (ixR x0) 2) then x1 else (rI h (clR x0) (ixR x0) 2)), vR x0]) (h2 := h) zm_X7_readHeight rfl (and2 hg).2 rfl hg (fun _ => by omega) ?_
    obtain ⟨hg, H⟩ := ifg H
    cases H
    exact zEv.ret zm_X7_readHeight rfl (and2 hg).2 rfl hg
  · refine zEv.iteF (L2 := [some (vR x0), some (vI x1)]) (st2 := []) (h2 := h) zm_X7_readHeight rfl rfl rfl rfl (decide_eq_false hc) ?_
    cases H
    exact zEv.ret zm_X7_readHeight rfl rfl rfl rfl
def f_X7_readYear (x0 : zR) (x1 : Int32) (h : zM) : Option (Int32 × zM) := (if ¬ x1 = (-9999) then (if (true && (memN [7] (clR x0) && true)) = true then (if (true && (memN [7] (clR x0) && true)) = true then (some (1, (wI h (clR x0) (ixR x0) 4 (if (rI h (clR x0) (ixR x0) 4) < x1 then x1 else (rI h (clR x0) (ixR x0) 4))))) else none) else none) else (some (0, h)))
set_option maxRecDepth 20000 in
theorem ev_X7_readYear {d : Nat} (hd : 1 ≤ d) {x0 : zR} {x1 : Int32} {h : zM} {r : Int32 × zM} (H : f_X7_readYear x0 x1 h = some r) : zEv zmt d 44 0 ([some (vR x0), some (vI x1)], [], h, true) (some (vI r.1), r.2) := by
  rcases ifc H with ⟨hc, H⟩ | ⟨hc, H⟩
  · refine zEv.iteT (L2 := [some (vR x0), some (vI x1)]) (st2 := []) (h2 := h) zm_X7_readYear rfl rfl rfl rfl (decide_eq_true hc) ?_
    obtain ⟨hg, H⟩ := ifg H
    refine zEv.loc (L2 := [some (vR x0), some (vI x1)]) (st2 := [vI (if (rI h (clR x0) (ixR x0) 4) < x1 then x1 else (rI h (clR x0) (ixR x0) 4)), vR x0]) (h2 := h) zm_X7_readYear rfl (and2 hg).2 rfl hg (fun _ => by omega) ?_
    obtain ⟨hg, H⟩ := ifg H
    cases H
    exact zEv.ret zm_X7_readYear rfl (and2 hg).2 rfl hg
  · refine zEv.iteF (L2 := [some (vR x0), some (vI x1)]) (st2 := []) (h2 := h) zm_X7_readYear rfl rfl rfl rfl (decide_eq_false hc) ?_
    cases H
    exact zEv.ret zm_X7_readYear rfl rfl rfl rfl
def f_X10_within_14 (h : zM) : Option (Int32 × zM) := (some (0, h))
set_option maxRecDepth 20000 in
theorem ev_X10_within_14 {d : Nat} (hd : 0 ≤ d) {w0 : Option zV} {w1 : Option zV} {w2 : Option zV} {h : zM} {r : Int32 × zM} (H : f_X10_within_14  h = some r) : zEv zmt d 100 14 ([w0, w1, w2], [], h, true) (some (vI r.1), r.2) := by
  refine zEv.loc (L2 := [w0, w1, w2]) (st2 := [vI 0]) (h2 := h) zm_X10_within rfl rfl rfl rfl (fun h => (nomatch h)) ?_
  cases H
  exact zEv.ret zm_X10_within rfl rfl rfl rfl
def f_X10_within (x0 : Int32) (x1 : Int32) (x2 : Int32) (h : zM) : Option (Int32 × zM) := (if x0 < x1 then (f_X10_within_14  h) else (if x2 < x0 then (f_X10_within_14  h) else (some (1, h))))
set_option maxRecDepth 20000 in
theorem ev_X10_within {d : Nat} (hd : 0 ≤ d) {x0 : Int32} {x1 : Int32} {x2 : Int32} {h : zM} {r : Int32 × zM} (H : f_X10_within x0 x1 x2 h = some r) : zEv zmt d 100 0 ([some (vI x0), some (vI x1), some (vI x2)], [], h, true) (some (vI r.1), r.2) := by
  rcases ifc H with ⟨hc, H⟩ | ⟨hc, H⟩
  · refine zEv.iteT (L2 := [some (vI x0), some (vI x1), some (vI x2)]) (st2 := []) (h2 := h) zm_X10_within rfl rfl rfl rfl (decide_eq_true hc) ?_
    exact ev_X10_within_14 (by omega)  H
  · refine zEv.iteF (L2 := [some (vI x0), some (vI x1), some (vI x2)]) (st2 := []) (h2 := h) zm_X10_within rfl rfl rfl rfl (decide_eq_false hc) ?_
    rcases ifc H with ⟨hc, H⟩ | ⟨hc, H⟩
    · refine zEv.iteT (L2 := [some (vI x0), some (vI x1), some (vI x2)]) (st2 := []) (h2 := h) zm_X10_within rfl rfl rfl rfl (decide_eq_true hc) ?_
      exact ev_X10_within_14 (by omega)  H
    · refine zEv.iteF (L2 := [some (vI x0), some (vI x1), some (vI x2)]) (st2 := []) (h2 := h) zm_X10_within rfl rfl rfl rfl (decide_eq_false hc) ?_
      refine zEv.loc (L2 := [some (vI x0), some (vI x1), some (vI x2)]) (st2 := [vI 1]) (h2 := h) zm_X10_within rfl rfl rfl rfl (fun h => (nomatch h)) ?_
      cases H
      exact zEv.ret zm_X10_within rfl rfl rfl rfl
def f_X7_readShoe (x0 : zR) (x1 : Int32) (h : zM) : Option (Int32 × zM) := ((f_X10_within x1 0 3 h).bind fun q3 => (if ¬ q3.1 = 0 then (if (true && (memN [7] (clR x0) && (memN [7] (clR x0) && (true && true)))) = true then (some (1, (wI q3.2 (clR x0) (ixR x0) 3 ((rI q3.2 (clR x0) (ixR x0) 3) ||| (1 <<< (x1 &&& 31)))))) else none) else (some (0, q3.2))))
set_option maxRecDepth 20000 in
theorem ev_X7_readShoe {d : Nat} (hd : 1 ≤ d) {x0 : zR} {x1 : Int32} {h : zM} {r : Int32 × zM} (H : f_X7_readShoe x0 x1 h = some r) : zEv zmt d 45 0 ([some (vR x0), some (vI x1)], [], h, true) (some (vI r.1), r.2) := by
  obtain ⟨q3, hq, H⟩ := bnd H
  refine zEv.call (k := 100) (as := [vI x1, vI 0, vI 3]) (L2 := [some (vR x0), some (vI x1)]) (st2 := []) (h2 := h) (v := some (vI q3.1)) (h1 := q3.2) (st3 := [vI q3.1]) zm_X7_readShoe rfl rfl rfl rfl rfl zm_X10_within rfl (by omega) (ev_X10_within (by omega) hq) rfl ?_
  rcases ifc H with ⟨hc, H⟩ | ⟨hc, H⟩
  · refine zEv.iteT (L2 := [some (vR x0), some (vI x1)]) (st2 := []) (h2 := q3.2) zm_X7_readShoe rfl rfl rfl rfl (decide_eq_true hc) ?_
    obtain ⟨hg, H⟩ := ifg H
    cases H
    exact zEv.ret zm_X7_readShoe rfl (and2 hg).2 rfl hg
  · refine zEv.iteF (L2 := [some (vR x0), some (vI x1)]) (st2 := []) (h2 := q3.2) zm_X7_readShoe rfl rfl rfl rfl (decide_eq_false hc) ?_
    cases H
    exact zEv.ret zm_X7_readShoe rfl rfl rfl rfl
def f_X7_readBare (x0 : zR) (x1 : zR) (h : zM) : Option (Int32 × zM) := (if (memN [5] (clR x1) && (true && true)) = true then ((f_X5_passes x1 107 h).bind fun q3 => (if q3.1 = 0 then (if (memN [5] (clR x1) && (true && true)) = true then ((f_X5_passes x1 100 q3.2).bind fun q19 => (if q19.1 = 0 then (if (memN [5] (clR x1) && (true && true)) = true then ((f_X5_passes x1 116 q19.2).bind fun q35 => (if q35.1 = 0 then (if (memN [5] (clR x1) && (true && true)) = true then ((f_X5_passes x1 118 q35.2).bind fun q51 => (if q51.1 = 0 then (some (0, q51.2)) else (if (true && (memN [7] (clR x0) && (true && true))) = true then (some (1, (wI q51.2 (clR x0) (ixR x0) 8 1))) else none))) else none) else (if (true && (memN [7] (clR x0) && (true && true))) = true then (some (1, (wI q35.2 (clR x0) (ixR x0) 7 1))) else none))) else none) else (if (true && (memN [7] (clR x0) && (true && true))) = true then (some (1, (wI q19.2 (clR x0) (ixR x0) 6 1))) else none))) else none) else (if (true && (memN [7] (clR x0) && (true && true))) = true then (some (1, (wI q3.2 (clR x0) (ixR x0) 5 1))) else none))) else none)
set_option maxRecDepth 20000 in
theorem ev_X7_readBare {d : Nat} (hd : 1 ≤ d) {x0 : zR} {x1 : zR} {h : zM} {r : Int32 × zM} (H : f_X7_readBare x0 x1 h = some r) : zEv zmt d 46 0 ([some (vR x0), some (vR x1)], [], h, true) (some (vI r.1), r.2) := by
  obtain ⟨hg, H⟩ := ifg H
  obtain ⟨q3, hq, H⟩ := bnd H
  refine zEv.call (k := 32) (as := [vR x1, vI 107]) (L2 := [some (vR x0), some (vR x1)]) (st2 := []) (h2 := h) (v := some (vI q3.1)) (h1 := q3.2) (st3 := [vI q3.1]) zm_X7_readBare rfl (and2 (and2 hg).2).2 rfl hg rfl zm_X5_passes rfl (by omega) (ev_X5_passes (by omega) hq) rfl ?_
  rcases ifc H with ⟨hc, H⟩ | ⟨hc, H⟩
  · refine zEv.iteT (L2 := [some (vR x0), some (vR x1)]) (st2 := []) (h2 := q3.2) zm_X7_readBare rfl rfl rfl rfl (decide_eq_true hc) ?_
    obtain ⟨hg, H⟩ := ifg H
    obtain ⟨q19, hq, H⟩ := bnd H
    refine zEv.call (k := 32) (as := [vR x1, vI 100]) (L2 := [some (vR x0), some (vR x1)]) (st2 := []) (h2 := q3.2) (v := some (vI q19.1)) (h1 := q19.2) (st3 := [vI q19.1]) zm_X7_readBare rfl (and2 (and2 hg).2).2 rfl hg rfl zm_X5_passes rfl (by omega) (ev_X5_passes (by omega) hq) rfl ?_
    rcases ifc H with ⟨hc, H⟩ | ⟨hc, H⟩
    · refine zEv.iteT (L2 := [some (vR x0), some (vR x1)]) (st2 := []) (h2 := q19.2) zm_X7_readBare rfl rfl rfl rfl (decide_eq_true hc) ?_
      obtain ⟨hg, H⟩ := ifg H
      obtain ⟨q35, hq, H⟩ := bnd H
      refine zEv.call (k := 32) (as := [vR x1, vI 116]) (L2 := [some (vR x0), some (vR x1)]) (st2 := []) (h2 := q19.2) (v := some (vI q35.1)) (h1 := q35.2) (st3 := [vI q35.1]) zm_X7_readBare rfl (and2 (and2 hg).2).2 rfl hg rfl zm_X5_passes rfl (by omega) (ev_X5_passes (by omega) hq) rfl ?_
      rcases ifc H with ⟨hc, H⟩ | ⟨hc, H⟩
      · refine zEv.iteT (L2 := [some (vR x0), some (vR x1)]) (st2 := []) (h2 := q35.2) zm_X7_readBare rfl rfl rfl rfl (decide_eq_true hc) ?_
        obtain ⟨hg, H⟩ := ifg H
        obtain ⟨q51, hq, H⟩ := bnd H
        refine zEv.call (k := 32) (as := [vR x1, vI 118]) (L2 := [some (vR x0), some (vR x1)]) (st2 := []) (h2 := q35.2) (v := some (vI q51.1)) (h1 := q51.2) (st3 := [vI q51.1]) zm_X7_readBare rfl (and2 (and2 hg).2).2 rfl hg rfl zm_X5_passes rfl (by omega) (ev_X5_passes (by omega) hq) rfl ?_
        rcases ifc H with ⟨hc, H⟩ | ⟨hc, H⟩
        · refine zEv.iteT (L2 := [some (vR x0), some (vR x1)]) (st2 := []) (h2 := q51.2) zm_X7_readBare rfl rfl rfl rfl (decide_eq_true hc) ?_
          cases H
          exact zEv.ret zm_X7_readBare rfl rfl rfl rfl
        · refine zEv.iteF (L2 := [some (vR x0), some (vR x1)]) (st2 := []) (h2 := q51.2) zm_X7_readBare rfl rfl rfl rfl (decide_eq_false hc) ?_
          obtain ⟨hg, H⟩ := ifg H
          cases H
          exact zEv.ret zm_X7_readBare rfl (and2 hg).2 rfl hg
      · refine zEv.iteF (L2 := [some (vR x0), some (vR x1)]) (st2 := []) (h2 := q35.2) zm_X7_readBare rfl rfl rfl rfl (decide_eq_false hc) ?_
        obtain ⟨hg, H⟩ := ifg H
        cases H
        exact zEv.ret zm_X7_readBare rfl (and2 hg).2 rfl hg
    · refine zEv.iteF (L2 := [some (vR x0), some (vR x1)]) (st2 := []) (h2 := q19.2) zm_X7_readBare rfl rfl rfl rfl (decide_eq_false hc) ?_
      obtain ⟨hg, H⟩ := ifg H
      cases H
      exact zEv.ret zm_X7_readBare rfl (and2 hg).2 rfl hg
  · refine zEv.iteF (L2 := [some (vR x0), some (vR x1)]) (st2 := []) (h2 := q3.2) zm_X7_readBare rfl rfl rfl rfl (decide_eq_false hc) ?_
    obtain ⟨hg, H⟩ := ifg H
    cases H
    exact zEv.ret zm_X7_readBare rfl (and2 hg).2 rfl hg
def f_X7_readItem (x0 : zR) (x1 : zR) (h : zM) : Option (Int32 × zM) := (if (memN [5] (clR x1) && (true && true)) = true then ((f_X5_passes x1 119 h).bind fun q3 => (if q3.1 = 0 then (if (memN [5] (clR x1) && (true && true)) = true then ((f_X5_passes x1 104 q3.2).bind fun q22 => (if q22.1 = 0 then (if (memN [5] (clR x1) && (true && true)) = true then ((f_X5_passes x1 121 q22.2).bind fun q41 => (if q41.1 = 0 then (if (memN [5] (clR x1) && (true && true)) = true then ((f_X5_passes x1 115 q41.2).bind fun q60 => (if q60.1 = 0 then (if (memN [7] (clR x0) && (true && true)) = true then ((f_X7_readBare x0 x1 q60.2).bind fun q78 => (if (isB q78.1 && true) = true then (some (q78.1, q78.2)) else none)) else none) else (if (memN [5] (clR x1) && (true && true)) = true then ((f_X5_figures x1 1 q60.2).bind fun q69 => (if (memN [7] (clR x0) && (true && true)) = true then ((f_X7_readShoe x0 q69.1 q69.2).bind fun q72 => (if (isB q72.1 && true) = true then (some (q72.1, q72.2)) else none)) else none)) else none))) else none) else (if (memN [5] (clR x1) && (true && true)) = true then ((f_X5_figures x1 2 q41.2).bind fun q50 => (if (memN [7] (clR x0) && (true && true)) = true then ((f_X7_readYear x0 q50.1 q50.2).bind fun q53 => (if (isB q53.1 && true) = true then (some (q53.1, q53.2)) else none)) else none)) else none))) else none) else (if (memN [5] (clR x1) && (true && true)) = true then ((f_X5_figures x1 2 q22.2).bind fun q31 => (if (memN [7] (clR x0) && (true && true)) = true then ((f_X7_readHeight x0 q31.1 q31.2).bind fun q34 => (if (isB q34.1 && true) = true then (some (q34.1, q34.2)) else none)) else none)) else none))) else none) else (if (memN [5] (clR x1) && (true && true)) = true then ((f_X5_figures x1 2 q3.2).bind fun q12 => (if (memN [7] (clR x0) && (true && true)) = true then ((f_X7_readWind x0 q12.1 q12.2).bind fun q15 => (if (isB q15.1 && true) = true then (some (q15.1, q15.2)) else none)) else none)) else none))) else none)
set_option maxRecDepth 20000 in
theorem ev_X7_readItem {d : Nat} (hd : 2 ≤ d) {x0 : zR} {x1 : zR} {h : zM} {r : Int32 × zM} (H : f_X7_readItem x0 x1 h = some r) : zEv zmt d 41 0 ([some (vR x0), some (vR x1)], [], h, true) (some (vI r.1), r.2) := by
  obtain ⟨hg, H⟩ := ifg H
  obtain ⟨q3, hq, H⟩ := bnd H
  refine zEv.call (k := 32) (as := [vR x1, vI 119]) (L2 := [some (vR x0), some (vR x1)]) (st2 := []) (h2 := h) (v := some (vI q3.1)) (h1 := q3.2) (st3 := [vI q3.1]) zm_X7_readItem rfl (and2 (and2 hg).2).2 rfl hg rfl zm_X5_passes rfl (by omega) (ev_X5_passes (by omega) hq) rfl ?_
  rcases ifc H with ⟨hc, H⟩ | ⟨hc, H⟩
  · refine zEv.iteT (L2 := [some (vR x0), some (vR x1)]) (st2 := []) (h2 := q3.2) zm_X7_readItem rfl rfl rfl rfl (decide_eq_true hc) ?_
    obtain ⟨hg, H⟩ := ifg H
    obtain ⟨q22, hq, H⟩ := bnd H
    refine zEv.call (k := 32) (as := [vR x1, vI 104]) (L2 := [some (vR x0), some (vR x1)]) (st2 := []) (h2 := q3.2) (v := some (vI q22.1)) (h1 := q22.2) (st3 := [vI q22.1]) zm_X7_readItem rfl (and2 (and2 hg).2).2 rfl hg rfl zm_X5_passes rfl (by omega) (ev_X5_passes (by omega) hq) rfl ?_
    rcases ifc H with ⟨hc, H⟩ | ⟨hc, H⟩
    · refine zEv.iteT (L2 := [some (vR x0), some (vR x1)]) (st2 := []) (h2 := q22.2) zm_X7_readItem rfl rfl rfl rfl (decide_eq_true hc) ?_
      obtain ⟨hg, H⟩ := ifg H
      obtain ⟨q41, hq, H⟩ := bnd H
      refine zEv.call (k := 32) (as := [vR x1, vI 121]) (L2 := [some (vR x0), some (vR x1)]) (st2 := []) (h2 := q22.2) (v := some (vI q41.1)) (h1 := q41.2) (st3 := [vI q41.1]) zm_X7_readItem rfl (and2 (and2 hg).2).2 rfl hg rfl zm_X5_passes rfl (by omega) (ev_X5_passes (by omega) hq) rfl ?_
      rcases ifc H with ⟨hc, H⟩ | ⟨hc, H⟩
      · refine zEv.iteT (L2 := [some (vR x0), some (vR x1)]) (st2 := []) (h2 := q41.2) zm_X7_readItem rfl rfl rfl rfl (decide_eq_true hc) ?_
        obtain ⟨hg, H⟩ := ifg H
        obtain ⟨q60, hq, H⟩ := bnd H
        refine zEv.call (k := 32) (as := [vR x1, vI 115]) (L2 := [some (vR x0), some (vR x1)]) (st2 := []) (h2 := q41.2) (v := some (vI q60.1)) (h1 := q60.2) (st3 := [vI q60.1]) zm_X7_readItem rfl (and2 (and2 hg).2).2 rfl hg rfl zm_X5_passes rfl (by omega) (ev_X5_passes (by omega) hq) rfl ?_
        rcases ifc H with ⟨hc, H⟩ | ⟨hc, H⟩
        · refine zEv.iteT (L2 := [some (vR x0), some (vR x1)]) (st2 := []) (h2 := q60.2) zm_X7_readItem rfl rfl rfl rfl (decide_eq_true hc) ?_
          obtain ⟨hg, H⟩ := ifg H
          obtain ⟨q78, hq, H⟩ := bnd H
          refine zEv.call (k := 46) (as := [vR x0, vR x1]) (L2 := [some (vR x0), some (vR x1)]) (st2 := []) (h2 := q60.2) (v := some (vI q78.1)) (h1 := q78.2) (st3 := [vI q78.1]) zm_X7_readItem rfl (and2 (and2 hg).2).2 rfl hg rfl zm_X7_readBare rfl (by omega) (ev_X7_readBare (by omega) hq) rfl ?_
          obtain ⟨hg, H⟩ := ifg H
          cases H
          exact zEv.ret zm_X7_readItem rfl (and2 hg).2 rfl hg
        · refine zEv.iteF (L2 := [some (vR x0), some (vR x1)]) (st2 := []) (h2 := q60.2) zm_X7_readItem rfl rfl rfl rfl (decide_eq_false hc) ?_
          obtain ⟨hg, H⟩ := ifg H
          obtain ⟨q69, hq, H⟩ := bnd H
          refine zEv.call (k := 33) (as := [vR x1, vI 1]) (L2 := [some (vR x0), some (vR x1)]) (st2 := [vR x0]) (h2 := q60.2) (v := some (vI q69.1)) (h1 := q69.2) (st3 := [vI q69.1, vR x0]) zm_X7_readItem rfl (and2 (and2 hg).2).2 rfl hg rfl zm_X5_figures rfl (by omega) (ev_X5_figures (by omega) hq) rfl ?_
          obtain ⟨hg, H⟩ := ifg H
          obtain ⟨q72, hq, H⟩ := bnd H
          refine zEv.call (k := 45) (as := [vR x0, vI q69.1]) (L2 := [some (vR x0), some (vR x1)]) (st2 := []) (h2 := q69.2) (v := some (vI q72.1)) (h1 := q72.2) (st3 := [vI q72.1]) zm_X7_readItem rfl (and2 (and2 hg).2).2 rfl hg rfl zm_X7_readShoe rfl (by omega) (ev_X7_readShoe (by omega) hq) rfl ?_
          obtain ⟨hg, H⟩ := ifg H
          cases H
          exact zEv.ret zm_X7_readItem rfl (and2 hg).2 rfl hg
      · refine zEv.iteF (L2 := [some (vR x0), some (vR x1)]) (st2 := []) (h2 := q41.2) zm_X7_readItem rfl rfl rfl rfl (decide_eq_false hc) ?_
        obtain ⟨hg, H⟩ := ifg H
        obtain ⟨q50, hq, H⟩ := bnd H
        refine zEv.call (k := 33) (as := [vR x1, vI 2]) (L2 := [some (vR x0), some (vR x1)]) (st2 := [vR x0]) (h2 := q41.2) (v := some (vI q50.1)) (h1 := q50.2) (st3 := [vI q50.1, vR x0]) zm_X7_readItem rfl (and2 (and2 hg).2).2 rfl hg rfl zm_X5_figures rfl (by omega) (ev_X5_figures (by omega) hq) rfl ?_
        obtain ⟨hg, H⟩ := ifg H
        obtain ⟨q53, hq, H⟩ := bnd H
        refine zEv.call (k := 44) (as := [vR x0, vI q50.1]) (L2 := [some (vR x0), some (vR x1)]) (st2 := []) (h2 := q50.2) (v := some (vI q53.1)) (h1 := q53.2) (st3 := [vI q53.1]) zm_X7_readItem rfl (and2 (and2 hg).2).2 rfl hg rfl zm_X7_readYear rfl (by omega) (ev_X7_readYear (by omega) hq) rfl ?_
        obtain ⟨hg, H⟩ := ifg H
        cases H
        exact zEv.ret zm_X7_readItem rfl (and2 hg).2 rfl hg
    · refine zEv.iteF (L2 := [some (vR x0), some (vR x1)]) (st2 := []) (h2 := q22.2) zm_X7_readItem rfl rfl rfl rfl (decide_eq_false hc) ?_
      obtain ⟨hg, H⟩ := ifg H
      obtain ⟨q31, hq, H⟩ := bnd H
      refine zEv.call (k := 33) (as := [vR x1, vI 2]) (L2 := [some (vR x0), some (vR x1)]) (st2 := [vR x0]) (h2 := q22.2) (v := some (vI q31.1)) (h1 := q31.2) (st3 := [vI q31.1, vR x0]) zm_X7_readItem rfl (and2 (and2 hg).2).2 rfl hg rfl zm_X5_figures rfl (by omega) (ev_X5_figures (by omega) hq) rfl ?_
      obtain ⟨hg, H⟩ := ifg H
      obtain ⟨q34, hq, H⟩ := bnd H
      refine zEv.call (k := 43) (as := [vR x0, vI q31.1]) (L2 := [some (vR x0), some (vR x1)]) (st2 := []) (h2 := q31.2) (v := some (vI q34.1)) (h1 := q34.2) (st3 := [vI q34.1]) zm_X7_readItem rfl (and2 (and2 hg).2).2 rfl hg rfl zm_X7_readHeight rfl (by omega) (ev_X7_readHeight (by omega) hq) rfl ?_
      obtain ⟨hg, H⟩ := ifg H
      cases H
      exact zEv.ret zm_X7_readItem rfl (and2 hg).2 rfl hg
  · refine zEv.iteF (L2 := [some (vR x0), some (vR x1)]) (st2 := []) (h2 := q3.2) zm_X7_readItem rfl rfl rfl rfl (decide_eq_false hc) ?_
    obtain ⟨hg, H⟩ := ifg H
    obtain ⟨q12, hq, H⟩ := bnd H
    refine zEv.call (k := 33) (as := [vR x1, vI 2]) (L2 := [some (vR x0), some (vR x1)]) (st2 := [vR x0]) (h2 := q3.2) (v := some (vI q12.1)) (h1 := q12.2) (st3 := [vI q12.1, vR x0]) zm_X7_readItem rfl (and2 (and2 hg).2).2 rfl hg rfl zm_X5_figures rfl (by omega) (ev_X5_figures (by omega) hq) rfl ?_
    obtain ⟨hg, H⟩ := ifg H
    obtain ⟨q15, hq, H⟩ := bnd H
    refine zEv.call (k := 42) (as := [vR x0, vI q12.1]) (L2 := [some (vR x0), some (vR x1)]) (st2 := []) (h2 := q12.2) (v := some (vI q15.1)) (h1 := q15.2) (st3 := [vI q15.1]) zm_X7_readItem rfl (and2 (and2 hg).2).2 rfl hg rfl zm_X7_readWind rfl (by omega) (ev_X7_readWind (by omega) hq) rfl ?_
    obtain ⟨hg, H⟩ := ifg H
    cases H
    exact zEv.ret zm_X7_readItem rfl (and2 hg).2 rfl hg
def f_X0_readAll_2 : Nat → zR → zR → Int32 → zM → Option (Int32 × zM)
  | 0 => fun _ _ _ _ => none
  | k + 1 => fun x0 x1 x2 h => (if 40 < x2 then (some ((-9999), h)) else (if (memN [5] (clR x1) && (true && true)) = true then ((f_X5_endsBehindBlanks x1 h).bind fun q9 => (if q9.1 = 0 then (if (memN [1, 7] (clR x0) && (true && true)) = true then (((if clR x0 = 1 then f_X1_readItem x0 x1 q9.2 else f_X7_readItem x0 x1 q9.2)).bind fun q19 => (if ¬ q19.1 = 0 then (f_X0_readAll_2 k x0 x1 (x2 + 1) q19.2) else (some ((-9999), q19.2)))) else none) else (some (x2, q9.2)))) else none))
set_option maxRecDepth 20000 in
theorem ev_X0_readAll_2 {d : Nat} (hd : 5 ≤ d) : ∀ (k : Nat) {x0 : zR} {x1 : zR} {x2 : Int32} {h : zM} {r : Int32 × zM}, f_X0_readAll_2 k x0 x1 x2 h = some r → zEv zmt d 4 2 ([some (vR x0), some (vR x1), some (vI x2)], [], h, true) (some (vI r.1), r.2) := by
  intro k
  induction k with
  | zero => intro x0 x1 x2 h r H; cases H
  | succ k ih =>
    intro x0 x1 x2 h r H
    rcases ifc H with ⟨hc, H⟩ | ⟨hc, H⟩
    · refine zEv.iteT (L2 := [some (vR x0), some (vR x1), some (vI x2)]) (st2 := []) (h2 := h) zm_X0_readAll rfl rfl rfl rfl (decide_eq_true hc) ?_
      cases H
      exact zEv.ret zm_X0_readAll rfl rfl rfl rfl
    · refine zEv.iteF (L2 := [some (vR x0), some (vR x1), some (vI x2)]) (st2 := []) (h2 := h) zm_X0_readAll rfl rfl rfl rfl (decide_eq_false hc) ?_
      obtain ⟨hg, H⟩ := ifg H
      obtain ⟨q9, hq, H⟩ := bnd H
      refine zEv.call (k := 31) (as := [vR x1]) (L2 := [some (vR x0), some (vR x1), some (vI x2)]) (st2 := []) (h2 := h) (v := some (vI q9.1)) (h1 := q9.2) (st3 := [vI q9.1]) zm_X0_readAll rfl (and2 (and2 hg).2).2 rfl hg rfl zm_X5_endsBehindBlanks rfl (by omega) (ev_X5_endsBehindBlanks (by omega) hq) rfl ?_
      rcases ifc H with ⟨hc, H⟩ | ⟨hc, H⟩
      · refine zEv.iteT (L2 := [some (vR x0), some (vR x1), some (vI x2)]) (st2 := []) (h2 := q9.2) zm_X0_readAll rfl rfl rfl rfl (decide_eq_true hc) ?_
        obtain ⟨hg, H⟩ := ifg H
        obtain ⟨q19, hq, H⟩ := bnd H
        rcases ifc hq with ⟨hcl, hq⟩ | ⟨hcl, hq⟩
        · refine zEv.call (k := 6) (as := [vR x0, vR x1]) (L2 := [some (vR x0), some (vR x1), some (vI x2)]) (st2 := []) (h2 := q9.2) (v := some (vI q19.1)) (h1 := q19.2) (st3 := [vI q19.1]) zm_X0_readAll rfl (and2 (and2 hg).2).2 rfl hg (by rw [hcl]; rfl) zm_X1_readItem rfl (by omega) (ev_X1_readItem (by omega) hq) rfl ?_
          rcases ifc H with ⟨hc, H⟩ | ⟨hc, H⟩
          · refine zEv.iteT (L2 := [some (vR x0), some (vR x1), some (vI x2)]) (st2 := []) (h2 := q19.2) zm_X0_readAll rfl rfl rfl rfl (decide_eq_true hc) ?_
            refine zEv.loc (L2 := [some (vR x0), some (vR x1), some (vI (x2 + 1))]) (st2 := []) (h2 := q19.2) zm_X0_readAll rfl rfl rfl rfl (fun h => (nomatch h)) ?_
            exact ih H
          · refine zEv.iteF (L2 := [some (vR x0), some (vR x1), some (vI x2)]) (st2 := []) (h2 := q19.2) zm_X0_readAll rfl rfl rfl rfl (decide_eq_false hc) ?_
            cases H
            exact zEv.ret zm_X0_readAll rfl rfl rfl rfl
        · refine zEv.call (k := 41) (as := [vR x0, vR x1]) (L2 := [some (vR x0), some (vR x1), some (vI x2)]) (st2 := []) (h2 := q9.2) (v := some (vI q19.1)) (h1 := q19.2) (st3 := [vI q19.1]) zm_X0_readAll rfl (and2 (and2 hg).2).2 rfl hg (by show (bif Nat.beq (clR x0) 1 then 6 else 41) = 41; rw [nbeqF hcl]; rfl) zm_X7_readItem rfl (by omega) (ev_X7_readItem (by omega) hq) rfl ?_
          rcases ifc H with ⟨hc, H⟩ | ⟨hc, H⟩
          · refine zEv.iteT (L2 := [some (vR x0), some (vR x1), some (vI x2)]) (st2 := []) (h2 := q19.2) zm_X0_readAll rfl rfl rfl rfl (decide_eq_true hc) ?_
            refine zEv.loc (L2 := [some (vR x0), some (vR x1), some (vI (x2 + 1))]) (st2 := []) (h2 := q19.2) zm_X0_readAll rfl rfl rfl rfl (fun h => (nomatch h)) ?_
            exact ih H
          · refine zEv.iteF (L2 := [some (vR x0), some (vR x1), some (vI x2)]) (st2 := []) (h2 := q19.2) zm_X0_readAll rfl rfl rfl rfl (decide_eq_false hc) ?_
            cases H
            exact zEv.ret zm_X0_readAll rfl rfl rfl rfl
      · refine zEv.iteF (L2 := [some (vR x0), some (vR x1), some (vI x2)]) (st2 := []) (h2 := q9.2) zm_X0_readAll rfl rfl rfl rfl (decide_eq_false hc) ?_
        cases H
        exact zEv.ret zm_X0_readAll rfl rfl rfl rfl
def f_X0_readAll (x0 : zR) (x1 : zR) (h : zM) : Option (Int32 × zM) := (f_X0_readAll_2  1000 x0 x1 0 h)
set_option maxRecDepth 20000 in
theorem ev_X0_readAll {d : Nat} (hd : 5 ≤ d) {w2 : Option zV} {x0 : zR} {x1 : zR} {h : zM} {r : Int32 × zM} (H : f_X0_readAll x0 x1 h = some r) : zEv zmt d 4 0 ([some (vR x0), some (vR x1), w2], [], h, true) (some (vI r.1), r.2) := by
  refine zEv.loc (L2 := [some (vR x0), some (vR x1), some (vI 0)]) (st2 := []) (h2 := h) zm_X0_readAll rfl rfl rfl rfl (fun h => (nomatch h)) ?_
  exact ev_X0_readAll_2 (by omega)  1000 H
def f_X1_init (x0 : zR) (h : zM) : Option (zM) := (if (memN [1] (clR x0) && (true && true)) = true then ((f_X0_init x0 h).bind fun q1 => (if (memN [1] (clR x0) && (true && true)) = true then (some (wR (nwM q1 20 10) (clR x0) (ixR x0) 0 (some (20, (cnM q1 20))))) else none)) else none)
set_option maxRecDepth 20000 in
theorem ev_X1_init {d : Nat} (hd : 2 ≤ d) {x0 : zR} {h : zM} {r : zM} (H : f_X1_init x0 h = some r) : zEv zmt d 5 0 ([some (vR x0)], [], h, true) (none, r) := by
  obtain ⟨hg, H⟩ := ifg H
  obtain ⟨q1, hq, H⟩ := bnd H
  refine zEv.call (k := 3) (as := [vR x0]) (L2 := [some (vR x0)]) (st2 := []) (h2 := h) (v := none) (h1 := q1) (st3 := []) zm_X1_init rfl (and2 (and2 hg).2).2 rfl hg rfl zm_X0_init rfl (by omega) (ev_X0_init (by omega) hq) rfl ?_
  obtain ⟨hg, H⟩ := ifg H
  cases H
  exact zEv.ret zm_X1_init rfl hg rfl hg
def f_X1_stepsGiven_15 : Nat → zR → Int32 → Int32 → Int32 → Int32 → Int32 → zM → Option (Int32 × zM)
  | 0 => fun _ _ _ _ _ _ _ => none
  | k + 1 => fun x0 x1 x2 x3 x4 x5 h => (if x2 < x5 then (some (x4, h)) else (if x3 ≤ 0 then (some (x4, h)) else (if (true && (!decide (x3 = 0) && (true && (ixOk 10 x1 && (memN [1] (clR x0) && (decide (rR h (clR x0) (ixR x0) 0 = (some (20, (ixR x0)))) && true)))))) = true then (f_X1_stepsGiven_15 k x0 x1 x2 x3 (x4 + ((rI h 20 (ixR x0) (Int32.toNatClampNeg x1)) - (x5 / x3))) (x5 + 1) h) else none)))
set_option maxRecDepth 20000 in
theorem ev_X1_stepsGiven_15 {d : Nat} (hd : 0 ≤ d) : ∀ (k : Nat) {x0 : zR} {x1 : Int32} {x2 : Int32} {x3 : Int32} {x4 : Int32} {x5 : Int32} {h : zM} {r : Int32 × zM}, f_X1_stepsGiven_15 k x0 x1 x2 x3 x4 x5 h = some r → zEv zmt d 10 15 ([some (vR x0), some (vI x1), some (vI x2), some (vI x3), some (vI x4), some (vI x5)], [], h, true) (some (vI r.1), r.2) := by
  intro k
  induction k with
  | zero => intro x0 x1 x2 x3 x4 x5 h r H; cases H
  | succ k ih =>
    intro x0 x1 x2 x3 x4 x5 h r H
    rcases ifc H with ⟨hc, H⟩ | ⟨hc, H⟩
    · refine zEv.iteT (L2 := [some (vR x0), some (vI x1), some (vI x2), some (vI x3), some (vI x4), some (vI x5)]) (st2 := []) (h2 := h) zm_X1_stepsGiven rfl rfl rfl rfl (decide_eq_true hc) ?_
      cases H
      exact zEv.ret zm_X1_stepsGiven rfl rfl rfl rfl
    · refine zEv.iteF (L2 := [some (vR x0), some (vI x1), some (vI x2), some (vI x3), some (vI x4), some (vI x5)]) (st2 := []) (h2 := h) zm_X1_stepsGiven rfl rfl rfl rfl (decide_eq_false hc) ?_
      rcases ifc H with ⟨hc, H⟩ | ⟨hc, H⟩
      · refine zEv.iteT (L2 := [some (vR x0), some (vI x1), some (vI x2), some (vI x3), some (vI x4), some (vI x5)]) (st2 := []) (h2 := h) zm_X1_stepsGiven rfl rfl rfl rfl (decide_eq_true hc) ?_
        cases H
        exact zEv.ret zm_X1_stepsGiven rfl rfl rfl rfl
      · refine zEv.iteF (L2 := [some (vR x0), some (vI x1), some (vI x2), some (vI x3), some (vI x4), some (vI x5)]) (st2 := []) (h2 := h) zm_X1_stepsGiven rfl rfl rfl rfl (decide_eq_false hc) ?_
        obtain ⟨hg, H⟩ := ifg H
        refine zEv.loc (L2 := [some (vR x0), some (vI x1), some (vI x2), some (vI x3), some (vI (x4 + ((rI h 20 (ixR x0) (Int32.toNatClampNeg x1)) - (x5 / x3)))), some (vI (x5 + 1))]) (st2 := []) (h2 := h) zm_X1_stepsGiven rfl hg rfl hg (fun h => (nomatch h)) ?_
        exact ih H
def f_X1_stepsGiven (x0 : zR) (x1 : Int32) (x2 : Int32) (h : zM) : Option (Int32 × zM) := (if (true && (true && (true && (true && (ixOk 10 (x1 + 1) && (memN [1] (clR x0) && (decide (rR h (clR x0) (ixR x0) 0 = (some (20, (ixR x0)))) && true))))))) = true then (f_X1_stepsGiven_15  1000 x0 x1 x2 (rI h 20 (ixR x0) (Int32.toNatClampNeg (x1 + 1))) 0 1 h) else none)
set_option maxRecDepth 20000 in
theorem ev_X1_stepsGiven {d : Nat} (hd : 0 ≤ d) {w3 : Option zV} {w4 : Option zV} {w5 : Option zV} {x0 : zR} {x1 : Int32} {x2 : Int32} {h : zM} {r : Int32 × zM} (H : f_X1_stepsGiven x0 x1 x2 h = some r) : zEv zmt d 10 0 ([some (vR x0), some (vI x1), some (vI x2), w3, w4, w5], [], h, true) (some (vI r.1), r.2) := by
  obtain ⟨hg, H⟩ := ifg H
  refine zEv.loc (L2 := [some (vR x0), some (vI x1), some (vI x2), some (vI (rI h 20 (ixR x0) (Int32.toNatClampNeg (x1 + 1)))), some (vI 0), some (vI 1)]) (st2 := []) (h2 := h) zm_X1_stepsGiven rfl hg rfl hg (fun h => (nomatch h)) ?_
  exact ev_X1_stepsGiven_15 (by omega)  1000 H
def f_X1_windGiven (x0 : zR) (x1 : Int32) (h : zM) : Option (Int32 × zM) := (if ¬ x1 = (-9999) then (if 0 ≤ x1 then (if (memN [1] (clR x0) && (true && true)) = true then ((f_X1_stepsGiven x0 0 x1 h).bind fun q27 => (some (q27.1, q27.2))) else none) else (if (true && (true && (memN [1] (clR x0) && (decide (rR h (clR x0) (ixR x0) 0 = (some (20, (ixR x0)))) && true)))) = true then (some ((x1 * (rI h 20 (ixR x0) (Int32.toNatClampNeg 0))), h)) else none)) else (some (0, h)))
set_option maxRecDepth 20000 in
theorem ev_X1_windGiven {d : Nat} (hd : 1 ≤ d) {x0 : zR} {x1 : Int32} {h : zM} {r : Int32 × zM} (H : f_X1_windGiven x0 x1 h = some r) : zEv zmt d 11 0 ([some (vR x0), some (vI x1)], [], h, true) (some (vI r.1), r.2) := by
  rcases ifc H with ⟨hc, H⟩ | ⟨hc, H⟩
  · refine zEv.iteT (L2 := [some (vR x0), some (vI x1)]) (st2 := []) (h2 := h) zm_X1_windGiven rfl rfl rfl rfl (decide_eq_true hc) ?_
    rcases ifc H with ⟨hc, H⟩ | ⟨hc, H⟩
    · refine zEv.iteT (L2 := [some (vR x0), some (vI x1)]) (st2 := []) (h2 := h) zm_X1_windGiven rfl rfl rfl rfl (decide_eq_true hc) ?_
      obtain ⟨hg, H⟩ := ifg H
      obtain ⟨q27, hq, H⟩ := bnd H
      refine zEv.call (k := 10) (as := [vR x0, vI 0, vI x1]) (L2 := [some (vR x0), some (vI x1)]) (st2 := []) (h2 := h) (v := some (vI q27.1)) (h1 := q27.2) (st3 := [vI q27.1]) zm_X1_windGiven rfl (and2 (and2 hg).2).2 rfl hg rfl zm_X1_stepsGiven rfl (by omega) (ev_X1_stepsGiven (by omega) hq) rfl ?_
      cases H
      exact zEv.ret zm_X1_windGiven rfl rfl rfl rfl
    · refine zEv.iteF (L2 := [some (vR x0), some (vI x1)]) (st2 := []) (h2 := h) zm_X1_windGiven rfl rfl rfl rfl (decide_eq_false hc) ?_
      obtain ⟨hg, H⟩ := ifg H
      refine zEv.loc (L2 := [some (vR x0), some (vI x1)]) (st2 := [vI (x1 * (rI h 20 (ixR x0) (Int32.toNatClampNeg 0)))]) (h2 := h) zm_X1_windGiven rfl hg rfl hg (fun h => (nomatch h)) ?_
      cases H
      exact zEv.ret zm_X1_windGiven rfl rfl rfl rfl
  · refine zEv.iteF (L2 := [some (vR x0), some (vI x1)]) (st2 := []) (h2 := h) zm_X1_windGiven rfl rfl rfl rfl (decide_eq_false hc) ?_
    cases H
    exact zEv.ret zm_X1_windGiven rfl rfl rfl rfl
def f_X1_allGiven (x0 : zR) (x1 : zR) (h : zM) : Option (Int32 × zM) := (if (memN [1] (clR x0) && (true && (memN [2] (clR x1) && (true && (memN [2] (clR x1) && true))))) = true then ((f_X1_windGiven x0 (rI h (clR x1) (ixR x1) 5) h).bind fun q10 => (if (memN [1] (clR x0) && (true && (memN [3] (clR (rR h (clR x1) (ixR x1) 2)) && true))) = true then ((f_X1_stepsGiven x0 2 (rI q10.2 (clR (rR h (clR x1) (ixR x1) 2)) (ixR (rR h (clR x1) (ixR x1) 2)) 0) q10.2).bind fun q19 => (if (true && (ixOk 10 (6 + (rI q19.2 (clR x1) (ixR x1) 6)) && (memN [2] (clR x1) && (memN [1] (clR x0) && (decide (rR q19.2 (clR x0) (ixR x0) 0 = (some (20, (ixR x0)))) && (true && (true && (memN [1] (clR x0) && (decide (rR q19.2 (clR x0) (ixR x0) 0 = (some (20, (ixR x0)))) && (memN [3] (clR (rR h (clR x1) (ixR x1) 2)) && (true && (true && (memN [1] (clR x0) && (decide (rR q19.2 (clR x0) (ixR x0) 0 = (some (20, (ixR x0)))) && (memN [3] (clR (rR h (clR x1) (ixR x1) 2)) && true))))))))))))))) = true then (some (((((q10.1 + q19.1) + (((rI q19.2 (clR (rR h (clR x1) (ixR x1) 2)) (ixR (rR h (clR x1) (ixR x1) 2)) 1) - 20) * (rI q19.2 20 (ixR x0) (Int32.toNatClampNeg 4)))) + ((rI q19.2 (clR (rR h (clR x1) (ixR x1) 2)) (ixR (rR h (clR x1) (ixR x1) 2)) 2) * (rI q19.2 20 (ixR x0) (Int32.toNatClampNeg 5)))) + (rI q19.2 20 (ixR x0) (Int32.toNatClampNeg (6 + (rI q19.2 (clR x1) (ixR x1) 6))))), q19.2)) else none)) else none)) else none)
set_option maxRecDepth 20000 in
theorem ev_X1_allGiven {d : Nat} (hd : 2 ≤ d) {w2 : Option zV} {x0 : zR} {x1 : zR} {h : zM} {r : Int32 × zM} (H : f_X1_allGiven x0 x1 h = some r) : zEv zmt d 12 0 ([some (vR x0), some (vR x1), w2], [], h, true) (some (vI r.1), r.2) := by
  obtain ⟨hg, H⟩ := ifg H
  obtain ⟨q10, hq, H⟩ := bnd H
  refine zEv.call (k := 11) (as := [vR x0, vI (rI h (clR x1) (ixR x1) 5)]) (L2 := [some (vR x0), some (vR x1), some (vR (rR h (clR x1) (ixR x1) 2))]) (st2 := []) (h2 := h) (v := some (vI q10.1)) (h1 := q10.2) (st3 := [vI q10.1]) zm_X1_allGiven rfl (and2 (and2 hg).2).2 rfl hg rfl zm_X1_windGiven rfl (by omega) (ev_X1_windGiven (by omega) hq) rfl ?_
  obtain ⟨hg, H⟩ := ifg H
  obtain ⟨q19, hq, H⟩ := bnd H
  refine zEv.call (k := 10) (as := [vR x0, vI 2, vI (rI q10.2 (clR (rR h (clR x1) (ixR x1) 2)) (ixR (rR h (clR x1) (ixR x1) 2)) 0)]) (L2 := [some (vR x0), some (vR x1), some (vR (rR h (clR x1) (ixR x1) 2))]) (st2 := [vI q10.1]) (h2 := q10.2) (v := some (vI q19.1)) (h1 := q19.2) (st3 := [vI q19.1, vI q10.1]) zm_X1_allGiven rfl (and2 (and2 hg).2).2 rfl hg rfl zm_X1_stepsGiven rfl (by omega) (ev_X1_stepsGiven (by omega) hq) rfl ?_
  obtain ⟨hg, H⟩ := ifg H
  cases H
  exact zEv.ret zm_X1_allGiven rfl hg rfl hg
def f_X1_valueAtHome (x0 : zR) (x1 : zR) (h : zM) : Option (Int32 × zM) := (if (memN [1] (clR x0) && (true && (memN [2] (clR x1) && true))) = true then ((f_X1_allGiven x0 x1 h).bind fun q6 => (if (memN [2] (clR x1) && true) = true then (some ((((rI h (clR x1) (ixR x1) 4) - q6.1) - (rI q6.2 (clR x1) (ixR x1) 8)), q6.2)) else none)) else none)
set_option maxRecDepth 20000 in
theorem ev_X1_valueAtHome {d : Nat} (hd : 3 ≤ d) {x0 : zR} {x1 : zR} {h : zM} {r : Int32 × zM} (H : f_X1_valueAtHome x0 x1 h = some r) : zEv zmt d 13 0 ([some (vR x0), some (vR x1)], [], h, true) (some (vI r.1), r.2) := by
  obtain ⟨hg, H⟩ := ifg H
  obtain ⟨q6, hq, H⟩ := bnd H
  refine zEv.call (k := 12) (as := [vR x0, vR x1]) (L2 := [some (vR x0), some (vR x1)]) (st2 := [vI (rI h (clR x1) (ixR x1) 4)]) (h2 := h) (v := some (vI q6.1)) (h1 := q6.2) (st3 := [vI q6.1, vI (rI h (clR x1) (ixR x1) 4)]) zm_X1_valueAtHome rfl (and2 (and2 hg).2).2 rfl hg rfl zm_X1_allGiven rfl (by omega) (ev_X1_allGiven (by omega) hq) rfl ?_
  obtain ⟨hg, H⟩ := ifg H
  cases H
  exact zEv.ret zm_X1_valueAtHome rfl hg rfl hg
def f_X1_leastAtHome_11 : Nat → zR → zR → Int32 → Int32 → Int32 → zM → Option (Int32 × zM)
  | 0 => fun _ _ _ _ _ _ => none
  | k + 1 => fun x0 x1 x2 x3 x4 h => (if (memN [2] (clR x1) && true) = true then (if ¬ (rI h (clR x1) (ixR x1) 5) = (-9999) then (some (x3, h)) else (if 20 < x4 then (some (x3, h)) else (if (memN [1] (clR x0) && (true && true)) = true then ((f_X1_windGiven x0 x4 h).bind fun q33 => (f_X1_leastAtHome_11 k x0 x1 x2 (if (x2 - q33.1) < x3 then (x2 - q33.1) else x3) (x4 + 1) q33.2)) else none))) else none)
set_option maxRecDepth 20000 in
theorem ev_X1_leastAtHome_11 {d : Nat} (hd : 4 ≤ d) : ∀ (k : Nat) {x0 : zR} {x1 : zR} {x2 : Int32} {x3 : Int32} {x4 : Int32} {h : zM} {r : Int32 × zM}, f_X1_leastAtHome_11 k x0 x1 x2 x3 x4 h = some r → zEv zmt d 14 11 ([some (vR x0), some (vR x1), some (vI x2), some (vI x3), some (vI x4)], [], h, true) (some (vI r.1), r.2) := by
  intro k
  induction k with
  | zero => intro x0 x1 x2 x3 x4 h r H; cases H
  | succ k ih =>
    intro x0 x1 x2 x3 x4 h r H
    obtain ⟨hg, H⟩ := ifg H
    rcases ifc H with ⟨hc, H⟩ | ⟨hc, H⟩
    · refine zEv.iteT (L2 := [some (vR x0), some (vR x1), some (vI x2), some (vI x3), some (vI x4)]) (st2 := []) (h2 := h) zm_X1_leastAtHome rfl hg rfl hg (decide_eq_true hc) ?_
      cases H
      exact zEv.ret zm_X1_leastAtHome rfl rfl rfl rfl
    · refine zEv.iteF (L2 := [some (vR x0), some (vR x1), some (vI x2), some (vI x3), some (vI x4)]) (st2 := []) (h2 := h) zm_X1_leastAtHome rfl hg rfl hg (decide_eq_false hc) ?_
      rcases ifc H with ⟨hc, H⟩ | ⟨hc, H⟩
      · refine zEv.iteT (L2 := [some (vR x0), some (vR x1), some (vI x2), some (vI x3), some (vI x4)]) (st2 := []) (h2 := h) zm_X1_leastAtHome rfl rfl rfl rfl (decide_eq_true hc) ?_
        cases H
        exact zEv.ret zm_X1_leastAtHome rfl rfl rfl rfl
      · refine zEv.iteF (L2 := [some (vR x0), some (vR x1), some (vI x2), some (vI x3), some (vI x4)]) (st2 := []) (h2 := h) zm_X1_leastAtHome rfl rfl rfl rfl (decide_eq_false hc) ?_
        obtain ⟨hg, H⟩ := ifg H
        obtain ⟨q33, hq, H⟩ := bnd H
        refine zEv.call (k := 11) (as := [vR x0, vI x4]) (L2 := [some (vR x0), some (vR x1), some (vI x2), some (vI x3), some (vI x4)]) (st2 := [vI x2, vI x3]) (h2 := h) (v := some (vI q33.1)) (h1 := q33.2) (st3 := [vI q33.1, vI x2, vI x3]) zm_X1_leastAtHome rfl (and2 (and2 hg).2).2 rfl hg rfl zm_X1_windGiven rfl (by omega) (ev_X1_windGiven (by omega) hq) rfl ?_
        refine zEv.loc (L2 := [some (vR x0), some (vR x1), some (vI x2), some (vI x3), some (vI x4)]) (st2 := [vI (if (x2 - q33.1) < x3 then (x2 - q33.1) else x3)]) (h2 := q33.2) zm_X1_leastAtHome rfl rfl rfl rfl (fun _ => by omega) ?_
        refine zEv.loc (L2 := [some (vR x0), some (vR x1), some (vI x2), some (vI (if (x2 - q33.1) < x3 then (x2 - q33.1) else x3)), some (vI (x4 + 1))]) (st2 := []) (h2 := q33.2) zm_X1_leastAtHome rfl rfl rfl rfl (fun h => (nomatch h)) ?_
        exact ih H
def f_X1_leastAtHome (x0 : zR) (x1 : zR) (h : zM) : Option (Int32 × zM) := (if (memN [1] (clR x0) && (true && true)) = true then ((f_X1_valueAtHome x0 x1 h).bind fun q2 => (f_X1_leastAtHome_11  1000 x0 x1 q2.1 q2.1 1 q2.2)) else none)
set_option maxRecDepth 20000 in
theorem ev_X1_leastAtHome {d : Nat} (hd : 4 ≤ d) {w2 : Option zV} {w3 : Option zV} {w4 : Option zV} {x0 : zR} {x1 : zR} {h : zM} {r : Int32 × zM} (H : f_X1_leastAtHome x0 x1 h = some r) : zEv zmt d 14 0 ([some (vR x0), some (vR x1), w2, w3, w4], [], h, true) (some (vI r.1), r.2) := by
  obtain ⟨hg, H⟩ := ifg H
  obtain ⟨q2, hq, H⟩ := bnd H
  refine zEv.call (k := 13) (as := [vR x0, vR x1]) (L2 := [some (vR x0), some (vR x1), w2, w3, w4]) (st2 := []) (h2 := h) (v := some (vI q2.1)) (h1 := q2.2) (st3 := [vI q2.1]) zm_X1_leastAtHome rfl (and2 (and2 hg).2).2 rfl hg rfl zm_X1_valueAtHome rfl (by omega) (ev_X1_valueAtHome (by omega) hq) rfl ?_
  refine zEv.loc (L2 := [some (vR x0), some (vR x1), some (vI q2.1), some (vI q2.1), some (vI 1)]) (st2 := []) (h2 := q2.2) zm_X1_leastAtHome rfl rfl rfl rfl (fun h => (nomatch h)) ?_
  exact ev_X1_leastAtHome_11 (by omega)  1000 H
