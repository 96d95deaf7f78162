def mx (g : Nat → Int32) : Nat → Nat → Int64 → Int64
  | 0, _, v => v
  | r + 1, k, v => mx g r (k + 1) (31 * v + (g k).toInt64)
def dg (h : zM) (v : Int64) : zM := wL h 11 0 31 v
theorem mix_dg (x : Int32) (h : zM) (v : Int64) : f_X11_mix x (dg h v) = some (dg h (31 * v + x.toInt64)) := by
  unfold f_X11_mix
  have e : rL (dg h v) 11 0 31 = v := by
    unfold dg
    rw [rL_wL, if_pos ⟨rfl, rfl, rfl⟩]
  rw [e]
  congr 1
  show (h.1, _, h.2.2) = (h.1, _, h.2.2)
  congr 2
  funext c i f
  show (if c = 11 ∧ i = 0 ∧ f = 31 then _ else rL (dg h v) c i f) = if c = 11 ∧ i = 0 ∧ f = 31 then _ else rL h c i f
  by_cases q : c = 11 ∧ i = 0 ∧ f = 31
  · rw [if_pos q, if_pos q]
  · rw [if_neg q, if_neg q]
    unfold dg
    rw [rL_wL, if_neg q]
theorem InvN.dg {h : zM} {np n : Nat} (H : InvN h np n) (v : Int64) : InvN (dg h v) np n := (Fr.rf.wL).N H
/-! counts -/
theorem cD1 {h : zM} {np n : Nat} (H : InvN h np n) : ∀ (r fuel k : Nat) (v : Int64), r + k = 8 → r < fuel → f_X10_digest_6 fuel v (nI k) h = f_X10_digest_33 1000 (mx (cv h n) r k v) 0 h
  | 0, fuel + 1, k, v, e, hf => by
    unfold f_X10_digest_6
    rw [if_pos (show (7 : Int32) < nI k from nI_lt (a := 7) (by omega) (by omega))]
    rfl
  | r + 1, fuel + 1, k, v, e, hf => by
    unfold f_X10_digest_6
    rw [if_neg (show ¬ (7 : Int32) < nI k from nI_nlt (a := 7) (by omega) (by decide)), cCnt H (show k < 8 by omega), Option.bind_some, nI_1]
    exact cD1 H r fuel (k + 1) _ (by omega) (by omega)
theorem mD1 {h : zM} {np n : Nat} (H : InvN h np n) : ∀ (r fuel k : Nat) (v : Int64), r + k = 8 → r < fuel → f_X11_digest_9 fuel (nI k) (dg h v) = (f_X11_mixMarks (dg h (mx (cv h n) r k v))).bind fun q => f_X11_digest_36 1000 0 q
  | 0, fuel + 1, k, v, e, hf => by
    unfold f_X11_digest_9
    rw [if_pos (show (7 : Int32) < nI k from nI_lt (a := 7) (by omega) (by omega))]
    rfl
  | r + 1, fuel + 1, k, v, e, hf => by
    have C : f_X11_counts (nI k) (dg h v) = some (cv h n k, dg h v) := mCnt (H.dg v) (show k < 8 by omega)
    unfold f_X11_digest_9
    rw [if_neg (show ¬ (7 : Int32) < nI k from nI_nlt (a := 7) (by omega) (by decide)), C, Option.bind_some, mix_dg, Option.bind_some, nI_1]
    exact mD1 H r fuel (k + 1) _ (by omega) (by omega)
/-! places -/
def plD (h : zM) : Nat → Nat → Int64 → Int64
  | 0, _, v => v
  | r + 1, p, v => plD h r (p + 1) (mx (fun f => rI h 38 0 (4 * p + f)) 4 0 v)
theorem part3 {h : zM} {p k : Nat} (hk : k < 4) : f_X3_part (some (3, p)) (nI k) h = some (rI h 3 p k, h) := by
  unfold f_X3_part
  obtain rfl | rfl | rfl | rfl : k = 0 ∨ k = 1 ∨ k = 2 ∨ k = 3 := by omega
  · simp [nI_0, clR_s, ixR_s, memT1]
  · simp [show nI 1 = 1 by decide, clR_s, ixR_s, memT1]
  · simp [show nI 2 = 2 by decide, clR_s, ixR_s, memT1]
  · simp [show nI 3 = 3 by decide, clR_s, ixR_s, memT1]
theorem mx3 {h : zM} {p : Nat} (P : PLk h p) : ∀ (r fuel k : Nat) (v : Int64), r + k = 4 → r < fuel → f_X3_mixInto_5 fuel (some (3, p)) v (nI k) h = some (mx (fun f => rI h 38 0 (4 * p + f)) r k v, h)
  | 0, fuel + 1, k, v, e, hf => by
    unfold f_X3_mixInto_5
    rw [if_pos (show (3 : Int32) < nI k from nI_lt (a := 3) (by omega) (by omega))]
    rfl
  | r + 1, fuel + 1, k, v, e, hf => by
    unfold f_X3_mixInto_5
    rw [if_neg (show ¬ (3 : Int32) < nI k from nI_nlt (a := 3) (by omega) (by decide)), clR_s, if_pos (by decide), part3 (show k < 4 by omega), Option.bind_some, nI_1, P.1 k (by omega)]
    exact mx3 P r fuel (k + 1) _ (by omega) (by omega)
theorem cD2 {h : zM} {np n : Nat} (H : InvN h np n) : ∀ (r fuel p : Nat) (v : Int64), r + p = np → r < fuel → f_X10_digest_33 fuel v (nI p) h = f_X10_digest_60 1000 (plD h r p v) 0 h
  | 0, fuel + 1, p, v, e, hf => by
    have p8 := H.P.1
    unfold f_X10_digest_33
    rw [H.P.2.1, if_pos (nI_le (by omega) (by omega))]
    rfl
  | r + 1, fuel + 1, p, v, e, hf => by
    have p8 := H.P.1
    have hp : p < np := by omega
    have x2 := H.X.2.2.1
    unfold f_X10_digest_33
    rw [H.P.2.1, if_neg (nI_ge hp (by omega))]
    have M : f_X3_mixInto (some (3, p)) v h = _ := mx3 (H.plk hp) 4 1000 0 v (by decide) (by decide)
    simp only [nI_clamp (show p < 2 ^ 31 by omega), (H.P.2.2.2.2.1 p hp).1, clR_s, memT1, x2, ixOk_nI (show p < 8 by omega) (by decide), decide_true, Bool.true_and, Bool.and_true, if_true, M, Option.bind_some, nI_1]
    exact cD2 H r fuel (p + 1) _ (by omega) (by omega)
theorem plD_mx {h : zM} : ∀ (r p : Nat) (v : Int64), plD h r p v = mx (fun k => rI h 38 0 k) (4 * r) (4 * p) v
  | 0, p, v => rfl
  | r + 1, p, v => by
    unfold plD
    rw [plD_mx r (p + 1)]
    show mx _ (4 * r) (4 * p + 4) _ = mx _ (4 * r + 4) (4 * p) v
    rfl
theorem mD2 {h : zM} {np n : Nat} (H : InvN h np n) : ∀ (r fuel k : Nat) (v : Int64), r + k = 4 * np → r < fuel → f_X11_mixMarks_2 fuel (nI k) (dg h v) = f_X11_mixMarks_30 1000 0 (dg h (mx (fun k => rI h 38 0 k) r k v))
  | 0, fuel + 1, k, v, e, hf => by
    have p8 := H.P.1
    have P : rI (dg h v) 11 0 11 = nI np := H.P.2.2.1
    unfold f_X11_mixMarks_2
    rw [P, lit 4, pk_mul, if_pos (nI_le (by omega) (by omega))]
    rfl
  | r + 1, fuel + 1, k, v, e, hf => by
    have p8 := H.P.1
    have P : rI (dg h v) 11 0 11 = nI np := H.P.2.2.1
    have m7 := (H.dg v).M.2.2.2.2.2.2.1
    have R : rI (dg h v) 38 0 k = rI h 38 0 k := rfl
    unfold f_X11_mixMarks_2
    rw [P, lit 4, pk_mul, if_neg (nI_ge (by omega) (by omega))]
    simp only [nI_clamp (show k < 2 ^ 31 by omega), m7, ixOk_nI (show k < 32 by omega) (by decide), decide_true, Bool.true_and, Bool.and_true, if_true, R, mix_dg, Option.bind_some, nI_1]
    exact mD2 H r fuel (k + 1) _ (by omega) (by omega)
/-! marks -/
def mkD (h : zM) : Nat → Nat → Int64 → Int64
  | 0, _, v => v
  | r + 1, m, v => mkD h r (m + 1) (31 * mx (fun f => rI h 39 0 (7 * m + f)) 7 0 v + (rI h 2 m 9).toInt64)
theorem mx2 {h : zM} {m : Nat} (E : MKe h m) : ∀ (r fuel k : Nat) (v : Int64), r + k = 7 → r < fuel → f_X2_mixInto_5 fuel (some (2, m)) v (nI k) h = some (31 * mx (fun f => rI h 39 0 (7 * m + f)) r k v + (rI h 2 m 9).toInt64, h)
  | 0, fuel + 1, k, v, e, hf => by
    unfold f_X2_mixInto_5
    rw [if_pos (show (6 : Int32) < nI k from nI_lt (a := 6) (by omega) (by omega)), clR_s, ixR_s, if_pos (by decide)]
    rfl
  | r + 1, fuel + 1, k, v, e, hf => by
    unfold f_X2_mixInto_5
    rw [if_neg (show ¬ (6 : Int32) < nI k from nI_nlt (a := 6) (by omega) (by decide)), clR_s, if_pos (by decide), part_X E (show k < 7 by omega), Option.bind_some, nI_1]
    exact mx2 E r fuel (k + 1) _ (by omega) (by omega)
theorem cD3 {h : zM} {np n : Nat} (H : InvN h np n) : ∀ (r fuel m : Nat) (v : Int64), r + m = n → r < fuel → f_X10_digest_60 fuel v (nI m) h = f_X10_digest_87 1000 (mkD h r m v) 0 h
  | 0, fuel + 1, m, v, e, hf => by
    have n40 := H.n40
    unfold f_X10_digest_60
    rw [H.k10, if_pos (nI_le (by omega) (by omega))]
    rfl
  | r + 1, fuel + 1, m, v, e, hf => by
    have n40 := H.n40
    have hm : m < n := by omega
    unfold f_X10_digest_60
    rw [H.k10, if_neg (nI_ge hm (by omega))]
    have M : f_X2_mixInto (some (2, m)) v h = _ := mx2 (H.e hm) 7 1000 0 v (by decide) (by decide)
    simp only [nI_clamp (show m < 2 ^ 31 by omega), H.m29 hm, clR_s, memT1, H.x3, ixOk_nI (show m < 40 by omega) (by decide), decide_true, Bool.true_and, Bool.and_true, if_true, M, Option.bind_some, nI_1]
    exact cD3 H r fuel (m + 1) _ (by omega) (by omega)
theorem tellsOf_k {h : zM} {np n m : Nat} (H : InvN h np n) (hm : m < n) : f_X11_tellsOf (nI m) (rI h 2 m 7) h = some (rI h 2 m 9, h) := by
  have hM := H.M
  have m40 := H.lt hm
  have m10 := hM.2.2.2.2.2.2.2.2.2.1
  have M : ∀ k : Int32, ¬ k = 1 → ¬ k = 4 → ¬ k = 0 → f_X11_tellsOf (nI m) k h = some (rI h 41 0 m, h) := fun k a b c => by
    unfold f_X11_tellsOf
    simp [a, b, c, m10, ixOk_nI m40 (by decide), nI_clamp (show m < 2 ^ 31 by omega)]
  rcases H.d hm with ⟨a, -, b⟩ | ⟨a | a, -, b⟩ | ⟨a | a, -, b⟩ | ⟨a, -, b⟩
  · rw [a, b, tellsOf_0]
  · rw [a, b, tellsOf_1 hM m40]
  · rw [a, b, tellsOf_4 hM m40]
  · rw [a, b, M 2 (by decide) (by decide) (by decide)]
  · rw [a, b, M 3 (by decide) (by decide) (by decide)]
  · rw [a, b, M 5 (by decide) (by decide) (by decide)]
theorem mD3i {h : zM} {np n m : Nat} (H : InvN h np n) (hm : m < n) (K : Int32 → zM → Option zM) : ∀ (r fuel k : Nat) (v : Int64), r + k = 7 → r < fuel → f_X11_mixMarks_40 K fuel (nI m) (nI k) (dg h v) = K (nI (m + 1)) (dg h (31 * mx (fun f => rI h 39 0 (7 * m + f)) r k v + (rI h 2 m 9).toInt64))
  | 0, fuel + 1, k, v, e, hf => by
    have T := tellsOf_k (H.dg v) hm
    have R9 : rI (dg h v) 2 m 9 = rI h 2 m 9 := rfl
    unfold f_X11_mixMarks_40
    rw [if_pos (show (6 : Int32) < nI k from nI_lt (a := 6) (by omega) (by omega)), mp0 (H.dg v) hm, Option.bind_some]
    dsimp only
    rw [T, Option.bind_some, mix_dg, Option.bind_some, nI_1, R9]
    rfl
  | r + 1, fuel + 1, k, v, e, hf => by
    have R : rI (dg h v) 39 0 (7 * m + k) = rI h 39 0 (7 * m + k) := rfl
    unfold f_X11_mixMarks_40
    rw [if_neg (show ¬ (6 : Int32) < nI k from nI_nlt (a := 6) (by omega) (by decide)), part_nI (H.dg v).M (H.lt hm) (show k < 7 by omega), Option.bind_some, R, mix_dg, Option.bind_some, nI_1]
    exact mD3i H hm K r fuel (k + 1) _ (by omega) (by omega)
theorem mD3 {h : zM} {np n : Nat} (H : InvN h np n) : ∀ (r fuel m : Nat) (v : Int64), r + m = n → r < fuel → f_X11_mixMarks_30 fuel (nI m) (dg h v) = f_X11_mixMarks_85 1000 0 (dg h (mkD h r m v))
  | 0, fuel + 1, m, v, e, hf => by
    have n40 := H.n40
    unfold f_X11_mixMarks_30
    rw [(H.dg v).mk13, if_pos (nI_le (by omega) (by omega))]
    rfl
  | r + 1, fuel + 1, m, v, e, hf => by
    have n40 := H.n40
    have hm : m < n := by omega
    unfold f_X11_mixMarks_30
    rw [(H.dg v).mk13, if_neg (nI_ge hm (by omega))]
    have I := mD3i H hm (f_X11_mixMarks_30 fuel) 7 1000 0 v (by decide) (by decide)
    rw [nI_0] at I
    rw [I]
    exact mD3 H r fuel (m + 1) _ (by omega) (by omega)
/-! laws -/
def lwD (h : zM) : Nat → Nat → Int64 → Int64
  | 0, _, v => v
  | r + 1, l, v => lwD h r (l + 1) (if rI h 43 0 l = 0 then 31 * v - 1 else mx (fun k => rI h 44 0 (10 * l + k)) 10 0 v)
theorem mx1 {h : zM} {l i : Nat} {N : Nat → Int32} (V : LV h l i N) : ∀ (r fuel k : Nat) (v : Int64), r + k = 10 → r < fuel → f_X1_mixInto_5 fuel (some (1, i)) v (nI k) h = some (mx (fun k => rI h 44 0 (10 * l + k)) r k v, h)
  | 0, fuel + 1, k, v, e, hf => by
    unfold f_X1_mixInto_5
    rw [if_pos (show (10 : Int32) ≤ nI k from nI_le (a := 10) (by omega) (by omega))]
    rfl
  | r + 1, fuel + 1, k, v, e, hf => by
    unfold f_X1_mixInto_5
    rw [if_neg (show ¬ (10 : Int32) ≤ nI k from nI_ge (b := 10) (by omega) (by decide))]
    simp only [clR_s, ixR_s, memT1, V.2.1, nI_clamp (show k < 2 ^ 31 by omega), ixOk_nI (show k < 10 by omega) (by decide), decide_true, Bool.true_and, Bool.and_true, if_true, V.c20 (show k < 10 by omega), nI_1]
    rw [← V.m44 (show k < 10 by omega)]
    exact mx1 V r fuel (k + 1) _ (by omega) (by omega)
theorem cD4 {h : zM} {np n : Nat} (H : InvN h np n) : ∀ (r fuel l : Nat) (v : Int64), r + l = 2 → r < fuel → f_X10_digest_87 fuel v (nI l) h = f_X10_digest_130 1000 (lwD h r l v) 0 h
  | 0, fuel + 1, l, v, e, hf => by
    unfold f_X10_digest_87
    rw [if_pos (show (2 : Int32) ≤ nI l from nI_le (a := 2) (by omega) (by omega))]
    rfl
  | r + 1, fuel + 1, l, v, e, hf => by
    have x4 := H.X.2.2.2.2.1
    unfold f_X10_digest_87 f_X10_digest_121
    rw [if_neg (show ¬ (2 : Int32) ≤ nI l from nI_ge (b := 2) (by omega) (by decide))]
    rw [show lwD h (r + 1) l v = lwD h r (l + 1) (if rI h 43 0 l = 0 then 31 * v - 1 else mx (fun k => rI h 44 0 (10 * l + k)) 10 0 v) from rfl]
    rcases H.L.lv (show l < 2 by omega) with ⟨a, b⟩ | ⟨i, N, V⟩
    · simp only [nI_clamp (show l < 2 ^ 31 by omega), x4, ixOk_nI (show l < 2 by omega) (by decide), decide_true, Bool.true_and, Bool.and_true, if_true, a, b, nI_1]
      exact cD4 H r fuel (l + 1) _ (by omega) (by omega)
    · have M : f_X1_mixInto (some (1, i)) v h = _ := mx1 V 10 1000 0 v (by decide) (by decide)
      have q : ¬ rI h 43 0 l = 0 := by
        rw [V.2.2.1]
        decide
      rw [if_neg q]
      simp only [nI_clamp (show l < 2 ^ 31 by omega), x4, ixOk_nI (show l < 2 by omega) (by decide), decide_true, Bool.true_and, Bool.and_true, if_true, V.1, clR_s, memT1, reduceCtorEq, if_false, M, Option.bind_some, nI_1]
      exact cD4 H r fuel (l + 1) _ (by omega) (by omega)
theorem mD4i {h : zM} {np n l : Nat} (H : InvN h np n) (hl : l < 2) (q : ¬ rI h 43 0 l = 0) (K : Int32 → zM → Option zM) : ∀ (r fuel k : Nat) (v : Int64), r + k = 10 → r < fuel → f_X11_mixMarks_92 K fuel (nI l) (nI k) (dg h v) = K (nI (l + 1)) (dg h (mx (fun k => rI h 44 0 (10 * l + k)) r k v))
  | 0, fuel + 1, k, v, e, hf => by
    have m26 := (H.dg v).M.2.2.2.2.2.2.2.2.2.2.2.1
    have q' : ¬ rI (dg h v) 43 0 l = 0 := q
    unfold f_X11_mixMarks_92 f_X11_mixMarks_128 f_X11_mixMarks_142
    rw [if_pos (show (10 : Int32) ≤ nI k from nI_le (a := 10) (by omega) (by omega))]
    simp only [nI_clamp (show l < 2 ^ 31 by omega), m26, ixOk_nI hl (by decide), decide_true, Bool.true_and, Bool.and_true, if_true, q', not_false_eq_true, nI_1]
    rfl
  | r + 1, fuel + 1, k, v, e, hf => by
    have m26 := (H.dg v).M.2.2.2.2.2.2.2.2.2.2.2.1
    have m27 := (H.dg v).M.2.2.2.2.2.2.2.2.2.2.2.2.1
    have q' : ¬ rI (dg h v) 43 0 l = 0 := q
    have R : rI (dg h v) 44 0 (10 * l + k) = rI h 44 0 (10 * l + k) := rfl
    have e0 : (10 : Int32) * nI l + nI k = nI (10 * l + k) := by rw [lit 10, pk_mul, nI_add]
    unfold f_X11_mixMarks_92
    rw [if_neg (show ¬ (10 : Int32) ≤ nI k from nI_ge (b := 10) (by omega) (by decide))]
    simp only [nI_clamp (show l < 2 ^ 31 by omega), m26, m27, ixOk_nI hl (by decide), decide_true, Bool.true_and, Bool.and_true, if_true, q', if_false, e0, ixOk_nI (show 10 * l + k < 20 by omega) (by decide), nI_clamp (show 10 * l + k < 2 ^ 31 by omega), R, mix_dg, Option.bind_some, nI_1]
    exact mD4i H hl q K r fuel (k + 1) _ (by omega) (by omega)
theorem m1_l : Int32.toInt64 (-1) = -1 := by decide
theorem mD4 {h : zM} {np n : Nat} (H : InvN h np n) : ∀ (r fuel l : Nat) (v : Int64), r + l = 2 → r < fuel → f_X11_mixMarks_85 fuel (nI l) (dg h v) = some (dg h (lwD h r l v))
  | 0, fuel + 1, l, v, e, hf => by
    unfold f_X11_mixMarks_85
    rw [if_pos (show (2 : Int32) ≤ nI l from nI_le (a := 2) (by omega) (by omega))]
    rfl
  | r + 1, fuel + 1, l, v, e, hf => by
    have hl : l < 2 := by omega
    unfold f_X11_mixMarks_85
    rw [if_neg (show ¬ (2 : Int32) ≤ nI l from nI_ge (b := 2) (by omega) (by decide))]
    rw [show lwD h (r + 1) l v = lwD h r (l + 1) (if rI h 43 0 l = 0 then 31 * v - 1 else mx (fun k => rI h 44 0 (10 * l + k)) 10 0 v) from rfl]
    by_cases q : rI h 43 0 l = 0
    · have m26 := (H.dg v).M.2.2.2.2.2.2.2.2.2.2.2.1
      have q' : rI (dg h v) 43 0 l = 0 := q
      have S : f_X11_mixMarks_92 (f_X11_mixMarks_85 fuel) (999 + 1) (nI l) 0 (dg h v) = f_X11_mixMarks_85 fuel (nI (l + 1)) (dg h (31 * v + Int32.toInt64 (-1))) := by
        unfold f_X11_mixMarks_92 f_X11_mixMarks_128 f_X11_mixMarks_142
        rw [if_neg (show ¬ (10 : Int32) ≤ 0 by decide)]
        simp only [nI_clamp (show l < 2 ^ 31 by omega), m26, ixOk_nI hl (by decide), decide_true, Bool.true_and, Bool.and_true, if_true, q', not_true_eq_false, if_false, mix_dg, Option.bind_some, nI_1]
      rw [if_pos q, Int64.sub_eq_add_neg, ← m1_l]
      rw [show f_X11_mixMarks_92 (f_X11_mixMarks_85 fuel) 1000 (nI l) 0 (dg h v) = _ from S]
      exact mD4 H r fuel (l + 1) _ (by omega) (by omega)
    · rw [if_neg q]
      have S := mD4i H hl q (f_X11_mixMarks_85 fuel) 10 1000 0 v (by decide) (by decide)
      rw [nI_0] at S
      rw [S]
      exact mD4 H r fuel (l + 1) _ (by omega) (by omega)
/-! rows, texts -/
def stD (s : Int32) (g : Nat → Int32) (v : Int64) : Int64 := if 0 ≤ s then mx g s.toNatClampNeg 0 (31 * v + s.toInt64) else 31 * v + Int32.toInt64 (-1)
def rwD (h : zM) : Nat → Nat → Int64 → Int64
  | 0, _, v => v
  | r + 1, q, v => rwD h r (q + 1) (stD (rI h 33 0 q) (fun i => rI h 34 0 (40 * q + i)) v)
def txD (h : zM) : Nat → Nat → Int64 → Int64
  | 0, _, v => v
  | r + 1, q, v => txD h r (q + 1) (stD (rI h 36 0 q) (fun i => rI h 37 0 (40 * q + i)) v)
theorem cell9_in {h : zM} (hX : XS h) {j k q : Nat} (hj : j ≤ 3) (hk : k ≤ 40) (hs : rI h 9 j 0 = nI k) (hq : q < k) : f_X9_cell (some (9, j)) (nI q) h = some (rI h 25 j q, h) := by
  have x9 := hX.2.2.2.2.2.2.2.2.2.2.2.1 j (by omega)
  have hin : (0 : Int32) ≤ nI q ∧ nI q < nI k := ⟨nI_pos' (by omega), nI_lt hq (by omega)⟩
  unfold f_X9_cell
  simp [clR_s, ixR_s, memT1, has_T (Or.inr rfl) hs hin, x9, ixOk_nI (show q < 40 by omega) (by decide), nI_clamp (show q < 2 ^ 31 by omega)]
theorem mx6 {h : zM} (hX : XS h) {j n : Nat} (hj : j ≤ 5) (hn : n ≤ 40) (hs : rI h 6 j 0 = nI n) {g : Nat → Int32} (hg : ∀ i, i < 40 → rI h 24 j i = g i) : ∀ (r fuel k : Nat) (v : Int64), r + k = n → r < fuel → f_X8_mixInto_15 fuel (some (6, j)) v (nI k) h = some (mx g r k v, h)
  | 0, fuel + 1, k, v, e, hf => by
    unfold f_X8_mixInto_15
    rw [clR_s, ixR_s, if_pos (by decide), hs, if_pos (nI_le (by omega) (by omega))]
    rfl
  | r + 1, fuel + 1, k, v, e, hf => by
    unfold f_X8_mixInto_15
    rw [clR_s, ixR_s, if_pos (by decide), hs, if_neg (nI_ge (by omega) (by omega)), if_pos (by decide), if_pos rfl, cell_in hX hj hn hs (show k < n by omega), Option.bind_some, nI_1, hg k (by omega)]
    exact mx6 hX hj hn hs hg r fuel (k + 1) _ (by omega) (by omega)
theorem mx9 {h : zM} (hX : XS h) {j n : Nat} (hj : j ≤ 3) (hn : n ≤ 40) (hs : rI h 9 j 0 = nI n) {g : Nat → Int32} (hg : ∀ i, i < 40 → rI h 25 j i = g i) : ∀ (r fuel k : Nat) (v : Int64), r + k = n → r < fuel → f_X8_mixInto_15 fuel (some (9, j)) v (nI k) h = some (mx g r k v, h)
  | 0, fuel + 1, k, v, e, hf => by
    unfold f_X8_mixInto_15
    rw [clR_s, ixR_s, if_pos (by decide), hs, if_pos (nI_le (by omega) (by omega))]
    rfl
  | r + 1, fuel + 1, k, v, e, hf => by
    unfold f_X8_mixInto_15
    rw [clR_s, ixR_s, if_pos (by decide), hs, if_neg (nI_ge (by omega) (by omega)), if_pos (by decide), if_neg (by decide), cell9_in hX hj hn hs (show k < n by omega), Option.bind_some, nI_1, hg k (by omega)]
    exact mx9 hX hj hn hs hg r fuel (k + 1) _ (by omega) (by omega)
theorem mx8_neg {h : zM} {c j : Nat} (hc : c = 6 ∨ c = 9) (hs : rI h c j 0 = -1) (v : Int64) : f_X8_mixInto (some (c, j)) v h = some (31 * v + Int32.toInt64 (-1), h) := by
  have S : f_X8_mixInto_15 (999 + 1) (some (c, j)) (31 * v + Int32.toInt64 (-1)) 0 h = some (31 * v + Int32.toInt64 (-1), h) := by
    unfold f_X8_mixInto_15
    rw [clR_s, ixR_s, hs, if_pos (by rcases hc with rfl | rfl <;> decide), if_pos (by decide)]
  unfold f_X8_mixInto
  rw [clR_s, ixR_s, hs, if_pos (by rcases hc with rfl | rfl <;> decide)]
  exact S
theorem cSt6 {h : zM} {np n q : Nat} (H : InvN h np n) (hq : q < 6) (v : Int64) : f_X8_mixInto (some (6, q)) v h = some (stD (rI h 33 0 q) (fun i => rI h 34 0 (40 * q + i)) v, h) := by
  obtain ⟨hs, hc⟩ := H.R q hq
  unfold stD
  rcases hs with ⟨a, b⟩ | ⟨k, hk, a, b⟩
  · rw [mx8_neg (Or.inl rfl) b, a, if_neg m9]
  · have M := mx6 H.X (show q ≤ 5 by omega) hk b (g := fun i => rI h 34 0 (40 * q + i)) hc k 1000 0 (31 * v + Int32.toInt64 (nI k)) (by omega) (by omega)
    unfold f_X8_mixInto
    rw [clR_s, ixR_s, b, if_pos (by decide), a, if_pos (nI_ge0 (by omega)), nI_clamp (show k < 2 ^ 31 by omega)]
    exact M
theorem cSt9 {h : zM} {np n q : Nat} (H : InvN h np n) (hq : q < 4) (v : Int64) : f_X8_mixInto (some (9, q)) v h = some (stD (rI h 36 0 q) (fun i => rI h 37 0 (40 * q + i)) v, h) := by
  obtain ⟨hs, hc⟩ := H.T q hq
  unfold stD
  rcases hs with ⟨a, b⟩ | ⟨k, hk, a, b⟩
  · rw [mx8_neg (Or.inr rfl) b, a, if_neg m9]
  · have M := mx9 H.X (show q ≤ 3 by omega) hk b (g := fun i => rI h 37 0 (40 * q + i)) hc k 1000 0 (31 * v + Int32.toInt64 (nI k)) (by omega) (by omega)
    unfold f_X8_mixInto
    rw [clR_s, ixR_s, b, if_pos (by decide), a, if_pos (nI_ge0 (by omega)), nI_clamp (show k < 2 ^ 31 by omega)]
    exact M
theorem cD5 {h : zM} {np n : Nat} (H : InvN h np n) : ∀ (r fuel q : Nat) (v : Int64), r + q = 6 → r < fuel → f_X10_digest_130 fuel v (nI q) h = f_X10_digest_155 1000 (rwD h r q v) 0 h
  | 0, fuel + 1, q, v, e, hf => by
    unfold f_X10_digest_130
    rw [if_pos (show (6 : Int32) ≤ nI q from nI_le (a := 6) (by omega) (by omega))]
    rfl
  | r + 1, fuel + 1, q, v, e, hf => by
    have x0 := H.X.1
    have x8 := H.X.2.2.2.2.2.2.2.2.1 q (by omega)
    unfold f_X10_digest_130
    rw [if_neg (show ¬ (6 : Int32) ≤ nI q from nI_ge (b := 6) (by omega) (by decide))]
    simp only [nI_clamp (show q < 2 ^ 31 by omega), x0, x8, ixOk_nI (show q < 6 by omega) (by decide), decide_true, Bool.true_and, Bool.and_true, if_true, cSt6 H (show q < 6 by omega), Option.bind_some, nI_1]
    exact cD5 H r fuel (q + 1) _ (by omega) (by omega)
theorem cD6 {h : zM} {np n : Nat} (H : InvN h np n) : ∀ (r fuel q : Nat) (v : Int64), r + q = 4 → r < fuel → f_X10_digest_155 fuel v (nI q) h = some (txD h r q v, h)
  | 0, fuel + 1, q, v, e, hf => by
    unfold f_X10_digest_155
    rw [if_pos (show (4 : Int32) ≤ nI q from nI_le (a := 4) (by omega) (by omega))]
    rfl
  | r + 1, fuel + 1, q, v, e, hf => by
    have x0 := H.X.2.1
    have x8 := H.X.2.2.2.2.2.2.2.2.2.2.1 q (by omega)
    unfold f_X10_digest_155
    rw [if_neg (show ¬ (4 : Int32) ≤ nI q from nI_ge (b := 4) (by omega) (by decide))]
    simp only [nI_clamp (show q < 2 ^ 31 by omega), x0, x8, ixOk_nI (show q < 4 by omega) (by decide), decide_true, Bool.true_and, Bool.and_true, if_true, cSt9 H (show q < 4 by omega), Option.bind_some, nI_1]
    exact cD6 H r fuel (q + 1) _ (by omega) (by omega)
theorem mD5i {h : zM} {np n q k0 : Nat} (H : InvN h np n) (hq : q < 6) (hk0 : k0 ≤ 40) (s : rI h 33 0 q = nI k0) (K : Int32 → zM → Option (Int64 × zM)) : ∀ (r fuel k : Nat) (v : Int64), r + k = k0 → r < fuel → f_X11_digest_67 K fuel (nI q) (nI k) (dg h v) = K (nI (q + 1)) (dg h (mx (fun i => rI h 34 0 (40 * q + i)) r k v))
  | 0, fuel + 1, k, v, e, hf => by
    have m2 := (H.dg v).M.2.1
    have s' : rI (dg h v) 33 0 q = nI k0 := s
    unfold f_X11_digest_67
    simp only [nI_clamp (show q < 2 ^ 31 by omega), m2, ixOk_nI hq (by decide), decide_true, Bool.true_and, Bool.and_true, if_true, s']
    rw [if_pos (nI_le (by omega) (by omega)), nI_1]
    rfl
  | r + 1, fuel + 1, k, v, e, hf => by
    have m2 := (H.dg v).M.2.1
    have m3 := (H.dg v).M.2.2.1
    have s' : rI (dg h v) 33 0 q = nI k0 := s
    have R : rI (dg h v) 34 0 (40 * q + k) = rI h 34 0 (40 * q + k) := rfl
    have e0 : (40 : Int32) * nI q + nI k = nI (40 * q + k) := by rw [lit 40, pk_mul, nI_add]
    have A : f_X11_rowAt (nI q) (nI k) (dg h v) = some (rI h 34 0 (40 * q + k), dg h v) := by
      unfold f_X11_rowAt
      simp [e0, m3, ixOk_nI (show 40 * q + k < 240 by omega) (by decide), nI_clamp (show 40 * q + k < 2 ^ 31 by omega), R]
    unfold f_X11_digest_67
    simp only [nI_clamp (show q < 2 ^ 31 by omega), m2, ixOk_nI hq (by decide), decide_true, Bool.true_and, Bool.and_true, if_true, s']
    rw [if_neg (nI_ge (by omega) (by omega)), A, Option.bind_some, mix_dg, Option.bind_some, nI_1]
    exact mD5i H hq hk0 s K r fuel (k + 1) _ (by omega) (by omega)
theorem mD6i {h : zM} {np n q k0 : Nat} (H : InvN h np n) (hq : q < 4) (hk0 : k0 ≤ 40) (s : rI h 36 0 q = nI k0) (K : Int32 → zM → Option (Int64 × zM)) : ∀ (r fuel k : Nat) (v : Int64), r + k = k0 → r < fuel → f_X11_digest_131 K fuel (nI q) (nI k) (dg h v) = K (nI (q + 1)) (dg h (mx (fun i => rI h 37 0 (40 * q + i)) r k v))
  | 0, fuel + 1, k, v, e, hf => by
    have m2 := (H.dg v).M.2.2.2.2.1
    have s' : rI (dg h v) 36 0 q = nI k0 := s
    unfold f_X11_digest_131
    simp only [nI_clamp (show q < 2 ^ 31 by omega), m2, ixOk_nI hq (by decide), decide_true, Bool.true_and, Bool.and_true, if_true, s']
    rw [if_pos (nI_le (by omega) (by omega)), nI_1]
    rfl
  | r + 1, fuel + 1, k, v, e, hf => by
    have m2 := (H.dg v).M.2.2.2.2.1
    have m3 := (H.dg v).M.2.2.2.2.2.1
    have s' : rI (dg h v) 36 0 q = nI k0 := s
    have R : rI (dg h v) 37 0 (40 * q + k) = rI h 37 0 (40 * q + k) := rfl
    have e0 : (40 : Int32) * nI q + nI k = nI (40 * q + k) := by rw [lit 40, pk_mul, nI_add]
    unfold f_X11_digest_131
    simp only [nI_clamp (show q < 2 ^ 31 by omega), m2, m3, ixOk_nI hq (by decide), decide_true, Bool.true_and, Bool.and_true, if_true, s', e0, ixOk_nI (show 40 * q + k < 160 by omega) (by decide), nI_clamp (show 40 * q + k < 2 ^ 31 by omega), R, mix_dg, Option.bind_some, nI_1]
    rw [if_neg (nI_ge (by omega) (by omega))]
    exact mD6i H hq hk0 s K r fuel (k + 1) _ (by omega) (by omega)
theorem mD5s {h : zM} {np n q : Nat} (H : InvN h np n) (hq : q < 6) (s : rI h 33 0 q = -9999) (K : Int32 → zM → Option (Int64 × zM)) (v : Int64) : f_X11_digest_67 K (999 + 1) (nI q) 0 (dg h v) = K (nI (q + 1)) (dg h v) := by
  have m2 := (H.dg v).M.2.1
  have s' : rI (dg h v) 33 0 q = -9999 := s
  unfold f_X11_digest_67
  simp only [nI_clamp (show q < 2 ^ 31 by omega), m2, ixOk_nI hq (by decide), decide_true, Bool.true_and, Bool.and_true, if_true, s', show (-9999 : Int32) ≤ 0 by decide, nI_1]
theorem mD6s {h : zM} {np n q : Nat} (H : InvN h np n) (hq : q < 4) (s : rI h 36 0 q = -9999) (K : Int32 → zM → Option (Int64 × zM)) (v : Int64) : f_X11_digest_131 K (999 + 1) (nI q) 0 (dg h v) = K (nI (q + 1)) (dg h v) := by
  have m2 := (H.dg v).M.2.2.2.2.1
  have s' : rI (dg h v) 36 0 q = -9999 := s
  unfold f_X11_digest_131
  simp only [nI_clamp (show q < 2 ^ 31 by omega), m2, ixOk_nI hq (by decide), decide_true, Bool.true_and, Bool.and_true, if_true, s', show (-9999 : Int32) ≤ 0 by decide, nI_1]
theorem mD5 {h : zM} {np n : Nat} (H : InvN h np n) : ∀ (r fuel q : Nat) (v : Int64), r + q = 6 → r < fuel → f_X11_digest_36 fuel (nI q) (dg h v) = f_X11_digest_101 1000 0 (dg h (rwD h r q v))
  | 0, fuel + 1, q, v, e, hf => by
    unfold f_X11_digest_36
    rw [if_pos (show (6 : Int32) ≤ nI q from nI_le (a := 6) (by omega) (by omega))]
    rfl
  | r + 1, fuel + 1, q, v, e, hf => by
    have hq : q < 6 := by omega
    have m2 := (H.dg v).M.2.1
    have R : rI (dg h v) 33 0 q = rI h 33 0 q := rfl
    unfold f_X11_digest_36 f_X11_digest_62
    rw [if_neg (show ¬ (6 : Int32) ≤ nI q from nI_ge (b := 6) (by omega) (by decide))]
    rw [show rwD h (r + 1) q v = rwD h r (q + 1) (stD (rI h 33 0 q) (fun i => rI h 34 0 (40 * q + i)) v) from rfl]
    simp only [nI_clamp (show q < 2 ^ 31 by omega), m2, ixOk_nI hq (by decide), decide_true, Bool.true_and, Bool.and_true, if_true, R, mix_dg, Option.bind_some]
    unfold stD
    rcases (H.R q hq).1 with ⟨a, -⟩ | ⟨k, hk, a, -⟩
    · rw [a, if_neg m9, if_neg m9]
      rw [show f_X11_digest_67 (f_X11_digest_36 fuel) 1000 (nI q) 0 (dg h (31 * v + Int32.toInt64 (-1))) = _ from mD5s H hq a (f_X11_digest_36 fuel) _]
      exact mD5 H r fuel (q + 1) _ (by omega) (by omega)
    · have g0 := nI_ge0 (k := k) (by omega)
      rw [a, if_pos g0, if_pos g0, nI_clamp (show k < 2 ^ 31 by omega)]
      have S := mD5i H hq hk a (f_X11_digest_36 fuel) k 1000 0 (31 * v + Int32.toInt64 (nI k)) (by omega) (by omega)
      rw [nI_0] at S
      rw [S]
      exact mD5 H r fuel (q + 1) _ (by omega) (by omega)
theorem mD6 {h : zM} {np n : Nat} (H : InvN h np n) : ∀ (r fuel q : Nat) (v : Int64), r + q = 4 → r < fuel → f_X11_digest_101 fuel (nI q) (dg h v) = some (txD h r q v, dg h (txD h r q v))
  | 0, fuel + 1, q, v, e, hf => by
    have E : rL (dg h v) 11 0 31 = v := by
      unfold dg
      rw [rL_wL, if_pos ⟨rfl, rfl, rfl⟩]
    unfold f_X11_digest_101
    rw [if_pos (show (4 : Int32) ≤ nI q from nI_le (a := 4) (by omega) (by omega)), E]
    rfl
  | r + 1, fuel + 1, q, v, e, hf => by
    have hq : q < 4 := by omega
    have m2 := (H.dg v).M.2.2.2.2.1
    have R : rI (dg h v) 36 0 q = rI h 36 0 q := rfl
    unfold f_X11_digest_101 f_X11_digest_126
    rw [if_neg (show ¬ (4 : Int32) ≤ nI q from nI_ge (b := 4) (by omega) (by decide))]
    rw [show txD h (r + 1) q v = txD h r (q + 1) (stD (rI h 36 0 q) (fun i => rI h 37 0 (40 * q + i)) v) from rfl]
    simp only [nI_clamp (show q < 2 ^ 31 by omega), m2, ixOk_nI hq (by decide), decide_true, Bool.true_and, Bool.and_true, if_true, R, mix_dg, Option.bind_some]
    unfold stD
    rcases (H.T q hq).1 with ⟨a, -⟩ | ⟨k, hk, a, -⟩
    · rw [a, if_neg m9, if_neg m9]
      rw [show f_X11_digest_131 (f_X11_digest_101 fuel) 1000 (nI q) 0 (dg h (31 * v + Int32.toInt64 (-1))) = _ from mD6s H hq a (f_X11_digest_101 fuel) _]
      exact mD6 H r fuel (q + 1) _ (by omega) (by omega)
    · have g0 := nI_ge0 (k := k) (by omega)
      rw [a, if_pos g0, if_pos g0, nI_clamp (show k < 2 ^ 31 by omega)]
      have S := mD6i H hq hk a (f_X11_digest_101 fuel) k 1000 0 (31 * v + Int32.toInt64 (nI k)) (by omega) (by omega)
      rw [nI_0] at S
      rw [S]
      exact mD6 H r fuel (q + 1) _ (by omega) (by omega)
theorem op_digest {h : zM} {np n : Nat} (hI : Inv h np n) : Okl h f_X10_digest f_X11_digest := by
  have H := hI.N
  have n40 := H.n40
  have p8 := H.P.1
  obtain ⟨-, -, -, -, -, hA, hF, hF2, -⟩ := id hI
  have A : ∃ d, f_X10_digest h = some (d, h) ∧ f_X11_digest h = some (d, dg h d) := by
    refine ⟨txD h 4 0 (rwD h 6 0 (lwD h 2 0 (mkD h n 0 (plD h np 0 (mx (cv h n) 8 0 17))))), ?_, ?_⟩
    · have a1 := cD1 H 8 1000 0 17 (by decide) (by decide)
      have a2 := cD2 H np 1000 0 (mx (cv h n) 8 0 17) (by omega) (by omega)
      have a3 := cD3 H n 1000 0 (plD h np 0 (mx (cv h n) 8 0 17)) (by omega) (by omega)
      have a4 := cD4 H 2 1000 0 (mkD h n 0 (plD h np 0 (mx (cv h n) 8 0 17))) (by decide) (by decide)
      have a5 := cD5 H 6 1000 0 (lwD h 2 0 (mkD h n 0 (plD h np 0 (mx (cv h n) 8 0 17)))) (by decide) (by decide)
      have a6 := cD6 H 4 1000 0 (rwD h 6 0 (lwD h 2 0 (mkD h n 0 (plD h np 0 (mx (cv h n) 8 0 17))))) (by decide) (by decide)
      rw [nI_0] at a1 a2 a3 a4 a5 a6
      unfold f_X10_digest
      rw [a1, a2, a3, a4, a5, a6]
    · have a1 := mD1 H 8 1000 0 17 (by decide) (by decide)
      have a2 := mD2 H (4 * np) 1000 0 (mx (cv h n) 8 0 17) (by omega) (by omega)
      have a3 := mD3 H n 1000 0 (plD h np 0 (mx (cv h n) 8 0 17)) (by omega) (by omega)
      have a4 := mD4 H 2 1000 0 (mkD h n 0 (plD h np 0 (mx (cv h n) 8 0 17))) (by decide) (by decide)
      have a5 := mD5 H 6 1000 0 (lwD h 2 0 (mkD h n 0 (plD h np 0 (mx (cv h n) 8 0 17)))) (by decide) (by decide)
      have a6 := mD6 H 4 1000 0 (rwD h 6 0 (lwD h 2 0 (mkD h n 0 (plD h np 0 (mx (cv h n) 8 0 17))))) (by decide) (by decide)
      rw [nI_0] at a1 a2 a3 a4 a5 a6
      have pm := plD_mx (h := h) np 0 (mx (cv h n) 8 0 17)
      rw [Nat.mul_zero] at pm
      unfold f_X11_digest
      rw [show wL h 11 0 31 17 = dg h 17 from rfl, a1]
      unfold f_X11_mixMarks
      rw [a2, ← pm, a3, a4, Option.bind_some, a5, a6]
  obtain ⟨d, e1, e2⟩ := A
  have F : Fr h (dg h d) := Fr.rf.wL
  have k : Kp h (dg h d) := Kp.rf.wLh
  exact ⟨d, h, dg h d, e1, e2, Scr.refl h, F.scr, ⟨np, n, (F.N H).inv (k.AS hA) (k.FR hF) (k.FD hF2)⟩, by show ncM h ≤ _; omega, by show nsM h ≤ _; omega⟩
