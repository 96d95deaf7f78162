theorem InvN.X {h : zM} {np n : Nat} (H : InvN h np n) : XS h := H.1
theorem InvN.M {h : zM} {np n : Nat} (H : InvN h np n) : MS h := H.2.1
theorem InvN.R {h : zM} {np n : Nat} (H : InvN h np n) : RW h := H.2.2.1
theorem InvN.T {h : zM} {np n : Nat} (H : InvN h np n) : TW h := H.2.2.2.1
theorem InvN.D {h : zM} {np n : Nat} (H : InvN h np n) : TD h := H.2.2.2.2.1
theorem InvN.P {h : zM} {np n : Nat} (H : InvN h np n) : PL h np := H.2.2.2.2.2.1
theorem InvN.K {h : zM} {np n : Nat} (H : InvN h np n) : MK h np n := H.2.2.2.2.2.2.1
theorem InvN.L {h : zM} {np n : Nat} (H : InvN h np n) : LW h := H.2.2.2.2.2.2.2
theorem InvN.m29 {h : zM} {np n k : Nat} (H : InvN h np n) (hk : k < n) : rR h 29 0 k = some (2, k) := (H.K.2.2.2.2.1 k hk).1
theorem InvN.e {h : zM} {np n k : Nat} (H : InvN h np n) (hk : k < n) : MKe h k := (H.K.2.2.2.2.1 k hk).2.2.2
theorem InvN.b {h : zM} {np n k : Nat} (H : InvN h np n) (hk : k < n) : MKb h np k := (H.K.2.2.2.2.1 k hk).2.2.1
theorem InvN.d {h : zM} {np n k : Nat} (H : InvN h np n) (hk : k < n) : KND h k := (H.K.2.2.2.2.1 k hk).2.1
theorem InvN.lt {h : zM} {np n k : Nat} (H : InvN h np n) (hk : k < n) : k < 40 := Nat.lt_of_lt_of_le hk H.K.1
/-- the number of a MARK's place -/
def pl (h : zM) (m : Nat) : Nat := ixR (rR h 2 m 2)
theorem InvN.pl {h : zM} {np n k : Nat} (H : InvN h np n) (hk : k < n) : pl h k < np ∧ rI h 2 k 1 = nI (pl h k) ∧ rR h 2 k 2 = some (3, pl h k) := by
  obtain ⟨-, ⟨p, a, b, c⟩, -⟩ := H.b hk
  have e : _root_.Jvm.Pilot.CThinAirLaw_law_r6155_d9ef75.pl h k = p := by
    unfold _root_.Jvm.Pilot.CThinAirLaw_law_r6155_d9ef75.pl
    rw [c]
    rfl
  rw [e]
  exact ⟨a, b, c⟩
theorem InvN.plk {h : zM} {np n p : Nat} (H : InvN h np n) (hp : p < np) : PLk h p := (H.P.2.2.2.2.1 p hp).2
theorem mp0 {h : zM} {np n k : Nat} (H : InvN h np n) (hk : k < n) : f_X11_part (nI k) 0 h = some (rI h 2 k 7, h) := by rw [part_0 H.M (H.lt hk), (H.e hk).1]
theorem mp1 {h : zM} {np n k : Nat} (H : InvN h np n) (hk : k < n) : f_X11_part (nI k) 1 h = some (rI h 2 k 0, h) := by rw [part_1 H.M (H.lt hk), (H.e hk).2.1]
theorem mp2 {h : zM} {np n k : Nat} (H : InvN h np n) (hk : k < n) : f_X11_part (nI k) 2 h = some (nI (pl h k), h) := by rw [part_2 H.M (H.lt hk), (H.e hk).2.2.1, (H.pl hk).2.1]
theorem mp3 {h : zM} {np n k : Nat} (H : InvN h np n) (hk : k < n) : f_X11_part (nI k) 3 h = some (rI h 2 k 3, h) := by rw [part_3 H.M (H.lt hk), (H.e hk).2.2.2.1]
theorem mp4 {h : zM} {np n k : Nat} (H : InvN h np n) (hk : k < n) : f_X11_part (nI k) 4 h = some (rI h 2 k 4, h) := by rw [part_4 H.M (H.lt hk), (H.e hk).2.2.2.2.1]
theorem mp5 {h : zM} {np n k : Nat} (H : InvN h np n) (hk : k < n) : f_X11_part (nI k) 5 h = some (rI h 2 k 5, h) := by rw [part_5 H.M (H.lt hk), (H.e hk).2.2.2.2.2.1]
theorem mp6 {h : zM} {np n k : Nat} (H : InvN h np n) (hk : k < n) : f_X11_part (nI k) 6 h = some (rI h 2 k 6, h) := by rw [part_6 H.M (H.lt hk), (H.e hk).2.2.2.2.2.2]
/-! the numbers of LAWS, in both records -/
def LV (h : zM) (l i : Nat) (N : Nat → Int32) : Prop := rR h 30 0 l = some (1, i) ∧ rR h 1 i 0 = some (20, i) ∧ rI h 43 0 l = 1 ∧ (∀ k, k < 10 → rI h 20 i k = N k) ∧ (∀ k, k < 10 → rI h 44 0 (10 * l + k) = N k) ∧ (∃ b, b ≤ 99 ∧ N 1 = nI b) ∧ (∃ b, b ≤ 99 ∧ N 3 = nI b) ∧ (∀ k, k < 10 → -99 ≤ (N k).toInt ∧ (N k).toInt ≤ 99) ∧ i < cnM h 1 ∧ i < cnM h 20
theorem LW.lv {h : zM} (H : LW h) {l : Nat} (hl : l < 2) : (rR h 30 0 l = none ∧ rI h 43 0 l = 0) ∨ ∃ i N, LV h l i N := by
  rcases H.2 l hl with q | ⟨i, a, b, c, d, e, g⟩
  · exact Or.inl q
  · refine Or.inr ⟨i, fun k => rI h 44 0 (10 * l + k), a, c, d, fun k hk => g k hk, fun _ _ => rfl, e.2.1, e.2.2, e.1, b, ?_⟩
    rw [← H.1]
    exact b
theorem LV.fr {h h' : zM} {l i : Nat} {N : Nat → Int32} (V : LV h l i N) (F : Fr h h') : LV h' l i N := by
  obtain ⟨a, b, c, d, e, g1, g2, g3, g4, g5⟩ := V
  have e1 := F.2.2.2.2.2.1
  have e2 := F.2.2.2.2.2.2.1
  exact ⟨by rw [F.R rfl (by decide)]; exact a, by rw [F.2.1 1 i 0 rfl (fun _ => g4)]; exact b, by rw [F.I rfl (by decide)]; exact c, fun k hk => by rw [F.1 20 i k rfl (fun _ => g5)]; exact d k hk, fun k hk => by rw [F.I rfl (by decide)]; exact e k hk, g1, g2, g3, by omega, by omega⟩
theorem LV.m44 {h : zM} {l i : Nat} {N : Nat → Int32} (V : LV h l i N) {k : Nat} (hk : k < 10) : rI h 44 0 (10 * l + k) = N k := V.2.2.2.2.1 k hk
theorem LV.c20 {h : zM} {l i : Nat} {N : Nat → Int32} (V : LV h l i N) {k : Nat} (hk : k < 10) : rI h 20 i k = N k := V.2.2.2.1 k hk
def stp (a b k : Int32) : Int32 := if b = 0 then 0 else a - k / b
def sts (a b : Int32) : Nat → Nat → Int32 → Int32
  | 0, _, s => s
  | r + 1, k, s => sts a b r (k + 1) (s + stp a b (nI k))
theorem sts_zero (a : Int32) : ∀ (r k : Nat) (s : Int32), sts a 0 r k s = s
  | 0, _, _ => rfl
  | r + 1, k, s => by
    unfold sts stp
    rw [if_pos rfl, Int32.add_zero]
    exact sts_zero a r (k + 1) s
theorem cSt_loop {h : zM} {l i it b n : Nat} {N : Nat → Int32} (V : LV h l i N) (hit : it < 9) (hb0 : 1 ≤ b) (hb : b ≤ 99) (hn : n ≤ 900) : ∀ (r fuel k : Nat) (s : Int32), r + k = n + 1 → r < fuel → f_X1_stepsGiven_15 fuel (some (1, i)) (nI it) (nI n) (nI b) s (nI k) h = some (sts (N it) (nI b) r k s, h)
  | 0, fuel + 1, k, s, e, hf => by
    unfold f_X1_stepsGiven_15
    rw [if_pos (nI_lt (by omega) (by omega))]
    rfl
  | r + 1, fuel + 1, k, s, e, hf => by
    have z : ¬ nI b = 0 := nI_ne0 (by omega) (by omega)
    unfold f_X1_stepsGiven_15
    rw [if_neg (nI_nlt (by omega) (by omega)), if_neg (nI_nle (by omega) (by omega))]
    simp only [z, decide_false, Bool.not_false, Bool.true_and, Bool.and_true, clR_s, ixR_s, memT1, V.2.1, decide_true, ixOk_nI (show it < 10 by omega) (by decide), if_true, nI_clamp (show it < 2 ^ 31 by omega), nI_1, V.c20 (show it < 10 by omega)]
    rw [cSt_loop V hit hb0 hb hn r fuel (k + 1) _ (by omega) (by omega)]
    rw [show sts (N it) (nI b) (r + 1) k s = sts (N it) (nI b) r (k + 1) (s + stp (N it) (nI b) (nI k)) from rfl]
    unfold stp
    rw [if_neg z]
theorem cSt {h : zM} {l i it b n : Nat} {N : Nat → Int32} (V : LV h l i N) (hit : it < 9) (hb : b ≤ 99) (hN : N (it + 1) = nI b) (hn : n ≤ 900) : f_X1_stepsGiven (some (1, i)) (nI it) (nI n) h = some (sts (N it) (N (it + 1)) n 1 0, h) := by
  unfold f_X1_stepsGiven
  simp only [clR_s, ixR_s, memT1, V.2.1, decide_true, Bool.true_and, Bool.and_true, nI_1, ixOk_nI (show it + 1 < 10 by omega) (by decide), if_true, nI_clamp (show it + 1 < 2 ^ 31 by omega), V.c20 (show it + 1 < 10 by omega), hN]
  by_cases b0 : b = 0
  · subst b0
    rw [nI_0, sts_zero]
    by_cases n0 : nI n < 1
    · unfold f_X1_stepsGiven_15
      rw [if_pos n0]
    · unfold f_X1_stepsGiven_15
      rw [if_neg n0, if_pos (by decide)]
  · exact cSt_loop V hit (by omega) hb hn n 1000 1 0 (by omega) (by omega)
theorem mStep {h : zM} {l i w : Nat} {N : Nat → Int32} (hM : MS h) (V : LV h l i N) (hl : l < 2) (hw : w < 2) (x : Int32) : f_X11_step (nI l) (nI w) x h = some (stp (N (2 * w)) (N (2 * w + 1)) x, h) := by
  have m := hM.2.2.2.2.2.2.2.2.2.2.2.2.1
  have e0 : (10 : Int32) * nI l + 2 * nI w = nI (10 * l + 2 * w) := by rw [lit 10, lit 2, pk_mul, pk_mul, nI_add]
  have e1 : nI (10 * l + 2 * w) + 1 = nI (10 * l + (2 * w + 1)) := by rw [nI_1]; rfl
  unfold f_X11_step stp
  simp only [e0, e1, m, decide_true, Bool.true_and, Bool.and_true, ixOk_nI (show 10 * l + (2 * w + 1) < 20 by omega) (by decide), ixOk_nI (show 10 * l + 2 * w < 20 by omega) (by decide), nI_clamp (show 10 * l + (2 * w + 1) < 2 ^ 31 by omega), nI_clamp (show 10 * l + 2 * w < 2 ^ 31 by omega), V.m44 (show 2 * w + 1 < 10 by omega), V.m44 (show 2 * w < 10 by omega), if_true]
  by_cases z : N (2 * w + 1) = 0
  · simp [z]
  · simp [z]
theorem mSt_loop {h : zM} {l i w n : Nat} {N : Nat → Int32} (hM : MS h) (V : LV h l i N) (hl : l < 2) (hw : w < 2) (hn : n ≤ 900) : ∀ (r fuel k : Nat) (s : Int32), r + k = n + 1 → r < fuel → f_X11_steps_6 fuel (nI l) (nI w) (nI n) s (nI k) h = some (sts (N (2 * w)) (N (2 * w + 1)) r k s, h)
  | 0, fuel + 1, k, s, e, hf => by
    unfold f_X11_steps_6
    rw [if_pos (nI_lt (by omega) (by omega))]
    rfl
  | r + 1, fuel + 1, k, s, e, hf => by
    unfold f_X11_steps_6
    rw [if_neg (nI_nlt (by omega) (by omega))]
    simp only [mStep hM V hl hw, Option.bind_some, nI_1]
    rw [mSt_loop hM V hl hw hn r fuel (k + 1) _ (by omega) (by omega)]
    rfl
theorem mSt {h : zM} {l i w n : Nat} {N : Nat → Int32} (hM : MS h) (V : LV h l i N) (hl : l < 2) (hw : w < 2) (hn : n ≤ 900) : f_X11_steps (nI l) (nI w) (nI n) h = some (sts (N (2 * w)) (N (2 * w + 1)) n 1 0, h) := mSt_loop hM V hl hw hn n 1000 1 0 (by omega) (by omega)
def bw (a b w : Int32) : Int32 := if w = -9999 then 0 else if 0 ≤ w then sts a b w.toNatClampNeg 1 0 else w * a
def wOk (w : Int32) : Prop := w = -9999 ∨ (-60 ≤ w.toInt ∧ w.toInt ≤ 60)
theorem wOk.nat {w : Int32} (q : wOk w) (h0 : 0 ≤ w) : ∃ k, k ≤ 60 ∧ w = nI k := by
  rcases q with rfl | q
  · exact absurd h0 (by decide)
  · rcases rng w 60 (by decide) with z | z | z
    · exact z
    · exact absurd h0 (Int32.not_le.mpr z)
    · rw [Int32.lt_iff_toInt_lt, nI_toInt (by decide)] at z
      omega
theorem cBw {h : zM} {l i : Nat} {N : Nat → Int32} (V : LV h l i N) {w : Int32} (q : wOk w) : f_X1_windGiven (some (1, i)) w h = some (bw (N 0) (N 1) w, h) := by
  unfold f_X1_windGiven bw
  by_cases h9 : w = -9999
  · simp [h9]
  · by_cases h0 : 0 ≤ w
    · obtain ⟨k, hk, rfl⟩ := q.nat h0
      obtain ⟨b, hb, e⟩ := V.2.2.2.2.2.1
      have s : f_X1_stepsGiven (some (1, i)) 0 (nI k) h = _ := cSt (it := 0) V (by decide) hb e (show k ≤ 900 by omega)
      simp [h9, h0, clR_s, memT1, s, nI_clamp (show k < 2 ^ 31 by omega)]
    · have c0 := V.c20 (show 0 < 10 by decide)
      simp [h9, h0, clR_s, ixR_s, memT1, V.2.1, c0]
theorem mBw {h : zM} {l i : Nat} {N : Nat → Int32} (hM : MS h) (V : LV h l i N) (hl : l < 2) {w : Int32} (q : wOk w) : f_X11_byWind (nI l) w h = some (bw (N 0) (N 1) w, h) := by
  have m := hM.2.2.2.2.2.2.2.2.2.2.2.2.1
  unfold f_X11_byWind bw
  by_cases h9 : w = -9999
  · simp [h9]
  · by_cases h0 : 0 ≤ w
    · obtain ⟨k, hk, rfl⟩ := q.nat h0
      have s : f_X11_steps (nI l) 0 (nI k) h = _ := mSt (w := 0) hM V hl (by decide) (show k ≤ 900 by omega)
      simp [h9, h0, s, nI_clamp (show k < 2 ^ 31 by omega)]
    · have c0 : rI h 44 0 (10 * l) = N 0 := V.m44 (show 0 < 10 by decide)
      have e0 : (10 : Int32) * nI l = nI (10 * l) := by rw [lit 10, pk_mul]
      simp [h9, h0, e0, m, c0, ixOk_nI (show 10 * l < 20 by omega) (by decide), nI_clamp (show 10 * l < 2 ^ 31 by omega)]
/-- what LAWS give a MARK with such a wind -/
def gv (h : zM) (N : Nat → Int32) (m : Nat) (w : Int32) : Int32 := bw (N 0) (N 1) w + sts (N 2) (N 3) (rI h 3 (pl h m) 0).toNatClampNeg 1 0 + (rI h 3 (pl h m) 1 - 20) * N 4 + rI h 3 (pl h m) 2 * N 5 + N (6 + (rI h 2 m 6).toNatClampNeg)
theorem InvN.w {h : zM} {np n k : Nat} (H : InvN h np n) (hk : k < n) : wOk (rI h 2 k 5) := (H.b hk).2.2.2.2.1
theorem cGv {h : zM} {np n l i m : Nat} {N : Nat → Int32} (H : InvN h np n) (hm : m < n) (V : LV h l i N) : f_X1_allGiven (some (1, i)) (some (2, m)) h = some (gv h N m (rI h 2 m 5), h) := by
  obtain ⟨p1, -, p3⟩ := H.pl hm
  obtain ⟨-, ⟨a, ha, ea⟩, -, -, -⟩ := H.plk p1
  obtain ⟨s, hs, es⟩ := (H.b hm).2.2.2.2.2.1
  obtain ⟨b, hb, e⟩ := V.2.2.2.2.2.2.1
  have st : f_X1_stepsGiven (some (1, i)) 2 (nI a) h = _ := cSt (it := 2) V (by decide) hb e (show a ≤ 900 by omega)
  have e6 : (6 : Int32) + nI s = nI (6 + s) := by rw [lit 6, nI_add]
  have c4 := V.c20 (show 4 < 10 by decide)
  have c5 := V.c20 (show 5 < 10 by decide)
  have c6 := V.c20 (show 6 + s < 10 by omega)
  unfold f_X1_allGiven gv
  simp [clR_s, ixR_s, memT1, cBw V (H.w hm), p3, ea, es, st, e6, ixOk_nI (show 6 + s < 10 by omega) (by decide), nI_clamp (show 6 + s < 2 ^ 31 by omega), nI_clamp (show s < 2 ^ 31 by omega), nI_clamp (show a < 2 ^ 31 by omega), V.2.1, c4, c5, c6]
theorem mGv {h : zM} {np n l i m : Nat} {N : Nat → Int32} (H : InvN h np n) (hm : m < n) (hl : l < 2) (V : LV h l i N) {w : Int32} (q : wOk w) : f_X11_givesWith (nI l) (nI m) w h = some (gv h N m w, h) := by
  have hM := H.M
  have m7 := hM.2.2.2.2.2.2.1
  have m27 := hM.2.2.2.2.2.2.2.2.2.2.2.2.1
  have p8 := H.P.1
  obtain ⟨p1, -, p3⟩ := H.pl hm
  obtain ⟨f, ⟨a, ha, ea⟩, -, fl, -⟩ := H.plk p1
  obtain ⟨s, hs, es⟩ := (H.b hm).2.2.2.2.2.1
  have st : f_X11_steps (nI l) 1 (nI a) h = _ := mSt (w := 1) hM V hl (by decide) (show a ≤ 900 by omega)
  generalize hp : pl h m = p at p1 p3 f ea fl
  have f0 : rI h 38 0 (4 * p) = rI h 3 p 0 := (f 0 (by decide)).symm
  have f1 := f 1 (by decide)
  have f2 := f 2 (by decide)
  have k0 : (4 : Int32) * nI p = nI (4 * p) := by rw [lit 4, pk_mul]
  have k1 : nI (4 * p) + 1 = nI (4 * p + 1) := nI_1 _
  have k2 : nI (4 * p) + 2 = nI (4 * p + 2) := by rw [lit 2, nI_add]
  have j0 : (10 : Int32) * nI l = nI (10 * l) := by rw [lit 10, pk_mul]
  have j4 : nI (10 * l) + 4 = nI (10 * l + 4) := by rw [lit 4, nI_add]
  have j5 : nI (10 * l) + 5 = nI (10 * l + 5) := by rw [lit 5, nI_add]
  have j6 : nI (10 * l) + 6 = nI (10 * l + 6) := by rw [lit 6, nI_add]
  have j7 : nI (10 * l + 6) + nI s = nI (10 * l + (6 + s)) := by rw [nI_add, Nat.add_assoc]
  have c4 := V.m44 (show 4 < 10 by decide)
  have c5 := V.m44 (show 5 < 10 by decide)
  have c6 := V.m44 (show 6 + s < 10 by omega)
  have R : ∀ s0, f_X11_givesWith_64 (nI l) (nI m) w (nI (4 * p)) ((rI h 3 p 1 - 20) * N 4) s0 h = some (bw (N 0) (N 1) w + sts (N 2) (N 3) a 1 0 + (rI h 3 p 1 - 20) * N 4 + s0 + N (6 + s), h) := by
    intro s0
    unfold f_X11_givesWith_64
    simp [mBw hM V hl q, m7, m27, ixOk_nI (show 4 * p < 32 by omega) (by decide), nI_clamp (show 4 * p < 2 ^ 31 by omega), f0, ea, st, mp6 H hm, es, j0, j6, j7, ixOk_nI (show 10 * l + (6 + s) < 20 by omega) (by decide), nI_clamp (show 10 * l + (6 + s) < 2 ^ 31 by omega), c6]
  have G : gv h N m w = bw (N 0) (N 1) w + sts (N 2) (N 3) a 1 0 + (rI h 3 p 1 - 20) * N 4 + rI h 3 p 2 * N 5 + N (6 + s) := by
    unfold gv
    rw [hp, ea, es, nI_clamp (show s < 2 ^ 31 by omega), nI_clamp (show a < 2 ^ 31 by omega)]
  rw [G]
  unfold f_X11_givesWith
  simp only [mp2 H hm, hp, Option.bind_some, k0, k1, k2, j0, j4, j5, m7, m27, decide_true, Bool.true_and, Bool.and_true, if_true, ixOk_nI (show 4 * p + 2 < 32 by omega) (by decide), ixOk_nI (show 4 * p + 1 < 32 by omega) (by decide), ixOk_nI (show 10 * l + 4 < 20 by omega) (by decide), ixOk_nI (show 10 * l + 5 < 20 by omega) (by decide), nI_clamp (show 4 * p + 2 < 2 ^ 31 by omega), nI_clamp (show 4 * p + 1 < 2 ^ 31 by omega), nI_clamp (show 10 * l + 4 < 2 ^ 31 by omega), nI_clamp (show 10 * l + 5 < 2 ^ 31 by omega), ← f1, ← f2, c4, c5, R]
  rcases fl with e | e
  · simp [e]
  · simp [e]
/-- what a MARK would have been at home, with such a wind -/
def hmv (h : zM) (N : Nat → Int32) (m : Nat) (w : Int32) : Int32 := rI h 2 m 4 - gv h N m w - rI h 2 m 8
theorem cHm {h : zM} {np n l i m : Nat} {N : Nat → Int32} (H : InvN h np n) (hm : m < n) (V : LV h l i N) : f_X1_valueAtHome (some (1, i)) (some (2, m)) h = some (hmv h N m (rI h 2 m 5), h) := by
  unfold f_X1_valueAtHome hmv
  simp [clR_s, ixR_s, memT1, cGv H hm V]
theorem mHm {h : zM} {np n l i m : Nat} {N : Nat → Int32} (H : InvN h np n) (hm : m < n) (hl : l < 2) (V : LV h l i N) {w : Int32} (q : wOk w) : f_X11_homeWith (nI l) (nI m) w h = some (hmv h N m w, h) := by
  have m9 := H.M.2.2.2.2.2.2.2.2.1
  have m40 := H.lt hm
  have e : ∀ k, rI h 2 m 7 = k → ((1 : Int32) ≤ k ∧ k ≤ 4) → rI h 40 0 m = rI h 2 m 8 → f_X11_homeWith (nI l) (nI m) w h = some (hmv h N m w, h) := by
    intro k e1 e2 e3
    unfold f_X11_homeWith hmv
    simp [mp4 H hm, mGv H hm hl V q, mp0 H hm, e1, in_T e2, m9, ixOk_nI m40 (by decide), nI_clamp (show m < 2 ^ 31 by omega), e3]
  have e' : ∀ k, rI h 2 m 7 = k → ¬ ((1 : Int32) ≤ k ∧ k ≤ 4) → rI h 2 m 8 = 0 → f_X11_homeWith (nI l) (nI m) w h = some (hmv h N m w, h) := by
    intro k e1 e2 e3
    unfold f_X11_homeWith hmv
    simp [mp4 H hm, mGv H hm hl V q, mp0 H hm, e1, in_F e2, e3]
  rcases H.d hm with ⟨a, b, -⟩ | ⟨a | a, b, -⟩ | ⟨a | a, b, -⟩ | ⟨a, b, -⟩
  · exact e' 0 a (by decide) b
  · exact e 1 a (by decide) b.symm
  · exact e 4 a (by decide) b.symm
  · exact e 2 a (by decide) b.symm
  · exact e 3 a (by decide) b.symm
  · exact e' 5 a (by decide) b
