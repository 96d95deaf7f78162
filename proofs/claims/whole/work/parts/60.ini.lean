theorem rR_wR_nf {h : zM} {c i f : Nat} {v : zR} {c' i' f' : Nat} (hc : ¬ (c = c' ∧ f = f')) : rR (wR h c i f v) c' i' f' = rR h c' i' f' := by
  rw [rR_wR, if_neg]
  exact fun q => hc ⟨q.1.symm, q.2.2.symm⟩
theorem modR {h : zM} {C I F : Nat} (h1 : C < 32) (h2 : C ≠ 11) : rR (modN h) C I F = rR h C I F := by
  unfold modN
  rw [rR_wR_ne (by omega), rR_nw_ne (by omega), rR_wR_ne (by omega), rR_nw_ne (by omega), rR_wR_ne (by omega), rR_nw_ne (by omega), rR_wR_ne (by omega), rR_nw_ne (by omega), rR_wR_ne (by omega), rR_nw_ne (by omega), rR_wR_ne (by omega), rR_nw_ne (by omega), rR_wR_ne (by omega), rR_nw_ne (by omega), rR_wR_ne (by omega), rR_nw_ne (by omega), rR_wR_ne (by omega), rR_nw_ne (by omega), rR_wR_ne (by omega), rR_nw_ne (by omega), rR_wR_ne (by omega), rR_nw_ne (by omega), rR_wR_ne (by omega), rR_nw_ne (by omega), rR_wR_ne (by omega), rR_nw_ne (by omega), rR_wR_ne (by omega), rR_nw_ne (by omega), rR_wL, rR_wR_ne (by omega), rR_nw_ne (by omega)]
theorem modI {h : zM} {C I F : Nat} (h1 : C < 32) : rI (modN h) C I F = rI h C I F := by
  unfold modN
  rw [rI_wR, rI_nw_ne (by omega), rI_wR, rI_nw_ne (by omega), rI_wR, rI_nw_ne (by omega), rI_wR, rI_nw_ne (by omega), rI_wR, rI_nw_ne (by omega), rI_wR, rI_nw_ne (by omega), rI_wR, rI_nw_ne (by omega), rI_wR, rI_nw_ne (by omega), rI_wR, rI_nw_ne (by omega), rI_wR, rI_nw_ne (by omega), rI_wR, rI_nw_ne (by omega), rI_wR, rI_nw_ne (by omega), rI_wR, rI_nw_ne (by omega), rI_wR, rI_nw_ne (by omega), rI_wL, rI_wR, rI_nw_ne (by omega)]
theorem modC {h : zM} {C : Nat} (h1 : C < 32) : cnM (modN h) C = cnM h C := by
  unfold modN
  rw [cn_wR, cn_nw_ne (by omega), cn_wR, cn_nw_ne (by omega), cn_wR, cn_nw_ne (by omega), cn_wR, cn_nw_ne (by omega), cn_wR, cn_nw_ne (by omega), cn_wR, cn_nw_ne (by omega), cn_wR, cn_nw_ne (by omega), cn_wR, cn_nw_ne (by omega), cn_wR, cn_nw_ne (by omega), cn_wR, cn_nw_ne (by omega), cn_wR, cn_nw_ne (by omega), cn_wR, cn_nw_ne (by omega), cn_wR, cn_nw_ne (by omega), cn_wR, cn_nw_ne (by omega), cn_wL, cn_wR, cn_nw_ne (by omega)]
theorem modL {h : zM} {C I F : Nat} (h1 : C < 32) (h2 : ¬ (C = 11 ∧ F = 4)) : rL (modN h) C I F = rL h C I F := by
  unfold modN
  rw [rL_wR, rL_nw_ne (by omega), rL_wR, rL_nw_ne (by omega), rL_wR, rL_nw_ne (by omega), rL_wR, rL_nw_ne (by omega), rL_wR, rL_nw_ne (by omega), rL_wR, rL_nw_ne (by omega), rL_wR, rL_nw_ne (by omega), rL_wR, rL_nw_ne (by omega), rL_wR, rL_nw_ne (by omega), rL_wR, rL_nw_ne (by omega), rL_wR, rL_nw_ne (by omega), rL_wR, rL_nw_ne (by omega), rL_wR, rL_nw_ne (by omega), rL_wR, rL_nw_ne (by omega), rL_wL, if_neg (fun z => h2 ⟨z.1, z.2.2⟩), rL_wR, rL_nw_ne (by omega)]
theorem modL4 {h : zM} : rL (modN h) 11 0 4 = 1 := by
  unfold modN
  rw [rL_wR, rL_nw_ne (by omega), rL_wR, rL_nw_ne (by omega), rL_wR, rL_nw_ne (by omega), rL_wR, rL_nw_ne (by omega), rL_wR, rL_nw_ne (by omega), rL_wR, rL_nw_ne (by omega), rL_wR, rL_nw_ne (by omega), rL_wR, rL_nw_ne (by omega), rL_wR, rL_nw_ne (by omega), rL_wR, rL_nw_ne (by omega), rL_wR, rL_nw_ne (by omega), rL_wR, rL_nw_ne (by omega), rL_wR, rL_nw_ne (by omega), rL_wR, rL_nw_ne (by omega), rL_wL, if_pos ⟨rfl, rfl, rfl⟩]
theorem modR_32 {h : zM} (h0 : cnM h 32 = 0) : rR (modN h) 11 0 1 = some (32, 0) := by
  unfold modN
  rw [rR_wR_nf (by decide), rR_nw_ne (by decide), rR_wR_nf (by decide), rR_nw_ne (by decide), rR_wR_nf (by decide), rR_nw_ne (by decide), rR_wR_nf (by decide), rR_nw_ne (by decide), rR_wR_nf (by decide), rR_nw_ne (by decide), rR_wR_nf (by decide), rR_nw_ne (by decide), rR_wR_nf (by decide), rR_nw_ne (by decide), rR_wR_nf (by decide), rR_nw_ne (by decide), rR_wR_nf (by decide), rR_nw_ne (by decide), rR_wR_nf (by decide), rR_nw_ne (by decide), rR_wR_nf (by decide), rR_nw_ne (by decide), rR_wR_nf (by decide), rR_nw_ne (by decide), rR_wR_nf (by decide), rR_nw_ne (by decide), rR_wR_nf (by decide), rR_nw_ne (by decide), rR_wL, rR_wR, if_pos ⟨rfl, rfl, rfl⟩, h0]
theorem modI_32 {h : zM} (h0 : cnM h 32 = 0) (F : Nat) : rI (modN h) 32 0 F = 0 := by
  unfold modN
  rw [rI_wR, rI_nw_ne (by decide), rI_wR, rI_nw_ne (by decide), rI_wR, rI_nw_ne (by decide), rI_wR, rI_nw_ne (by decide), rI_wR, rI_nw_ne (by decide), rI_wR, rI_nw_ne (by decide), rI_wR, rI_nw_ne (by decide), rI_wR, rI_nw_ne (by decide), rI_wR, rI_nw_ne (by decide), rI_wR, rI_nw_ne (by decide), rI_wR, rI_nw_ne (by decide), rI_wR, rI_nw_ne (by decide), rI_wR, rI_nw_ne (by decide), rI_wR, rI_nw_ne (by decide), rI_wL, rI_wR, rI_nw, if_pos]
  refine ⟨rfl, ?_⟩
  rw [h0]
theorem modR_33 {h : zM} (h0 : cnM h 33 = 0) : rR (modN h) 11 0 6 = some (33, 0) := by
  unfold modN
  rw [rR_wR_nf (by decide), rR_nw_ne (by decide), rR_wR_nf (by decide), rR_nw_ne (by decide), rR_wR_nf (by decide), rR_nw_ne (by decide), rR_wR_nf (by decide), rR_nw_ne (by decide), rR_wR_nf (by decide), rR_nw_ne (by decide), rR_wR_nf (by decide), rR_nw_ne (by decide), rR_wR_nf (by decide), rR_nw_ne (by decide), rR_wR_nf (by decide), rR_nw_ne (by decide), rR_wR_nf (by decide), rR_nw_ne (by decide), rR_wR_nf (by decide), rR_nw_ne (by decide), rR_wR_nf (by decide), rR_nw_ne (by decide), rR_wR_nf (by decide), rR_nw_ne (by decide), rR_wR_nf (by decide), rR_nw_ne (by decide), rR_wR, if_pos ⟨rfl, rfl, rfl⟩, h0]
theorem modI_33 {h : zM} (h0 : cnM h 33 = 0) (F : Nat) : rI (modN h) 33 0 F = 0 := by
  unfold modN
  rw [rI_wR, rI_nw_ne (by decide), rI_wR, rI_nw_ne (by decide), rI_wR, rI_nw_ne (by decide), rI_wR, rI_nw_ne (by decide), rI_wR, rI_nw_ne (by decide), rI_wR, rI_nw_ne (by decide), rI_wR, rI_nw_ne (by decide), rI_wR, rI_nw_ne (by decide), rI_wR, rI_nw_ne (by decide), rI_wR, rI_nw_ne (by decide), rI_wR, rI_nw_ne (by decide), rI_wR, rI_nw_ne (by decide), rI_wR, rI_nw_ne (by decide), rI_wR, rI_nw, if_pos]
  refine ⟨rfl, ?_⟩
  rw [cn_wL, cn_wR, cn_nw_ne (by decide), h0]
theorem modR_34 {h : zM} (h0 : cnM h 34 = 0) : rR (modN h) 11 0 7 = some (34, 0) := by
  unfold modN
  rw [rR_wR_nf (by decide), rR_nw_ne (by decide), rR_wR_nf (by decide), rR_nw_ne (by decide), rR_wR_nf (by decide), rR_nw_ne (by decide), rR_wR_nf (by decide), rR_nw_ne (by decide), rR_wR_nf (by decide), rR_nw_ne (by decide), rR_wR_nf (by decide), rR_nw_ne (by decide), rR_wR_nf (by decide), rR_nw_ne (by decide), rR_wR_nf (by decide), rR_nw_ne (by decide), rR_wR_nf (by decide), rR_nw_ne (by decide), rR_wR_nf (by decide), rR_nw_ne (by decide), rR_wR_nf (by decide), rR_nw_ne (by decide), rR_wR_nf (by decide), rR_nw_ne (by decide), rR_wR, if_pos ⟨rfl, rfl, rfl⟩, h0]
theorem modI_34 {h : zM} (h0 : cnM h 34 = 0) (F : Nat) : rI (modN h) 34 0 F = 0 := by
  unfold modN
  rw [rI_wR, rI_nw_ne (by decide), rI_wR, rI_nw_ne (by decide), rI_wR, rI_nw_ne (by decide), rI_wR, rI_nw_ne (by decide), rI_wR, rI_nw_ne (by decide), rI_wR, rI_nw_ne (by decide), rI_wR, rI_nw_ne (by decide), rI_wR, rI_nw_ne (by decide), rI_wR, rI_nw_ne (by decide), rI_wR, rI_nw_ne (by decide), rI_wR, rI_nw_ne (by decide), rI_wR, rI_nw_ne (by decide), rI_wR, rI_nw, if_pos]
  refine ⟨rfl, ?_⟩
  rw [cn_wR, cn_nw_ne (by decide), cn_wL, cn_wR, cn_nw_ne (by decide), h0]
theorem modR_35 {h : zM} (h0 : cnM h 35 = 0) : rR (modN h) 11 0 8 = some (35, 0) := by
  unfold modN
  rw [rR_wR_nf (by decide), rR_nw_ne (by decide), rR_wR_nf (by decide), rR_nw_ne (by decide), rR_wR_nf (by decide), rR_nw_ne (by decide), rR_wR_nf (by decide), rR_nw_ne (by decide), rR_wR_nf (by decide), rR_nw_ne (by decide), rR_wR_nf (by decide), rR_nw_ne (by decide), rR_wR_nf (by decide), rR_nw_ne (by decide), rR_wR_nf (by decide), rR_nw_ne (by decide), rR_wR_nf (by decide), rR_nw_ne (by decide), rR_wR_nf (by decide), rR_nw_ne (by decide), rR_wR_nf (by decide), rR_nw_ne (by decide), rR_wR, if_pos ⟨rfl, rfl, rfl⟩, h0]
theorem modI_35 {h : zM} (h0 : cnM h 35 = 0) (F : Nat) : rI (modN h) 35 0 F = 0 := by
  unfold modN
  rw [rI_wR, rI_nw_ne (by decide), rI_wR, rI_nw_ne (by decide), rI_wR, rI_nw_ne (by decide), rI_wR, rI_nw_ne (by decide), rI_wR, rI_nw_ne (by decide), rI_wR, rI_nw_ne (by decide), rI_wR, rI_nw_ne (by decide), rI_wR, rI_nw_ne (by decide), rI_wR, rI_nw_ne (by decide), rI_wR, rI_nw_ne (by decide), rI_wR, rI_nw_ne (by decide), rI_wR, rI_nw, if_pos]
  refine ⟨rfl, ?_⟩
  rw [cn_wR, cn_nw_ne (by decide), cn_wR, cn_nw_ne (by decide), cn_wL, cn_wR, cn_nw_ne (by decide), h0]
theorem modR_36 {h : zM} (h0 : cnM h 36 = 0) : rR (modN h) 11 0 9 = some (36, 0) := by
  unfold modN
  rw [rR_wR_nf (by decide), rR_nw_ne (by decide), rR_wR_nf (by decide), rR_nw_ne (by decide), rR_wR_nf (by decide), rR_nw_ne (by decide), rR_wR_nf (by decide), rR_nw_ne (by decide), rR_wR_nf (by decide), rR_nw_ne (by decide), rR_wR_nf (by decide), rR_nw_ne (by decide), rR_wR_nf (by decide), rR_nw_ne (by decide), rR_wR_nf (by decide), rR_nw_ne (by decide), rR_wR_nf (by decide), rR_nw_ne (by decide), rR_wR_nf (by decide), rR_nw_ne (by decide), rR_wR, if_pos ⟨rfl, rfl, rfl⟩, h0]
theorem modI_36 {h : zM} (h0 : cnM h 36 = 0) (F : Nat) : rI (modN h) 36 0 F = 0 := by
  unfold modN
  rw [rI_wR, rI_nw_ne (by decide), rI_wR, rI_nw_ne (by decide), rI_wR, rI_nw_ne (by decide), rI_wR, rI_nw_ne (by decide), rI_wR, rI_nw_ne (by decide), rI_wR, rI_nw_ne (by decide), rI_wR, rI_nw_ne (by decide), rI_wR, rI_nw_ne (by decide), rI_wR, rI_nw_ne (by decide), rI_wR, rI_nw_ne (by decide), rI_wR, rI_nw, if_pos]
  refine ⟨rfl, ?_⟩
  rw [cn_wR, cn_nw_ne (by decide), cn_wR, cn_nw_ne (by decide), cn_wR, cn_nw_ne (by decide), cn_wL, cn_wR, cn_nw_ne (by decide), h0]
theorem modR_37 {h : zM} (h0 : cnM h 37 = 0) : rR (modN h) 11 0 10 = some (37, 0) := by
  unfold modN
  rw [rR_wR_nf (by decide), rR_nw_ne (by decide), rR_wR_nf (by decide), rR_nw_ne (by decide), rR_wR_nf (by decide), rR_nw_ne (by decide), rR_wR_nf (by decide), rR_nw_ne (by decide), rR_wR_nf (by decide), rR_nw_ne (by decide), rR_wR_nf (by decide), rR_nw_ne (by decide), rR_wR_nf (by decide), rR_nw_ne (by decide), rR_wR_nf (by decide), rR_nw_ne (by decide), rR_wR_nf (by decide), rR_nw_ne (by decide), rR_wR, if_pos ⟨rfl, rfl, rfl⟩, h0]
theorem modI_37 {h : zM} (h0 : cnM h 37 = 0) (F : Nat) : rI (modN h) 37 0 F = 0 := by
  unfold modN
  rw [rI_wR, rI_nw_ne (by decide), rI_wR, rI_nw_ne (by decide), rI_wR, rI_nw_ne (by decide), rI_wR, rI_nw_ne (by decide), rI_wR, rI_nw_ne (by decide), rI_wR, rI_nw_ne (by decide), rI_wR, rI_nw_ne (by decide), rI_wR, rI_nw_ne (by decide), rI_wR, rI_nw_ne (by decide), rI_wR, rI_nw, if_pos]
  refine ⟨rfl, ?_⟩
  rw [cn_wR, cn_nw_ne (by decide), cn_wR, cn_nw_ne (by decide), cn_wR, cn_nw_ne (by decide), cn_wR, cn_nw_ne (by decide), cn_wL, cn_wR, cn_nw_ne (by decide), h0]
theorem modR_38 {h : zM} (h0 : cnM h 38 = 0) : rR (modN h) 11 0 12 = some (38, 0) := by
  unfold modN
  rw [rR_wR_nf (by decide), rR_nw_ne (by decide), rR_wR_nf (by decide), rR_nw_ne (by decide), rR_wR_nf (by decide), rR_nw_ne (by decide), rR_wR_nf (by decide), rR_nw_ne (by decide), rR_wR_nf (by decide), rR_nw_ne (by decide), rR_wR_nf (by decide), rR_nw_ne (by decide), rR_wR_nf (by decide), rR_nw_ne (by decide), rR_wR_nf (by decide), rR_nw_ne (by decide), rR_wR, if_pos ⟨rfl, rfl, rfl⟩, h0]
theorem modI_38 {h : zM} (h0 : cnM h 38 = 0) (F : Nat) : rI (modN h) 38 0 F = 0 := by
  unfold modN
  rw [rI_wR, rI_nw_ne (by decide), rI_wR, rI_nw_ne (by decide), rI_wR, rI_nw_ne (by decide), rI_wR, rI_nw_ne (by decide), rI_wR, rI_nw_ne (by decide), rI_wR, rI_nw_ne (by decide), rI_wR, rI_nw_ne (by decide), rI_wR, rI_nw_ne (by decide), rI_wR, rI_nw, if_pos]
  refine ⟨rfl, ?_⟩
  rw [cn_wR, cn_nw_ne (by decide), cn_wR, cn_nw_ne (by decide), cn_wR, cn_nw_ne (by decide), cn_wR, cn_nw_ne (by decide), cn_wR, cn_nw_ne (by decide), cn_wL, cn_wR, cn_nw_ne (by decide), h0]
theorem modR_39 {h : zM} (h0 : cnM h 39 = 0) : rR (modN h) 11 0 14 = some (39, 0) := by
  unfold modN
  rw [rR_wR_nf (by decide), rR_nw_ne (by decide), rR_wR_nf (by decide), rR_nw_ne (by decide), rR_wR_nf (by decide), rR_nw_ne (by decide), rR_wR_nf (by decide), rR_nw_ne (by decide), rR_wR_nf (by decide), rR_nw_ne (by decide), rR_wR_nf (by decide), rR_nw_ne (by decide), rR_wR_nf (by decide), rR_nw_ne (by decide), rR_wR, if_pos ⟨rfl, rfl, rfl⟩, h0]
theorem modI_39 {h : zM} (h0 : cnM h 39 = 0) (F : Nat) : rI (modN h) 39 0 F = 0 := by
  unfold modN
  rw [rI_wR, rI_nw_ne (by decide), rI_wR, rI_nw_ne (by decide), rI_wR, rI_nw_ne (by decide), rI_wR, rI_nw_ne (by decide), rI_wR, rI_nw_ne (by decide), rI_wR, rI_nw_ne (by decide), rI_wR, rI_nw_ne (by decide), rI_wR, rI_nw, if_pos]
  refine ⟨rfl, ?_⟩
  rw [cn_wR, cn_nw_ne (by decide), cn_wR, cn_nw_ne (by decide), cn_wR, cn_nw_ne (by decide), cn_wR, cn_nw_ne (by decide), cn_wR, cn_nw_ne (by decide), cn_wR, cn_nw_ne (by decide), cn_wL, cn_wR, cn_nw_ne (by decide), h0]
theorem modR_40 {h : zM} (h0 : cnM h 40 = 0) : rR (modN h) 11 0 15 = some (40, 0) := by
  unfold modN
  rw [rR_wR_nf (by decide), rR_nw_ne (by decide), rR_wR_nf (by decide), rR_nw_ne (by decide), rR_wR_nf (by decide), rR_nw_ne (by decide), rR_wR_nf (by decide), rR_nw_ne (by decide), rR_wR_nf (by decide), rR_nw_ne (by decide), rR_wR_nf (by decide), rR_nw_ne (by decide), rR_wR, if_pos ⟨rfl, rfl, rfl⟩, h0]
theorem modI_40 {h : zM} (h0 : cnM h 40 = 0) (F : Nat) : rI (modN h) 40 0 F = 0 := by
  unfold modN
  rw [rI_wR, rI_nw_ne (by decide), rI_wR, rI_nw_ne (by decide), rI_wR, rI_nw_ne (by decide), rI_wR, rI_nw_ne (by decide), rI_wR, rI_nw_ne (by decide), rI_wR, rI_nw_ne (by decide), rI_wR, rI_nw, if_pos]
  refine ⟨rfl, ?_⟩
  rw [cn_wR, cn_nw_ne (by decide), cn_wR, cn_nw_ne (by decide), cn_wR, cn_nw_ne (by decide), cn_wR, cn_nw_ne (by decide), cn_wR, cn_nw_ne (by decide), cn_wR, cn_nw_ne (by decide), cn_wR, cn_nw_ne (by decide), cn_wL, cn_wR, cn_nw_ne (by decide), h0]
theorem modR_41 {h : zM} (h0 : cnM h 41 = 0) : rR (modN h) 11 0 16 = some (41, 0) := by
  unfold modN
  rw [rR_wR_nf (by decide), rR_nw_ne (by decide), rR_wR_nf (by decide), rR_nw_ne (by decide), rR_wR_nf (by decide), rR_nw_ne (by decide), rR_wR_nf (by decide), rR_nw_ne (by decide), rR_wR_nf (by decide), rR_nw_ne (by decide), rR_wR, if_pos ⟨rfl, rfl, rfl⟩, h0]
theorem modI_41 {h : zM} (h0 : cnM h 41 = 0) (F : Nat) : rI (modN h) 41 0 F = 0 := by
  unfold modN
  rw [rI_wR, rI_nw_ne (by decide), rI_wR, rI_nw_ne (by decide), rI_wR, rI_nw_ne (by decide), rI_wR, rI_nw_ne (by decide), rI_wR, rI_nw_ne (by decide), rI_wR, rI_nw, if_pos]
  refine ⟨rfl, ?_⟩
  rw [cn_wR, cn_nw_ne (by decide), cn_wR, cn_nw_ne (by decide), cn_wR, cn_nw_ne (by decide), cn_wR, cn_nw_ne (by decide), cn_wR, cn_nw_ne (by decide), cn_wR, cn_nw_ne (by decide), cn_wR, cn_nw_ne (by decide), cn_wR, cn_nw_ne (by decide), cn_wL, cn_wR, cn_nw_ne (by decide), h0]
theorem modR_42 {h : zM} (h0 : cnM h 42 = 0) : rR (modN h) 11 0 20 = some (42, 0) := by
  unfold modN
  rw [rR_wR_nf (by decide), rR_nw_ne (by decide), rR_wR_nf (by decide), rR_nw_ne (by decide), rR_wR_nf (by decide), rR_nw_ne (by decide), rR_wR_nf (by decide), rR_nw_ne (by decide), rR_wR, if_pos ⟨rfl, rfl, rfl⟩, h0]
theorem modI_42 {h : zM} (h0 : cnM h 42 = 0) (F : Nat) : rI (modN h) 42 0 F = 0 := by
  unfold modN
  rw [rI_wR, rI_nw_ne (by decide), rI_wR, rI_nw_ne (by decide), rI_wR, rI_nw_ne (by decide), rI_wR, rI_nw_ne (by decide), rI_wR, rI_nw, if_pos]
  refine ⟨rfl, ?_⟩
  rw [cn_wR, cn_nw_ne (by decide), cn_wR, cn_nw_ne (by decide), cn_wR, cn_nw_ne (by decide), cn_wR, cn_nw_ne (by decide), cn_wR, cn_nw_ne (by decide), cn_wR, cn_nw_ne (by decide), cn_wR, cn_nw_ne (by decide), cn_wR, cn_nw_ne (by decide), cn_wR, cn_nw_ne (by decide), cn_wL, cn_wR, cn_nw_ne (by decide), h0]
theorem modR_43 {h : zM} (h0 : cnM h 43 = 0) : rR (modN h) 11 0 26 = some (43, 0) := by
  unfold modN
  rw [rR_wR_nf (by decide), rR_nw_ne (by decide), rR_wR_nf (by decide), rR_nw_ne (by decide), rR_wR_nf (by decide), rR_nw_ne (by decide), rR_wR, if_pos ⟨rfl, rfl, rfl⟩, h0]
theorem modI_43 {h : zM} (h0 : cnM h 43 = 0) (F : Nat) : rI (modN h) 43 0 F = 0 := by
  unfold modN
  rw [rI_wR, rI_nw_ne (by decide), rI_wR, rI_nw_ne (by decide), rI_wR, rI_nw_ne (by decide), rI_wR, rI_nw, if_pos]
  refine ⟨rfl, ?_⟩
  rw [cn_wR, cn_nw_ne (by decide), cn_wR, cn_nw_ne (by decide), cn_wR, cn_nw_ne (by decide), cn_wR, cn_nw_ne (by decide), cn_wR, cn_nw_ne (by decide), cn_wR, cn_nw_ne (by decide), cn_wR, cn_nw_ne (by decide), cn_wR, cn_nw_ne (by decide), cn_wR, cn_nw_ne (by decide), cn_wR, cn_nw_ne (by decide), cn_wL, cn_wR, cn_nw_ne (by decide), h0]
theorem modR_44 {h : zM} (h0 : cnM h 44 = 0) : rR (modN h) 11 0 27 = some (44, 0) := by
  unfold modN
  rw [rR_wR_nf (by decide), rR_nw_ne (by decide), rR_wR_nf (by decide), rR_nw_ne (by decide), rR_wR, if_pos ⟨rfl, rfl, rfl⟩, h0]
theorem modI_44 {h : zM} (h0 : cnM h 44 = 0) (F : Nat) : rI (modN h) 44 0 F = 0 := by
  unfold modN
  rw [rI_wR, rI_nw_ne (by decide), rI_wR, rI_nw_ne (by decide), rI_wR, rI_nw, if_pos]
  refine ⟨rfl, ?_⟩
  rw [cn_wR, cn_nw_ne (by decide), cn_wR, cn_nw_ne (by decide), cn_wR, cn_nw_ne (by decide), cn_wR, cn_nw_ne (by decide), cn_wR, cn_nw_ne (by decide), cn_wR, cn_nw_ne (by decide), cn_wR, cn_nw_ne (by decide), cn_wR, cn_nw_ne (by decide), cn_wR, cn_nw_ne (by decide), cn_wR, cn_nw_ne (by decide), cn_wR, cn_nw_ne (by decide), cn_wL, cn_wR, cn_nw_ne (by decide), h0]
theorem modR_45 {h : zM} (h0 : cnM h 45 = 0) : rR (modN h) 11 0 29 = some (45, 0) := by
  unfold modN
  rw [rR_wR_nf (by decide), rR_nw_ne (by decide), rR_wR, if_pos ⟨rfl, rfl, rfl⟩, h0]
theorem modI_45 {h : zM} (h0 : cnM h 45 = 0) (F : Nat) : rI (modN h) 45 0 F = 0 := by
  unfold modN
  rw [rI_wR, rI_nw_ne (by decide), rI_wR, rI_nw, if_pos]
  refine ⟨rfl, ?_⟩
  rw [cn_wR, cn_nw_ne (by decide), cn_wR, cn_nw_ne (by decide), cn_wR, cn_nw_ne (by decide), cn_wR, cn_nw_ne (by decide), cn_wR, cn_nw_ne (by decide), cn_wR, cn_nw_ne (by decide), cn_wR, cn_nw_ne (by decide), cn_wR, cn_nw_ne (by decide), cn_wR, cn_nw_ne (by decide), cn_wR, cn_nw_ne (by decide), cn_wR, cn_nw_ne (by decide), cn_wR, cn_nw_ne (by decide), cn_wL, cn_wR, cn_nw_ne (by decide), h0]
theorem modR_46 {h : zM} (h0 : cnM h 46 = 0) : rR (modN h) 11 0 30 = some (46, 0) := by
  unfold modN
  rw [rR_wR, if_pos ⟨rfl, rfl, rfl⟩, h0]
theorem modI_46 {h : zM} (h0 : cnM h 46 = 0) (F : Nat) : rI (modN h) 46 0 F = 0 := by
  unfold modN
  rw [rI_wR, rI_nw, if_pos]
  refine ⟨rfl, ?_⟩
  rw [cn_wR, cn_nw_ne (by decide), cn_wR, cn_nw_ne (by decide), cn_wR, cn_nw_ne (by decide), cn_wR, cn_nw_ne (by decide), cn_wR, cn_nw_ne (by decide), cn_wR, cn_nw_ne (by decide), cn_wR, cn_nw_ne (by decide), cn_wR, cn_nw_ne (by decide), cn_wR, cn_nw_ne (by decide), cn_wR, cn_nw_ne (by decide), cn_wR, cn_nw_ne (by decide), cn_wR, cn_nw_ne (by decide), cn_wR, cn_nw_ne (by decide), cn_wL, cn_wR, cn_nw_ne (by decide), h0]
theorem f11_eq (g : zM) : f_X11_init g = f_X11_init_132 1000 0 (modN g) := by
  unfold f_X11_init modN
  rfl
theorem fil_R (h : zM) (c i a b : Nat) (v : Int32) (C I F : Nat) : rR (fil h c i a b v) C I F = rR h C I F := rfl
theorem fil_L (h : zM) (c i a b : Nat) (v : Int32) (C I F : Nat) : rL (fil h c i a b v) C I F = rL h C I F := rfl
theorem fil_c (h : zM) (c i a b : Nat) (v : Int32) (C : Nat) : cnM (fil h c i a b v) C = cnM h C := rfl
theorem fil_sl (h : zM) (c i a b : Nat) (v : Int32) : slM (fil h c i a b v) = slM h := rfl
theorem fil_nc (h : zM) (c i a b : Nat) (v : Int32) : ncM (fil h c i a b v) = ncM h := rfl
theorem fil_ns (h : zM) (c i a b : Nat) (v : Int32) : nsM (fil h c i a b v) = nsM h := rfl
theorem nwM_sl (h : zM) (c z : Nat) : slM (nwM h c z) = slM h := rfl
theorem nwM_nc (h : zM) (c z : Nat) : ncM (nwM h c z) = ncM h + 1 := rfl
theorem nwM_ns (h : zM) (c z : Nat) : nsM (nwM h c z) = nsM h + z := rfl
theorem mod_sl (h : zM) : slM (modN h) = slM h := by
  unfold modN
  simp -implicitDefEqProofs only [sl_wR, sl_wL, nwM_sl]
theorem mod_nc (h : zM) : ncM (modN h) = ncM h + 15 := by
  unfold modN
  simp -implicitDefEqProofs only [nc_wR, nc_wL, nwM_nc]
theorem mod_ns (h : zM) : nsM (modN h) = nsM h + 932 := by
  unfold modN
  simp -implicitDefEqProofs only [ns_wR, ns_wL, nwM_ns]
theorem ini_ok (xs : Nat → Int32) (L : Nat) : ∃ q, f_L_law (hm0 xs L) = f_L_law_18 1000 0 q ∧ Inv q 0 0 ∧ Scr (hm0 xs L) q ∧ ncM q ≤ 60 ∧ nsM q ≤ 3000 := by
  obtain ⟨q4, e1, hX, x6, x9, x10, xl13, xl14, x31, x28, x29, x30, xc, xc1, xc2, xc3, xc20, xs19, xsl, xnc, xns⟩ := initX xs L
  have c10 : cnM (hm0 xs L) 10 = 0 := rfl
  have c11 : cnM q4 11 = 0 := xc 11 (Or.inr rfl)
  have n0 : ncM (hm0 xs L) = 0 := rfl
  have s0' : nsM (hm0 xs L) = 0 := rfl
  -- the reference's object
  have gC : ∀ C, C ≠ 11 → cnM (nwM q4 11 32) C = cnM q4 C := fun C h => cn_nw_ne (fun z => h z.symm)
  have gR : ∀ C I F, C ≠ 11 → rR (nwM q4 11 32) C I F = rR q4 C I F := fun C I F h => rR_nw_ne (fun z => h z.symm)
  have gI : ∀ C I F, C ≠ 11 → rI (nwM q4 11 32) C I F = rI q4 C I F := fun C I F h => rI_nw_ne (fun z => h z.symm)
  have gL : ∀ C I F, C ≠ 11 → rL (nwM q4 11 32) C I F = rL q4 C I F := fun C I F h => rL_nw_ne (fun z => h z.symm)
  have gI11 : ∀ F, rI (nwM q4 11 32) 11 0 F = 0 := fun F => by rw [rI_nw, c11, if_pos ⟨rfl, rfl⟩]
  have gL11 : ∀ F, rL (nwM q4 11 32) 11 0 F = 0 := fun F => by rw [rL_nw, c11, if_pos ⟨rfl, rfl⟩]
  have gsl : slM (nwM q4 11 32) = slM q4 := rfl
  have gnc : ncM (nwM q4 11 32) = ncM q4 + 1 := rfl
  have gns : nsM (nwM q4 11 32) = nsM q4 + 32 := rfl
  have z : ∀ C, 32 ≤ C → cnM (nwM q4 11 32) C = 0 := fun C h => by
    rw [gC C (by omega)]
    exact xc C (Or.inl h)
  have E : f_L_law (hm0 xs L) = (f_X11_init (nwM q4 11 32)).bind fun q12 => f_L_law_18 1000 0 q12 := by
    unfold f_L_law
    rw [c10, if_pos rfl, e1, Option.bind_some, c11, if_pos rfl]
    rfl
  rw [E]
  generalize nwM q4 11 32 = g at gC gR gI gL gI11 gL11 gsl gnc gns z
  have mR6 := modR_33 (z 33 (by decide))
  have mR9 := modR_36 (z 36 (by decide))
  have L33 := ms_loop33 6 1000 0 (modN g) mR6 (by decide) (by decide)
  have L36 := ms_loop36 4 1000 0 (fil (modN g) 33 0 0 6 (-9999)) (by rw [fil_R]; exact mR9) (by decide) (by decide)
  rw [nI_0] at L33 L36
  have EI : f_X11_init g = some (fil (fil (modN g) 33 0 0 6 (-9999)) 36 0 0 4 (-9999)) := by
    rw [f11_eq, L33, L36]
  rw [EI, Option.bind_some]
  have fI : ∀ C I F, C ≠ 33 → C ≠ 36 → rI (fil (fil (modN g) 33 0 0 6 (-9999)) 36 0 0 4 (-9999)) C I F = rI (modN g) C I F := fun C I F a b => by
    rw [rI_fil, if_neg (fun y => b y.1), rI_fil, if_neg (fun y => a y.1)]
  have f33 : ∀ F, F < 6 → rI (fil (fil (modN g) 33 0 0 6 (-9999)) 36 0 0 4 (-9999)) 33 0 F = -9999 := fun F h => by
    rw [rI_fil, if_neg (fun y => absurd y.1 (by decide)), rI_fil, if_pos ⟨rfl, rfl, Nat.zero_le _, h⟩]
  have f36 : ∀ F, F < 4 → rI (fil (fil (modN g) 33 0 0 6 (-9999)) 36 0 0 4 (-9999)) 36 0 F = -9999 := fun F h => by
    rw [rI_fil, if_pos ⟨rfl, rfl, Nat.zero_le _, h⟩]
  have fR : ∀ C I F, rR (fil (fil (modN g) 33 0 0 6 (-9999)) 36 0 0 4 (-9999)) C I F = rR (modN g) C I F := fun _ _ _ => by rw [fil_R, fil_R]
  have fL : ∀ C I F, rL (fil (fil (modN g) 33 0 0 6 (-9999)) 36 0 0 4 (-9999)) C I F = rL (modN g) C I F := fun _ _ _ => by rw [fil_L, fil_L]
  have fC : ∀ C, cnM (fil (fil (modN g) 33 0 0 6 (-9999)) 36 0 0 4 (-9999)) C = cnM (modN g) C := fun _ => by rw [fil_c, fil_c]
  have fs : slM (fil (fil (modN g) 33 0 0 6 (-9999)) 36 0 0 4 (-9999)) = slM g := by rw [fil_sl, fil_sl, mod_sl]
  have fn : ncM (fil (fil (modN g) 33 0 0 6 (-9999)) 36 0 0 4 (-9999)) = ncM g + 15 := by rw [fil_nc, fil_nc, mod_nc]
  have fm : nsM (fil (fil (modN g) 33 0 0 6 (-9999)) 36 0 0 4 (-9999)) = nsM g + 932 := by rw [fil_ns, fil_ns, mod_ns]
  have R32 := modR_32 (z 32 (by decide))
  have I32 := modI_32 (z 32 (by decide))
  have R33 := modR_33 (z 33 (by decide))
  have I33 := modI_33 (z 33 (by decide))
  have R34 := modR_34 (z 34 (by decide))
  have I34 := modI_34 (z 34 (by decide))
  have R35 := modR_35 (z 35 (by decide))
  have I35 := modI_35 (z 35 (by decide))
  have R36 := modR_36 (z 36 (by decide))
  have I36 := modI_36 (z 36 (by decide))
  have R37 := modR_37 (z 37 (by decide))
  have I37 := modI_37 (z 37 (by decide))
  have R38 := modR_38 (z 38 (by decide))
  have I38 := modI_38 (z 38 (by decide))
  have R39 := modR_39 (z 39 (by decide))
  have I39 := modI_39 (z 39 (by decide))
  have R40 := modR_40 (z 40 (by decide))
  have I40 := modI_40 (z 40 (by decide))
  have R41 := modR_41 (z 41 (by decide))
  have I41 := modI_41 (z 41 (by decide))
  have R42 := modR_42 (z 42 (by decide))
  have I42 := modI_42 (z 42 (by decide))
  have R43 := modR_43 (z 43 (by decide))
  have I43 := modI_43 (z 43 (by decide))
  have R44 := modR_44 (z 44 (by decide))
  have I44 := modI_44 (z 44 (by decide))
  have R45 := modR_45 (z 45 (by decide))
  have I45 := modI_45 (z 45 (by decide))
  have R46 := modR_46 (z 46 (by decide))
  have I46 := modI_46 (z 46 (by decide))
  have mR : ∀ C I F, C < 32 → C ≠ 11 → rR (modN g) C I F = rR q4 C I F := fun C I F a b => (modR a b).trans (gR C I F b)
  have mI : ∀ C I F, C < 32 → C ≠ 11 → rI (modN g) C I F = rI q4 C I F := fun C I F a b => (modI a).trans (gI C I F b)
  have mI11 : ∀ F, rI (modN g) 11 0 F = 0 := fun F => (modI (by decide)).trans (gI11 F)
  have mL : ∀ F, rL (modN g) 10 0 F = rL q4 10 0 F := fun F => (modL (by decide) (by omega)).trans (gL _ _ _ (by decide))
  have mL3 : rL (modN g) 11 0 3 = 0 := (modL (by decide) (by decide)).trans (gL11 3)
  have mL4 : rL (modN g) 11 0 4 = 1 := modL4
  have mC : ∀ C, C < 32 → C ≠ 11 → cnM (modN g) C = cnM q4 C := fun C a b => (modC a).trans (gC C b)
  generalize fil (fil (modN g) 33 0 0 6 (-9999)) 36 0 0 4 (-9999) = q at fI f33 f36 fR fL fC fs fn fm
  generalize modN g = m at *
  have I11 : ∀ F, rI q 11 0 F = 0 := fun F => (fI _ _ _ (by decide) (by decide)).trans (mI11 F)
  have I10 : ∀ F, rI q 10 0 F = 0 := fun F => (fI _ _ _ (by decide) (by decide)).trans ((mI _ _ _ (by decide) (by decide)).trans (x10 F))
  refine ⟨q, rfl, ⟨?_, ?_, fun r hr => ⟨Or.inl ⟨f33 r hr, ?_⟩, fun i hi => ?_⟩, fun r hr => ⟨Or.inl ⟨f36 r hr, ?_⟩, fun i hi => ?_⟩, ⟨0, by decide, I10 8, I11 5⟩, ?_, ⟨?_, ?_⟩, ⟨?_, fun f hf => ?_⟩, ⟨by decide, I10 9, I11 11, ?_, fun p hp => absurd hp (by omega), fun p _ => ?_⟩, ⟨by decide, I10 10, I11 13, ?_, fun p hp => absurd hp (by omega), fun p _ => ?_⟩, ?_, fun l hl => Or.inl ⟨?_, ?_⟩⟩, ⟨?_, fun j => ?_⟩, ?_, ?_⟩
  · unfold XS
    simp only [fR, mR 10 _ _ (by decide) (by decide), mR 26 _ _ (by decide) (by decide), mR 6 _ _ (by decide) (by decide), mR 27 _ _ (by decide) (by decide), mR 9 _ _ (by decide) (by decide), mR 4 _ _ (by decide) (by decide)]
    exact hX
  · unfold MS
    simp only [fR]
    exact ⟨R32, R33, R34, R35, R36, R37, R38, R39, R40, R41, R42, R43, R44, R45, R46⟩
  · rw [fI _ _ _ (by decide) (by decide), mI _ _ _ (by decide) (by decide)]
    exact (x6 r hr).1
  · rw [fI _ _ _ (by decide) (by decide), mI _ _ _ (by decide) (by decide), (x6 r hr).2, fI _ _ _ (by decide) (by decide), I34]
  · rw [fI _ _ _ (by decide) (by decide), mI _ _ _ (by decide) (by decide)]
    exact (x9 r hr).1
  · rw [fI _ _ _ (by decide) (by decide), mI _ _ _ (by decide) (by decide), (x9 r hr).2, fI _ _ _ (by decide) (by decide), I37]
  · show rI q 10 0 11 = rI q 11 0 2
    rw [I10, I11]
  · rw [fL, fL, mL, mL3]
    exact xl13
  · rw [fL, fL, mL, mL4]
    exact xl14
  · rw [I10, I11]
  · rw [fI _ _ _ (by decide) (by decide), mI _ _ _ (by decide) (by decide), x31, fI _ _ _ (by decide) (by decide), I32]
  · rw [fC, mC _ (by decide) (by decide)]
    exact xc3
  · rw [fR, mR _ _ _ (by decide) (by decide)]
    exact x28 p
  · rw [fC, mC _ (by decide) (by decide)]
    exact xc2
  · rw [fR, mR _ _ _ (by decide) (by decide)]
    exact x29 p
  · rw [fC, fC, mC _ (by decide) (by decide), mC _ (by decide) (by decide), xc1, xc20]
  · rw [fR, mR _ _ _ (by decide) (by decide)]
    exact x30 l
  · rw [fI _ _ _ (by decide) (by decide)]
    exact I43 l
  · rw [fs, gsl, xsl]
  · rw [fI _ _ _ (by decide) (by decide), mI _ _ _ (by decide) (by decide)]
    exact xs19 j
  · omega
  · omega
