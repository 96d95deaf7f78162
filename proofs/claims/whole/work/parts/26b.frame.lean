/-! the parts of the invariant over single writes -/
theorem XS.wI {h : zM} {c i f : Nat} {v : Int32} (H : XS h) : XS (wI h c i f v) := H
theorem MS.wI {h : zM} {c i f : Nat} {v : Int32} (H : MS h) : MS (wI h c i f v) := H
theorem XS.wL {h : zM} {c i f : Nat} {v : Int64} (H : XS h) : XS (wL h c i f v) := H
theorem MS.wL {h : zM} {c i f : Nat} {v : Int64} (H : MS h) : MS (wL h c i f v) := H
theorem rR_wR_ne {h : zM} {c i f : Nat} {v : zR} {c' i' f' : Nat} (hc : c ≠ c') : rR (wR h c i f v) c' i' f' = rR h c' i' f' := by
  rw [rR_wR, if_neg]
  exact fun q => hc q.1.symm
theorem rI_wI_ne {h : zM} {c i f : Nat} {v : Int32} {c' i' f' : Nat} (hc : c ≠ c') : rI (wI h c i f v) c' i' f' = rI h c' i' f' := by
  rw [rI_wI, if_neg]
  exact fun q => hc q.1.symm
theorem rI_wI_nf {h : zM} {c i f : Nat} {v : Int32} {c' i' f' : Nat} (hc : ¬ (c = c' ∧ f = f')) : rI (wI h c i f v) c' i' f' = rI h c' i' f' := by
  rw [rI_wI, if_neg]
  exact fun q => hc ⟨q.1.symm, q.2.2.symm⟩
theorem rR_nw_ne {h : zM} {c z : Nat} {c' i' f' : Nat} (hc : c ≠ c') : rR (nwM h c z) c' i' f' = rR h c' i' f' := by
  rw [rR_nw, if_neg]
  exact fun q => hc q.1.symm
theorem rI_nw_ne {h : zM} {c z : Nat} {c' i' f' : Nat} (hc : c ≠ c') : rI (nwM h c z) c' i' f' = rI h c' i' f' := by
  rw [rI_nw, if_neg]
  exact fun q => hc q.1.symm
theorem rL_nw_ne {h : zM} {c z : Nat} {c' i' f' : Nat} (hc : c ≠ c') : rL (nwM h c z) c' i' f' = rL h c' i' f' := by
  rw [rL_nw, if_neg]
  exact fun q => hc q.1.symm
theorem cn_nw_ne {h : zM} {c z : Nat} {c' : Nat} (hc : c ≠ c') : cnM (nwM h c z) c' = cnM h c' := by
  rw [cn_nw, if_neg]
  exact fun q => hc q.symm
theorem rI_nw_lt {h : zM} {c z : Nat} {c' i' f' : Nat} (hi : i' < cnM h c') : rI (nwM h c z) c' i' f' = rI h c' i' f' := by
  rw [rI_nw, if_neg]
  rintro ⟨rfl, rfl⟩
  omega
theorem rR_nw_lt {h : zM} {c z : Nat} {c' i' f' : Nat} (hi : i' < cnM h c') : rR (nwM h c z) c' i' f' = rR h c' i' f' := by
  rw [rR_nw, if_neg]
  rintro ⟨rfl, rfl⟩
  omega
theorem XS.wR {h : zM} {c i f : Nat} {v : zR} (H : XS h) (hc : c ≠ 10 ∧ c ≠ 26 ∧ c ≠ 6 ∧ c ≠ 27 ∧ c ≠ 9 ∧ c ≠ 4) : XS (wR h c i f v) := by
  obtain ⟨c1, c2, c3, c4, c5, c6⟩ := hc
  unfold XS
  simp only [rR_wR_ne c1, rR_wR_ne c2, rR_wR_ne c3, rR_wR_ne c4, rR_wR_ne c5, rR_wR_ne c6]
  exact H
theorem MS.wR {h : zM} {c i f : Nat} {v : zR} (H : MS h) (hc : c ≠ 11) : MS (wR h c i f v) := by
  unfold MS
  simp only [rR_wR_ne hc]
  exact H
theorem XS.nw {h : zM} {c z : Nat} (H : XS h) (hc : c ≠ 10 ∧ c ≠ 26 ∧ c ≠ 6 ∧ c ≠ 27 ∧ c ≠ 9 ∧ c ≠ 4) : XS (nwM h c z) := by
  obtain ⟨c1, c2, c3, c4, c5, c6⟩ := hc
  unfold XS
  simp only [rR_nw_ne c1, rR_nw_ne c2, rR_nw_ne c3, rR_nw_ne c4, rR_nw_ne c5, rR_nw_ne c6]
  exact H
theorem MS.nw {h : zM} {c z : Nat} (H : MS h) (hc : c ≠ 11) : MS (nwM h c z) := by
  unfold MS
  simp only [rR_nw_ne hc]
  exact H
theorem RW.wI {h : zM} {c i f : Nat} {v : Int32} (H : RW h) (hc : c ≠ 33 ∧ c ≠ 6 ∧ c ≠ 24 ∧ c ≠ 34) : RW (wI h c i f v) := H.of (fun _ => rI_wI_ne hc.1) (fun _ => rI_wI_ne hc.2.1) (fun _ _ => rI_wI_ne hc.2.2.1) (fun _ => rI_wI_ne hc.2.2.2)
theorem RW.wR {h : zM} {c i f : Nat} {v : zR} (H : RW h) : RW (wR h c i f v) := H
theorem RW.wL {h : zM} {c i f : Nat} {v : Int64} (H : RW h) : RW (wL h c i f v) := H
theorem RW.nw {h : zM} {c z : Nat} (H : RW h) (hc : c ≠ 33 ∧ c ≠ 6 ∧ c ≠ 24 ∧ c ≠ 34) : RW (nwM h c z) := H.of (fun _ => rI_nw_ne hc.1) (fun _ => rI_nw_ne hc.2.1) (fun _ _ => rI_nw_ne hc.2.2.1) (fun _ => rI_nw_ne hc.2.2.2)
theorem TW.wI {h : zM} {c i f : Nat} {v : Int32} (H : TW h) (hc : c ≠ 36 ∧ c ≠ 9 ∧ c ≠ 25 ∧ c ≠ 37) : TW (wI h c i f v) := H.of (fun _ => rI_wI_ne hc.1) (fun _ => rI_wI_ne hc.2.1) (fun _ _ => rI_wI_ne hc.2.2.1) (fun _ => rI_wI_ne hc.2.2.2)
theorem TW.wR {h : zM} {c i f : Nat} {v : zR} (H : TW h) : TW (wR h c i f v) := H
theorem TW.wL {h : zM} {c i f : Nat} {v : Int64} (H : TW h) : TW (wL h c i f v) := H
theorem TW.nw {h : zM} {c z : Nat} (H : TW h) (hc : c ≠ 36 ∧ c ≠ 9 ∧ c ≠ 25 ∧ c ≠ 37) : TW (nwM h c z) := H.of (fun _ => rI_nw_ne hc.1) (fun _ => rI_nw_ne hc.2.1) (fun _ _ => rI_nw_ne hc.2.2.1) (fun _ => rI_nw_ne hc.2.2.2)
theorem TD.wI {h : zM} {c i f : Nat} {v : Int32} (H : TD h) (hc : ¬ (c = 10 ∧ f = 8) ∧ ¬ (c = 11 ∧ f = 5)) : TD (wI h c i f v) := H.of (rI_wI_nf hc.1) (rI_wI_nf hc.2)
theorem TD.wR {h : zM} {c i f : Nat} {v : zR} (H : TD h) : TD (wR h c i f v) := H
theorem TD.wL {h : zM} {c i f : Nat} {v : Int64} (H : TD h) : TD (wL h c i f v) := H
theorem TD.nw {h : zM} {c z : Nat} (H : TD h) (hc : c ≠ 10 ∧ c ≠ 11) : TD (nwM h c z) := H.of (rI_nw_ne hc.1) (rI_nw_ne hc.2)
theorem AS.wI {h : zM} {c i f : Nat} {v : Int32} (H : AS h) (hc : ¬ (c = 10 ∧ f = 11) ∧ ¬ (c = 11 ∧ f = 2)) : AS (wI h c i f v) := H.of (rI_wI_nf hc.1) (rI_wI_nf hc.2)
theorem AS.wR {h : zM} {c i f : Nat} {v : zR} (H : AS h) : AS (wR h c i f v) := H
theorem AS.wL {h : zM} {c i f : Nat} {v : Int64} (H : AS h) : AS (wL h c i f v) := H
theorem AS.nw {h : zM} {c z : Nat} (H : AS h) (hc : c ≠ 10 ∧ c ≠ 11) : AS (nwM h c z) := H.of (rI_nw_ne hc.1) (rI_nw_ne hc.2)
theorem FR.wI {h : zM} {c i f : Nat} {v : Int32} (H : FR h) : FR (wI h c i f v) := H
theorem FR.wR {h : zM} {c i f : Nat} {v : zR} (H : FR h) : FR (wR h c i f v) := H
theorem FR.nw {h : zM} {c z : Nat} (H : FR h) (hc : c ≠ 10 ∧ c ≠ 11) : FR (nwM h c z) := H.of (rL_nw_ne hc.1) (rL_nw_ne hc.2) (rL_nw_ne hc.1) (rL_nw_ne hc.2)
theorem FD.wI {h : zM} {c i f : Nat} {v : Int32} (H : FD h) (hc : ¬ (c = 10 ∧ f = 12) ∧ ¬ (c = 11 ∧ f = 0) ∧ c ≠ 31 ∧ c ≠ 32) : FD (wI h c i f v) := H.of (rI_wI_nf hc.1) (rI_wI_nf hc.2.1) (fun _ => rI_wI_ne hc.2.2.1) (fun _ => rI_wI_ne hc.2.2.2)
theorem FD.wR {h : zM} {c i f : Nat} {v : zR} (H : FD h) : FD (wR h c i f v) := H
theorem FD.wL {h : zM} {c i f : Nat} {v : Int64} (H : FD h) : FD (wL h c i f v) := H
theorem FD.nw {h : zM} {c z : Nat} (H : FD h) (hc : c ≠ 10 ∧ c ≠ 11 ∧ c ≠ 31 ∧ c ≠ 32) : FD (nwM h c z) := H.of (rI_nw_ne hc.1) (rI_nw_ne hc.2.1) (fun _ => rI_nw_ne hc.2.2.1) (fun _ => rI_nw_ne hc.2.2.2)
theorem PL.wI {h : zM} {np c i f : Nat} {v : Int32} (H : PL h np) (hc : ¬ (c = 10 ∧ f = 9) ∧ ¬ (c = 11 ∧ f = 11) ∧ c ≠ 3 ∧ c ≠ 38) : PL (wI h c i f v) np := H.of (rI_wI_nf hc.1) (rI_wI_nf hc.2.1) rfl (fun _ => rfl) (fun _ _ _ => rI_wI_ne hc.2.2.1) (fun _ => rI_wI_ne hc.2.2.2)
theorem PL.wR {h : zM} {np c i f : Nat} {v : zR} (H : PL h np) (hc : c ≠ 28) : PL (wR h c i f v) np := H.of rfl rfl rfl (fun _ => rR_wR_ne hc) (fun _ _ _ => rfl) (fun _ => rfl)
theorem PL.wL {h : zM} {np c i f : Nat} {v : Int64} (H : PL h np) : PL (wL h c i f v) np := H
theorem PL.nw {h : zM} {np c z : Nat} (H : PL h np) (hc : c ≠ 10 ∧ c ≠ 11 ∧ c ≠ 28 ∧ c ≠ 3 ∧ c ≠ 38) : PL (nwM h c z) np := H.of (rI_nw_ne hc.1) (rI_nw_ne hc.2.1) (cn_nw_ne hc.2.2.2.1) (fun _ => rR_nw_ne hc.2.2.1) (fun _ _ _ => rI_nw_ne hc.2.2.2.1) (fun _ => rI_nw_ne hc.2.2.2.2)
theorem MK.wI {h : zM} {np n c i f : Nat} {v : Int32} (H : MK h np n) (hc : ¬ (c = 10 ∧ f = 10) ∧ ¬ (c = 11 ∧ f = 13) ∧ c ≠ 2 ∧ c ≠ 39 ∧ c ≠ 40 ∧ c ≠ 41) : MK (wI h c i f v) np n := H.of (rI_wI_nf hc.1) (rI_wI_nf hc.2.1) rfl (fun _ => rfl) (fun _ _ _ => rI_wI_ne hc.2.2.1) (fun _ _ => rfl) (fun _ => rI_wI_ne hc.2.2.2.1) (fun _ => rI_wI_ne hc.2.2.2.2.1) (fun _ => rI_wI_ne hc.2.2.2.2.2)
theorem MK.wR {h : zM} {np n c i f : Nat} {v : zR} (H : MK h np n) (hc : c ≠ 29 ∧ c ≠ 2) : MK (wR h c i f v) np n := H.of rfl rfl rfl (fun _ => rR_wR_ne hc.1) (fun _ _ _ => rfl) (fun _ _ => rR_wR_ne hc.2) (fun _ => rfl) (fun _ => rfl) (fun _ => rfl)
theorem MK.wL {h : zM} {np n c i f : Nat} {v : Int64} (H : MK h np n) : MK (wL h c i f v) np n := H
theorem MK.nw {h : zM} {np n c z : Nat} (H : MK h np n) (hc : c ≠ 10 ∧ c ≠ 11 ∧ c ≠ 29 ∧ c ≠ 2 ∧ c ≠ 39 ∧ c ≠ 40 ∧ c ≠ 41) : MK (nwM h c z) np n := H.of (rI_nw_ne hc.1) (rI_nw_ne hc.2.1) (cn_nw_ne hc.2.2.2.1) (fun _ => rR_nw_ne hc.2.2.1) (fun _ _ _ => rI_nw_ne hc.2.2.2.1) (fun _ _ => rR_nw_ne hc.2.2.2.1) (fun _ => rI_nw_ne hc.2.2.2.2.1) (fun _ => rI_nw_ne hc.2.2.2.2.2.1) (fun _ => rI_nw_ne hc.2.2.2.2.2.2)
theorem LW.wI {h : zM} {c i f : Nat} {v : Int32} (H : LW h) (hc : c ≠ 20 ∧ c ≠ 43 ∧ c ≠ 44) : LW (wI h c i f v) := H.of H.1 (Nat.le_refl _) (fun _ => rfl) (fun _ _ => rfl) (fun _ _ _ => rI_wI_ne hc.1) (fun _ => rI_wI_ne hc.2.1) (fun _ => rI_wI_ne hc.2.2)
theorem LW.wR {h : zM} {c i f : Nat} {v : zR} (H : LW h) (hc : c ≠ 30 ∧ c ≠ 1) : LW (wR h c i f v) := H.of H.1 (Nat.le_refl _) (fun _ => rR_wR_ne hc.1) (fun _ _ => rR_wR_ne hc.2) (fun _ _ _ => rfl) (fun _ => rfl) (fun _ => rfl)
theorem LW.wL {h : zM} {c i f : Nat} {v : Int64} (H : LW h) : LW (wL h c i f v) := H
theorem LW.nw {h : zM} {c z : Nat} (H : LW h) (hc : c ≠ 1 ∧ c ≠ 20 ∧ c ≠ 30 ∧ c ≠ 43 ∧ c ≠ 44) : LW (nwM h c z) := H.of (by rw [cn_nw_ne hc.1, cn_nw_ne hc.2.1]; exact H.1) (by rw [cn_nw_ne hc.1]; exact Nat.le_refl _) (fun _ => rR_nw_ne hc.2.2.1) (fun _ _ => rR_nw_ne hc.1) (fun _ _ _ => rI_nw_ne hc.2.1) (fun _ => rI_nw_ne hc.2.2.2.1) (fun _ => rI_nw_ne hc.2.2.2.2)
theorem Scr.refl (h : zM) : Scr h h := ⟨rfl, fun _ => rfl⟩
theorem Scr.trans {a b c : zM} (H : Scr a b) (G : Scr b c) : Scr a c := ⟨G.1.trans H.1, fun j => (G.2 j).trans (H.2 j)⟩
theorem Scr.wI {a h : zM} {c i f : Nat} {v : Int32} (H : Scr a h) (hc : c ≠ 19) : Scr a (wI h c i f v) := ⟨H.1, fun j => by rw [rI_wI_ne hc]; exact H.2 j⟩
theorem Scr.wL {a h : zM} {c i f : Nat} {v : Int64} (H : Scr a h) : Scr a (wL h c i f v) := H
theorem Scr.wR {a h : zM} {c i f : Nat} {v : zR} (H : Scr a h) : Scr a (wR h c i f v) := H
theorem Scr.nw {a h : zM} {c z : Nat} (H : Scr a h) (hc : c ≠ 19) : Scr a (nwM h c z) := ⟨H.1, fun j => by rw [rI_nw_ne hc]; exact H.2 j⟩
