/-! open: the call -/
theorem term_r {M : Mem} (H : Inv M) {kd : Nat} (hk : kd < 5) : M (119 + kd) 0 = M 305 kd ∧ M (119 + kd) 1 = M 306 kd ∧ M (119 + kd) 2 = M 307 kd ∧ bz (M 307 kd) := by
  have h := H.T kd hk
  rw [rws_in _ _ _ _ hk, Nat.one_mul] at h
  exact ⟨h.1, h.2.1, h.2.2.1, h.2.2.2.2.2.2.2⟩
def opM (M1 : Mem) (n : Nat) (w s m kd v5 v6 v7 g d : Int32) : Mem := mset (mset (mset (mset (mset (mset (mset (mset (mset (mset M1 308 n w) 309 n s) 310 n m) 311 n kd) 312 n g) 313 n d) 314 n v5) 315 n v6) 316 n v7) 287 32 (nI n + 1)
theorem q_open {M : Mem} (H : Inv M) {n s : Nat} (hs : s < 512) {w m f : Int32} (hn : n < 40) (en : M 0 5 = nI n) {M1 : Mem} (hE : Eqm M M1) {kd : Nat} (hkd : kd < 5) (ekd : kdO M (gvB M w (nI s) m f) = nI kd) {K : Int32 → Mem → Prop}
    (hK : ∀ M2, TxM M1 M2 → K (nI n + 1 - 1) (opM M2 n w (nI s) m (nI kd) (M 305 kd) (M 306 kd) (M 307 kd) (opI (-9) (gvB M w (nI s) m f)) (M 1 0))) :
    f_X12_givingAct w (nI s) m f M1 (fun v31 M31 =>
              ((0 ≤ v31) →
                f_X12_kindIn v31 M31 (fun v33 M33 =>
                  f_X12_open_b74 K w (nI s) m v31 v33 M33)) ∧
              ((¬ 0 ≤ v31) →
                f_X12_open_b74 K w (nI s) m v31 (0 : Int32) M31)) := by
  refine q_giver H hs w m f hE (fun M2 hT _ => ?_)
  have eG : gvO (brB M w (FK M (nI s) m f)) (M 43) (nn (M 15 0)) = gvB M w (nI s) m f := rfl
  rw [eG]
  have hk := hK M2 hT
  have hGl : ∀ g, gvB M w (nI s) m f = some g → g < 24 := fun g hg => (gvB_lt H hg).2
  have e97 : M2 297 = M 297 := by rw [hT.1 297 (by decide) (by decide) (by decide) (by decide) (by decide), hE 297 (by decide)]
  have e32 : M2 287 32 = nI n := by rw [hT.2 32 (by omega), hE 287 (by decide)]; exact H.M.1.trans en
  have e0 : M2 287 0 = M 1 0 := by rw [hT.2 0 (by omega), hE 287 (by decide)]; exact H.D.1
  have e5 : M2 305 = M 305 ∧ M2 306 = M 306 ∧ M2 307 = M 307 := ⟨by rw [hT.1 305 (by decide) (by decide) (by decide) (by decide) (by decide), hE 305 (by decide)], by rw [hT.1 306 (by decide) (by decide) (by decide) (by decide) (by decide), hE 306 (by decide)], by rw [hT.1 307 (by decide) (by decide) (by decide) (by decide) (by decide), hE 307 (by decide)]⟩
  have hv : vp_in (nI n) 40 := vin_nI hn (by decide)
  have hv5 : vp_in (nI kd) 5 := vin_nI hkd (by decide)
  have fin : ∀ g : Int32, g = opI (-9) (gvB M w (nI s) m f) → f_X12_open_b137 K (nI kd) g (nI n) (mset (mset (mset (mset M2 308 n w) 309 n (nI s)) 310 n m) 311 n (nI kd)) := fun g eg => by
    subst eg
    unfold f_X12_open_b137
    rw [mset_ne (c' := 287) _ _ _ (by decide), mset_ne (c' := 287) _ _ _ (by decide), mset_ne (c' := 287) _ _ _ (by decide), mset_ne (c' := 287) _ _ _ (by decide), e32, e0, nI_cl n (by omega), nI_cl kd (by omega)]
    simp (disch := omega) only [mset_ne]
    rw [e5.1, e5.2.1, e5.2.2]
    exact ⟨hv, hv, hv5, hv, hv5, hv, hv5, hv, hk⟩
  unfold f_X12_open_b74
  rw [e32, nI_cl n (by omega)]
  cases hg : gvB M w (nI s) m f with
  | none =>
    rw [hg] at ekd fin
    have k0 : (0 : Int32) = nI kd := ekd
    refine ⟨fun z => absurd (show (0 : Int32) ≤ -1 from z) (by decide), fun _ => ⟨hv, hv, hv, hv, fun z => absurd (show (0 : Int32) ≤ -1 from z) (by decide), fun _ => ?_⟩⟩
    rw [k0]
    exact fin (-9) rfl
  | some g =>
    rw [hg] at ekd fin
    have hp : 0 ≤ opI (-1) (some g) := nI_pos' (by have := hGl g hg; omega)
    refine ⟨fun _ => q_kindIn e97 (hGl g hg) ?_, fun z => absurd hp z⟩
    rw [ekd, e32, nI_cl n (by omega)]
    exact ⟨hv, hv, hv, hv, fun _ => fin _ rfl, fun z => absurd hp z⟩
