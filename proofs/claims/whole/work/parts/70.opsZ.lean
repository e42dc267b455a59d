theorem isMat_n {n : Nat} (h : n < 40) : isMat (127 + 4 * n) := by
  have : ∀ j : Fin 40, isMat (127 + 4 * j.val) := by
    unfold isMat
    decide
  exact this ⟨n, h⟩
theorem C_openB {M : Mem} (H : Inv M) {n : Nat} {w s m f : Int32} (hn : n < 40) (en : M 0 5 = nI n) {kd : Nat} (hkd : kd < 5) (ekd : kdO M (gvB M w s m f) = nI kd) {K : Int32 → Mem → Prop}
    (hK : ∀ M', Tx M M' → K (nI n + 1 - 1) (mset (mset (mset (mset (mset (mset (mset (mset (mset (mset M' (127 + 4 * n) 2 w) (127 + 4 * n) 3 s) (127 + 4 * n) 4 m) (127 + 4 * n) 5 (opI (-9) (gvB M w s m f))) (127 + 4 * n) 6 (M 1 0)) (127 + 4 * n) 7 (nI kd)) (127 + 4 * n) 8 (M 305 kd)) (127 + 4 * n) 9 (M 306 kd)) (127 + 4 * n) 10 (M 307 kd)) 0 5 (nI n + 1))) :
    f_X11_tellFacts s m f M (fun M13 =>
                f_X0_bearingOn w (M13 1 0) M13 (fun v14 M14 =>
                  f_X0_giverAmong v14 M14 (fun v15 M15 =>
                    f_X0_kindOf v15 M15 (fun v16 M16 =>
                      vp_in (M16 0 5) 40 ∧
                      f_X5_begin (127 + 4 * ((M16 0 5).toNatClampNeg)) w s m v15 M16 (fun M18 =>
                        vp_in (M18 0 5) 40 ∧
                        vp_in v16 5 ∧
                        vp_in v16 5 ∧
                        vp_in v16 5 ∧
                        ((¬ (M18 (119 + 1 * v16.toNatClampNeg) 2) = (1 : Int32)) →
                          f_X11_open_b152 K (0 : Int32) (M18 (119 + 1 * v16.toNatClampNeg) 1) (M18 (119 + 1 * v16.toNatClampNeg) 0) v16 (127 + 4 * ((M18 0 5).toNatClampNeg)) M18) ∧
                        (((M18 (119 + 1 * v16.toNatClampNeg) 2) = (1 : Int32)) →
                          f_X11_open_b152 K (1 : Int32) (M18 (119 + 1 * v16.toNatClampNeg) 1) (M18 (119 + 1 * v16.toNatClampNeg) 0) v16 (127 + 4 * ((M18 0 5).toNatClampNeg)) M18)))))) := by
  refine t_gB H w s m f (fun M' hT => t_kindOf H hT (fun g hg => (gvB_lt H hg).1) ?_)
  have hk := hK M' hT
  rw [ekd]
  obtain ⟨q0, q1, q2, q3⟩ := term_r H hkd
  have hT9 : M' (119 + kd) = M (119 + kd) := hT _ (by omega) (by omega) (by omega) (by omega) (by omega)
  have e1 : M' 1 0 = M 1 0 := by rw [hT 1 (by decide) (by decide) (by decide) (by decide) (by decide)]
  have e05 : M' 0 5 = nI n := by rw [hT 0 (by decide) (by decide) (by decide) (by decide) (by decide)]; exact en
  have hv : vp_in (nI n) 40 := vin_nI hn (by decide)
  have hv5 : vp_in (nI kd) 5 := vin_nI hkd (by decide)
  have hm := isMat_n hn
  unfold f_X5_begin f_X11_open_b152 f_X5_takeTerms
  rw [e05, nI_cl n (by omega), nI_cl kd (by omega), Nat.one_mul]
  simp (disch := omega) only [mset_ne]
  rw [e05, nI_cl n (by omega), hT9, q0, q1, q2, e1]
  rcases q3 with z | z
  · rw [z] at hk ⊢
    exact ⟨hv, hm, hv, hv5, hv5, hv5, fun _ => ⟨hm, hm, bz0, hk⟩, fun y => absurd y (by decide)⟩
  · rw [z] at hk ⊢
    exact ⟨hv, hm, hv, hv5, hv5, hv5, fun y => absurd rfl y, fun _ => ⟨hm, hm, bz1, hk⟩⟩
