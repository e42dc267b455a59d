/-! open -/
theorem i_open {M : Mem} (H : Inv M) {n kd : Nat} {w s m g : Int32} (hn : n < 40) (en : M 0 5 = nI n) (hw : 0 ≤ w ∧ w ≤ 7) (hs : 1 ≤ s ∧ s ≤ 63) (hm : 0 ≤ m ∧ m ≤ 9999) (hk : kd < 5) :
    Inv (mset (mset (mset (mset (mset (mset (mset (mset (mset (mset (mset (mset (mset (mset (mset (mset (mset (mset (mset (mset M (127 + 4 * n) 2 w) (127 + 4 * n) 3 s) (127 + 4 * n) 4 m) (127 + 4 * n) 5 g) (127 + 4 * n) 6 (M 1 0)) (127 + 4 * n) 7 (nI kd)) (127 + 4 * n) 8 (M 305 kd)) (127 + 4 * n) 9 (M 306 kd)) (127 + 4 * n) 10 (M 307 kd)) 0 5 (nI (n + 1))) 308 n w) 309 n s) 310 n m) 311 n (nI kd)) 312 n g) 313 n (M 1 0)) 314 n (M 305 kd)) 315 n (M 306 kd)) 316 n (M 307 kd)) 287 32 (nI (n + 1))) := by
  have r0 : ∀ M : Mem, ∀ k v, rws (mset M (127 + 4 * n) k v) 128 4 40 = rws M 128 4 40 ∧ rws (mset M (127 + 4 * n) k v) 129 4 40 = rws M 129 4 40 ∧ rws (mset M (127 + 4 * n) k v) 130 4 40 = rws M 130 4 40 := fun M k v => ⟨rws_o4 M 128 40 _ k v (fun q hq => by omega), rws_o4 M 129 40 _ k v (fun q hq => by omega), rws_o4 M 130 40 _ k v (fun q hq => by omega)⟩
  have a0 : ∀ M : Mem, ∀ k v, rws (mset M (127 + 4 * n) k v) 127 4 40 = fun j => if j = n then upd (rws M 127 4 40 n) k v else rws M 127 4 40 j := fun M k v => rws_a4 M 127 _ 40 k v hn rfl
  unfold Inv
  simp (disch := omega) only [mset_ne, mset_row, rws_ne, upd_s, upd_n]
  simp only [(r0 _ _ _).1, (r0 _ _ _).2.1, (r0 _ _ _).2.2, a0]
  refine ⟨H.R, H.D, H.S, H.P, H.Q, H.W, H.A, H.X, H.B, H.T, ?_, H.V, ?_, ?_, H.C, ?_, H.H, H.F, H.U, H.L, H.O, H.I, H.J, H.K⟩
  · have h := H.M
    have hT := H.T kd hk
    have hD0 := H.D.2.1
    unfold gMat at h ⊢
    rw [en, nn_nI n (by omega)] at h
    rw [nn_nI (n + 1) (by omega)]
    obtain ⟨b1, b2, b3, b4, b5⟩ := h
    have b5n := b5 n (Nat.le_refl n) hn
    refine ⟨rfl, nI_pos' (by omega), (nI_le_iff (b := 40) (by omega) (by omega)).mpr (by omega), fun i hi => ?_, fun i h1 h2 => ?_⟩
    · by_cases q : i = n
      · subst q
        unfold mrow
        simp only [upd_at]
        rw [b5n.2]
        simp only [if_true]
        obtain ⟨-, -, -, t1, t2, t3, t4, t5⟩ := hT
        refine ⟨?_, ?_, ?_, ?_, ?_, ?_, ?_, ?_, ?_, ?_, hw.1, hw.2, hs.1, hs.2, hm.1, hm.2, nI_pos' (by omega), (nI_le_iff (b := 4) (by omega) (by omega)).mpr (by omega), hD0, Int32.le_refl _, t1, t2, t3, t4, t5, by decide, by decide, fun k hk2 => absurd hk2 (Nat.not_lt_zero k)⟩
        all_goals first | rfl | exact b5n.1 | exact b5n.1.trans b5n.2.symm
      · have := b4 i (by omega)
        unfold mrow at this ⊢
        simp only [upd_at, if_neg q]
        exact this
    · have := b5 i (by omega) h2
      have q : ¬ i = n := by omega
      simp only [upd_at, if_neg q]
      exact this
  · have h := H.N
    have hM := H.M
    unfold gMat at hM
    rw [en, nn_nI n (by omega)] at hM
    have h0 := (hM.2.2.2.2 n (Nat.le_refl n) hn).2
    unfold gSess at h ⊢
    rw [en, nn_nI n (by omega)] at h
    rw [nn_nI (n + 1) (by omega)]
    have ea : ∀ k, ansN (n + 1) (M 317) (M 318) (M 321) k = ansN n (M 317) (M 318) (M 321) k := fun k => by
      unfold ansN
      rw [List.range_succ, List.map_append, List.sum_append, List.map_singleton, List.sum_singleton, h0]
      rfl
    simp only [ea]
    exact h
  · have h := H.G
    unfold gAgr at h ⊢
    obtain ⟨a1, a2, a3, a4, a5, a6, a7, a8, a9, a10, a11, a12⟩ := h
    refine ⟨a1, a2, a3, a4, a5, a6, a7, a8, a9, a10, a11, fun k hk => ?_⟩
    obtain ⟨z1, z2, z3, z4, z5, z6, z7, z8, z9, z10⟩ := a12 k hk
    rw [en] at z2
    obtain ⟨i, hi, ei⟩ := nat_of (x := M 63 k) (n := n) z1 (Int32.le_of_lt z2) (by omega)
    have z2' := z2
    rw [ei] at z2'
    have := (nI_lt_iff (by omega) (by omega)).mp z2'
    rw [ei, nn_nI i (by omega), upd_n _ _ (by omega), upd_n _ _ (by omega)]
    rw [ei, nn_nI i (by omega)] at z3 z10
    rw [ei] at z1
    exact ⟨z1, (nI_lt_iff (by omega) (by omega)).mpr (by omega), z3, z4, z5, z6, z7, z8, z9, z10⟩
  · have h := H.E
    unfold gDeed at h ⊢
    obtain ⟨a1, a2, a3, a4, a5, a6, a7, a8, a9⟩ := h
    refine ⟨a1, a2, a3, a4, a5, a6, a7, a8, fun k hk => ?_⟩
    obtain ⟨z1, z2, z3, z4, z5⟩ := a9 k hk
    rw [en] at z3
    refine ⟨z1, z2, Int32.lt_of_lt_of_le z3 ((nI_le_iff (by omega) (by omega)).mpr (by omega)), fun h0 => ?_, z5⟩
    obtain ⟨i, hi, ei⟩ := nat_of (x := M 73 k) (n := n) h0 (Int32.le_of_lt z3) (by omega)
    rw [ei] at z3
    have := (nI_lt_iff (by omega) (by omega)).mp z3
    rw [ei, nn_nI i (by omega), upd_n _ _ (by omega)]
    have z4' := z4 h0
    rw [ei, nn_nI i (by omega)] at z4'
    exact z4'
