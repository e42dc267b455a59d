/-! tellings keep the invariant; the calls that tell, and those that ask of one matter -/
theorem rws_a4 (M : Mem) (b b' n : Nat) {j : Nat} (k : Nat) (v : Int32) (hj : j < n) (hb : b' = b + 4 * j) : rws (mset M b' k v) b 4 n = fun i => if i = j then upd (rws M b 4 n j) k v else rws M b 4 n i := by
  rw [hb]
  exact rws_at M b 4 n k v (by omega) hj
theorem rws_o4 (M : Mem) (b n c k : Nat) (v : Int32) (h : ∀ i, i < n → c ≠ b + 4 * i) : rws (mset M c k v) b 4 n = rws M b 4 n := rws_off M b 4 n c k v h
/-- the new row of a matter that is told of -/
def okT (M : Mem) (w a b s : Int32) : Prop := 0 ≤ w ∧ w ≤ 5 ∧ ((w = 0 ∨ w = 1) → a = b ∧ 0 ≤ a ∧ a ≤ 7) ∧ (w = 2 → b = -1) ∧ (w = 5 → b = -1) ∧ (w = 4 → a = b ∧ bz a) ∧ (w = 3 → a = 2 * s + b ∧ bz b ∧ 0 ≤ s ∧ s < M 51 5)
theorem m_tell {M : Mem} (H : Inv M) {i n : Nat} {w a b s : Int32} (hi : i < nn (M 0 5)) (h40 : i < 40) (hn : n < 30) (en : M 317 i = nI n) (hT : okT M w a b s) :
    gMat (M 0 5) (M 287 32) (M 1 0) (M 51 5) (fun j => if j = i then upd (rws M 127 4 40 i) 11 (nI (n + 1)) else rws M 127 4 40 j) (fun j => if j = i then upd (rws M 128 4 40 i) n w else rws M 128 4 40 j) (fun j => if j = i then upd (rws M 129 4 40 i) n a else rws M 129 4 40 j) (fun j => if j = i then upd (rws M 130 4 40 i) n (M 1 0) else rws M 130 4 40 j)
      (M 308) (M 309) (M 310) (M 311) (M 312) (M 313) (M 314) (M 315) (M 316) (upd (M 317) i (nI (n + 1))) (upd (M 318) (30 * i + n) w) (upd (M 319) (30 * i + n) (M 1 0)) (upd (M 320) (30 * i + n) b) (upd (M 321) (30 * i + n) s) := by
  have h30 := told30 H
  obtain ⟨e, o0, o1, hr, hz⟩ := H.M
  refine ⟨e, o0, o1, fun j hj => ?_, fun j hj hj40 => ?_⟩
  · have hrj := hr j hj
    have h30j := h30 j hj
    by_cases c : j = i
    · subst c
      simp only [if_true]
      obtain ⟨h1, h2, h3, h4, h5, h6, h7, h8, h9, h10, b1, b2, b3, b4, b5, b6, b7, b8, b9, b10, b11, b12, b13, b14, b15, b16, b17, hq⟩ := hrj
      refine ⟨h1, h2, h3, h4, h5, h6, h7, h8, h9, by rw [upd_s, upd_s], b1, b2, b3, b4, b5, b6, b7, b8, b9, b10, b11, b12, b13, b14, b15, by rw [upd_s]; exact nI_pos' (by omega), by rw [upd_s]; exact (nI_le_iff (b := 30) (by omega) (by omega)).mpr (by omega), fun k hk => ?_⟩
      rw [upd_s, nn_nI (n + 1) (by omega)] at hk
      rw [en, nn_nI n (by omega)] at hq
      by_cases ck : k = n
      · subst ck
        simp only [upd_s]
        obtain ⟨t1, t2, t3, t4, t5, t6, t7⟩ := hT
        exact ⟨trivial, trivial, t1, t2, b10, Int32.le_refl _, t3, t4, t5, t6, t7⟩
      · have ck2 : ¬ 30 * j + k = 30 * j + n := by omega
        have := hq k (by omega)
        simp only [upd_n _ _ ck, upd_n _ _ ck2]
        exact this
    · simp only [if_neg c]
      obtain ⟨h1, h2, h3, h4, h5, h6, h7, h8, h9, h10, b1, b2, b3, b4, b5, b6, b7, b8, b9, b10, b11, b12, b13, b14, b15, b16, b17, hq⟩ := hrj
      refine ⟨h1, h2, h3, h4, h5, h6, h7, h8, h9, by rw [upd_n _ _ c]; exact h10, b1, b2, b3, b4, b5, b6, b7, b8, b9, b10, b11, b12, b13, b14, b15, by rw [upd_n _ _ c]; exact b16, by rw [upd_n _ _ c]; exact b17, fun k hk => ?_⟩
      rw [upd_n _ _ c] at hk
      have ck2 : ¬ 30 * j + k = 30 * i + n := by omega
      have := hq k hk
      simp only [upd_n _ _ ck2]
      exact this
  · have c : ¬ j = i := by omega
    simp only [if_neg c, upd_n _ _ c]
    exact hz j hj hj40
theorem n_tell {M : Mem} (H : Inv M) {i n : Nat} {w s : Int32} {x60 : Nat → Int32} (hi : i < nn (M 0 5)) (hn : n < 30) (en : M 317 i = nI n) (hx : ∀ k, k < nn (M 51 5) → x60 k = if w = 3 ∧ s = nI k then M 60 k + 1 else M 60 k) :
    gSess (M 51 5) (M 287 52) (M 1 0) (M 0 5) (M 56) (M 57) (M 58) (M 59) x60 (M 326) (M 327) (M 328) (M 329) (upd (M 317) i (nI (n + 1))) (upd (M 318) (30 * i + n) w) (upd (M 321) (30 * i + n) s) := by
  have h30 := told30 H
  obtain ⟨a1, a2, a3, a4, a5, a6, a7, a8, a9⟩ := H.N
  refine ⟨a1, a2, a3, a4, a5, a6, a7, a8, fun k hk => ?_⟩
  obtain ⟨z1, z2, z3, z4, z5, z6, z7, z8⟩ := a9 k hk
  refine ⟨z1, z2, z3, z4, z5, z6, z7, ?_⟩
  rw [hx k hk, ansN_tel hi en hn h30, z8]
  by_cases c : w = 3 ∧ s = nI k
  · rw [if_pos c, if_pos c, nI_1]
  · rw [if_neg c, if_neg c]; rfl
theorem i_tell {M : Mem} (H : Inv M) {i n : Nat} {w a b s : Int32} (hi : i < nn (M 0 5)) (h40 : i < 40) (hn : n < 30) (en : M 317 i = nI n) (hT : okT M w a b s) (h3 : ¬ w = 3) : Inv (telM (telC M i n w a) i n w b s) := by
  have e287 : (telC M i n w a) 287 = M 287 := telC_c M h40 n w a 287 (by decide)
  unfold telM
  rw [e287, H.D.1]
  unfold telC
  unfold Inv
  simp (disch := omega) only [mset_ne, mset_row, rws_ne, upd_s, upd_n]
  have r0 : ∀ M : Mem, ∀ k v, rws (mset M (127 + 4 * i) k v) 128 4 40 = rws M 128 4 40 ∧ rws (mset M (127 + 4 * i) k v) 129 4 40 = rws M 129 4 40 ∧ rws (mset M (127 + 4 * i) k v) 130 4 40 = rws M 130 4 40 := fun M k v => ⟨rws_o4 M 128 40 _ k v (fun q hq => by omega), rws_o4 M 129 40 _ k v (fun q hq => by omega), rws_o4 M 130 40 _ k v (fun q hq => by omega)⟩
  have r1 : ∀ M : Mem, ∀ k v, rws (mset M (127 + 4 * i + 1) k v) 127 4 40 = rws M 127 4 40 ∧ rws (mset M (127 + 4 * i + 1) k v) 129 4 40 = rws M 129 4 40 ∧ rws (mset M (127 + 4 * i + 1) k v) 130 4 40 = rws M 130 4 40 := fun M k v => ⟨rws_o4 M 127 40 _ k v (fun q hq => by omega), rws_o4 M 129 40 _ k v (fun q hq => by omega), rws_o4 M 130 40 _ k v (fun q hq => by omega)⟩
  have r2 : ∀ M : Mem, ∀ k v, rws (mset M (127 + 4 * i + 2) k v) 127 4 40 = rws M 127 4 40 ∧ rws (mset M (127 + 4 * i + 2) k v) 128 4 40 = rws M 128 4 40 ∧ rws (mset M (127 + 4 * i + 2) k v) 130 4 40 = rws M 130 4 40 := fun M k v => ⟨rws_o4 M 127 40 _ k v (fun q hq => by omega), rws_o4 M 128 40 _ k v (fun q hq => by omega), rws_o4 M 130 40 _ k v (fun q hq => by omega)⟩
  have r3 : ∀ M : Mem, ∀ k v, rws (mset M (127 + 4 * i + 3) k v) 127 4 40 = rws M 127 4 40 ∧ rws (mset M (127 + 4 * i + 3) k v) 128 4 40 = rws M 128 4 40 ∧ rws (mset M (127 + 4 * i + 3) k v) 129 4 40 = rws M 129 4 40 := fun M k v => ⟨rws_o4 M 127 40 _ k v (fun q hq => by omega), rws_o4 M 128 40 _ k v (fun q hq => by omega), rws_o4 M 129 40 _ k v (fun q hq => by omega)⟩
  have a0 : ∀ M : Mem, ∀ k v, rws (mset M (127 + 4 * i) k v) 127 4 40 = fun j => if j = i then upd (rws M 127 4 40 i) k v else rws M 127 4 40 j := fun M k v => rws_a4 M 127 _ 40 k v h40 rfl
  have a1 : ∀ M : Mem, ∀ k v, rws (mset M (127 + 4 * i + 1) k v) 128 4 40 = fun j => if j = i then upd (rws M 128 4 40 i) k v else rws M 128 4 40 j := fun M k v => rws_a4 M 128 _ 40 k v h40 (by omega)
  have a2 : ∀ M : Mem, ∀ k v, rws (mset M (127 + 4 * i + 2) k v) 129 4 40 = fun j => if j = i then upd (rws M 129 4 40 i) k v else rws M 129 4 40 j := fun M k v => rws_a4 M 129 _ 40 k v h40 (by omega)
  have a3 : ∀ M : Mem, ∀ k v, rws (mset M (127 + 4 * i + 3) k v) 130 4 40 = fun j => if j = i then upd (rws M 130 4 40 i) k v else rws M 130 4 40 j := fun M k v => rws_a4 M 130 _ 40 k v h40 (by omega)
  simp only [(r0 _ _ _).1, (r0 _ _ _).2.1, (r0 _ _ _).2.2, (r1 _ _ _).1, (r1 _ _ _).2.1, (r1 _ _ _).2.2, (r2 _ _ _).1, (r2 _ _ _).2.1, (r2 _ _ _).2.2, (r3 _ _ _).1, (r3 _ _ _).2.1, (r3 _ _ _).2.2, a0, a1, a2, a3]
  exact ⟨H.R, H.D, H.S, H.P, H.Q, H.W, H.A, H.X, H.B, H.T, m_tell H hi h40 hn en hT, H.V, n_tell H hi hn en (fun k _ => by rw [if_neg (fun q => h3 q.1)]), H.G, H.C, H.E, H.H, H.F, H.U, H.L, H.O, H.I, H.J, H.K⟩
