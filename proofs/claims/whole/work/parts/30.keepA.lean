/-! each call keeps the invariant, and both answer alike -/
theorem rws_put (M : Mem) (b s n c : Nat) (f : Nat → Int32) (h : c < b ∨ b + s * (n - 1) < c) : rws (mput M c f) b s n = rws M b s n := by
  funext i
  unfold rws
  by_cases hi : i < n
  · rw [if_pos hi, if_pos hi]
    have h1 : i ≤ n - 1 := by omega
    have h2 := Nat.mul_le_mul_left s h1
    exact mput_n M f (by omega)
  · rw [if_neg hi, if_neg hi]
theorem rws_a1 (M : Mem) (b n : Nat) {j : Nat} (k : Nat) (v : Int32) (hj : j < n) : rws (mset M (b + j) k v) b 1 n = fun i => if i = j then upd (rws M b 1 n j) k v else rws M b 1 n i := by
  rw [← rws_at M b 1 n k v (by omega) hj, Nat.one_mul]
theorem dayB {M : Mem} (H : Inv M) : M 287 0 = M 1 0 ∧ 0 ≤ M 1 0 ∧ M 1 0 ≤ 1000 := ⟨H.D.1, H.D.2.1, H.D.2.2.1⟩
theorem i_ref {M : Mem} (H : Inv M) (c : Int32) : Inv (ref M c) := by
  unfold ref
  unfold Inv
  simp (disch := omega) only [mset_ne, mset_row, rws_ne, upd_s, upd_n, mput_n, mput_s, rws_put]
  refine ⟨?_, H.D, H.S, H.P, H.Q, H.W, H.A, H.X, H.B, H.T, H.M, H.V, H.N, H.G, H.C, H.E, H.H, H.F, H.U, H.L, H.O, H.I, H.J, H.K⟩
  · have h := H.R; unfold gR at h ⊢; rw [h]
theorem i_days {M : Mem} (H : Inv M) {v : Int32} (h0 : M 1 0 ≤ v) (h1 : v ≤ 1000) : Inv (mset (mset M 1 0 v) 287 0 v) := by
  unfold Inv
  simp (disch := omega) only [mset_ne, mset_row, rws_ne, upd_s, upd_n, mput_n, mput_s, rws_put]
  refine ⟨H.R, ?_, H.S, ?_, ?_, H.W, H.A, H.X, H.B, H.T, ?_, H.V, ?_, ?_, H.C, ?_, ?_, H.F, H.U, H.L, H.O, H.I, H.J, H.K⟩
  · have h := H.D; unfold gDay at h ⊢; grind [upd_at]
  · have h := H.P; unfold gPeo at h ⊢; grind [upd_at]
  · have h := H.Q; unfold gPts at h ⊢; obtain ⟨a, b, c, d, e, f⟩ := h; refine ⟨a, b, c, d, e, ?_⟩; rcases f with f | f; exact Or.inl f; exact Or.inr ⟨f.1, Int32.le_trans f.2.1 h0, f.2.2⟩
  · have h := H.M; unfold gMat mrow at h ⊢; grind
  · have h := H.N; unfold gSess at h ⊢; grind [upd_at]
  · have h := H.G; unfold gAgr at h ⊢; grind [upd_at]
  · have h := H.E; unfold gDeed at h ⊢; grind [upd_at]
  · have h := H.H; unfold gHang at h ⊢; grind [upd_at]
theorem i_votes {M : Mem} (H : Inv M) {k : Nat} {b : Int32} (h0 : 0 ≤ b) (h1 : b ≤ 999) : Inv (mset (mset M 52 k b) 322 k b) := by
  unfold Inv
  simp (disch := omega) only [mset_ne, mset_row, rws_ne, upd_s, upd_n, mput_n, mput_s, rws_put]
  refine ⟨H.R, H.D, H.S, H.P, H.Q, H.W, H.A, H.X, H.B, H.T, H.M, ?_, H.N, H.G, H.C, H.E, H.H, H.F, H.U, H.L, H.O, H.I, H.J, H.K⟩
  · have h := H.V; unfold gSeat at h ⊢; grind [upd_at]
theorem i_put {M : Mem} (H : Inv M) {b : Int32} (h0 : M 0 14 < 40) : Inv (mset (mset (mset (mset M 125 (nn (M 0 14)) b) 0 14 (M 0 14 + 1)) 368 (nn (M 0 14)) b) 287 106 (M 0 14 + 1)) := by
  unfold Inv
  simp (disch := omega) only [mset_ne, mset_row, rws_ne, upd_s, upd_n, mput_n, mput_s, rws_put]
  refine ⟨H.R, H.D, H.S, H.P, H.Q, H.W, H.A, H.X, H.B, H.T, H.M, H.V, H.N, H.G, H.C, H.E, H.H, H.F, H.U, H.L, ?_, H.I, H.J, H.K⟩
  · have h := H.O; unfold gRow at h ⊢; obtain ⟨e, b0, b1, r⟩ := h; exact ⟨rfl, by lia, by lia, by rw [show M 368 = M 125 from r]⟩
theorem i_weight {M : Mem} (H : Inv M) {k : Nat} {b : Int32} (h0 : 0 ≤ b) (h1 : b ≤ 9) : Inv (mset (mset M 14 k b) 360 k b) := by
  unfold Inv
  simp (disch := omega) only [mset_ne, mset_row, rws_ne, upd_s, upd_n, mput_n, mput_s, rws_put]
  refine ⟨H.R, H.D, H.S, H.P, ?_, H.W, H.A, H.X, H.B, H.T, H.M, H.V, H.N, H.G, H.C, H.E, H.H, H.F, H.U, H.L, H.O, H.I, H.J, H.K⟩
  · have h := H.Q; unfold gPts at h ⊢; grind [upd_at]
theorem i_need {M : Mem} (H : Inv M) {k : Nat} {b : Int32} (h0 : 0 ≤ b) (h1 : b ≤ 2) : Inv (mset (mset (mset (mset M 82 k b) 81 15 0) 347 k b) 287 89 (-1)) := by
  unfold Inv
  simp (disch := omega) only [mset_ne, mset_row, rws_ne, upd_s, upd_n, mput_n, mput_s, rws_put]
  refine ⟨H.R, H.D, H.S, H.P, H.Q, H.W, H.A, H.X, H.B, H.T, H.M, H.V, H.N, H.G, H.C, H.E, H.H, ?_, H.U, H.L, H.O, H.I, ?_, ?_⟩
  · have h := H.F; unfold gNeed at h ⊢; grind [upd_at]
  · exact ⟨bz0, fun q => absurd q (by decide)⟩
  · exact Or.inl rfl
theorem i_contract {M : Mem} (H : Inv M) {k : Nat} {b c : Int32} (h0 : -1 ≤ b) (h1 : b ≤ 9999) (h2 : 0 ≤ c) (h3 : c ≤ 2) : Inv (mset (mset (mset (mset M 69 k b) 70 k c) 336 k b) 337 k c) := by
  unfold Inv
  simp (disch := omega) only [mset_ne, mset_row, rws_ne, upd_s, upd_n, mput_n, mput_s, rws_put]
  refine ⟨H.R, H.D, H.S, H.P, H.Q, H.W, H.A, H.X, H.B, H.T, H.M, H.V, H.N, H.G, ?_, H.E, H.H, H.F, H.U, H.L, H.O, H.I, H.J, H.K⟩
  · have h := H.C; unfold gCon at h ⊢; grind [upd_at]
theorem i_after {M : Mem} (H : Inv M) {k : Nat} {b : Int32} (hb : bz b) : Inv (mset (mset M 71 k b) 338 k b) := by
  unfold Inv
  simp (disch := omega) only [mset_ne, mset_row, rws_ne, upd_s, upd_n, mput_n, mput_s, rws_put]
  refine ⟨H.R, H.D, H.S, H.P, H.Q, H.W, H.A, H.X, H.B, H.T, H.M, H.V, H.N, H.G, ?_, H.E, H.H, H.F, H.U, H.L, H.O, H.I, H.J, H.K⟩
  · have h := H.C; unfold gCon at h ⊢; grind [upd_at]
theorem i_feast {M : Mem} (H : Inv M) {f g : Nat → Int32} (h1 : ∀ j, bz (f j)) (h2 : ∀ j, j ≤ 1000 → g j = nI (wd f j)) : Inv (mput (mput (mput M 2 f) 3 g) 288 f) := by
  unfold Inv
  simp (disch := omega) only [mset_ne, mset_row, rws_ne, upd_s, upd_n, mput_n, mput_s, rws_put]
  refine ⟨H.R, ?_, H.S, H.P, H.Q, H.W, H.A, H.X, H.B, H.T, H.M, H.V, H.N, H.G, H.C, H.E, H.H, H.F, H.U, H.L, H.O, H.I, H.J, H.K⟩
  · have h := H.D; exact ⟨h.1, h.2.1, h.2.2.1, rfl, h1, h2⟩

theorem P_days {M : Mem} (H : Inv M) (a : Int32) : f_X11_days a M (fun r M1 => f_X12_days a M1 (fun r' M2 => r' = r ∧ Inv M2)) := by
  refine o_days H.R H.D (fun c hc => ⟨rfl, i_ref H c⟩) (fun h1 h2 => ⟨rfl, i_days H ?_ ?_⟩)
  · have := H.D.2.1; have := H.D.2.2.1; lia
  · have := H.D.2.1; have := H.D.2.2.1; lia
theorem P_votes {M : Mem} (H : Inv M) (a b : Int32) : f_X11_votes a b M (fun r M1 => f_X12_votes a b M1 (fun r' M2 => r' = r ∧ Inv M2)) := by
  exact o_votes H.R H.V.2.2.2.1 (fun c hc => ⟨rfl, i_ref H c⟩) (fun h1 h2 h3 h4 => ⟨rfl, i_votes H h3 h4⟩)
theorem P_put {M : Mem} (H : Inv M) (a : Int32) : f_X11_put a M (fun r M1 => f_X12_put a M1 (fun r' M2 => r' = r ∧ Inv M2)) := by
  exact o_put H.R H.O ⟨rfl, i_ref H _⟩ (fun h1 => ⟨rfl, i_put H h1⟩)
theorem P_weight {M : Mem} (H : Inv M) (a b : Int32) : f_X11_weight a b M (fun r M1 => f_X12_weight a b M1 (fun r' M2 => r' = r ∧ Inv M2)) := by
  exact o_weight H.R H.Q.1 (fun c hc => ⟨rfl, i_ref H c⟩) (fun h1 h2 h3 h4 => ⟨rfl, i_weight H h3 h4⟩)
theorem P_need {M : Mem} (H : Inv M) (a b : Int32) : f_X11_need a b M (fun r M1 => f_X12_need a b M1 (fun r' M2 => r' = r ∧ Inv M2)) := by
  exact o_need H.R H.F.1 (fun c hc => ⟨rfl, i_ref H c⟩) (fun h1 h2 h3 h4 => ⟨rfl, i_need H h3 h4⟩)
theorem P_contract {M : Mem} (H : Inv M) (a b c : Int32) : f_X11_contract a b c M (fun r M1 => f_X12_contract a b c M1 (fun r' M2 => r' = r ∧ Inv M2)) := by
  exact o_contract H.R H.C.1 (fun c hc => ⟨rfl, i_ref H c⟩) (fun h1 h2 h3 h4 h5 h6 => ⟨rfl, i_contract H h3 h4 h5 h6⟩)
theorem P_after {M : Mem} (H : Inv M) (a : Int32) {b : Int32} (hb : bz b) : f_X11_after a b M (fun r M1 => f_X12_after a b M1 (fun r' M2 => r' = r ∧ Inv M2)) := o_after H.R H.C.2.2.1 hb ⟨rfl, i_ref H _⟩ (fun h1 h2 => ⟨rfl, i_after H hb⟩)
theorem P_seat {M : Mem} (H : Inv M) (a b : Int32) : f_X11_seat a b M (fun r M1 => f_X12_seat a b M1 (fun r' M2 => r' = r ∧ Inv M2)) := by
  exact o_seat H.R H.V (fun c hc => ⟨rfl, i_ref H c⟩) (fun v => ⟨rfl, H⟩)
theorem P_sessionOf {M : Mem} (H : Inv M) (a b : Int32) : f_X11_sessionOf a b M (fun r M1 => f_X12_sessionOf a b M1 (fun r' M2 => r' = r ∧ Inv M2)) := by
  have h := H.N
  obtain ⟨e, h0, h1, e2, e3, e4, e5, hb, hk⟩ := h
  exact o_sessionOf H.R e h0 h1 e2 e3 e4 e5 (fun k hq => (hk k hq).2.2.2.2.2.1) (fun c hc => ⟨rfl, i_ref H c⟩) (fun v => ⟨rfl, H⟩)
theorem P_workdays {M : Mem} (H : Inv M) (a b : Int32) : f_X11_workdays a b M (fun r M1 => f_X12_workdays a b M1 (fun r' M2 => r' = r ∧ Inv M2)) := by
  exact o_workdays H.R H.D (fun c hc => ⟨rfl, i_ref H c⟩) (fun v => ⟨rfl, H⟩)
theorem P_feast {M : Mem} (H : Inv M) (a : Int32) : f_X11_feast a M (fun r M1 => f_X12_feast a M1 (fun r' M2 => r' = r ∧ Inv M2)) := by
  exact o_feast H.R H.D (fun c hc => ⟨rfl, i_ref H c⟩) (fun v f g h1 h2 => ⟨rfl, i_feast H h1 h2⟩)
theorem i_hang {M : Mem} (H : Inv M) {n : Nat} {a b : Int32} (hn : M 72 6 = nI n) (h : n < 100) : Inv (mset (mset (mset (mset (mset (mset (mset (mset M 78 n a) 79 n b) 80 n (M 1 0)) 72 6 (nI (n + 1))) 344 n a) 345 n (M 1 0)) 346 n b) 287 73 (nI (n + 1))) := by
  unfold Inv
  simp (disch := omega) only [mset_ne, mset_row, rws_ne, upd_s, upd_n, mput_n, mput_s, rws_put]
  refine ⟨H.R, H.D, H.S, H.P, H.Q, H.W, H.A, H.X, H.B, H.T, H.M, H.V, H.N, H.G, H.C, H.E, ?_, H.F, H.U, H.L, H.O, H.I, H.J, H.K⟩
  · have h := H.H; unfold gHang at h ⊢; obtain ⟨e, b0, b1, r1, r2, r3⟩ := h; exact ⟨rfl, nI_pos' (by omega), (nI_le_iff (b := 100) (by omega) (by omega)).mpr (by omega), by rw [r1], by rw [r2], by rw [r3]⟩
theorem P_hang {M : Mem} (H : Inv M) (a b : Int32) : f_X11_hang a b M (fun r M1 => f_X12_hang a b M1 (fun r' M2 => r' = r ∧ Inv M2)) := by
  have h := H.H
  obtain ⟨n, hn, en⟩ := nat_of (n := 100) h.2.1 h.2.2.1 (by decide)
  refine o_hang H.R H.E.1 H.E.2.1 H.E.2.2.1 H.D.1 H.H (fun c hc => ⟨rfl, i_ref H c⟩) (fun v h1 h2 h3 h4 h5 => ⟨rfl, ?_⟩)
  rw [en, nn_nI n (by omega), nI_1]
  rw [en] at h5
  exact i_hang H en ((nI_lt_iff (b := 100) (by omega) (by omega)).mp h5)
theorem i_leave {M : Mem} (H : Inv M) {k : Nat} (hk : k < nn (M 4 0)) : Inv (mset (mset (mset (mset M 6 k 0) 81 15 0) 287 89 (-1)) 294 k 1) := by
  unfold Inv
  simp (disch := omega) only [mset_ne, mset_row, rws_ne, upd_s, upd_n, mput_n, mput_s, rws_put]
  refine ⟨H.R, H.D, H.S, ?_, H.Q, H.W, H.A, H.X, H.B, H.T, H.M, H.V, H.N, H.G, H.C, H.E, H.H, H.F, H.U, H.L, H.O, H.I, ?_, ?_⟩
  · have h := H.P; unfold gPeo at h ⊢; obtain ⟨a1, a2, a3, a4, a5, a6, a7, a8, a9, a10, a11, a12⟩ := h; refine ⟨a1, a2, a3, a4, a5, a6, a7, fun j hj => ?_, fun j => ?_, fun j => ?_, fun j hj => ?_, a12⟩ <;> rw [upd_at] <;> first | (rw [upd_at]; have := a8 j hj; grind) | (have := a9 j; grind [bz]) | (have := a10 j; grind [bz]) | (have := a11 j hj; grind)
  · exact ⟨bz0, fun q => absurd q (by decide)⟩
  · exact Or.inl rfl
theorem nn_lt {M : Mem} {a x : Int32} {n : Nat} (hx : x = nI n) (hn : n < 2147483648) (h0 : 0 ≤ a) (h1 : a ≤ x - 1) : nn a < nn x := by
  obtain ⟨j, hj, e⟩ := natL hx hn ⟨h0, h1⟩
  rw [e, hx, nn_nI j (by omega), nn_nI n hn]
  exact hj
theorem P_leave {M : Mem} (H : Inv M) (a : Int32) : f_X11_leave a M (fun r M1 => f_X12_leave a M1 (fun r' M2 => r' = r ∧ Inv M2)) := by
  have h := H.P
  obtain ⟨n, hn, en⟩ := nat_of (n := 24) h.2.1 h.2.2.1 (by decide)
  exact o_leave H.R H.P (fun c hc => ⟨rfl, i_ref H c⟩) (fun h1 h2 _ _ => ⟨rfl, i_leave H (nn_lt (M := M) en (by omega) h1 h2)⟩)
theorem i_person {M : Mem} (H : Inv M) {n : Nat} {s b c ch hu : Int32} (hn : n < 24) (en : M 4 0 = nI n) (s0 : 0 ≤ s) (s1 : s ≤ 5) (b0 : -25000 ≤ b) (b1 : b ≤ -5000) (c0 : -15000 ≤ c) (c1 : c ≤ M 1 0) (d0 : 0 ≤ ch) (d1 : ch ≤ 9) (e0 : 0 ≤ hu) (e1 : hu ≤ 100) : Inv (mset (mset (mset (mset (mset (mset (mset (mset (mset (mset (mset (mset (mset (mset (mset (mset (mset (mset (mset M 81 15 0) 5 n s) 6 n 1) 7 n b) 8 n c) 9 n ch) 10 n hu) 11 n ch) 12 n hu) 4 0 (nI (n + 1))) 287 89 (-1)) 289 n s) 290 n b) 291 n c) 292 (2 * n) ch) 292 (2 * n + 1) hu) 293 (2 * n) ch) 293 (2 * n + 1) hu) 287 2 (nI (n + 1))) := by
  unfold Inv
  simp (disch := omega) only [mset_ne, mset_row, rws_ne, upd_s, upd_n, mput_n, mput_s, rws_put]
  refine ⟨H.R, H.D, H.S, ?_, ?_, H.W, H.A, H.X, H.B, H.T, H.M, ?_, H.N, H.G, H.C, H.E, H.H, H.F, H.U, H.L, H.O, H.I, ?_, ?_⟩
  · have h := H.P
    unfold gPeo at h ⊢
    rw [en, nn_nI n (by omega)] at h
    rw [nn_nI (n + 1) (by omega)]
    obtain ⟨a1, a2, a3, a4, a5, a6, a7, a8, a9, a10, a11, a12, a13⟩ := h
    refine ⟨rfl, nI_pos' (by omega), (nI_le_iff (b := 24) (by omega) (by omega)).mpr (by omega), by rw [a4], by rw [a5], by rw [a6], fun j => ?_, fun j hj => ?_, fun j => ?_, a10, fun j hj => a11 j (by omega), fun j hj => ?_, fun j hj => ?_⟩ <;> rw [upd_at]
    · have := a7 j; grind
    · have := a8 j; have := a11 j; grind
    · have := a9 j; grind [bz]
    · have := a12 j; grind
    · have := a13 j; grind
  · have h := H.Q
    unfold gPts at h ⊢
    rw [en, nn_nI n (by omega)] at h
    rw [nn_nI (n + 1) (by omega)]
    obtain ⟨a1, a2, a3, a4, a5, a6⟩ := h
    refine ⟨a1, a2, fun j hj => ?_, fun k => ?_, fun k => ?_, ?_⟩
    · have := a3 j; simp only [upd_at]; grind
    · have := a4 k; simp only [upd_at]; grind
    · have := a5 k; simp only [upd_at]; grind
    · rcases a6 with ⟨x1, x2, x3⟩ | ⟨x1, x2, x3, x4⟩
      · refine Or.inl ⟨x1, x2, fun k hk => ?_⟩
        have := x3 k; simp only [upd_at]; grind
      · refine Or.inr ⟨x1, x2, x3, fun j hj => ?_⟩
        have := x4 j; simp only [upd_at]; grind
  · have h := H.V; unfold gSeat at h ⊢; rw [en] at h; have : nI n ≤ nI (n + 1) := (nI_le_iff (by omega) (by omega)).mpr (by omega); grind
  · exact ⟨bz0, fun q => absurd q (by decide)⟩
  · exact Or.inl rfl
theorem P_person {M : Mem} (H : Inv M) (s b c ch hu : Int32) : f_X11_person s b c ch hu M (fun r M1 => f_X12_person s b c ch hu M1 (fun r' M2 => r' = r ∧ Inv M2)) := by
  exact o_person H.R H.D.1 H.P (fun c hc => ⟨rfl, i_ref H c⟩) (fun h1 h2 h3 h4 h5 h6 h7 h8 h9 h10 n hn en => ⟨rfl, i_person H hn en h1 h2 h3 h4 h5 h6 h7 h8 h9 h10⟩)
theorem i_term0 {M : Mem} (H : Inv M) {k : Nat} {v : Int32} (hk : k < 5) (h0 : 0 ≤ v) (h1 : v ≤ 255) : Inv (mset (mset M (119 + k) 0 v) 305 k v) := by
  unfold Inv
  simp (disch := omega) only [mset_ne, mset_row, rws_ne, upd_s, upd_n, mput_n, mput_s, rws_put]
  refine ⟨H.R, H.D, H.S, H.P, H.Q, H.W, H.A, H.X, H.B, ?_, H.M, H.V, H.N, H.G, H.C, H.E, H.H, H.F, H.U, H.L, H.O, H.I, H.J, H.K⟩
  · rw [rws_a1 M 119 5 0 v hk]; have h := H.T; unfold gTerm at h ⊢; intro j hj; have hj2 := h j hj; have h01 : v ≤ 1 → bz v := fun q => i2 ⟨h0, q⟩; by_cases e : j = k
    · subst e; simp only [if_true, upd_at]; grind
    · simp only [if_neg e, upd_at]; grind
theorem i_term1 {M : Mem} (H : Inv M) {k : Nat} {v : Int32} (hk : k < 5) (h0 : 0 ≤ v) (h1 : v ≤ 30) : Inv (mset (mset M (119 + k) 1 v) 306 k v) := by
  unfold Inv
  simp (disch := omega) only [mset_ne, mset_row, rws_ne, upd_s, upd_n, mput_n, mput_s, rws_put]
  refine ⟨H.R, H.D, H.S, H.P, H.Q, H.W, H.A, H.X, H.B, ?_, H.M, H.V, H.N, H.G, H.C, H.E, H.H, H.F, H.U, H.L, H.O, H.I, H.J, H.K⟩
  · rw [rws_a1 M 119 5 1 v hk]; have h := H.T; unfold gTerm at h ⊢; intro j hj; have hj2 := h j hj; have h01 : v ≤ 1 → bz v := fun q => i2 ⟨h0, q⟩; by_cases e : j = k
    · subst e; simp only [if_true, upd_at]; grind
    · simp only [if_neg e, upd_at]; grind
theorem i_term2 {M : Mem} (H : Inv M) {k : Nat} {v : Int32} (hk : k < 5) (h0 : 0 ≤ v) (h1 : v ≤ 1) : Inv (mset (mset M (119 + k) 2 v) 307 k v) := by
  unfold Inv
  simp (disch := omega) only [mset_ne, mset_row, rws_ne, upd_s, upd_n, mput_n, mput_s, rws_put]
  refine ⟨H.R, H.D, H.S, H.P, H.Q, H.W, H.A, H.X, H.B, ?_, H.M, H.V, H.N, H.G, H.C, H.E, H.H, H.F, H.U, H.L, H.O, H.I, H.J, H.K⟩
  · rw [rws_a1 M 119 5 2 v hk]; have h := H.T; unfold gTerm at h ⊢; intro j hj; have hj2 := h j hj; have h01 : v ≤ 1 → bz v := fun q => i2 ⟨h0, q⟩; by_cases e : j = k
    · subst e; simp only [if_true, upd_at]; grind
    · simp only [if_neg e, upd_at]; grind
theorem P_term {M : Mem} (H : Inv M) (a b v : Int32) : f_X11_term a b v M (fun r M1 => f_X12_term a b v M1 (fun r' M2 => r' = r ∧ Inv M2)) := by
  refine o_term H.R H.T (fun c hc => ⟨rfl, i_ref H c⟩) (fun k i hk hi h0 h1 => ⟨rfl, ?_⟩)
  match i, hi, h1 with
  | 0, _, h1 => exact i_term0 H hk h0 h1
  | 1, _, h1 => exact i_term1 H hk h0 h1
  | 2, _, h1 => exact i_term2 H hk h0 h1
theorem i_strike {M : Mem} (H : Inv M) {k : Nat} {b : Int32} (h1 : b ≤ 1000) : Inv (mset (mset M 44 k b) 300 k b) := by
  unfold Inv
  simp (disch := omega) only [mset_ne, mset_row, rws_ne, upd_s, upd_n, mput_n, mput_s, rws_put]
  refine ⟨H.R, H.D, H.S, H.P, H.Q, H.W, ?_, ?_, H.B, H.T, H.M, H.V, H.N, H.G, H.C, H.E, H.H, H.F, H.U, H.L, H.O, H.I, H.J, H.K⟩
  · have h := H.A; unfold gActs at h ⊢; obtain ⟨a1, a2, a3, a4, a5, a6⟩ := h; exact ⟨a1, a2, a3, a4, by rw [a5], a6⟩
  · have h := H.X; unfold gStr at h ⊢; intro j hj; have := h j hj; rw [upd_at]; split <;> lia
theorem P_strike {M : Mem} (H : Inv M) (a b : Int32) : f_X11_strike a b M (fun r M1 => f_X12_strike a b M1 (fun r' M2 => r' = r ∧ Inv M2)) := by
  exact o_strike H.R H.D.1 H.D.2.2.1 H.A.1 H.A.2.1 H.A.2.2.1 H.A.2.2.2.2.1 H.X (fun c hc => ⟨rfl, i_ref H c⟩) (fun h1 h2 h3 h4 => ⟨rfl, i_strike H h4⟩)
theorem i_set {M : Mem} (H : Inv M) {k : Nat} {b : Int32} (hk : k < 5) (h0 : sv 1 k ≤ b) (h1 : b ≤ sv 2 k) : Inv (mset (mset (mset M 124 k b) 325 k b) 287 89 (-1)) := by
  unfold Inv
  simp (disch := omega) only [mset_ne, mset_row, rws_ne, upd_s, upd_n, mput_n, mput_s, rws_put]
  refine ⟨H.R, H.D, ?_, H.P, H.Q, H.W, H.A, H.X, H.B, H.T, H.M, H.V, H.N, H.G, H.C, H.E, H.H, H.F, H.U, H.L, H.O, H.I, H.J, ?_⟩
  · have h := H.S; unfold gSet at h ⊢; obtain ⟨e, r⟩ := h; refine ⟨by rw [e], ?_⟩; match k, hk, h0, h1 with
    | 0, _, h0, h1 => have h0 : 0 ≤ b := h0; have h1 : b ≤ 20 := h1; simp only [upd_at]; grind
    | 1, _, h0, h1 => have h0 : 0 ≤ b := h0; have h1 : b ≤ 200 := h1; simp only [upd_at]; grind
    | 2, _, h0, h1 => have h0 : 0 ≤ b := h0; have h1 : b ≤ 1000 := h1; simp only [upd_at]; grind
    | 3, _, h0, h1 => have h0 : 3 ≤ b := h0; have h1 : b ≤ 9 := h1; simp only [upd_at]; grind
    | 4, _, h0, h1 => have h0 : 0 ≤ b := h0; have h1 : b ≤ 4 := h1; simp only [upd_at]; grind
  · exact Or.inl rfl
theorem P_set {M : Mem} (H : Inv M) (a b : Int32) : f_X11_set a b M (fun r M1 => f_X12_set a b M1 (fun r' M2 => r' = r ∧ Inv M2)) := by
  exact o_set H.R H.S.1 (fun c hc => ⟨rfl, i_ref H c⟩) (fun k hk h1 h2 => ⟨rfl, i_set H hk h1 h2⟩)
theorem i_study {M : Mem} (H : Inv M) {p n : Nat} {b d : Int32} (hp : p < 5) (hn : n < 12) (en : M 98 p = nI n) (h0 : 1 ≤ b) (h1 : b ≤ 999) : Inv (mset (mset (mset (mset (mset (mset M (100 + p) n b) (106 + p) n d) 98 p (nI (n + 1))) 358 (12 * p + n) d) 359 (12 * p + n) b) 357 p (nI (n + 1))) := by
  unfold Inv
  simp (disch := omega) only [mset_ne, mset_row, rws_ne, upd_s, upd_n, mput_n, mput_s, rws_put]
  refine ⟨H.R, H.D, H.S, H.P, H.Q, H.W, H.A, H.X, H.B, H.T, H.M, H.V, H.N, H.G, H.C, H.E, H.H, H.F, ?_, H.L, H.O, H.I, H.J, H.K⟩
  · rw [rws_a1 _ 106 5 n d hp, rws_ne M 106 1 5 (100 + p) n b (by omega), rws_a1 M 100 5 n b hp]
    have h := H.U
    unfold gStu at h ⊢
    obtain ⟨a1, a2, a3⟩ := h
    refine ⟨by rw [a1], fun q => ?_, fun q hq k hk => ?_⟩
    · have := a2 q; have l1 : 0 ≤ nI (n + 1) := nI_pos' (by omega); have l2 : nI (n + 1) ≤ 12 := (nI_le_iff (b := 12) (by omega) (by omega)).mpr (by omega); rw [upd_at]; split; exact ⟨l1, l2⟩; exact this
    · have hq2 := a3 q hq k
      by_cases e : q = p
      · subst e
        rw [upd_s, nn_nI (n + 1) (by omega)] at hk
        rw [en, nn_nI n (by omega)] at hq2
        simp only [if_true, upd_at]
        by_cases e : k = n
        · subst e; simp only [if_true]; exact ⟨trivial, trivial, h0, h1⟩
        · have e1 : ¬ 12 * q + k = 12 * q + n := by omega
          simp only [if_neg e1, if_neg e]
          exact hq2 (by omega)
      · rw [upd_n _ _ e] at hk
        have hq3 := hq2 hk
        have hk12 : k < 12 := by have := (a2 q).2; have h9 := (a2 q).1; obtain ⟨m, hm, em⟩ := nat_of (n := 12) h9 this (by decide); rw [em, nn_nI m (by omega)] at hk; omega
        simp only [upd_at, if_neg e]
        have e1 : ¬ 12 * q + k = 12 * p + n := by omega
        simp only [if_neg e1]
        exact hq3
theorem P_study {M : Mem} (H : Inv M) (a b : Int32) : f_X11_study a b M (fun r M1 => f_X12_study a b M1 (fun r' M2 => r' = r ∧ Inv M2)) := by
  exact o_study H.R H.D.1 H.U.1 H.U.2.1 (fun c hc => ⟨rfl, i_ref H c⟩) (fun p n hp hn en h1 h2 => ⟨rfl, i_study H hp hn en h1 h2⟩)
theorem i_planned {M : Mem} (H : Inv M) {n : Nat} {a b c : Int32} (hn : n < 7) (en : M 111 0 = nI n) (a0 : 1 ≤ a) (a1 : a ≤ 3) (b0 : 0 ≤ b) (b1 : b ≤ 6) (c0 : 0 ≤ c) (c1 : c.toInt < 2 ^ n) : Inv (mset (mset (mset (mset (mset (mset (mset (mset (mset M 112 n a) 113 n b) 114 n c) 111 0 (nI (n + 1))) 111 8 (-9)) 361 n a) 362 n b) 363 n c) 287 97 (nI (n + 1))) := by
  unfold Inv
  simp (disch := omega) only [mset_ne, mset_row, rws_ne, upd_s, upd_n, mput_n, mput_s, rws_put]
  refine ⟨H.R, H.D, H.S, H.P, H.Q, H.W, H.A, H.X, H.B, H.T, H.M, H.V, H.N, H.G, H.C, H.E, H.H, H.F, H.U, ?_, H.O, ?_, H.J, H.K⟩
  · have h := H.L; unfold gPlan at h ⊢; rw [en, nn_nI n (by omega)] at h; rw [nn_nI (n + 1) (by omega)]; obtain ⟨x1, x2, x3, x4, x5, x6, x7⟩ := h; refine ⟨rfl, nI_pos' (by omega), (nI_le_iff (b := 7) (by omega) (by omega)).mpr (by omega), by rw [x4], by rw [x5], by rw [x6], fun k hk => ?_⟩; have := x7 k; simp only [upd_at]; grind
  · exact Or.inl rfl
theorem P_planned {M : Mem} (H : Inv M) (a b c : Int32) : f_X11_planned a b c M (fun r M1 => f_X12_planned a b c M1 (fun r' M2 => r' = r ∧ Inv M2)) := by
  exact o_planned H.R H.L.1 H.L.2.1 H.L.2.2.1 (fun c hc => ⟨rfl, i_ref H c⟩) (fun n hn en h1 h2 h3 h4 h5 h6 => ⟨rfl, i_planned H hn en h1 h2 h3 h4 h5 h6⟩)
theorem i_cancel {M : Mem} (H : Inv M) {k : Nat} {v : Int32} (h0 : 0 ≤ v) (h1 : v ≤ 1000000) (hk : k < nn (M 62 0)) : Inv (mset (mset (mset (mset M 68 k 1) 66 k v) 335 k 1) 333 k v) := by
  unfold Inv
  simp (disch := omega) only [mset_ne, mset_row, rws_ne, upd_s, upd_n, mput_n, mput_s, rws_put]
  refine ⟨H.R, H.D, H.S, H.P, H.Q, H.W, H.A, H.X, H.B, H.T, H.M, H.V, H.N, ?_, H.C, H.E, H.H, H.F, H.U, H.L, H.O, H.I, H.J, H.K⟩
  · have h := H.G; unfold gAgr at h ⊢; obtain ⟨x1, x2, x3, x4, x5, x6, x7, x8, x9, x10, x11, x12⟩ := h; refine ⟨x1, x2, x3, x4, x5, x6, by rw [x7], x8, by rw [x9], fun j => ?_, fun j hj => ?_, fun j hj => ?_⟩ <;> simp only [upd_at] <;> first | (have := x10 j; have := bz1; grind) | (have := x11 j hj; grind) | (have := x12 j hj; grind)
theorem P_cancel {M : Mem} (H : Inv M) (a : Int32) : f_X11_cancel a M (fun r M1 => f_X12_cancel a M1 (fun r' M2 => r' = r ∧ Inv M2)) := by
  have h := H.G
  obtain ⟨n, hn, en⟩ := nat_of (n := 30) h.2.1 h.2.2.1 (by decide)
  refine o_cancel H.R H.D.1 H.S.1 h.1 h.2.1 h.2.2.1 h.2.2.2.2.2.2.1 h.2.2.2.2.2.2.2.2.1 (fun c hc => ⟨rfl, i_ref H c⟩) (fun h1 h2 h3 v hv => ⟨rfl, ?_⟩)
  have hk := nn_lt (M := M) en (by omega) h1 h2
  obtain ⟨-, -, -, -, -, -, -, -, -, -, -, x12⟩ := h
  have hx := x12 _ hk
  have s0 := H.S.2.1 1 (by decide)
  have s1 := H.S.2.2.2.1
  have d0 := H.D.2.1
  have d1 := H.D.2.2.1
  have e : 0 ≤ v ∧ v ≤ 1000000 := by
    rw [hv]
    split <;> constructor <;> lia
  exact i_cancel H e.1 e.2 hk
