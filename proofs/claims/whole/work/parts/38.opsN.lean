/-! agreements made; wishes; piece times; points -/
def isOB (M : Mem) (a : Int32) : Bool := exB (fun q => decide (M 63 q = a)) (nn (M 62 0))
theorem t_agrM {M : Mem} (H : Inv M) {M' : Mem} (hE : Eqm M M') (a b c d : Int32) (K : Int32 → Mem → Prop) (h : ∀ r : Int32 × Int32 × Int32 × Int32 × Int32 × Int32 × Mem → Prop, f_X12_agree_c20 K r a b c d (bi (isOB M a)) (M 62 0) M') :
    Lp (fun (r20 : Int32 × Int32 × Int32 × Int32 × Int32 × Int32 × Mem → Prop) x => f_X12_agree_c20 K r20 x.1 x.2.1 x.2.2.1 x.2.2.2.1 x.2.2.2.2.1 x.2.2.2.2.2.1 x.2.2.2.2.2.2) (a, b, c, d, 0, 0, M') := by
  obtain ⟨g1, g2, g3, g4, -⟩ := H.G
  obtain ⟨n, hn, e⟩ := nat_of (n := 30) g2 g3 (by decide)
  unfold isOB at h
  rw [e, nn_nI n (by omega)] at h
  refine Lp.up (fun q x => x = (a, b, c, d, bi (exB (fun q => decide (M 63 q = a)) q), nI q, M')) n (fun q x r hq ha hr => ?_) (j := 0) (by omega) rfl
  subst ha
  rcases Nat.lt_or_ge q n with c0 | c0
  · have hv : vp_in (nI q) 30 := vin_nI (by omega) (by decide)
    have hr2 := hr (by omega) _ rfl
    rw [show exB (fun q => decide (M 63 q = a)) (q + 1) = (exB (fun q => decide (M 63 q = a)) q || decide (M 63 q = a)) from rfl] at hr2
    simp only [f_X12_agree_c20, f_X12_agree_b45, f_X12_agree_b50]
    rw [hE 287 (by decide), g1, e, nI_le_iff (by omega) (by omega), nI_cl q (by omega), nI_1, hE 330 (by decide), g4]
    refine ⟨fun z => absurd z (by omega), fun _ => ?_⟩
    clear h
    cases hx : exB (fun q => decide (M 63 q = a)) q <;> rw [hx] at hr2 <;> simp only [bi] at hr2 ⊢ <;> grind
  · rw [show q = n by omega]
    exact h r
theorem i_agree {M : Mem} (H : Inv M) {n i : Nat} {b c e : Int32} (hn : n < 30) (en : M 62 0 = nI n) (hi2 : i < nn (M 0 5)) (hi : i < 40) (e3 : M 311 i = 3) (b0 : 0 ≤ b) (b1 : b ≤ 9999) (c0 : M 1 0 ≤ c) (c1 : c ≤ 1000) (d0 : 0 ≤ e) (d1 : e ≤ 1000000) : Inv (mset (mset (mset (mset (mset (mset (mset (mset (mset (mset (mset (mset (mset M 63 n (nI i)) 64 n b) 65 n c) 66 n e) 67 n (M 1 0)) 68 n 0) 62 0 (nI (n + 1))) 330 n (nI i)) 331 n b) 332 n c) 333 n e) 334 n (M 1 0)) 287 57 (nI (n + 1))) := by
  unfold Inv
  simp (disch := omega) only [mset_ne, mset_row, rws_ne, upd_s, upd_n, mput_n, mput_s, rws_put]
  refine ⟨H.R, H.D, H.S, H.P, H.Q, H.W, H.A, H.X, H.B, H.T, H.M, H.V, H.N, ?_, H.C, H.E, H.H, H.F, H.U, H.L, H.O, H.I, H.J, H.K⟩
  · obtain ⟨g1, g2, g3, g4, g5, g6, g7, g8, g9, g10, g11, g12⟩ := H.G
    have hm := H.mok hi2
    obtain ⟨-, h1, h2, h3, h4, h5, h6, h7, h8, h9, h10, q1, q2, q3, q4, q5, q6, q7, q8, q9, q10, q11⟩ := hm
    obtain ⟨om, hom, eom⟩ := nat_of (n := 40) H.m0 H.m1 (by decide)
    have d := H.D
    rw [en, nn_nI n (by omega)] at g11 g12
    have e68 : upd (M 68) n 0 = M 68 := by
      have z := g11 n (Nat.le_refl _)
      funext j
      rw [upd_at]
      split
      · rename_i e; rw [e, z]
      · rfl
    rw [e68]
    refine ⟨rfl, nI_pos' (by omega), (nI_le_iff (b := 30) (by omega) (by omega)).mpr (by omega), by rw [g4], by rw [g5], by rw [g6], by rw [g7], by rw [g8], g9, g10, fun j hj => ?_, fun j hj => ?_⟩
    · rw [nn_nI (n + 1) (by omega)] at hj
      exact g11 j (by omega)
    · rw [nn_nI (n + 1) (by omega)] at hj
      by_cases cj : j = n
      · subst cj
        simp only [upd_s]
        rw [eom, nn_nI om (by omega)] at hi2
        rw [nn_nI i (by omega), eom]
        exact ⟨nI_pos' (by omega), (nI_lt_iff (by omega) (by omega)).mpr hi2, e3, b0, b1, Int32.le_trans d.2.1 c0, c1, d0, d1, q10, d.2.1, Int32.le_refl _⟩
      · simp only [upd_n _ _ cj]
        exact g12 j (by omega)
def cagree (M : Mem) (a b c d : Int32) : Int32 := if ¬ (0 ≤ a ∧ a ≤ M 0 5 - 1) then -1 else if ¬ M 311 (nn a) = 3 ∨ letb (M 311 (nn a)) (stM M (nn a) (M 1 0) (M 1 0)) = false ∨ isOB M a = true then -3 else if ¬ 0 ≤ b ∨ ¬ M 1 0 ≤ c ∨ (¬ d = -1 ∧ ¬ c ≤ d) then -4 else if ¬ b ≤ 9999 ∨ ¬ c ≤ 1000 ∨ ¬ d ≤ 1000 ∨ M 62 0 = 30 then -6 else 0
theorem C_agree {M : Mem} (H : Inv M) (a b c d : Int32) {K : Int32 → Mem → Prop} (k1 : isR (cagree M a b c d) → K (cagree M a b c d) (rfC M (cagree M a b c d)))
    (k2 : (cagree M a b c d) = 0 → K (M 62 0) (mset (mset (mset (mset (mset (mset (mset M 63 (nn (M 62 0)) a) 64 (nn (M 62 0)) b) 65 (nn (M 62 0)) c) 66 (nn (M 62 0)) (if d = -1 then 1000000 else d)) 67 (nn (M 62 0)) (M 1 0)) 68 (nn (M 62 0)) 0) 62 0 (nI ((nn (M 62 0)) + 1)))) : f_X11_agree a b c d M K := by
  simp only [f_X11_agree, f_X11_agree_b57, f_X11_agree_b113, f_X11_agree_b164, f_X1_add, v_X11_isMatter H.m0 H.m1, v_X11_outside, v_X11_worse, v_X11_fullAt]
  obtain ⟨n, hn, en⟩ := nat_of (n := 30) H.G.2.1 H.G.2.2.1 (by decide)
  have e30 : (nI n = 30) ↔ n = 30 := nI_eq_iff (b := 30) (by omega) (by omega)
  have l30 : (nI n < 30) ↔ n < 30 := nI_lt_iff (b := 30) (by omega) (by omega)
  have l31 : (30 ≤ nI n) ↔ 30 ≤ n := nI_le_iff (a := 30) (by omega) (by omega)
  have hvn : n < 30 → vp_in (nI n) 30 := fun q => vin_nI q (by decide)
  have hp1 : nI n + 1 = nI (n + 1) := nI_1 n
  have hcl : (nI n).toNatClampNeg = n := nI_cl n (by omega)
  have hsb : nI n + 1 - 1 = nI n := add1s _
  unfold cagree at k1 k2
  unfold isR at k1
  by_cases c1 : 0 ≤ a ∧ a ≤ M 0 5 - 1
  · obtain ⟨i, rfl, hi, hi2⟩ := H.mat c1
    have hm := H.mok hi2
    have hmm := H.mm hi2
    have hs := H.sok
    obtain ⟨f1, f2, f3, f4, f5, f6, f7⟩ := mok_f hm
    have hv := mok_v hm
    have hin := inB1 c1
    have d0 := H.D.2.1
    have d1 := H.D.2.2.1
    rw [nn_nI i (by omega)] at k1 k2
    rw [en, nn_nI n (by omega)] at k2
    rw [en] at k1
    have g1 := p_letsOn hm hs d0 d1
    have g2 : ∀ K, K (bi (isOB M (nI i))) M → f_X1_isOf (nI i) M K := fun K h => t_isOf hn en _ (by unfold isOB at h; rw [en, nn_nI n (by omega)] at h; exact h)
    rw [nI_cl i (by omega), hin]
    unfold bi at g1 g2
    generalize letb (M 311 i) (stM M i (M 1 0) (M 1 0)) = lb at *
    generalize isOB M (nI i) = ob at *
    have hd1 : d = -1 → d ≤ 1000 := fun z => by rw [z]; decide
    clear hm hmm hs H
    grind (splits := 60) (gen := 20) (ematch := 20) [x1, x3, x4, x6, outs, wors, ful]
  · rw [inB0 c1]; clear k2; grind [x1]
theorem M_agree {M : Mem} (H : Inv M) (a b c d : Int32) {M' : Mem} (hE : Eqm M M') {K : Int32 → Mem → Prop} (k1 : isR (cagree M a b c d) → K (cagree M a b c d) (rfM M' (cagree M a b c d)))
    (k2 : (cagree M a b c d) = 0 → K (M 62 0) (mset (mset (mset (mset (mset (mset M' 330 (nn (M 62 0)) a) 331 (nn (M 62 0)) b) 332 (nn (M 62 0)) c) 333 (nn (M 62 0)) (if d = -1 then 1000000 else d)) 334 (nn (M 62 0)) (M 1 0)) 287 57 (nI ((nn (M 62 0)) + 1)))) : f_X12_agree a b c d M' K := by
  simp only [f_X12_agree, v_X12_isMatter]
  have eN : M' 287 0 = M 1 0 := by rw [hE 287 (by decide), H.D.1]
  have eO : M' 287 32 = M 0 5 := by rw [hE 287 (by decide), H.M.1]
  have eG : M' 287 57 = M 62 0 := by rw [hE 287 (by decide), H.G.1]
  have e311 := hE 311 (by decide)
  rw [eO]
  obtain ⟨n, hn, en⟩ := nat_of (n := 30) H.G.2.1 H.G.2.2.1 (by decide)
  have e30 : (nI n = 30) ↔ n = 30 := nI_eq_iff (b := 30) (by omega) (by omega)
  have l30 : (nI n < 30) ↔ n < 30 := nI_lt_iff (b := 30) (by omega) (by omega)
  have l31 : (30 ≤ nI n) ↔ 30 ≤ n := nI_le_iff (a := 30) (by omega) (by omega)
  have hvn : n < 30 → vp_in (nI n) 30 := fun q => vin_nI q (by decide)
  have hp1 : nI n + 1 = nI (n + 1) := nI_1 n
  have hcl : (nI n).toNatClampNeg = n := nI_cl n (by omega)
  have hsb : nI n + 1 - 1 = nI n := add1s _
  unfold cagree at k1 k2
  unfold isR at k1
  by_cases c1 : 0 ≤ a ∧ a ≤ M 0 5 - 1
  · obtain ⟨i, rfl, hi, hi2⟩ := H.mat c1
    have hm := H.mok hi2
    have hmm := H.mm hi2
    have hs := H.sok
    obtain ⟨f1, f2, f3, f4, f5, f6, f7⟩ := mok_f hm
    have hv := mok_v hm
    have hin := inB1 c1
    have d0 := H.D.2.1
    have d1 := H.D.2.2.1
    rw [nn_nI i (by omega)] at k1 k2
    rw [en, nn_nI n (by omega)] at k2
    rw [en] at k1
    rw [hin]
    refine ⟨fun _ => t_agrM H hE _ _ _ _ K (fun r => ?_), fun z => absurd z (by decide)⟩
    have g1 := q_state hmm hE d0 d1 (M 1 0)
    have hst : letb 3 (stM M i (M 1 0) (M 1 0)) = true ↔ (stM M i (M 1 0) (M 1 0) = 4 ∨ stM M i (M 1 0) (M 1 0) = 6 ∨ stM M i (M 1 0) (M 1 0) = 8) := by unfold letb; simp
    simp only [f_X12_agree_c20, f_X12_agree_b85, f_X12_agree_b116, f_X12_agree_b123, f_X12_agree_b154, f_X12_agree_b213, f_X12_agrees, f_X12_agrees_b28, f_X12_agrees_b33]
    rw [eG, nI_cl i (by omega), eN, e311]
    rw [en] at eG ⊢
    have z0 := bz0
    have z1 := bz1
    have h1 : ∀ j u v w k, mset (mset (mset M' 330 j u) 331 j v) 332 j w 287 k = M' 287 k := fun j u v w k => by rw [mset_ne _ _ _ (by decide), mset_ne _ _ _ (by decide), mset_ne _ _ _ (by decide)]
    have h2 : ∀ j u v w x y k, mset (mset (mset (mset (mset M' 330 j u) 331 j v) 332 j w) 333 j x) 334 j y 287 k = M' 287 k := fun j u v w x y k => by rw [mset_ne _ _ _ (by decide), mset_ne _ _ _ (by decide), mset_ne _ _ _ (by decide), mset_ne _ _ _ (by decide), mset_ne _ _ _ (by decide)]
    generalize stM M i (M 1 0) (M 1 0) = st at *
    unfold bi
    generalize isOB M (nI i) = ob at *
    have hd1 : d = -1 → d ≤ 1000 := fun z => by rw [z]; decide
    clear hm hmm hs H hE
    grind (splits := 60) (gen := 20) (ematch := 20) [y1, y3, y4, y6]
  · rw [inB0 c1]; clear k2; grind [y1]
theorem agree_inv {M : Mem} (H : Inv M) {a b c d : Int32} (h : cagree M a b c d = 0) : Inv (mset (mset (mset (mset (mset (mset (mset (mset (mset (mset (mset (mset (mset M 63 (nn (M 62 0)) a) 64 (nn (M 62 0)) b) 65 (nn (M 62 0)) c) 66 (nn (M 62 0)) (if d = -1 then 1000000 else d)) 67 (nn (M 62 0)) (M 1 0)) 68 (nn (M 62 0)) 0) 62 0 (nI ((nn (M 62 0)) + 1))) 330 (nn (M 62 0)) a) 331 (nn (M 62 0)) b) 332 (nn (M 62 0)) c) 333 (nn (M 62 0)) (if d = -1 then 1000000 else d)) 334 (nn (M 62 0)) (M 1 0)) 287 57 (nI ((nn (M 62 0)) + 1))) := by
  unfold cagree at h
  obtain ⟨n, hn, en⟩ := nat_of (n := 30) H.G.2.1 H.G.2.2.1 (by decide)
  have e30 : (nI n = 30) ↔ n = 30 := nI_eq_iff (b := 30) (by omega) (by omega)
  by_cases c1 : 0 ≤ a ∧ a ≤ M 0 5 - 1
  · obtain ⟨i, rfl, hi, hi2⟩ := H.mat c1
    have d0 := H.D.2.1
    rw [nn_nI i (by omega), en] at h
    rw [en, nn_nI n (by omega)]
    have hx : n < 30 ∧ M 311 i = 3 ∧ 0 ≤ b ∧ b ≤ 9999 ∧ M 1 0 ≤ c ∧ c ≤ 1000 ∧ (d = -1 ∨ c ≤ d) ∧ d ≤ 1000 := by grind
    obtain ⟨x1, x2, x3, x4, x5, x6, x7, x8⟩ := hx
    refine i_agree H x1 en hi2 hi x2 x3 x4 x5 x6 ?_ ?_
    · split
      · decide
      · have := x7.resolve_left (by assumption); lia
    · split
      · decide
      · lia
  · rw [if_pos c1] at h
    exact absurd h (by decide)
theorem P_agree {M : Mem} (H : Inv M) (a b c d : Int32) : f_X11_agree a b c d M (fun r M1 => f_X12_agree a b c d M1 (fun r' M2 => r' = r ∧ Inv M2)) :=
  C_agree H a b c d (fun hz => M_agree H a b c d (Eqm.rfC M _) (fun _ => ⟨rfl, i_rf H _⟩) (fun h0 => absurd h0 (nR0 hz)))
    (fun h0 => M_agree H a b c d (Eqm.set (Eqm.set (Eqm.set (Eqm.set (Eqm.set (Eqm.set (Eqm.set (Eqm.refl M) _ _ (by decide)) _ _ (by decide)) _ _ (by decide)) _ _ (by decide)) _ _ (by decide)) _ _ (by decide)) _ _ (by decide)) (fun hz => absurd h0 (nR0 hz)) (fun _ => ⟨rfl, agree_inv H h0⟩))
