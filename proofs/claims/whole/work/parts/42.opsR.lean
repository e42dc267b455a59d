/-! what is put right; elections -/
def inT (M : Mem) : Bool := decide (¬ M 124 2 < M 1 0 - M 4 11)
def inTM (M : Mem) : Bool := decide (M 287 96 < 0 ∨ ¬ M 124 2 < M 1 0 - M 287 96)
theorem i_right0 {M : Mem} (H : Inv M) {p : Nat} {c : Int32} (hp : p < nn (M 4 0)) (c0 : 0 ≤ c) (c1 : c ≤ 100) : Inv (mset (mset (if inT M = true then mset (mset M 9 p c) 11 p c else mset M 9 p c) 292 (2 * p) c) 293 (2 * p) (if inTM M = true then c else M 293 (2 * p))) := by
  generalize hit : inT M = it
  generalize himt : inTM M = imt
  cases it <;> cases imt <;> simp only [if_true, if_false, Bool.false_eq_true] <;> unfold Inv
  all_goals simp (disch := omega) only [mset_ne, mset_row, rws_ne, upd_s, upd_n]
  all_goals refine ⟨H.R, H.D, H.S, H.P, ?_, H.W, H.A, H.X, H.B, H.T, H.M, H.V, H.N, H.G, H.C, H.E, H.H, H.F, H.U, H.L, H.O, H.I, H.J, H.K⟩
  all_goals
    have hQ := H.Q
    have d0 := H.D.2.1
    unfold inT at hit
    unfold inTM at himt
    unfold gPts at hQ ⊢
    obtain ⟨q1, q2, q3, q4, q5, q6⟩ := hQ
    refine ⟨q1, q2, fun j hj => ?_, fun k => ?_, fun k => ?_, ?_⟩
    · have := q3 j hj; simp only [upd_at]; grind
    · have := q4 k; simp only [upd_at]; grind
    · have := q5 k; have := q5 (2 * p); simp only [upd_at]; split <;> (try split) <;> first | exact ⟨c0, c1⟩ | assumption
    · rcases q6 with ⟨z1, z2, z3⟩ | ⟨z1, z2, z3, z4⟩
      · refine Or.inl ⟨z1, z2, fun k hk => ?_⟩
        have h3 := z3 k hk
        have hm : decide (M 287 96 < 0 ∨ ¬ M 124 2 < M 1 0 - M 287 96) = true := decide_eq_true (Or.inl (by rw [z1]; decide))
        rw [himt] at hm
        simp only [upd_at]
        grind
      · refine Or.inr ⟨z1, z2, z3, fun j hj => ?_⟩
        have h4 := z4 j hj
        have hl : ¬ M 287 96 < 0 := by rw [lt_nle]; exact fun z => z z1
        rw [z3] at hit
        simp only [upd_at]
        grind
theorem i_right1 {M : Mem} (H : Inv M) {p : Nat} {c : Int32} (hp : p < nn (M 4 0)) (c0 : 0 ≤ c) (c1 : c ≤ 100) : Inv (mset (mset (if inT M = true then mset (mset M 10 p c) 12 p c else mset M 10 p c) 292 (2 * p + 1) c) 293 (2 * p + 1) (if inTM M = true then c else M 293 (2 * p + 1))) := by
  generalize hit : inT M = it
  generalize himt : inTM M = imt
  cases it <;> cases imt <;> simp only [if_true, if_false, Bool.false_eq_true] <;> unfold Inv
  all_goals simp (disch := omega) only [mset_ne, mset_row, rws_ne, upd_s, upd_n]
  all_goals refine ⟨H.R, H.D, H.S, H.P, ?_, H.W, H.A, H.X, H.B, H.T, H.M, H.V, H.N, H.G, H.C, H.E, H.H, H.F, H.U, H.L, H.O, H.I, H.J, H.K⟩
  all_goals
    have hQ := H.Q
    have d0 := H.D.2.1
    unfold inT at hit
    unfold inTM at himt
    unfold gPts at hQ ⊢
    obtain ⟨q1, q2, q3, q4, q5, q6⟩ := hQ
    refine ⟨q1, q2, fun j hj => ?_, fun k => ?_, fun k => ?_, ?_⟩
    · have := q3 j hj; simp only [upd_at]; grind
    · have := q4 k; simp only [upd_at]; grind
    · have := q5 k; have := q5 (2 * p + 1); simp only [upd_at]; split <;> (try split) <;> first | exact ⟨c0, c1⟩ | assumption
    · rcases q6 with ⟨z1, z2, z3⟩ | ⟨z1, z2, z3, z4⟩
      · refine Or.inl ⟨z1, z2, fun k hk => ?_⟩
        have h3 := z3 k hk
        have hm : decide (M 287 96 < 0 ∨ ¬ M 124 2 < M 1 0 - M 287 96) = true := decide_eq_true (Or.inl (by rw [z1]; decide))
        rw [himt] at hm
        simp only [upd_at]
        grind
      · refine Or.inr ⟨z1, z2, z3, fun j hj => ?_⟩
        have h4 := z4 j hj
        have hl : ¬ M 287 96 < 0 := by rw [lt_nle]; exact fun z => z z1
        rw [z3] at hit
        simp only [upd_at]
        grind
def cright (M : Mem) (a b c : Int32) : Int32 := if ¬ (0 ≤ a ∧ a ≤ M 4 0 - 1) then -1 else if ¬ (0 ≤ b ∧ b ≤ 1) then -2 else if ¬ 0 ≤ c then -4 else if ¬ c ≤ (if b = 0 then 9 else 100) then -6 else 0
theorem C_right {M : Mem} (H : Inv M) (a b c : Int32) {K : Int32 → Mem → Prop} (k1 : isR (cright M a b c) → K (cright M a b c) (rfC M (cright M a b c)))
    (k2 : (cright M a b c) = 0 → K (M 292 (2 * nn a + nn b)) (if b = 0 then (if inT M = true then mset (mset M 9 (nn a) c) 11 (nn a) c else mset M 9 (nn a) c) else (if inT M = true then mset (mset M 10 (nn a) c) 12 (nn a) c else mset M 10 (nn a) c))) : f_X11_right a b c M K := by
  simp only [f_X11_right, f_X11_right_b26, f_X11_right_b46, f_X11_right_b92, f_X11_right_b123, f_X9_rightChildren, f_X9_rightChildren_b26, f_X9_rightHurt, f_X9_rightHurt_b26, v_X9_has H.P.2.1 H.P.2.2.1, v_X11_outside]
  unfold cright at k1 k2
  unfold isR at k1
  have e2 : ∀ x l g : Int32, inB x l g = if l ≤ x ∧ x ≤ g then 1 else 0 := fun _ _ _ => rfl
  rw [e2]
  by_cases c1 : 0 ≤ a ∧ a ≤ M 4 0 - 1
  · obtain ⟨p, rfl, hp, hp2⟩ := H.peo c1
    have hv : vp_in (nI p) 24 := vin_nI hp (by decide)
    have q3 := H.Q.2.2.1 p hp2
    have hit : inT M = true ↔ ¬ M 124 2 < M 1 0 - M 4 11 := by unfold inT; exact decide_eq_true_iff
    by_cases c2 : 0 ≤ b ∧ b ≤ 1
    · rw [nn_nI p (by omega)] at k2
      rw [nI_cl p (by omega)]
      generalize inT M = it at *
      clear H
      rcases i2 c2 with rfl | rfl
      · rw [show nn 0 = 0 from rfl, Nat.add_zero, ← q3.1] at k2
        grind (splits := 30) [x4, x6, outs]
      · rw [show nn 1 = 1 from rfl, ← q3.2] at k2
        grind (splits := 30) [x4, x6, outs]
    · clear k2; have hb : ¬ 0 ≤ b ∨ ¬ b ≤ 1 := by { by_cases q : 0 ≤ b; exact Or.inr (fun z => c2 ⟨q, z⟩); exact Or.inl q }; rw [if_pos c1]; grind (splits := 60) [x2]
  · clear k2; grind [x1]
theorem M_right {M : Mem} (H : Inv M) (a b c : Int32) {M' : Mem} (hE : Eqm M M') {K : Int32 → Mem → Prop} (k1 : isR (cright M a b c) → K (cright M a b c) (rfM M' (cright M a b c)))
    (k2 : (cright M a b c) = 0 → K (M 292 (2 * nn a + nn b)) (mset (mset M' 292 (2 * nn a + nn b) c) 293 (2 * nn a + nn b) (if inTM M = true then c else M 293 (2 * nn a + nn b)))) : f_X12_right a b c M' K := by
  simp only [f_X12_right, f_X12_right_b53, f_X12_right_b120, f_X12_right_b134, v_X12_isPerson, v_X12_in]
  have eP : M' 287 2 = M 4 0 := by rw [hE 287 (by decide), H.P.1]
  rw [eP]
  unfold cright at k1 k2
  unfold isR at k1
  have e2 : ∀ x l g : Int32, inB x l g = if l ≤ x ∧ x ≤ g then 1 else 0 := fun _ _ _ => rfl
  simp only [e2]
  by_cases c1 : 0 ≤ a ∧ a ≤ M 4 0 - 1
  · obtain ⟨p, rfl, hp, hp2⟩ := H.peo c1
    have himt : inTM M = true ↔ (M 287 96 < 0 ∨ ¬ M 124 2 < M 1 0 - M 287 96) := by unfold inTM; exact decide_eq_true_iff
    have eN : M' 287 0 = M 1 0 := by rw [hE 287 (by decide), H.D.1]
    have eS : M' 325 2 = M 124 2 := by rw [hE 325 (by decide), H.S.1]
    have e96 : M' 287 96 = M 287 96 := by rw [hE 287 (by decide)]
    have e92 := hE 292 (by decide)
    have e93 := hE 293 (by decide)
    have em : ∀ k, mset M' 292 k c 293 k = M 293 k := fun k => by rw [mset_ne _ _ _ (by decide), e93]
    have em2 : ∀ k j, mset M' 292 k c 287 j = M' 287 j := fun k j => by rw [mset_ne _ _ _ (by decide)]
    have em3 : ∀ k j, mset M' 292 k c 325 j = M' 325 j := fun k j => by rw [mset_ne _ _ _ (by decide)]
    by_cases c2 : 0 ≤ b ∧ b ≤ 1
    · rw [nn_nI p (by omega)] at k2
      have e2p : (2 : Int32) * nI p = nI (2 * p) := pk_mul 2 p
      rw [e2p]
      generalize inTM M = it at *
      clear H hE
      rcases i2 c2 with rfl | rfl
      · rw [show nn 0 = 0 from rfl] at k2
        have hv : vp_in (nI (2 * p)) 48 := vin_nI (by omega) (by decide)
        have hcl : (nI (2 * p)).toNatClampNeg = 2 * p := nI_cl _ (by omega)
        rw [add0, hcl, eN, eS, e96, e92, e93]
        rw [Nat.add_zero] at k2
        grind (splits := 30) [y4, y6]
      · rw [show nn 1 = 1 from rfl] at k2
        have hv : vp_in (nI (2 * p + 1)) 48 := vin_nI (by omega) (by decide)
        have hcl : (nI (2 * p + 1)).toNatClampNeg = 2 * p + 1 := nI_cl _ (by omega)
        rw [nI_1, hcl, eN, eS, e96, e92, e93]
        grind (splits := 30) [y4, y6]
    · clear k2; grind [y2]
  · clear k2; grind [y1]
theorem right_eqm (M : Mem) (a b c : Int32) : Eqm M (if b = 0 then (if inT M = true then mset (mset M 9 (nn a) c) 11 (nn a) c else mset M 9 (nn a) c) else (if inT M = true then mset (mset M 10 (nn a) c) 12 (nn a) c else mset M 10 (nn a) c)) := by
  split <;> split <;> first | exact Eqm.set (Eqm.set (Eqm.refl M) _ _ (by decide)) _ _ (by decide) | exact Eqm.set (Eqm.refl M) _ _ (by decide)
theorem right_inv {M : Mem} (H : Inv M) {a b c : Int32} (h : cright M a b c = 0) : Inv (mset (mset (if b = 0 then (if inT M = true then mset (mset M 9 (nn a) c) 11 (nn a) c else mset M 9 (nn a) c) else (if inT M = true then mset (mset M 10 (nn a) c) 12 (nn a) c else mset M 10 (nn a) c)) 292 (2 * nn a + nn b) c) 293 (2 * nn a + nn b) (if inTM M = true then c else M 293 (2 * nn a + nn b))) := by
  unfold cright at h
  have hx : (0 ≤ a ∧ a ≤ M 4 0 - 1) ∧ (0 ≤ b ∧ b ≤ 1) ∧ 0 ≤ c ∧ c ≤ 100 := by grind
  obtain ⟨c1, c2, c3, c4⟩ := hx
  obtain ⟨p, rfl, hp, hp2⟩ := H.peo c1
  rw [nn_nI p (by omega)]
  rcases i2 c2 with rfl | rfl
  · rw [if_pos rfl, show nn 0 = 0 from rfl, Nat.add_zero]
    exact i_right0 H hp2 c3 c4
  · rw [if_neg (by decide), show nn 1 = 1 from rfl]
    exact i_right1 H hp2 c3 c4
theorem P_right {M : Mem} (H : Inv M) (a b c : Int32) : f_X11_right a b c M (fun r M1 => f_X12_right a b c M1 (fun r' M2 => r' = r ∧ Inv M2)) :=
  C_right H a b c (fun hz => M_right H a b c (Eqm.rfC M _) (fun _ => ⟨rfl, i_rf H _⟩) (fun h0 => absurd h0 (nR0 hz)))
    (fun h0 => M_right H a b c (right_eqm M _ _ _) (fun hz => absurd h0 (nR0 hz)) (fun _ => ⟨rfl, right_inv H h0⟩))
