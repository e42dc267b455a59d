
theorem o_set {M : Mem} {a b : Int32} {K : Int32 → Int32 → Mem → Prop} (hR : gR (M 126) (M 295)) (hS : M 325 = M 124)
    (k1 : ∀ c, c = -2 ∨ c = -4 ∨ c = -6 → K c c (ref M c))
    (k2 : ∀ k, k < 5 → sv 1 k ≤ b → b ≤ sv 2 k → K (M 124 k) (M 124 k) (mset (mset (mset M 124 k b) 325 k b) 287 89 (-1))) :
    f_X11_set a b M (fun r M1 => f_X12_set a b M1 (fun r' M2 => K r r' M2)) := by
  unfold f_X11_set f_X11_set_b9 f_X12_set f_X12_set_b27 f_X12_set_b80
  simp only [v_X12_in, v_X11_outside, lt_nle]
  by_cases c1 : 0 ≤ a ∧ a ≤ 4
  · have b1 : inB a 0 4 = 1 := if_pos c1
    have hv : vp_in a 5 := vinB c1 (by decide)
    have e1 : sv 1 0 = 0 ∧ sv 1 1 = 0 ∧ sv 1 2 = 0 ∧ sv 1 3 = 3 ∧ sv 1 4 = 0 := ⟨rfl, rfl, rfl, rfl, rfl⟩
    have e2 : sv 2 0 = 20 ∧ sv 2 1 = 200 ∧ sv 2 2 = 1000 ∧ sv 2 3 = 9 ∧ sv 2 4 = 4 := ⟨rfl, rfl, rfl, rfl, rfl⟩
    have z : (0 : Int32).toNatClampNeg = 0 ∧ (1 : Int32).toNatClampNeg = 1 ∧ (2 : Int32).toNatClampNeg = 2 ∧ (3 : Int32).toNatClampNeg = 3 ∧ (4 : Int32).toNatClampNeg = 4 := ⟨rfl, rfl, rfl, rfl, rfl⟩
    rcases i5 c1 with rfl | rfl | rfl | rfl | rfl
    · have k3 := k2 0 (by omega)
      rw [e1.1, e2.1] at k3
      by_cases c2 : 0 ≤ b <;> by_cases c3 : b ≤ 20 <;> simp [-Int32.not_le, -Int32.not_lt, mset_at, v_X11_refuse, v_X12_refuse, ref_m hR, outs, b1, hv, e1, e2, z, hS, c2, c3, k1, k3]
    · have k3 := k2 1 (by omega)
      rw [e1.2.1, e2.2.1] at k3
      by_cases c2 : 0 ≤ b <;> by_cases c3 : b ≤ 200 <;> simp [-Int32.not_le, -Int32.not_lt, mset_at, v_X11_refuse, v_X12_refuse, ref_m hR, outs, b1, hv, e1, e2, z, hS, c2, c3, k1, k3]
    · have k3 := k2 2 (by omega)
      rw [e1.2.2.1, e2.2.2.1] at k3
      by_cases c2 : 0 ≤ b <;> by_cases c3 : b ≤ 1000 <;> simp [-Int32.not_le, -Int32.not_lt, mset_at, v_X11_refuse, v_X12_refuse, ref_m hR, outs, b1, hv, e1, e2, z, hS, c2, c3, k1, k3]
    · have k3 := k2 3 (by omega)
      rw [e1.2.2.2.1, e2.2.2.2.1] at k3
      by_cases c2 : 3 ≤ b <;> by_cases c3 : b ≤ 9 <;> simp [-Int32.not_le, -Int32.not_lt, mset_at, v_X11_refuse, v_X12_refuse, ref_m hR, outs, b1, hv, e1, e2, z, hS, c2, c3, k1, k3]
    · have k3 := k2 4 (by omega)
      rw [e1.2.2.2.2, e2.2.2.2.2] at k3
      by_cases c2 : 0 ≤ b <;> by_cases c3 : b ≤ 4 <;> simp [-Int32.not_le, -Int32.not_lt, mset_at, v_X11_refuse, v_X12_refuse, ref_m hR, outs, b1, hv, e1, e2, z, hS, c2, c3, k1, k3]
  · have b0 : inB a 0 4 = 0 := inB_0.mpr c1
    by_cases c3 : 0 ≤ a
    · have c4 : ¬ a ≤ 4 := fun q => c1 ⟨c3, q⟩
      simp [-Int32.not_le, -Int32.not_lt, mset_at, v_X11_refuse, v_X12_refuse, ref_m hR, b0, c3, c4, k1]
    · simp [-Int32.not_le, -Int32.not_lt, mset_at, v_X11_refuse, v_X12_refuse, ref_m hR, b0, c3, k1]
theorem o_study {M : Mem} {a b : Int32} {K : Int32 → Int32 → Mem → Prop} (hR : gR (M 126) (M 295)) (eN : M 287 0 = M 1 0) (hS : M 357 = M 98) (hB : ∀ p, 0 ≤ M 98 p ∧ M 98 p ≤ 12)
    (k1 : ∀ c, c = -1 ∨ c = -4 ∨ c = -6 → K c c (ref M c))
    (k2 : ∀ p n, p < 5 → n < 12 → M 98 p = nI n → 1 ≤ b → b ≤ 999 → K (nI (n + 1)) (nI (n + 1)) (mset (mset (mset (mset (mset (mset M (100 + p) n b) (106 + p) n (M 1 0)) 98 p (nI (n + 1))) 358 (12 * p + n) (M 1 0)) 359 (12 * p + n) b) 357 p (nI (n + 1)))) :
    f_X11_study a b M (fun r M1 => f_X12_study a b M1 (fun r' M2 => K r r' M2)) := by
  unfold f_X11_study f_X11_study_b9 f_X12_study f_X12_study_b43 f_X10_add
  simp only [v_X12_isPiece, v_X11_outside, v_X11_fullAt, v_X11_worse, lt_nle]
  by_cases c1 : 0 ≤ a ∧ a ≤ 4
  · have b1 : inB a 0 4 = 1 := if_pos c1
    obtain ⟨p, hp, rfl⟩ := nat_of (n := 4) c1.1 c1.2 (by decide)
    obtain ⟨n, hn, en⟩ := nat_of (n := 12) (hB p).1 (hB p).2 (by decide)
    have hv : vp_in (nI p) 5 := vin_nI (by omega) (by decide)
    have h5 : ¬ (5 : Int32) ≤ nI p := by
      have : ((5 : Int32) ≤ nI p) ↔ 5 ≤ p := nI_le_iff (a := 5) (by omega) (by omega)
      rw [this]; omega
    have hle : ((12 : Int32) ≤ nI n) ↔ 12 ≤ n := nI_le_iff (a := 12) (by omega) (by omega)
    have heq : (nI n = 12) ↔ n = 12 := nI_eq_iff (b := 12) (by omega) (by omega)
    have m1 : (12 : Int32) * nI p = nI (12 * p) := pk_mul 12 p
    by_cases c2 : 1 ≤ b <;> by_cases c3 : b ≤ 999 <;> by_cases c4 : 12 ≤ n
    · have en' : M 98 p = 12 := by rw [en, show n = 12 by omega]; rfl
      simp [-Int32.not_le, -Int32.not_lt, mset_at, v_X11_refuse, v_X12_refuse, ref_m hR, outs, ful, wors, b1, c1.1, h5, hv, nI_cl p (by omega), en', c2, c3, hS, k1]
    · have hne : ¬ n = 12 := by omega
      have hv1 : vp_in (nI n) 12 := vin_nI (by omega) (by decide)
      have hv2 : vp_in (nI (12 * p + n)) 60 := vin_nI (by omega) (by decide)
      have k3 := k2 p n (by omega) (by omega) en c2 c3
      have q1 : ¬ (98 = 100 + p) := by omega
      have q2 : ¬ (98 = 106 + p) := by omega
      have q3 : ¬ (357 = 100 + p) := by omega
      have q4 : ¬ (357 = 106 + p) := by omega
      have q5 : ¬ (287 = 100 + p) := by omega
      have q6 : ¬ (287 = 106 + p) := by omega
      have q7 : ¬ (1 = 100 + p) := by omega
      simp [-Int32.not_le, -Int32.not_lt, mset_at, v_X11_refuse, v_X12_refuse, ref_m hR, outs, ful, wors, b1, c1.1, h5, hv, nI_cl p (by omega), nI_cl n (by omega), nI_cl (12 * p + n) (by omega), en, hle, heq, c2, c3, c4, hne, hS, hv1, hv2, m1, nI_add, nI_1, eN, q1, q2, q3, q4, q5, q6, q7]
      exact k3
    all_goals simp [-Int32.not_le, -Int32.not_lt, mset_at, v_X11_refuse, v_X12_refuse, ref_m hR, outs, ful, wors, b1, c1.1, h5, hv, nI_cl p (by omega), en, hle, heq, c2, c3, c4, hS, k1]
  · have b0 : inB a 0 4 = 0 := inB_0.mpr c1
    by_cases c3 : 0 ≤ a
    · have c4 : 5 ≤ a := by lia
      simp [-Int32.not_le, -Int32.not_lt, mset_at, v_X11_refuse, v_X12_refuse, ref_m hR, b0, c3, c4, k1]
    · simp [-Int32.not_le, -Int32.not_lt, mset_at, v_X11_refuse, v_X12_refuse, ref_m hR, b0, c3, k1]
theorem shl8 : ∀ n, n ≤ 7 → ((1 : Int32) <<< (nI n &&& 31)) = nI (2 ^ n) := by
  intro n hn
  match n, hn with
  | 0, _ => decide
  | 1, _ => decide
  | 2, _ => decide
  | 3, _ => decide
  | 4, _ => decide
  | 5, _ => decide
  | 6, _ => decide
  | 7, _ => decide
theorem shS : ∀ n, n ≤ 31 → ((nI n &&& 31).toBitVec.smod 32).toNat = n := by
  have : ∀ n : Fin 32, ((nI n.val &&& 31).toBitVec.smod 32).toNat = n.val := by decide
  exact fun n hn => this ⟨n, by omega⟩
theorem shr_ti (c : Int32) (n : Nat) (hn : n ≤ 31) : (c >>> (nI n &&& 31)).toInt = c.toInt / 2 ^ n := by
  rw [pk_shr c _ n (shS n hn), Int.shiftRight_eq_div_pow]
  rfl
theorem shr0 (c : Int32) (n : Nat) (hn : n ≤ 7) (hc : 0 ≤ c) : (c >>> (nI n &&& 31)) = 0 ↔ c.toInt < 2 ^ n := by
  have e0 : (0 : Int32).toInt = 0 := rfl
  have h0 := i_le.mp hc
  rw [i_eq, shr_ti c n (by omega), e0]
  have hp : (0 : Int) < 2 ^ n := Int.pow_pos (by decide)
  rw [e0] at h0
  constructor
  · intro h
    have := Int.lt_mul_ediv_self_add (x := c.toInt) hp
    rw [h] at this
    omega
  · intro h
    exact Int.ediv_eq_zero_of_lt h0 h
theorem shl_lt (c : Int32) (n : Nat) (hn : n ≤ 7) : c < ((1 : Int32) <<< (nI n &&& 31)) ↔ c.toInt < 2 ^ n := by
  have hp : 2 ^ n ≤ 2 ^ 7 := Nat.pow_le_pow_right (by decide) hn
  rw [shl8 n hn, i_lt, nI_ti _ (by omega), Int.natCast_pow]
  rfl
theorem o_planned {M : Mem} {a b c : Int32} {K : Int32 → Int32 → Mem → Prop} (hR : gR (M 126) (M 295)) (e1 : M 287 97 = M 111 0) (h0 : 0 ≤ M 111 0) (h1 : M 111 0 ≤ 7)
    (k1 : ∀ d, d = -3 ∨ d = -4 ∨ d = -6 → K d d (ref M d))
    (k2 : ∀ n, n < 7 → M 111 0 = nI n → 1 ≤ a → a ≤ 3 → 0 ≤ b → b ≤ 6 → 0 ≤ c → c.toInt < 2 ^ n → K (nI n) (nI n) (mset (mset (mset (mset (mset (mset (mset (mset (mset M 112 n a) 113 n b) 114 n c) 111 0 (nI (n + 1))) 111 8 (-9)) 361 n a) 362 n b) 363 n c) 287 97 (nI (n + 1)))) :
    f_X11_planned a b c M (fun r M1 => f_X12_planned a b c M1 (fun r' M2 => K r r' M2)) := by
  obtain ⟨n, hn, en⟩ := nat_of (n := 7) h0 h1 (by decide)
  rw [en] at e1
  have hsl := shl_lt c n hn
  rw [lt_nle] at hsl
  unfold f_X11_planned f_X11_planned_b13 f_X11_planned_b62 f_X12_planned f_X12_planned_b13 f_X12_planned_b57 f_X6_add
  simp only [lt_nle, en]
  have hle : ((7 : Int32) ≤ nI n) ↔ 7 ≤ n := nI_le_iff (a := 7) (by omega) (by omega)
  have heq : (nI n = 7) ↔ n = 7 := nI_eq_iff (b := 7) (by omega) (by omega)
  by_cases c1 : 1 ≤ a
  · by_cases c2 : 0 ≤ b
    · by_cases c3 : 0 ≤ c
      · have hsr := shr0 c n hn c3
        by_cases c4 : c.toInt < 2 ^ n
        · have t1 := hsr.mpr c4
          have t2 := hsl.mpr c4
          by_cases c5 : a ≤ 3
          · have c7 : ((7 : Int32) ≤ b) ↔ ¬ b ≤ 6 := by constructor <;> intro _ <;> lia
            by_cases c6 : b ≤ 6
            · by_cases c8 : n = 7
              · subst c8
                simp [-Int32.not_le, -Int32.not_lt, mset_at, v_X11_refuse, v_X12_refuse, ref_m hR, c1, c2, c3, c5, c6, c7, t1, t2, e1, hle, heq, k1]
              · have hv : vp_in (nI n) 7 := vin_nI (by omega) (by decide)
                have k3 := k2 n (by omega) en c1 c5 c2 c6 c3 c4
                have hl2 : ¬ 7 ≤ n := by omega
                simp [-Int32.not_le, -Int32.not_lt, mset_at, v_X11_refuse, v_X12_refuse, ref_m hR, c1, c2, c3, c5, c6, c7, t1, t2, e1, hle, heq, c8, hv, hl2, nI_cl n (by omega), nI_1, nI_pred]
                exact k3
            · simp [-Int32.not_le, -Int32.not_lt, mset_at, v_X11_refuse, v_X12_refuse, ref_m hR, c1, c2, c3, c5, c6, c7, t1, t2, e1, k1]
          · simp [-Int32.not_le, -Int32.not_lt, mset_at, v_X11_refuse, v_X12_refuse, ref_m hR, c1, c2, c3, c5, t1, t2, e1, k1]
        · have t1 : ¬ _ := fun q => c4 (hsr.mp q)
          have t2 : ¬ _ := fun q => c4 (hsl.mp q)
          simp only [Classical.not_not] at t2
          simp [-Int32.not_le, -Int32.not_lt, mset_at, v_X11_refuse, v_X12_refuse, ref_m hR, c1, c2, c3, t1, t2, e1, k1]
      · simp [-Int32.not_le, -Int32.not_lt, mset_at, v_X11_refuse, v_X12_refuse, ref_m hR, c1, c2, c3, k1]
    · simp [-Int32.not_le, -Int32.not_lt, mset_at, v_X11_refuse, v_X12_refuse, ref_m hR, c1, c2, k1]
  · simp [-Int32.not_le, -Int32.not_lt, mset_at, v_X11_refuse, v_X12_refuse, ref_m hR, c1, k1]
theorem o_cancel {M : Mem} {a : Int32} {K : Int32 → Int32 → Mem → Prop} (hR : gR (M 126) (M 295)) (eN : M 287 0 = M 1 0) (eS : M 325 = M 124) (e1 : M 287 57 = M 62 0) (h0 : 0 ≤ M 62 0) (h1 : M 62 0 ≤ 30) (e2 : M 333 = M 66) (e3 : M 335 = M 68)
    (k1 : ∀ d, d = -1 ∨ d = -3 → K d d (ref M d))
    (k2 : 0 ≤ a → a ≤ M 62 0 - 1 → M 68 (nn a) = 0 → ∀ v, v = (if M 1 0 + M 124 1 ≤ M 66 (nn a) then M 1 0 + M 124 1 else M 66 (nn a)) → K v v (mset (mset (mset (mset M 68 (nn a) 1) 66 (nn a) v) 335 (nn a) 1) 333 (nn a) v)) :
    f_X11_cancel a M (fun r M1 => f_X12_cancel a M1 (fun r' M2 => K r r' M2)) := by
  unfold f_X11_cancel f_X1_endBy f_X12_cancel f_X12_cancel_b82
  simp only [v_X1_has h0 h1, lt_nle]
  by_cases c1 : 0 ≤ a ∧ a ≤ M 62 0 - 1
  · have b1 : inB a 0 (M 62 0 - 1) = 1 := if_pos c1
    have hv : vp_in a 30 := vinH h0 c1 (tiLe h1 (by rfl))
    have k3 := k2 c1.1 c1.2
    unfold nn at k3
    by_cases c2 : M 68 a.toNatClampNeg = 0
    · have k4 := k3 c2 _ rfl
      by_cases c3 : M 1 0 + M 124 1 ≤ M 66 a.toNatClampNeg
      · rw [if_pos c3] at k4
        by_cases c4 : M 66 a.toNatClampNeg ≤ M 1 0 + M 124 1
        · have c5 : M 66 a.toNatClampNeg = M 1 0 + M 124 1 := Int32.le_antisymm c4 c3
          simp [-Int32.not_le, -Int32.not_lt, mset_at, v_X11_refuse, v_X12_refuse, ref_m hR, v_X12_isAgreement, b1, hv, e1, e2, e3, eN, eS, c2, c3, c4, c5]
          exact k4
        · simp [-Int32.not_le, -Int32.not_lt, mset_at, v_X11_refuse, v_X12_refuse, ref_m hR, v_X12_isAgreement, b1, hv, e1, e2, e3, eN, eS, c2, c3, c4]
          exact k4
      · rw [if_neg c3] at k4
        have c4 : M 66 a.toNatClampNeg ≤ M 1 0 + M 124 1 := by rw [i_le]; rw [i_le] at c3; omega
        simp [-Int32.not_le, -Int32.not_lt, mset_at, v_X11_refuse, v_X12_refuse, ref_m hR, v_X12_isAgreement, b1, hv, e1, e2, e3, eN, eS, c2, c3, c4]
        exact k4
    · simp [-Int32.not_le, -Int32.not_lt, mset_at, v_X11_refuse, v_X12_refuse, ref_m hR, v_X12_isAgreement, b1, hv, e1, e2, e3, eN, eS, c2, k1]
  · have b0 : inB a 0 (M 62 0 - 1) = 0 := inB_0.mpr c1
    simp [-Int32.not_le, -Int32.not_lt, mset_at, v_X11_refuse, v_X12_refuse, ref_m hR, v_X12_isAgreement, b0, e1, k1]
