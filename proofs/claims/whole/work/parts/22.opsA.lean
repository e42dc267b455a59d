/-! the calls, one by one: what class and model answer and leave, from the groups that they need -/
def ref (M : Mem) (c : Int32) : Mem := mset (mset M 126 (rfx c) (M 126 (rfx c) + 1)) 295 (rfx c) (M 126 (rfx c) + 1)
theorem ref_m {M : Mem} (h : gR (M 126) (M 295)) (c : Int32) : mset (mset M 126 (rfx c) (M 126 (rfx c) + 1)) 295 (rfx c) (M 295 (rfx c) + 1) = ref M c := by
  unfold ref
  rw [show M 295 = M 126 from h]
theorem vinB {a : Int32} {g : Int32} {n : Nat} (h : 0 ≤ a ∧ a ≤ g) (hg : g.toInt < n) : vp_in a n := vin_of h.1 (by have := i_le.mp h.2; omega)
theorem i_sub1 {n : Int32} (h : 0 ≤ n) : (n - 1).toInt = n.toInt - 1 := by
  have e0 : (0 : Int32).toInt = 0 := rfl
  have e1 : (1 : Int32).toInt = 1 := rfl
  have h0 := i_le.mp h
  have hb : n.toInt < 2147483648 := Int32.toInt_lt n
  rw [Int32.toInt_sub, e1]
  exact Int.bmod_eq_of_le (by omega) (by omega)
theorem hasB {a n g : Int32} (h0 : 0 ≤ n) (h1 : n ≤ g) : (0 ≤ a ∧ a ≤ n - 1) ↔ (0 ≤ a ∧ ¬ n ≤ a ∧ ¬ g ≤ a) := by
  have e := i_sub1 h0
  rw [i_le] at h0 h1
  constructor
  · intro ⟨x, y⟩
    rw [i_le] at x y
    exact ⟨i_le.mpr x, by rw [i_le]; omega, by rw [i_le]; omega⟩
  · intro ⟨x, y, z⟩
    rw [i_le] at x y z
    exact ⟨i_le.mpr x, by rw [i_le]; omega⟩
theorem vinH {a n : Int32} {w : Nat} (h0 : 0 ≤ n) (h : 0 ≤ a ∧ a ≤ n - 1) (hn : n.toInt ≤ w) : vp_in a w := by
  have e := i_sub1 h0
  have := i_le.mp h.2
  exact vin_of h.1 (by omega)
theorem tiLe {n : Int32} {g : Int32} {w : Nat} (h : n ≤ g) (hg : g.toInt = w) : n.toInt ≤ w := by have := i_le.mp h; omega
theorem v_X2_hasSeat {M : Mem} (h0 : 0 ≤ M 51 1) (h1 : M 51 1 ≤ 9) (a : Int32) (K : Int32 → Mem → Prop) : f_X2_hasSeat a M K ↔ K (inB a 0 (M 51 1 - 1)) M := by
  unfold f_X2_hasSeat f_X2_hasSeat_b22 f_X2_hasSeat_b23 inB
  simp only [hasB h0 h1, lt_nle]
  by_cases c1 : 0 ≤ a <;> by_cases c2 : M 51 1 ≤ a <;> by_cases c3 : 9 ≤ a <;> simp [-Int32.not_le, -Int32.not_lt, c1, c2, c3, bz0, bz1]
theorem v_X2_hasSession {M : Mem} (h0 : 0 ≤ M 51 5) (h1 : M 51 5 ≤ 30) (a : Int32) (K : Int32 → Mem → Prop) : f_X2_hasSession a M K ↔ K (inB a 0 (M 51 5 - 1)) M := by
  unfold f_X2_hasSession f_X2_hasSession_b22 f_X2_hasSession_b23 inB
  simp only [hasB h0 h1, lt_nle]
  by_cases c1 : 0 ≤ a <;> by_cases c2 : M 51 5 ≤ a <;> by_cases c3 : 30 ≤ a <;> simp [-Int32.not_le, -Int32.not_lt, c1, c2, c3, bz0, bz1]
theorem v_X9_has {M : Mem} (h0 : 0 ≤ M 4 0) (h1 : M 4 0 ≤ 24) (a : Int32) (K : Int32 → Mem → Prop) : f_X9_has a M K ↔ K (inB a 0 (M 4 0 - 1)) M := by
  unfold f_X9_has f_X9_has_b22 f_X9_has_b23 inB
  simp only [hasB h0 h1, lt_nle]
  by_cases c1 : 0 ≤ a <;> by_cases c2 : M 4 0 ≤ a <;> by_cases c3 : 24 ≤ a <;> simp [-Int32.not_le, -Int32.not_lt, c1, c2, c3, bz0, bz1]
theorem v_X1_has {M : Mem} (h0 : 0 ≤ M 62 0) (h1 : M 62 0 ≤ 30) (a : Int32) (K : Int32 → Mem → Prop) : f_X1_has a M K ↔ K (inB a 0 (M 62 0 - 1)) M := by
  unfold f_X1_has f_X1_has_b22 f_X1_has_b23 inB
  simp only [hasB h0 h1, lt_nle]
  by_cases c1 : 0 ≤ a <;> by_cases c2 : M 62 0 ≤ a <;> by_cases c3 : 30 ≤ a <;> simp [-Int32.not_le, -Int32.not_lt, c1, c2, c3, bz0, bz1]
theorem v_X4_has {M : Mem} (h0 : 0 ≤ M 72 0) (h1 : M 72 0 ≤ 60) (a : Int32) (K : Int32 → Mem → Prop) : f_X4_has a M K ↔ K (inB a 0 (M 72 0 - 1)) M := by
  unfold f_X4_has f_X4_has_b22 f_X4_has_b23 inB
  simp only [hasB h0 h1, lt_nle]
  by_cases c1 : 0 ≤ a <;> by_cases c2 : M 72 0 ≤ a <;> by_cases c3 : 60 ≤ a <;> simp [-Int32.not_le, -Int32.not_lt, c1, c2, c3, bz0, bz1]
theorem v_X11_isMatter {M : Mem} (h0 : 0 ≤ M 0 5) (h1 : M 0 5 ≤ 40) (a : Int32) (K : Int32 → Mem → Prop) : f_X11_isMatter a M K ↔ K (inB a 0 (M 0 5 - 1)) M := by
  unfold f_X11_isMatter f_X11_isMatter_b22 f_X11_isMatter_b23 inB
  simp only [hasB h0 h1, lt_nle]
  by_cases c1 : 0 ≤ a <;> by_cases c2 : M 0 5 ≤ a <;> by_cases c3 : 40 ≤ a <;> simp [-Int32.not_le, -Int32.not_lt, c1, c2, c3, bz0, bz1]
theorem v_X12_isSeat (a : Int32) (M : Mem) (K : Int32 → Mem → Prop) : f_X12_isSeat a M K ↔ K (inB a 0 (M 287 48 - 1)) M := by
  unfold f_X12_isSeat
  rw [v_X12_in]
  simp [inB_bz]
theorem v_X12_isSession (a : Int32) (M : Mem) (K : Int32 → Mem → Prop) : f_X12_isSession a M K ↔ K (inB a 0 (M 287 52 - 1)) M := by
  unfold f_X12_isSession
  rw [v_X12_in]
  simp [inB_bz]
theorem v_X12_isPerson (a : Int32) (M : Mem) (K : Int32 → Mem → Prop) : f_X12_isPerson a M K ↔ K (inB a 0 (M 287 2 - 1)) M := by
  unfold f_X12_isPerson
  rw [v_X12_in]
  simp [inB_bz]
theorem v_X12_isMatter (a : Int32) (M : Mem) (K : Int32 → Mem → Prop) : f_X12_isMatter a M K ↔ K (inB a 0 (M 287 32 - 1)) M := by
  unfold f_X12_isMatter
  rw [v_X12_in]
  simp [inB_bz]
theorem v_X12_isAgreement (a : Int32) (M : Mem) (K : Int32 → Mem → Prop) : f_X12_isAgreement a M K ↔ K (inB a 0 (M 287 57 - 1)) M := by
  unfold f_X12_isAgreement
  rw [v_X12_in]
  simp [inB_bz]
theorem v_X12_isDeed (a : Int32) (M : Mem) (K : Int32 → Mem → Prop) : f_X12_isDeed a M K ↔ K (inB a 0 (M 287 67 - 1)) M := by
  unfold f_X12_isDeed
  rw [v_X12_in]
  simp [inB_bz]
theorem v_X12_isPiece (a : Int32) (M : Mem) (K : Int32 → Mem → Prop) : f_X12_isPiece a M K ↔ K (inB a 0 4) M := by
  unfold f_X12_isPiece
  rw [v_X12_in]
  simp [inB_bz]
theorem o_days {M : Mem} {a : Int32} {K : Int32 → Int32 → Mem → Prop} (hR : gR (M 126) (M 295)) (hD : gDay (M 2) (M 3) (M 288) (M 1 0) (M 287 0))
    (k1 : ∀ c, c = -4 ∨ c = -6 → K c c (ref M c)) (k2 : 1 ≤ a → a ≤ 1000 - M 1 0 → K (M 1 0 + a) (M 1 0 + a) (mset (mset M 1 0 (M 1 0 + a)) 287 0 (M 1 0 + a))) :
    f_X11_days a M (fun r M1 => f_X12_days a M1 (fun r' M2 => K r r' M2)) := by
  have e1 : M 287 0 = M 1 0 := hD.1
  unfold f_X11_days f_X12_days
  by_cases c1 : 1 ≤ a <;> by_cases c2 : a ≤ 1000 - M 1 0 <;> simp [-Int32.not_le, -Int32.not_lt, mset_at, v_X11_refuse, v_X12_refuse, ref_m hR, c1, c2, e1, k1, k2]
theorem o_votes {M : Mem} {a b : Int32} {K : Int32 → Int32 → Mem → Prop} (hR : gR (M 126) (M 295)) (hV : M 322 = M 52)
    (k1 : ∀ c, c = -1 ∨ c = -4 ∨ c = -6 → K c c (ref M c)) (k2 : 0 ≤ a → a ≤ 5 → 0 ≤ b → b ≤ 999 → K (M 52 (nn a)) (M 52 (nn a)) (mset (mset M 52 (nn a) b) 322 (nn a) b)) :
    f_X11_votes a b M (fun r M1 => f_X12_votes a b M1 (fun r' M2 => K r r' M2)) := by
  unfold f_X11_votes f_X12_votes
  unfold nn at k2
  simp only [v_X11_isShop, v_X12_isShop, v_X11_outside, inB_0]
  by_cases c1 : 0 ≤ a ∧ a ≤ 5
  · have hv : vp_in a 6 := vinB c1 (by decide)
    by_cases c2 : 0 ≤ b <;> by_cases c3 : b ≤ 999 <;> simp [-Int32.not_le, -Int32.not_lt, mset_at, v_X11_refuse, v_X12_refuse, ref_m hR, c1, c2, c3, outs, hv, lt_nle, hV, k1, k2]
  · simp [-Int32.not_le, -Int32.not_lt, mset_at, v_X11_refuse, v_X12_refuse, ref_m hR, c1, k1]
theorem o_put {M : Mem} {a : Int32} {K : Int32 → Int32 → Mem → Prop} (hR : gR (M 126) (M 295)) (hV : gRow (M 0 14) (M 287 106) (M 125) (M 368))
    (k1 : K (-6) (-6) (ref M (-6))) (k2 : M 0 14 < 40 → K (M 0 14 + 1) (M 0 14 + 1) (mset (mset (mset (mset M 125 (nn (M 0 14)) a) 0 14 (M 0 14 + 1)) 368 (nn (M 0 14)) a) 287 106 (M 0 14 + 1))) :
    f_X11_put a M (fun r M1 => f_X12_put a M1 (fun r' M2 => K r r' M2)) := by
  obtain ⟨e1, h0, h1, e2⟩ := hV
  unfold f_X11_put f_X12_put
  unfold nn at k2
  by_cases c1 : M 0 14 < 40
  · have c2 : ¬ M 0 14 = 40 := by lia
    have hv : vp_in (M 0 14) 40 := vin_of h0 (by have := i_lt.mp c1; have e : (40 : Int32).toInt = 40 := rfl; omega)
    simp [-Int32.not_le, -Int32.not_lt, mset_at, v_X11_refuse, v_X12_refuse, ref_m hR, c1, c2, hv, e1, k2]
  · have c2 : M 0 14 = 40 := by lia
    simp [-Int32.not_le, -Int32.not_lt, mset_at, v_X11_refuse, v_X12_refuse, ref_m hR, c1, c2, e1, k1]
theorem i2 {a : Int32} (h : 0 ≤ a ∧ a ≤ 1) : a = 0 ∨ a = 1 := by lia
theorem i3 {a : Int32} (h : 0 ≤ a ∧ a ≤ 2) : a = 0 ∨ a = 1 ∨ a = 2 := by lia
theorem i4 {a : Int32} (h : 0 ≤ a ∧ a ≤ 3) : a = 0 ∨ a = 1 ∨ a = 2 ∨ a = 3 := by lia
theorem i5 {a : Int32} (h : 0 ≤ a ∧ a ≤ 4) : a = 0 ∨ a = 1 ∨ a = 2 ∨ a = 3 ∨ a = 4 := by lia
theorem i6 {a : Int32} (h : 0 ≤ a ∧ a ≤ 5) : a = 0 ∨ a = 1 ∨ a = 2 ∨ a = 3 ∨ a = 4 ∨ a = 5 := by lia
theorem ix2 {a : Int32} (h : ¬ (0 ≤ a ∧ a ≤ 1)) : a.toInt < 0 ∨ 1 < a.toInt := by rw [i_le, i_le] at h; have e0 : (0 : Int32).toInt = 0 := rfl; have e1 : (1 : Int32).toInt = 1 := rfl; omega
theorem ix4 {a : Int32} (h : ¬ (0 ≤ a ∧ a ≤ 3)) : a.toInt < 0 ∨ 3 < a.toInt := by rw [i_le, i_le] at h; have e0 : (0 : Int32).toInt = 0 := rfl; have e1 : (3 : Int32).toInt = 3 := rfl; omega
theorem ix5 {a : Int32} (h : ¬ (0 ≤ a ∧ a ≤ 4)) : a.toInt < 0 ∨ 4 < a.toInt := by rw [i_le, i_le] at h; have e0 : (0 : Int32).toInt = 0 := rfl; have e1 : (4 : Int32).toInt = 4 := rfl; omega
theorem ix6 {a : Int32} (h : ¬ (0 ≤ a ∧ a ≤ 5)) : a.toInt < 0 ∨ 5 < a.toInt := by rw [i_le, i_le] at h; have e0 : (0 : Int32).toInt = 0 := rfl; have e1 : (5 : Int32).toInt = 5 := rfl; omega
theorem o_weight {M : Mem} {a b : Int32} {K : Int32 → Int32 → Mem → Prop} (hR : gR (M 126) (M 295)) (hV : M 360 = M 14)
    (k1 : ∀ c, c = -2 ∨ c = -4 ∨ c = -6 → K c c (ref M c)) (k2 : 0 ≤ a → a ≤ 3 → 0 ≤ b → b ≤ 9 → K (M 14 (nn a)) (M 14 (nn a)) (mset (mset M 14 (nn a) b) 360 (nn a) b)) :
    f_X11_weight a b M (fun r M1 => f_X12_weight a b M1 (fun r' M2 => K r r' M2)) := by
  unfold f_X11_weight f_X11_weight_b9 f_X12_weight
  unfold nn at k2
  simp only [v_X12_in, v_X11_outside, inB_0, lt_nle]
  by_cases c1 : 0 ≤ a <;> by_cases c2 : a ≤ 3
  · have hv : vp_in a 4 := vinB ⟨c1, c2⟩ (by decide)
    by_cases c3 : 0 ≤ b <;> by_cases c4 : b ≤ 9 <;> simp [-Int32.not_le, -Int32.not_lt, mset_at, v_X11_refuse, v_X12_refuse, ref_m hR, c1, c2, c3, c4, outs, hv, lt_nle, hV, k1, k2]
  all_goals simp [-Int32.not_le, -Int32.not_lt, mset_at, v_X11_refuse, v_X12_refuse, ref_m hR, c1, c2, k1]
theorem o_need {M : Mem} {a b : Int32} {K : Int32 → Int32 → Mem → Prop} (hR : gR (M 126) (M 295)) (hV : M 347 = M 82)
    (k1 : ∀ c, c = -2 ∨ c = -4 ∨ c = -6 → K c c (ref M c)) (k2 : 0 ≤ a → a ≤ 2 → 0 ≤ b → b ≤ 2 → K (M 82 (nn a)) (M 82 (nn a)) (mset (mset (mset (mset M 82 (nn a) b) 81 15 0) 347 (nn a) b) 287 89 (-1))) :
    f_X11_need a b M (fun r M1 => f_X12_need a b M1 (fun r' M2 => K r r' M2)) := by
  unfold f_X11_need f_X11_need_b9 f_X12_need f_X8_forget
  unfold nn at k2
  simp only [v_X12_in, v_X11_outside, inB_0, lt_nle]
  by_cases c1 : 0 ≤ a <;> by_cases c2 : a ≤ 2
  · have hv : vp_in a 3 := vinB ⟨c1, c2⟩ (by decide)
    by_cases c3 : 0 ≤ b <;> by_cases c4 : b ≤ 2 <;> simp [-Int32.not_le, -Int32.not_lt, mset_at, v_X11_refuse, v_X12_refuse, ref_m hR, c1, c2, c3, c4, outs, hv, lt_nle, hV, k1, k2]
  all_goals simp [-Int32.not_le, -Int32.not_lt, mset_at, v_X11_refuse, v_X12_refuse, ref_m hR, c1, c2, k1]
def farv (c : Int32) : Int32 := 1000000000 - c
theorem v_X12_refuseFar {c : Int32} (h : c = -1 ∨ c = -2 ∨ c = -3 ∨ c = -4 ∨ c = -5 ∨ c = -6) (M : Mem) (K : Int32 → Mem → Prop) : f_X12_refuseFar c M K ↔ K (farv c) (mset M 295 (rfx c) (M 295 (rfx c) + 1)) := by
  unfold f_X12_refuseFar
  have hv : vp_in (-c) 7 := by rcases h with rfl | rfl | rfl | rfl | rfl | rfl <;> exact vin_lit (by decide)
  simp [hv, rfx, farv]
theorem v_X11_refuseFar {c : Int32} (h : c = -1 ∨ c = -2 ∨ c = -3 ∨ c = -4 ∨ c = -5 ∨ c = -6) (M : Mem) (K : Int32 → Mem → Prop) : f_X11_refuseFar c M K ↔ K (farv c) (mset M 126 (rfx c) (M 126 (rfx c) + 1)) := by
  unfold f_X11_refuseFar
  rw [v_X11_refuse h]
  rfl
theorem o_contract {M : Mem} {a b c : Int32} {K : Int32 → Int32 → Mem → Prop} (hR : gR (M 126) (M 295)) (hV : M 336 = M 69)
    (k1 : ∀ d, d = -2 ∨ d = -4 ∨ d = -6 → K (farv d) (farv d) (ref M d)) (k2 : 0 ≤ a → a ≤ 7 → -1 ≤ b → b ≤ 9999 → 0 ≤ c → c ≤ 2 → K (M 69 (nn a)) (M 69 (nn a)) (mset (mset (mset (mset M 69 (nn a) b) 70 (nn a) c) 336 (nn a) b) 337 (nn a) c)) :
    f_X11_contract a b c M (fun r M1 => f_X12_contract a b c M1 (fun r' M2 => K r r' M2)) := by
  unfold f_X11_contract f_X11_contract_b16 f_X12_contract f_X12_contract_b16
  unfold nn at k2
  simp only [v_X11_isWhat, v_X12_isWhat, v_X12_in, v_X11_outside, inB_0, lt_nle]
  by_cases c1 : 0 ≤ a ∧ a ≤ 7
  · have hv : vp_in a 8 := vinB c1 (by decide)
    by_cases c3 : 0 ≤ c <;> by_cases c4 : c ≤ 2
    · by_cases c5 : -1 ≤ b <;> by_cases c6 : b ≤ 9999 <;> simp [-Int32.not_le, -Int32.not_lt, mset_at, v_X11_refuse, v_X12_refuse, ref_m hR, v_X11_refuseFar, v_X12_refuseFar, c1, c3, c4, c5, c6, outs, hv, lt_nle, hV, k1, k2]
    all_goals simp [-Int32.not_le, -Int32.not_lt, mset_at, v_X11_refuse, v_X12_refuse, ref_m hR, v_X11_refuseFar, v_X12_refuseFar, c1, c3, c4, k1]
  · simp [-Int32.not_le, -Int32.not_lt, mset_at, v_X11_refuse, v_X12_refuse, ref_m hR, v_X11_refuseFar, v_X12_refuseFar, c1, k1]
theorem o_after {M : Mem} {a b : Int32} {K : Int32 → Int32 → Mem → Prop} (hR : gR (M 126) (M 295)) (hV : M 338 = M 71) (hb : bz b)
    (k1 : K (-2) (-2) (ref M (-2))) (k2 : 0 ≤ a → a ≤ 7 → K (if M 71 (nn a) = b then 0 else 1) (if M 71 (nn a) = b then 0 else 1) (mset (mset M 71 (nn a) b) 338 (nn a) b)) :
    f_X11_after a b M (fun r M1 => f_X12_after a b M1 (fun r' M2 => K r r' M2)) := by
  unfold f_X11_after f_X11_after_b32 f_X11_after_b52 f_X12_after f_X12_after_b38
  unfold nn at k2
  simp only [v_X11_isWhat, v_X12_isWhat, inB_0, lt_nle]
  by_cases c1 : 0 ≤ a ∧ a ≤ 7
  · have hv : vp_in a 8 := vinB c1 (by decide)
    have k3 := k2 c1.1 c1.2
    by_cases c2 : M 71 a.toNatClampNeg = b <;> simp [-Int32.not_le, -Int32.not_lt, mset_at, v_X11_refuse, v_X12_refuse, ref_m hR, c1, c2, hv, hV, hb] <;> simpa [c2] using k3
  · simp [-Int32.not_le, -Int32.not_lt, mset_at, v_X11_refuse, v_X12_refuse, ref_m hR, c1, k1]
theorem o_seat {M : Mem} {a b : Int32} {K : Int32 → Int32 → Mem → Prop} (hR : gR (M 126) (M 295)) (hV : gSeat (M 51 1) (M 287 48) (M 4 0) (M 52) (M 53) (M 54) (M 322) (M 323) (M 324))
    (k1 : ∀ c, c = -1 ∨ c = -2 → K c c (ref M c)) (k2 : ∀ v, K v v M) :
    f_X11_seat a b M (fun r M1 => f_X12_seat a b M1 (fun r' M2 => K r r' M2)) := by
  obtain ⟨e1, h0, h1, e2, e3, e4, -⟩ := hV
  unfold f_X11_seat f_X11_seat_b26 f_X11_seat_b58 f_X12_seat f_X12_seat_b49
  simp only [v_X2_hasSeat h0 h1, inB_0, lt_nle]
  by_cases c1 : 0 ≤ a ∧ a ≤ M 51 1 - 1
  · have hv : vp_in a 9 := vinH h0 c1 (tiLe h1 (by rfl))
    by_cases c2 : 0 ≤ b <;> by_cases c3 : b ≤ 1 <;> by_cases c4 : b = 0 <;> simp [-Int32.not_le, -Int32.not_lt, mset_at, v_X11_refuse, v_X12_refuse, ref_m hR, c1, c2, c3, c4, v_X12_isSeat, v_X12_in, inB_0, e1, e3, e4, hv, k1, k2]
  · have c2 : inB a 0 (M 51 1 - 1) = 0 := inB_0.mpr c1
    have c3 : (0 ≤ a ∧ a ≤ M 51 1 - 1) = False := eq_false c1
    simp only [c3]
    simp [-Int32.not_le, -Int32.not_lt, mset_at, v_X11_refuse, v_X12_refuse, ref_m hR, v_X12_isSeat, e1, k1, c2]
theorem o_sessionOf {M : Mem} {a b : Int32} {K : Int32 → Int32 → Mem → Prop} (hR : gR (M 126) (M 295)) (e1 : M 287 52 = M 51 5) (h0 : 0 ≤ M 51 5) (h1 : M 51 5 ≤ 30) (e2 : M 326 = M 56) (e3 : M 327 = M 57) (e4 : M 328 = M 58) (e5 : M 329 = M 59)
    (h2 : ∀ k, k < nn (M 51 5) → M 59 k ≤ 1000000) (k1 : ∀ c, c = -1 ∨ c = -2 → K c c (ref M c)) (k2 : ∀ v, K v v M) :
    f_X11_sessionOf a b M (fun r M1 => f_X12_sessionOf a b M1 (fun r' M2 => K r r' M2)) := by
  unfold f_X11_sessionOf f_X11_sessionOf_b85 f_X11_sessionOf_b105 f_X12_sessionOf f_X12_sessionOf_b96
  simp only [v_X2_hasSession h0 h1, inB_0, lt_nle]
  by_cases c1 : 0 ≤ a ∧ a ≤ M 51 5 - 1
  · have hv : vp_in a 30 := vinH h0 c1 (tiLe h1 (by rfl))
    have hm : M 59 a.toNatClampNeg ≤ 1000000 := h2 _ (by
      have e := i_sub1 h0
      have x := i_le.mp c1.1
      have y := i_le.mp c1.2
      have e0 : (0 : Int32).toInt = 0 := rfl
      unfold nn
      rw [clampD, clampD]
      omega)
    have hm2 : (1000000 ≤ M 59 a.toNatClampNeg) ↔ M 59 a.toNatClampNeg = 1000000 := by constructor <;> intro _ <;> lia
    by_cases c2 : 0 ≤ b ∧ b ≤ 3
    · by_cases c5 : M 58 a.toNatClampNeg = 0 <;> by_cases c6 : M 59 a.toNatClampNeg = 1000000 <;> rcases i4 c2 with rfl | rfl | rfl | rfl <;> simp [-Int32.not_le, -Int32.not_lt, mset_at, v_X11_refuse, v_X12_refuse, ref_m hR, c1, c5, c6, v_X12_isSession, v_X12_in, inB_0, e1, e2, e3, e4, e5, hv, k1, k2, hm2]
    · have c3 := ix4 c2
      have c4 : ¬ b = 0 ∧ ¬ b = 1 ∧ ¬ b = 2 ∧ ¬ b = 3 := by refine ⟨?_, ?_, ?_, ?_⟩ <;> (intro q; subst q; exact c2 (by decide))
      simp [-Int32.not_le, -Int32.not_lt, mset_at, v_X11_refuse, v_X12_refuse, ref_m hR, c1, c2, c3, c4, v_X12_isSession, v_X12_in, inB_0, e1, k1]
  · have c2 : inB a 0 (M 51 5 - 1) = 0 := inB_0.mpr c1
    have c3 : (0 ≤ a ∧ a ≤ M 51 5 - 1) = False := eq_false c1
    simp only [c3]
    simp [-Int32.not_le, -Int32.not_lt, mset_at, v_X11_refuse, v_X12_refuse, ref_m hR, v_X12_isSession, e1, k1, c2]
