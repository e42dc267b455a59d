/-! the calls, one by one: what class and model answer and leave, from the groups that they need -/
def ref (M : Mem) (c : Int32) : Mem := mset (mset M 126 (rfx c) (M 126 (rfx c) + 1)) 295 (rfx c) (M 126 (rfx c) + 1)
theorem ref_m {M : Mem} (h : gR (M 126) (M 295)) (c : Int32) : mset (mset M 126 (rfx c) (M 126 (rfx c) + 1)) 295 (rfx c) (M 295 (rfx c) + 1) = ref M c := by
  unfold ref
  rw [show M 295 = M 126 from h]
theorem vinB {a : Int32} {g : Int32} {n : Nat} (h : 0 ≤ a ∧ a ≤ g) (hg : g.toInt < n) : vp_in a n := vin_of h.1 (by have := i_le.mp h.2; omega)
theorem o_days {M : Mem} {a : Int32} {K : Int32 → Int32 → Mem → Prop} (hR : gR (M 126) (M 295)) (hD : gDay (M 2) (M 3) (M 288) (M 1 0) (M 287 0))
    (k1 : ∀ c, c = -4 ∨ c = -6 → K c c (ref M c)) (k2 : 1 ≤ a → a ≤ 1000 - M 1 0 → K (M 1 0 + a) (M 1 0 + a) (mset (mset M 1 0 (M 1 0 + a)) 287 0 (M 1 0 + a))) :
    f_X11_days a M (fun r M1 => f_X12_days a M1 (fun r' M2 => K r r' M2)) := by
  have e1 : M 287 0 = M 1 0 := hD.1
  unfold f_X11_days f_X12_days
  by_cases c1 : 1 ≤ a <;> by_cases c2 : a ≤ 1000 - M 1 0 <;> simp [-Int32.not_le, -Int32.not_lt, c1, c2, mset_at, e1, v_X11_refuse, v_X12_refuse, ref_m hR, k1, k2]
theorem o_votes {M : Mem} {a b : Int32} {K : Int32 → Int32 → Mem → Prop} (hR : gR (M 126) (M 295)) (hV : M 322 = M 52)
    (k1 : ∀ c, c = -1 ∨ c = -4 ∨ c = -6 → K c c (ref M c)) (k2 : 0 ≤ a → a ≤ 5 → 0 ≤ b → b ≤ 999 → K (M 52 (nn a)) (M 52 (nn a)) (mset (mset M 52 (nn a) b) 322 (nn a) b)) :
    f_X11_votes a b M (fun r M1 => f_X12_votes a b M1 (fun r' M2 => K r r' M2)) := by
  unfold f_X11_votes f_X12_votes
  unfold nn at k2
  simp only [v_X11_isShop, v_X12_isShop, v_X11_outside, inB_0]
  by_cases c1 : 0 ≤ a ∧ a ≤ 5
  · have hv : vp_in a 6 := vinB c1 (by decide)
    by_cases c2 : 0 ≤ b <;> by_cases c3 : b ≤ 999 <;> simp [-Int32.not_le, -Int32.not_lt, c1, c2, c3, outs, hv, lt_nle, mset_at, hV, k1, k2, v_X11_refuse, v_X12_refuse, ref_m hR]
  · simp [-Int32.not_le, -Int32.not_lt, c1, v_X11_refuse, v_X12_refuse, ref_m hR, k1]
theorem o_put {M : Mem} {a : Int32} {K : Int32 → Int32 → Mem → Prop} (hR : gR (M 126) (M 295)) (hV : gRow (M 0 14) (M 287 106) (M 125) (M 368))
    (k1 : K (-6) (-6) (ref M (-6))) (k2 : M 0 14 < 40 → K (M 0 14 + 1) (M 0 14 + 1) (mset (mset (mset (mset M 125 (nn (M 0 14)) a) 0 14 (M 0 14 + 1)) 368 (nn (M 0 14)) a) 287 106 (M 0 14 + 1))) :
    f_X11_put a M (fun r M1 => f_X12_put a M1 (fun r' M2 => K r r' M2)) := by
  obtain ⟨e1, h0, h1, e2⟩ := hV
  unfold f_X11_put f_X12_put
  unfold nn at k2
  by_cases c1 : M 0 14 < 40
  · have c2 : ¬ M 0 14 = 40 := by lia
    have hv : vp_in (M 0 14) 40 := vin_of h0 (by have := i_lt.mp c1; have e : (40 : Int32).toInt = 40 := rfl; omega)
    simp [-Int32.not_le, -Int32.not_lt, c1, c2, hv, mset_at, e1, k2]
  · have c2 : M 0 14 = 40 := by lia
    simp [-Int32.not_le, -Int32.not_lt, c1, c2, e1, mset_at, v_X11_refuse, v_X12_refuse, ref_m hR, k1]
theorem sv_0 {a : Int32} (h : a = 0 ∨ a = 1 ∨ a = 2) : sv 0 a.toNatClampNeg = (if a = 0 then 255 else if a = 1 then 30 else 1) := by rcases h with rfl | rfl | rfl <;> rfl
theorem i3 {a : Int32} (h : 0 ≤ a ∧ a ≤ 2) : a = 0 ∨ a = 1 ∨ a = 2 := by lia
theorem i4 {a : Int32} (h : 0 ≤ a ∧ a ≤ 3) : a = 0 ∨ a = 1 ∨ a = 2 ∨ a = 3 := by lia
theorem i5 {a : Int32} (h : 0 ≤ a ∧ a ≤ 4) : a = 0 ∨ a = 1 ∨ a = 2 ∨ a = 3 ∨ a = 4 := by lia
theorem o_weight {M : Mem} {a b : Int32} {K : Int32 → Int32 → Mem → Prop} (hR : gR (M 126) (M 295)) (hV : M 360 = M 14)
    (k1 : ∀ c, c = -2 ∨ c = -4 ∨ c = -6 → K c c (ref M c)) (k2 : 0 ≤ a → a ≤ 3 → 0 ≤ b → b ≤ 9 → K (M 14 (nn a)) (M 14 (nn a)) (mset (mset M 14 (nn a) b) 360 (nn a) b)) :
    f_X11_weight a b M (fun r M1 => f_X12_weight a b M1 (fun r' M2 => K r r' M2)) := by
  unfold f_X11_weight f_X11_weight_b9 f_X12_weight
  unfold nn at k2
  simp only [v_X12_in, v_X11_outside, inB_0, lt_nle]
  by_cases c1 : 0 ≤ a <;> by_cases c2 : a ≤ 3
  · have hv : vp_in a 4 := vinB ⟨c1, c2⟩ (by decide)
    by_cases c3 : 0 ≤ b <;> by_cases c4 : b ≤ 9 <;> simp [-Int32.not_le, -Int32.not_lt, c1, c2, c3, c4, outs, hv, lt_nle, mset_at, hV, k1, k2, v_X11_refuse, v_X12_refuse, ref_m hR]
  all_goals simp [-Int32.not_le, -Int32.not_lt, c1, c2, v_X11_refuse, v_X12_refuse, ref_m hR, k1]
theorem o_list {M : Mem} {K : Int32 → Int32 → Mem → Prop} (h : True) : True := trivial
