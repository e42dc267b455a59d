
theorem mset_same {M : Mem} {c k : Nat} {x : Int32} (h : M c k = x) : mset M c k x = M := by
  subst h
  rw [mset_put, show upd (M c) k (M c k) = M c from funext fun j => by rw [upd_at]; split <;> simp_all, mput_id]
theorem o_term {M : Mem} {a b v : Int32} {K : Int32 → Int32 → Mem → Prop} (hR : gR (M 126) (M 295)) (hT : gTerm (rws M 119 1 5) (M 305) (M 306) (M 307))
    (k1 : ∀ d, d = -2 ∨ d = -4 ∨ d = -6 → K d d (ref M d))
    (k2 : ∀ k i, k < 5 → i < 3 → 0 ≤ v → v ≤ (if i = 0 then 255 else if i = 1 then 30 else 1) → K (M (305 + i) k) (M (305 + i) k) (mset (mset M (119 + k) i v) (305 + i) k v)) :
    f_X11_term a b v M (fun r M1 => f_X12_term a b v M1 (fun r' M2 => K r r' M2)) := by
  unfold f_X11_term f_X11_term_b18 f_X12_term f_X12_term_b18 f_X12_term_b58 f_X12_term_b101 f_X12_term_b122 f_X12_term_b143 f_X12_term_b164
  simp only [v_X11_outside, v_X12_in, lt_nle]
  by_cases c1 : 0 ≤ a ∧ a ≤ 4
  · have b1 : inB a 0 4 = 1 := if_pos c1
    obtain ⟨k, hk, rfl⟩ := nat_of (n := 4) c1.1 c1.2 (by decide)
    have hv : vp_in (nI k) 5 := vin_nI (by omega) (by decide)
    have h5 : ¬ (5 : Int32) ≤ nI k := by
      have : ((5 : Int32) ≤ nI k) ↔ 5 ≤ k := nI_le_iff (a := 5) (by omega) (by omega)
      rw [this]; omega
    have hTk := hT k (by omega)
    rw [rws_in M 119 1 5 (by omega), Nat.one_mul] at hTk
    obtain ⟨t0, t1, t2, -⟩ := hTk
    have ne : ∀ i, i < 3 → ¬ 305 + i = 119 + k ∧ ¬ (305 = 119 + k) ∧ ¬ (306 = 119 + k) ∧ ¬ (307 = 119 + k) := fun i _ => by omega
    obtain ⟨-, n5, n6, n7⟩ := ne 0 (by omega)
    by_cases c2 : 0 ≤ b ∧ b ≤ 2
    · have b2 : inB b 0 2 = 1 := if_pos c2
      by_cases c3 : 0 ≤ v
      · rcases i3 c2 with rfl | rfl | rfl
        · have hv3 : vp_in (0 : Int32) 3 := vin_lit (by decide)
          have es : sv 0 0 = 255 := rfl
          have e0 : (0 : Int32).toNatClampNeg = 0 := rfl
          by_cases c4 : v ≤ 255
          · have k3 := k2 k 0 (by omega) (by omega) c3 c4
            have em : mset (mset (mset (mset M (119 + k) 0 v) 305 k v) 306 k (M 306 k)) 307 k (M 307 k) = mset (mset M (119 + k) 0 v) 305 k v := by
              rw [mset_same (M := mset (mset M (119 + k) 0 v) 305 k v) (by simp [mset_at, n6]), mset_same (by simp [mset_at, n7])]
            simp [-Int32.not_le, -Int32.not_lt, mset_at, v_X11_refuse, v_X12_refuse, ref_m hR, outs, b1, b2, c1.1, h5, hv, hv3, es, e0, c3, c4, nI_cl k (by omega), t0, n5, n6, n7, em]
            exact k3
          · simp [-Int32.not_le, -Int32.not_lt, mset_at, v_X11_refuse, v_X12_refuse, ref_m hR, outs, b1, b2, c1.1, h5, hv, hv3, es, e0, c3, c4, nI_cl k (by omega), k1]
        · have hv3 : vp_in (1 : Int32) 3 := vin_lit (by decide)
          have es : sv 0 1 = 30 := rfl
          have e0 : (1 : Int32).toNatClampNeg = 1 := rfl
          by_cases c4 : v ≤ 30
          · have k3 := k2 k 1 (by omega) (by omega) c3 c4
            have em : mset (mset (mset (mset M (119 + k) 1 v) 305 k (M 305 k)) 306 k v) 307 k (M 307 k) = mset (mset M (119 + k) 1 v) 306 k v := by
              rw [mset_same (M := mset M (119 + k) 1 v) (by simp [mset_at, n5]), mset_same (by simp [mset_at, n7])]
            simp [-Int32.not_le, -Int32.not_lt, mset_at, v_X11_refuse, v_X12_refuse, ref_m hR, outs, b1, b2, c1.1, h5, hv, hv3, es, e0, c3, c4, nI_cl k (by omega), t1, n5, n6, n7, em]
            exact k3
          · simp [-Int32.not_le, -Int32.not_lt, mset_at, v_X11_refuse, v_X12_refuse, ref_m hR, outs, b1, b2, c1.1, h5, hv, hv3, es, e0, c3, c4, nI_cl k (by omega), k1]
        · have hv3 : vp_in (2 : Int32) 3 := vin_lit (by decide)
          have es : sv 0 2 = 1 := rfl
          have e0 : (2 : Int32).toNatClampNeg = 2 := rfl
          by_cases c4 : v ≤ 1
          · have k3 := k2 k 2 (by omega) (by omega) c3 c4
            have em : mset (mset (mset (mset M (119 + k) 2 v) 305 k (M 305 k)) 306 k (M 306 k)) 307 k v = mset (mset M (119 + k) 2 v) 307 k v := by
              rw [mset_same (M := mset M (119 + k) 2 v) (by simp [mset_at, n5]), mset_same (M := mset M (119 + k) 2 v) (by simp [mset_at, n6])]
            simp [-Int32.not_le, -Int32.not_lt, mset_at, v_X11_refuse, v_X12_refuse, ref_m hR, outs, b1, b2, c1.1, h5, hv, hv3, es, e0, c3, c4, nI_cl k (by omega), t2, n5, n6, n7, em]
            exact k3
          · simp [-Int32.not_le, -Int32.not_lt, mset_at, v_X11_refuse, v_X12_refuse, ref_m hR, outs, b1, b2, c1.1, h5, hv, hv3, es, e0, c3, c4, nI_cl k (by omega), k1]
      · have ho : ∀ g, outs v 0 g = -4 := fun g => outs_4.mpr c3
        have hvb : vp_in b 3 := vinB c2 (by decide)
        simp [-Int32.not_le, -Int32.not_lt, mset_at, v_X11_refuse, v_X12_refuse, ref_m hR, ho, b1, b2, c1.1, c2.1, c2.2, h5, hvb, c3, k1]
    · have b2 : inB b 0 2 = 0 := inB_0.mpr c2
      by_cases c3 : 0 ≤ b
      · have c4 : ¬ b ≤ 2 := fun q => c2 ⟨c3, q⟩
        simp [-Int32.not_le, -Int32.not_lt, mset_at, v_X11_refuse, v_X12_refuse, ref_m hR, b1, b2, c1.1, h5, c3, c4, k1]
      · simp [-Int32.not_le, -Int32.not_lt, mset_at, v_X11_refuse, v_X12_refuse, ref_m hR, b1, b2, c1.1, h5, c3, k1]
  · have b1 : inB a 0 4 = 0 := inB_0.mpr c1
    by_cases c3 : 0 ≤ a
    · have c4 : 5 ≤ a := by lia
      simp [-Int32.not_le, -Int32.not_lt, mset_at, v_X11_refuse, v_X12_refuse, ref_m hR, b1, c3, c4, k1]
    · simp [-Int32.not_le, -Int32.not_lt, mset_at, v_X11_refuse, v_X12_refuse, ref_m hR, b1, c3, k1]
theorem o_strike {M : Mem} {a b : Int32} {K : Int32 → Int32 → Mem → Prop} (hR : gR (M 126) (M 295)) (eN : M 287 0 = M 1 0) (n1 : M 1 0 ≤ 1000) (eA : M 287 12 = M 15 0) (a0 : 0 ≤ M 15 0) (a1 : M 15 0 ≤ 24) (eS : M 300 = M 44)
    (hs : ∀ j, j < nn (M 15 0) → M 44 j ≤ 1000000) (k1 : ∀ d, d = -1 ∨ d = -3 ∨ d = -4 ∨ d = -6 → K d d (ref M d))
    (k2 : 0 ≤ a → a ≤ M 15 0 - 1 → M 1 0 ≤ b → b ≤ 1000 → K 1 1 (mset (mset M 44 (nn a) b) 300 (nn a) b)) :
    f_X11_strike a b M (fun r M1 => f_X12_strike a b M1 (fun r' M2 => K r r' M2)) := by
  obtain ⟨n, hn, en⟩ := nat_of (n := 24) a0 a1 (by decide)
  unfold f_X11_strike f_X11_strike_b15 f_X12_strike
  simp only [v_X11_outside, v_X12_in, lt_nle]
  by_cases c1 : 0 ≤ a ∧ a ≤ M 15 0 - 1
  · have b1 : inB a 0 (M 15 0 - 1) = 1 := if_pos c1
    have k3 := k2 c1.1 c1.2
    obtain ⟨j, hj, rfl⟩ := natL en (by omega) c1
    have hv : vp_in (nI j) 24 := vin_nI (by omega) (by decide)
    have hx : ¬ M 15 0 ≤ nI j := by rw [en, nI_le_iff (by omega) (by omega)]; omega
    have h0 : 0 ≤ nI j := c1.1
    have hm := hs j (by rw [en, nn_nI n (by omega)]; exact hj)
    have hm2 : (1000000 ≤ M 44 j) ↔ M 44 j = 1000000 := by constructor <;> intro _ <;> lia
    rw [nn_nI j (by omega)] at k3
    by_cases c2 : M 44 j = 1000000 <;> by_cases c3 : M 1 0 ≤ b <;> by_cases c4 : b ≤ 1000 <;> simp [-Int32.not_le, -Int32.not_lt, mset_at, v_X11_refuse, v_X12_refuse, ref_m hR, outs, b1, eA, eN, eS, hv, hx, h0, hm2, c2, c3, c4, nI_cl j (by omega), k1, k3]
  · have b0 : inB a 0 (M 15 0 - 1) = 0 := inB_0.mpr c1
    by_cases c3 : 0 ≤ a
    · have c4 : M 15 0 ≤ a := by
        have e := i_sub1 a0
        rw [i_le]
        have : ¬ a ≤ M 15 0 - 1 := fun q => c1 ⟨c3, q⟩
        rw [i_le] at this
        omega
      simp [-Int32.not_le, -Int32.not_lt, mset_at, v_X11_refuse, v_X12_refuse, ref_m hR, b0, eA, c3, c4, k1]
    · simp [-Int32.not_le, -Int32.not_lt, mset_at, v_X11_refuse, v_X12_refuse, ref_m hR, b0, eA, c3, k1]
