
theorem wd_mono (f : Nat → Int32) {u v : Nat} (h : u ≤ v) : wd f u ≤ wd f v := by
  induction v with
  | zero => rw [Nat.le_zero.mp h]; exact Nat.le_refl _
  | succ v ih =>
    rcases Nat.lt_or_ge u (v + 1) with q | q
    · have := ih (by omega)
      show wd f u ≤ wd f v + _
      omega
    · rw [show u = v + 1 by omega]; exact Nat.le_refl _
theorem wd_le (f : Nat → Int32) (v : Nat) : wd f v ≤ v + 1 := by
  induction v with
  | zero => unfold wd; split <;> omega
  | succ v ih =>
    show wd f v + _ ≤ _
    split <;> omega
theorem rem7 (j : Nat) (h : j < 2147483648) : nI j - nI j / 7 * 7 = nI (j % 7) := pk_rem (d := 7) h (by decide) (by decide)
theorem nI_le_iff {a b : Nat} (ha : a < 2147483648) (hb : b < 2147483648) : nI a ≤ nI b ↔ a ≤ b := nI_leI ha hb
theorem nI_lt_iff {a b : Nat} (ha : a < 2147483648) (hb : b < 2147483648) : nI a < nI b ↔ a < b := nI_ltI ha hb
theorem nI_eq_iff {a b : Nat} (ha : a < 2147483648) (hb : b < 2147483648) : nI a = nI b ↔ a = b := nI_eq ha hb
theorem s_X12_wdIn {M : Mem} {K : Int32 → Mem → Prop} (u v : Nat) (hu : u ≤ 1000) (hv : v ≤ 1000) (h : K (nI (wd (M 288) v - wd (M 288) u)) M) : f_X12_workdaysIn (nI u) (nI v) M K := by
  unfold f_X12_workdaysIn
  rcases Nat.lt_or_ge v (u + 1) with q | q
  · refine Lp.of (fun a => a = (nI v, (0 : Int32), nI u + 1, M)) (fun _ => 0) (fun a r ha hr => ?_) rfl
    subst ha
    unfold f_X12_workdaysIn_c7
    dsimp only
    have hc : nI v < nI u + 1 := by rw [nI_1]; exact (nI_lt_iff (by omega) (by omega)).mpr (by omega)
    refine ⟨fun _ => ?_, fun c => absurd hc c⟩
    have e : wd (M 288) v - wd (M 288) u = 0 := by have := wd_mono (M 288) (show v ≤ u by omega); omega
    rw [e] at h
    exact h
  · refine Lp.up (fun j a => u + 1 ≤ j ∧ a = (nI v, nI (wd (M 288) (j - 1) - wd (M 288) u), nI j, M)) (v + 1) (fun j a r hj ha hr => ?_) (j := u + 1) (by omega) ⟨Nat.le_refl _, by rw [nI_1]; simp; rfl⟩
    obtain ⟨hju, rfl⟩ := ha
    unfold f_X12_workdaysIn_c7 f_X12_workdaysIn_b37 f_X12_workdaysIn_b38
    dsimp only
    rcases Nat.lt_or_ge v j with q2 | q2
    · refine ⟨fun _ => ?_, fun c => absurd ((nI_lt_iff (by omega) (by omega)).mpr q2) c⟩
      rw [show j - 1 = v by omega]
      exact h
    · refine ⟨fun c => absurd ((nI_lt_iff (by omega) (by omega)).mp c) (by omega), fun _ => ?_⟩
      obtain ⟨i, rfl⟩ : ∃ i, j = i + 1 := ⟨j - 1, by omega⟩
      have hm := wd_mono (M 288) (show u ≤ i by omega)
      rw [rem7 _ (by omega), nI_cl _ (by omega), show i + 1 - 1 = i by omega] at *
      have hstep : wd (M 288) (i + 1) = wd (M 288) i + (if (i + 1) % 7 < 5 ∧ M 288 (i + 1) = 0 then 1 else 0) := rfl
      have h5 : ((5 : Int32) ≤ nI ((i + 1) % 7)) ↔ 5 ≤ (i + 1) % 7 := nI_le_iff (a := 5) (by omega) (by omega)
      rw [h5]
      have fin : ∀ (d : Nat), d = (if (i + 1) % 7 < 5 ∧ M 288 (i + 1) = 0 then 1 else 0) → r (nI v, nI (wd (M 288) i - wd (M 288) u) + nI d, nI (i + 1) + 1, M) := by
        intro d hd
        refine hr (by omega) _ ⟨by omega, ?_⟩
        rw [nI_add, nI_1, show i + 1 + 1 - 1 = i + 1 by omega, hstep, ← hd, show wd (M 288) i + d - wd (M 288) u = wd (M 288) i - wd (M 288) u + d by omega]
      refine ⟨fun c => fin 0 (by rw [if_neg (by omega)]), fun c => ⟨vin_nI (by omega) (by omega), fun c2 => fin 0 (by rw [if_neg (fun q => c2 q.2)]), fun c2 => fin 1 (by rw [if_pos ⟨by omega, c2⟩])⟩⟩
theorem o_workdays {M : Mem} {a b : Int32} {K : Int32 → Int32 → Mem → Prop} (hR : gR (M 126) (M 295)) (hD : gDay (M 2) (M 3) (M 288) (M 1 0) (M 287 0))
    (k1 : ∀ c, c = -4 ∨ c = -6 → K c c (ref M c)) (k2 : ∀ v, K v v M) :
    f_X11_workdays a b M (fun r M1 => f_X12_workdays a b M1 (fun r' M2 => K r r' M2)) := by
  obtain ⟨e1, h0, h1, e2, hz, hw⟩ := hD
  unfold f_X11_workdays f_X3_workdaysBehind f_X3_workdaysBehind_b16 f_X12_workdays f_X12_workdays_b8 f_X12_workdays_b29 f_X12_workdays_b44
  simp only [v_X11_outside, v_X11_worse, lt_nle]
  by_cases c1 : 0 ≤ a <;> by_cases c2 : a ≤ 1000 <;> by_cases c3 : 0 ≤ b <;> by_cases c4 : b ≤ 1000
  · obtain ⟨u, hu, rfl⟩ := nat_of (n := 1000) c1 c2 (by decide)
    obtain ⟨v, hv, rfl⟩ := nat_of (n := 1000) c3 c4 (by decide)
    have hva : vp_in (nI u) 1001 := vin_nI (by omega) (by decide)
    have hvb : vp_in (nI v) 1001 := vin_nI (by omega) (by decide)
    have key : ∀ x, x = nI (wd (M 2) v - wd (M 2) u) → f_X12_workdaysIn (nI u) (nI v) M (fun r' M2 => K x r' M2) := by
      intro x hx
      refine s_X12_wdIn u v hu hv ?_
      rw [e2, hx]
      exact k2 _
    have c5 : (nI v ≤ nI u) ↔ v ≤ u := nI_le_iff (by omega) (by omega)
    have z1 := key 0
    have z2 := key (M 3 v - M 3 u)
    rw [hw v hv, hw u hu] at z2
    by_cases c6 : v ≤ u
    · have := wd_mono (M 2) c6
      simp [-Int32.not_le, -Int32.not_lt, mset_at, v_X11_refuse, v_X12_refuse, ref_m hR, outs, wors, c1, c2, c3, c4, hva, hvb, c5, c6]
      exact z1 (by rw [show wd (M 2) v - wd (M 2) u = 0 by omega]; rfl)
    · have := wd_mono (M 2) (show u ≤ v by omega)
      simp [-Int32.not_le, -Int32.not_lt, mset_at, v_X11_refuse, v_X12_refuse, ref_m hR, outs, wors, c1, c2, c3, c4, hva, hvb, c5, c6, nI_cl v (by omega), nI_cl u (by omega), hw v hv, hw u hu]
      exact z2 (pk_sub this)
  all_goals simp [-Int32.not_le, -Int32.not_lt, mset_at, v_X11_refuse, v_X12_refuse, ref_m hR, outs, wors, c1, c2, c3, c4, k1]
theorem s_tellF {M : Mem} {K : Int32 → Mem → Prop} (u : Nat) (hu : u ≤ 1000) (h : K 1 (mput M 3 (fun j => if u ≤ j ∧ j ≤ 1000 then M 3 j - 1 else M 3 j))) :
    Lp (fun (r39 : Int32 × Mem → Prop) a => f_X3_tellFeast_c39 K r39 a.1 a.2) (nI u, M) := by
  refine Lp.up (fun j a => u ≤ j ∧ a = (nI j, mput M 3 (fun k => if u ≤ k ∧ k < j then M 3 k - 1 else M 3 k))) 1001 (fun j a r hj ha hr => ?_) (j := u) (by omega) ⟨Nat.le_refl _, ?_⟩
  · obtain ⟨hju, rfl⟩ := ha
    unfold f_X3_tellFeast_c39 f_X3_tellFeast_b62
    dsimp only
    have h5 : ((1000 : Int32) < nI j) ↔ 1000 < j := nI_lt_iff (a := 1000) (by omega) (by omega)
    rw [h5, nI_cl j (by omega)]
    refine ⟨fun c => ?_, fun c => ⟨vin_nI (by omega) (by omega), vin_nI (by omega) (by omega), hr (by omega) _ ⟨by omega, ?_⟩⟩⟩
    · rw [show (fun k => if u ≤ k ∧ k < j then M 3 k - 1 else M 3 k) = (fun k => if u ≤ k ∧ k ≤ 1000 then M 3 k - 1 else M 3 k) from funext fun k => by
        by_cases e : u ≤ k ∧ k < j
        · rw [if_pos e, if_pos (by omega)]
        · rw [if_neg e, if_neg (by omega)]]
      exact h
    · rw [nI_1, mset_put, mput_put, mput_s]
      refine congrArg (fun f => (nI (j + 1), mput M 3 f)) (funext fun k => ?_)
      rw [upd_at]
      by_cases e : k = j
      · subst e
        rw [if_pos rfl, if_neg (by omega), if_pos (by omega)]
      · rw [if_neg e]
        by_cases e2 : u ≤ k ∧ k < j
        · rw [if_pos e2, if_pos (by omega)]
        · rw [if_neg e2, if_neg (by omega)]
  · rw [show (fun k => if u ≤ k ∧ k < u then M 3 k - 1 else M 3 k) = M 3 from funext fun k => if_neg (by omega), mput_id]
theorem wd_upd (f : Nat → Int32) (u : Nat) (h : f u = 0) : ∀ v, wd (upd f u 1) v + (if u ≤ v ∧ u % 7 < 5 then 1 else 0) = wd f v
  | 0 => by
    unfold wd
    by_cases e : u = 0
    · subst e; simp [upd_s, h]
    · rw [upd_n f 1 (fun q => e q.symm), if_neg (show ¬ (u ≤ 0 ∧ u % 7 < 5) by omega)]; rfl
  | v + 1 => by
    have ih := wd_upd f u h v
    show wd (upd f u 1) v + (if (v + 1) % 7 < 5 ∧ upd f u 1 (v + 1) = 0 then 1 else 0) + _ = wd f v + (if (v + 1) % 7 < 5 ∧ f (v + 1) = 0 then 1 else 0)
    by_cases e : u = v + 1
    · subst e
      rw [upd_s, if_neg (fun q => one_ne q.2)]
      rw [if_neg (show ¬ (v + 1 ≤ v ∧ (v + 1) % 7 < 5) by omega)] at ih
      by_cases e2 : (v + 1) % 7 < 5
      · rw [if_pos ⟨Nat.le_refl _, e2⟩, if_pos ⟨e2, h⟩]; omega
      · rw [if_neg (fun q => e2 q.2), if_neg (fun q => e2 q.1)]; omega
    · rw [upd_n f 1 (fun q => e q.symm)]
      by_cases e3 : u ≤ v ∧ u % 7 < 5
      · rw [if_pos e3] at ih
        rw [if_pos (show u ≤ v + 1 ∧ u % 7 < 5 by omega)]; omega
      · rw [if_neg e3] at ih
        rw [if_neg (show ¬ (u ≤ v + 1 ∧ u % 7 < 5) by omega)]; omega
theorem o_feast {M : Mem} {a : Int32} {K : Int32 → Int32 → Mem → Prop} (hR : gR (M 126) (M 295)) (hD : gDay (M 2) (M 3) (M 288) (M 1 0) (M 287 0))
    (k1 : ∀ c, c = -4 ∨ c = -6 → K c c (ref M c))
    (k2 : ∀ v f g, (∀ j, bz (f j)) → (∀ j, j ≤ 1000 → g j = nI (wd f j)) → K v v (mput (mput (mput M 2 f) 3 g) 288 f)) :
    f_X11_feast a M (fun r M1 => f_X12_feast a M1 (fun r' M2 => K r r' M2)) := by
  obtain ⟨e1, h0, h1, e2, hz, hw⟩ := hD
  unfold f_X11_feast f_X11_feast_b35 f_X12_feast f_X12_feast_b48 f_X3_tellFeast f_X3_tellFeast_b20 f_X3_tellFeast_b62
  simp only [v_X11_outside, lt_nle]
  by_cases c1 : 0 ≤ a <;> by_cases c2 : a ≤ 1000
  · obtain ⟨u, hu, rfl⟩ := nat_of (n := 1000) c1 c2 (by decide)
    have hv : vp_in (nI u) 1001 := vin_nI (by omega) (by decide)
    rw [nI_cl u (by omega), rem7 u (by omega)]
    have h5 : ((5 : Int32) ≤ nI (u % 7)) ↔ 5 ≤ u % 7 := nI_le_iff (a := 5) (by omega) (by omega)
    have hbz : ∀ j, bz (upd (M 2) u 1 j) := fun j => by rw [upd_at]; split <;> first | exact bz1 | exact hz j
    have hid : M 288 = M 2 := e2
    simp only [outs, c1, c2, h5, hv]
    by_cases c3 : M 2 u = 0
    · by_cases c4 : 5 ≤ u % 7
      · have := k2 1 (upd (M 2) u 1) (M 3) hbz (fun j hj => by rw [hw j hj]; have := wd_upd (M 2) u c3 j; rw [if_neg (by omega)] at this; rw [← this]; rfl)
        have hm : mput (mput (mput M 2 (upd (M 2) u 1)) 3 (M 3)) 288 (upd (M 2) u 1) = mset (mset M 2 u 1) 288 u 1 := by
          rw [mset_put, mset_put, mput_n _ _ (by decide), hid, mput_sw M _ _ (by decide : 2 ≠ 3), mput_id]
        rw [hm] at this
        simp [-Int32.not_le, -Int32.not_lt, mset_at, v_X11_refuse, v_X12_refuse, ref_m hR, c3, c4, hid, this]
      · refine ⟨fun _ => ?_, fun q => absurd rfl q⟩
        refine ⟨fun q => absurd trivial q, fun _ => ⟨fun q => absurd trivial q, fun _ => ⟨trivial, fun _ => ⟨trivial, fun q => absurd q c4, fun _ => ?_⟩, fun q => absurd c3 q⟩⟩⟩
        refine s_tellF u hu ?_
        have := k2 1 (upd (M 2) u 1) (fun j => if u ≤ j ∧ j ≤ 1000 then M 3 j - 1 else M 3 j) hbz (fun j hj => by
          have hx := wd_upd (M 2) u c3 j
          by_cases e : u ≤ j
          · rw [if_pos ⟨e, hj⟩, hw j hj]
            rw [if_pos ⟨e, by omega⟩] at hx
            rw [← hx]
            exact pk_sub (a := wd (upd (M 2) u 1) j + 1) (b := 1) (by omega)
          · rw [if_neg (by omega), hw j hj]
            rw [if_neg (by omega)] at hx
            rw [← hx]; rfl)
        have hm : mput (mput (mput M 2 (upd (M 2) u 1)) 3 (fun j => if u ≤ j ∧ j ≤ 1000 then M 3 j - 1 else M 3 j)) 288 (upd (M 2) u 1) = mset (mput (mset M 2 u 1) 3 (fun j => if u ≤ j ∧ j ≤ 1000 then M 3 j - 1 else M 3 j)) 288 u 1 := by
          rw [mset_put, mset_put, mput_n _ _ (by decide), mput_n _ _ (by decide), hid]
        rw [hm] at this
        have e3 : mset M 2 u 1 3 = M 3 := mset_ne M _ _ (by decide)
        rw [e3]
        simp [-Int32.not_le, -Int32.not_lt, mset_at, v_X11_refuse, v_X12_refuse, ref_m hR, mput_at, hid, c3, this]
    · have := k2 0 (M 2) (M 3) hz hw
      have hm : mput (mput (mput M 2 (M 2)) 3 (M 3)) 288 (M 2) = mset M 288 u 1 := by
        have e1' : M 2 u = 1 := (hz u).resolve_left c3
        rw [mput_id, mput_id, mset_put, hid]
        refine congrArg (mput M 288) (funext fun j => ?_)
        rw [upd_at]
        by_cases e : j = u
        · rw [if_pos e, e, e1']
        · rw [if_neg e]
      rw [hm] at this
      simp [-Int32.not_le, -Int32.not_lt, mset_at, v_X11_refuse, v_X12_refuse, ref_m hR, c3, hid, this]
  all_goals simp [-Int32.not_le, -Int32.not_lt, mset_at, v_X11_refuse, v_X12_refuse, ref_m hR, outs, c1, c2, k1]
