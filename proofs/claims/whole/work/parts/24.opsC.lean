
def cntB (p : Nat → Bool) : Nat → Nat
  | 0 => 0
  | n + 1 => cntB p n + (if p n then 1 else 0)
theorem cntB_le (p : Nat → Bool) : ∀ n, cntB p n ≤ n
  | 0 => Nat.le_refl _
  | n + 1 => by
    have := cntB_le p n
    show cntB p n + _ ≤ _
    split <;> omega
theorem cntB_cong {p q : Nat → Bool} : ∀ {n : Nat}, (∀ k, k < n → p k = q k) → cntB p n = cntB q n
  | 0, _ => rfl
  | n + 1, h => by
    show cntB p n + _ = cntB q n + _
    rw [cntB_cong (n := n) (fun k hk => h k (by omega)), h n (by omega)]
theorem cnt_s0 {p : Nat → Bool} {n : Nat} (h : p n = false) : nI (cntB p (n + 1)) = nI (cntB p n) := by
  show nI (cntB p n + _) = _
  rw [h]; rfl
theorem cnt_s1 {p : Nat → Bool} {n : Nat} (h : p n = true) : nI (cntB p (n + 1)) = nI (cntB p n) + 1 := by
  show nI (cntB p n + _) = _
  rw [h, if_pos rfl, nI_1]
theorem add0 (x : Int32) : x + 0 = x := Int32.add_zero x
/-- a bounded int is a number -/
theorem natB {x g : Int32} {n : Nat} (h0 : 0 ≤ x) (h1 : x ≤ g) (hg : g = nI n) (hn : n < 2147483648) : ∃ j : Nat, j ≤ n ∧ x = nI j := nat_of h0 (hg ▸ h1) hn
theorem natL {a x : Int32} {n : Nat} (hx : x = nI n) (hn : n < 2147483648) (h : 0 ≤ a ∧ a ≤ x - 1) : ∃ j : Nat, j < n ∧ a = nI j := by
  have h0 : 0 ≤ x := by rw [hx]; exact nI_pos' (by omega)
  have e := i_sub1 h0
  have y := i_le.mp h.2
  rw [e, hx, nI_ti n hn] at y
  have z := i_le.mp h.1
  have e0 : (0 : Int32).toInt = 0 := rfl
  refine ⟨a.toInt.toNat, by omega, ?_⟩
  rw [i_eq, nI_ti _ (by omega)]
  omega
theorem nn_nI (n : Nat) (h : n < 2147483648) : nn (nI n) = n := nI_cl n h
theorem s_hang {M : Mem} {K : Int32 → Mem → Prop} (x : Int32) (n : Nat) (hn : n ≤ 100) (he : M 72 6 = nI n) (h : K (nI (cntB (fun k => M 78 k = x) n)) M) :
    Lp (fun (r58 : Int32 × Int32 × Int32 × Mem → Prop) a => f_X4_hangOn_c58 K r58 a.1 a.2.1 a.2.2.1 a.2.2.2) (x, 0, 0, M) := by
  refine Lp.up (fun j a => a = (x, nI (cntB (fun k => M 78 k = x) j), nI j, M)) n (fun j a r hj ha hr => ?_) (j := 0) (by omega) rfl
  subst ha
  unfold f_X4_hangOn_c58 f_X4_hangOn_b85
  dsimp only
  rw [he, nI_le_iff (by omega) (by omega), nI_cl j (by omega)]
  refine ⟨fun c => by rw [show j = n by omega]; exact h, fun c => ⟨vin_nI (by omega) (by omega), fun c2 => hr (by omega) _ ?_, fun c2 => hr (by omega) _ ?_⟩⟩
  · rw [cnt_s0 (by simpa using c2), add0, ← nI_1]
  · rw [cnt_s1 (by simpa using c2), ← nI_1]
theorem s_hangM {M : Mem} {K : Int32 → Mem → Prop} (x : Int32) (n : Nat) (hn : n ≤ 100) (he : M 287 73 = nI n) (h : K (nI (cntB (fun k => M 344 k = x) n)) M) :
    Lp (fun (r97 : Int32 × Int32 × Int32 × Mem → Prop) a => f_X12_hang_c97 K r97 a.1 a.2.1 a.2.2.1 a.2.2.2) (x, 0, 0, M) := by
  refine Lp.up (fun j a => a = (x, nI (cntB (fun k => M 344 k = x) j), nI j, M)) n (fun j a r hj ha hr => ?_) (j := 0) (by omega) rfl
  subst ha
  unfold f_X12_hang_c97 f_X12_hang_b123
  dsimp only
  rw [he, nI_le_iff (by omega) (by omega), nI_cl j (by omega)]
  refine ⟨fun c => by rw [show j = n by omega]; exact h, fun c => ⟨vin_nI (by omega) (by omega), fun c2 => hr (by omega) _ ?_, fun c2 => hr (by omega) _ ?_⟩⟩
  · rw [cnt_s0 (by simpa using c2), add0, ← nI_1]
  · rw [cnt_s1 (by simpa using c2), ← nI_1]
theorem o_hang {M : Mem} {a b : Int32} {K : Int32 → Int32 → Mem → Prop} (hR : gR (M 126) (M 295)) (eD : M 287 67 = M 72 0) (d0 : 0 ≤ M 72 0) (d1 : M 72 0 ≤ 60) (eN : M 287 0 = M 1 0) (hH : gHang (M 72 6) (M 287 73) (M 1 0) (M 78) (M 79) (M 80) (M 344) (M 345) (M 346))
    (k1 : ∀ c, c = -1 ∨ c = -4 ∨ c = -6 → K c c (ref M c))
    (k2 : ∀ v, 0 ≤ a → a ≤ M 72 0 - 1 → 1 ≤ b → b ≤ 9999 → M 72 6 < 100 → K v v (mset (mset (mset (mset (mset (mset (mset (mset M 78 (nn (M 72 6)) a) 79 (nn (M 72 6)) b) 80 (nn (M 72 6)) (M 1 0)) 72 6 (M 72 6 + 1)) 344 (nn (M 72 6)) a) 345 (nn (M 72 6)) (M 1 0)) 346 (nn (M 72 6)) b) 287 73 (M 72 6 + 1))) :
    f_X11_hang a b M (fun r M1 => f_X12_hang a b M1 (fun r' M2 => K r r' M2)) := by
  obtain ⟨eH, h0, h1, e1, e2, e3⟩ := hH
  obtain ⟨n, hn, en⟩ := nat_of (n := 100) h0 h1 (by decide)
  unfold f_X11_hang f_X12_hang f_X12_hang_b42 f_X4_hangOn
  simp only [v_X4_has d0 d1, v_X11_outside, v_X11_fullAt, v_X11_worse, inB_0, lt_nle]
  unfold nn at k2
  by_cases c1 : 0 ≤ a ∧ a ≤ M 72 0 - 1
  · have b1 : inB a 0 (M 72 0 - 1) = 1 := if_pos c1
    have hlt : ((100 : Int32) ≤ nI n) ↔ 100 ≤ n := nI_le_iff (a := 100) (by omega) (by omega)
    have heq : (nI n = 100) ↔ n = 100 := nI_eq_iff (b := 100) (by omega) (by omega)
    by_cases c2 : 1 ≤ b <;> by_cases c3 : b ≤ 9999 <;> by_cases c4 : 100 ≤ n
    · have en' : M 72 6 = 100 := by rw [en, show n = 100 by omega]; rfl
      simp [-Int32.not_le, -Int32.not_lt, mset_at, v_X11_refuse, v_X12_refuse, ref_m hR, v_X12_isDeed, eD, eH, en', outs, ful, wors, c1, b1, c2, c3, k1]
    · have hv : vp_in (nI n) 100 := vin_nI (by omega) (by decide)
      have hne : ¬ n = 100 := by omega
      have k3 := fun v => k2 v c1.1 c1.2 c2 c3 (by rw [en, lt_nle, hlt]; exact c4)
      rw [en] at k3
      simp [-Int32.not_le, -Int32.not_lt, mset_at, v_X11_refuse, v_X12_refuse, ref_m hR, v_X12_isDeed, eD, eH, en, hlt, heq, outs, ful, wors, c1, b1, c2, c3, c4, hne, hv, eN]
      refine s_hang a (n + 1) (by omega) (by simp [mset_at, nI_1]) ?_
      generalize hv7 : nI (cntB _ (n + 1)) = v7
      simp [-Int32.not_le, -Int32.not_lt, mset_at, v_X11_refuse, v_X12_refuse, ref_m hR, v_X12_isDeed, eD, eH, en, hlt, heq, outs, ful, wors, c1, b1, c2, c3, c4, hne, hv, eN]
      refine s_hangM a (n + 1) (by omega) (by simp [mset_at, nI_1]) ?_
      generalize hv8 : nI (cntB _ (n + 1)) = v8
      have e78 : v8 = v7 := by
        rw [← hv7, ← hv8]
        exact congrArg nI (cntB_cong (fun k _ => by simp [mset_at, show M 344 = M 78 from e1]))
      rw [e78]
      exact k3 _
    all_goals simp [-Int32.not_le, -Int32.not_lt, mset_at, v_X11_refuse, v_X12_refuse, ref_m hR, v_X12_isDeed, eD, eH, en, hlt, heq, outs, ful, wors, c1, b1, c2, c3, c4, k1]
    all_goals (intro q; subst q; simp at c4)
  · have b0 : inB a 0 (M 72 0 - 1) = 0 := inB_0.mpr c1
    have c3 : (0 ≤ a ∧ a ≤ M 72 0 - 1) = False := eq_false c1
    simp only [c3]
    simp [-Int32.not_le, -Int32.not_lt, mset_at, v_X11_refuse, v_X12_refuse, ref_m hR, v_X12_isDeed, eD, k1, b0]

/-! people -/
theorem o_leave {M : Mem} {a : Int32} {K : Int32 → Int32 → Mem → Prop} (hR : gR (M 126) (M 295)) (hP : gPeo (M 4 0) (M 287 2) (M 1 0) (M 5) (M 6) (M 7) (M 8) (M 289) (M 290) (M 291) (M 294))
    (k1 : ∀ c, c = -1 ∨ c = -3 → K c c (ref M c))
    (k2 : 0 ≤ a → a ≤ M 4 0 - 1 → M 6 (nn a) = 1 → M 294 (nn a) = 0 → K 1 1 (mset (mset (mset (mset M 6 (nn a) 0) 81 15 0) 287 89 (-1)) 294 (nn a) 1)) :
    f_X11_leave a M (fun r M1 => f_X12_leave a M1 (fun r' M2 => K r r' M2)) := by
  obtain ⟨e1, h0, h1, e2, e3, e4, -, h6, -, h294, -⟩ := hP
  obtain ⟨n, hn, en⟩ := nat_of (n := 24) h0 h1 (by decide)
  unfold f_X11_leave f_X12_leave f_X8_forget
  simp only [v_X9_has h0 h1]
  by_cases c1 : 0 ≤ a ∧ a ≤ M 4 0 - 1
  · have b1 : inB a 0 (M 4 0 - 1) = 1 := if_pos c1
    obtain ⟨j, hj, rfl⟩ := natL en (by omega) c1
    have hv : vp_in (nI j) 24 := vin_nI (by omega) (by decide)
    have h6j := h6 j (by rw [en, nn_nI n (by omega)]; exact hj)
    have k3 := k2 c1.1 c1.2
    unfold nn at k3
    rw [nI_cl j (by omega)] at k3
    by_cases c2 : M 294 j = 0
    · rw [if_pos c2] at h6j
      have k4 := k3 h6j c2
      simp [-Int32.not_le, -Int32.not_lt, mset_at, v_X11_refuse, v_X12_refuse, ref_m hR, v_X12_isPerson, b1, e1, hv, nI_cl j (by omega), h6j, c2, k4]
    · rw [if_neg c2] at h6j
      simp [-Int32.not_le, -Int32.not_lt, mset_at, v_X11_refuse, v_X12_refuse, ref_m hR, v_X12_isPerson, b1, e1, hv, nI_cl j (by omega), h6j, c2, k1]
  · have b0 : inB a 0 (M 4 0 - 1) = 0 := inB_0.mpr c1
    simp [-Int32.not_le, -Int32.not_lt, mset_at, v_X11_refuse, v_X12_refuse, ref_m hR, v_X12_isPerson, e1, k1, b0]
theorem wors4 {a b : Int32} (ha : a = 0 ∨ a = -4 ∨ a = -6) (hb : b = 0 ∨ b = -4 ∨ b = -6) (h : wors a b = -6) : ¬ a = -4 ∧ ¬ b = -4 ∧ (a = -6 ∨ b = -6) := by
  rcases ha with rfl | rfl | rfl <;> rcases hb with rfl | rfl | rfl <;> revert h <;> decide
theorem outs_6 {a l g : Int32} : outs a l g = -6 ↔ l ≤ a ∧ ¬ a ≤ g := by
  unfold outs
  by_cases h1 : l ≤ a <;> by_cases h2 : a ≤ g <;> simp [h1, h2]
theorem o_person {M : Mem} {s b c ch hu : Int32} {K : Int32 → Int32 → Mem → Prop} (hR : gR (M 126) (M 295)) (eN : M 287 0 = M 1 0) (hP : gPeo (M 4 0) (M 287 2) (M 1 0) (M 5) (M 6) (M 7) (M 8) (M 289) (M 290) (M 291) (M 294))
    (k1 : ∀ d, d = -1 ∨ d = -4 ∨ d = -6 → K d d (ref M d))
    (k2 : 0 ≤ s → s ≤ 5 → -25000 ≤ b → b ≤ -5000 → -15000 ≤ c → c ≤ M 1 0 → 0 ≤ ch → ch ≤ 9 → 0 ≤ hu → hu ≤ 100 → ∀ n, n < 24 → M 4 0 = nI n → K (nI n) (nI n)
      (mset (mset (mset (mset (mset (mset (mset (mset (mset (mset (mset (mset (mset (mset (mset (mset (mset (mset M 81 15 0) 5 n s) 6 n 1) 7 n b) 8 n c) 9 n ch) 10 n hu) 11 n ch) 12 n hu) 4 0 (nI (n + 1))) 287 89 (-1)) 289 n s) 290 n b) 291 n c) 292 (2 * n) ch) 292 (2 * n + 1) hu) 293 (2 * n) ch) 293 (2 * n + 1) hu |> fun X => mset X 287 2 (nI (n + 1)))) :
    f_X11_person s b c ch hu M (fun r M1 => f_X12_person s b c ch hu M1 (fun r' M2 => K r r' M2)) := by
  obtain ⟨e1, h0, h1, e2, e3, e4, -, h6, -, h294, -⟩ := hP
  obtain ⟨n, hn, en⟩ := nat_of (n := 24) h0 h1 (by decide)
  unfold f_X11_person f_X12_person f_X12_person_b37 f_X12_person_b82 f_X8_forget f_X9_add
  simp only [v_X11_isShop, v_X12_isShop, v_X11_outside, v_X11_worse, v_X11_fullAt]
  by_cases c0 : 0 ≤ s ∧ s ≤ 5
  · have b1 : inB s 0 5 = 1 := if_pos c0
    have r1 := outs_r b (-25000) (-5000)
    have r2 := outs_r c (-15000) (M 1 0)
    have r3 := outs_r ch 0 9
    have r4 := outs_r hu 0 100
    have r5 := ful_r (M 4 0) 24
    have q12 := wors_r r1 r2
    have q34 := wors_r r3 r4
    have q14 := wors_r q12 q34
    have q := wors_r q14 r5
    have z := wors_0 q14 r5
    have z4 := wors_4 q14 r5
    rw [wors_0 q12 q34, wors_0 r1 r2, wors_0 r3 r4, outs_0, outs_0, outs_0, outs_0, ful_0] at z
    rw [wors_4 q12 q34, wors_4 r1 r2, wors_4 r3 r4, outs_4, outs_4, outs_4, outs_4] at z4
    have z5 : ¬ ful (M 4 0) 24 = -4 := ful_4
    have hfl : ((24 : Int32) ≤ M 4 0) ↔ M 4 0 = 24 := by constructor <;> intro _ <;> lia
    generalize hW : wors (wors (wors (outs b (-25000) (-5000)) (outs c (-15000) (M 1 0))) (wors (outs ch 0 9) (outs hu 0 100))) (ful (M 4 0) 24) = w at *
    rcases q with rfl | rfl | rfl
    · obtain ⟨⟨⟨⟨a1, a2⟩, a3, a4⟩, ⟨a5, a6⟩, a7, a8⟩, a9⟩ := z.mp rfl
      have hlt : n < 24 := by
        have hle : ((24 : Int32) ≤ nI n) ↔ 24 ≤ n := nI_le_iff (a := 24) (by omega) (by omega)
        rw [en, hle] at a9
        omega
      have hv : vp_in (nI n) 24 := vin_nI hlt (by decide)
      have m1 : (2 : Int32) * nI n = nI (2 * n) := pk_mul 2 n
      have m2 : nI (2 * n) + 1 = nI (2 * n + 1) := nI_1 _
      have hv1 : vp_in (nI (2 * n)) 48 := vin_nI (by omega) (by decide)
      have hv2 : vp_in (nI (2 * n + 1)) 48 := vin_nI (by omega) (by decide)
      have k3 := k2 c0.1 c0.2 a1 a2 a3 a4 a5 a6 a7 a8 n hlt en
      have hp : nI (n + 1) - 1 = nI n := nI_pred n
      have heq : (nI n = 24) ↔ n = 24 := nI_eq_iff (b := 24) (by omega) (by omega)
      have h24 : ¬ nI n = 24 := by rw [heq]; omega
      have l24 : nI n < 24 := (nI_lt_iff (b := 24) (by omega) (by omega)).mpr hlt
      simp [-Int32.not_le, -Int32.not_lt, mset_at, v_X11_refuse, v_X12_refuse, ref_m hR, b1, lt_nle, a1, a2, a3, a4, a5, a6, a7, a8, eN, e1, en, h24, show ¬ (24 : Int32) ≤ nI n from by rw [← lt_nle]; exact l24, hv, m1, m2, hv1, hv2, nI_cl n (by omega), nI_cl (2 * n) (by omega), nI_cl (2 * n + 1) (by omega), hp, nI_1]
      simpa using k3
    · have z4' := z4.mp rfl
      have kk := k1 (-4) (by decide)
      simp only [b1, v_X11_refuse (c := -4) (by decide)]
      refine ⟨fun _ => ⟨fun q => absurd q (by decide), fun _ => ⟨fun _ => ?_, fun q => absurd q (by decide)⟩⟩, fun q => absurd q (by decide)⟩
      have kx : f_X12_refuse (-4) (mset M 126 (rfx (-4)) (M 126 (rfx (-4)) + 1)) (fun v8 M8 => K (-4) v8 M8) := by
        simp [-Int32.not_le, -Int32.not_lt, mset_at, v_X11_refuse, v_X12_refuse, ref_m hR, kk]
      simp only [lt_nle]
      refine ⟨fun p1 => kx, fun p1 => ⟨fun _ => kx, fun p2 => ⟨fun _ => kx, fun p3 => ⟨fun p4 => ?_, fun _ => kx⟩⟩⟩⟩
      simp only [Classical.not_not] at p1 p2 p3
      simp [p1, p2, p3, p4, z5] at z4'
    · have z4' : ¬ _ := fun q => absurd (z4.mpr q) (by decide)
      have z' : ¬ _ := fun q => absurd (z.mpr q) (by decide)
      have kk := k1 (-6) (by decide)
      simp only [b1, v_X11_refuse (c := -6) (by decide)]
      refine ⟨fun _ => ⟨fun q => absurd q (by decide), fun _ => ⟨fun _ => ?_, fun q => absurd q (by decide)⟩⟩, fun q => absurd q (by decide)⟩
      have kx : f_X12_refuse (-6) (mset M 126 (rfx (-6)) (M 126 (rfx (-6)) + 1)) (fun v8 M8 => K (-6) v8 M8) := by
        simp [-Int32.not_le, -Int32.not_lt, mset_at, v_X11_refuse, v_X12_refuse, ref_m hR, kk]
      have p1 : -25000 ≤ b := Classical.byContradiction fun q => z4' (Or.inl (Or.inl (Or.inl q)))
      have p2 : -15000 ≤ c := Classical.byContradiction fun q => z4' (Or.inl (Or.inl (Or.inr q)))
      have p3 : 0 ≤ ch := Classical.byContradiction fun q => z4' (Or.inl (Or.inr (Or.inl q)))
      have p4 : 0 ≤ hu := Classical.byContradiction fun q => z4' (Or.inl (Or.inr (Or.inr q)))
      simp only [lt_nle, mset_at]
      refine ⟨fun q => absurd p1 q, fun _ => ⟨fun q => absurd p2 q, fun _ => ⟨fun q => absurd p3 q, fun _ => ⟨fun _ => ?_, fun q => absurd p4 q⟩⟩⟩⟩
      refine ⟨fun _ => kx, fun t1 => ⟨fun _ => kx, fun t2 => ⟨fun _ => kx, fun t3 => ⟨fun _ => kx, fun t4 => ⟨fun t5 => ?_, fun _ => kx⟩⟩⟩⟩⟩
      exfalso
      simp [eN, e1] at t1 t2 t3 t4 t5
      apply z'
      simp [-Int32.not_le, p1, p2, p3, p4, t1, t2, t3, t4, hfl, t5]
  · have b0 : inB s 0 5 = 0 := inB_0.mpr c0
    simp [-Int32.not_le, -Int32.not_lt, mset_at, v_X11_refuse, v_X12_refuse, ref_m hR, k1, b0]
