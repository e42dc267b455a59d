/-! SHIFTS: the calls shifts and shiftOf -/
theorem shop_of {a : Int32} (h : ¬ inB a 0 5 = 0) : ∃ s : Nat, s < 6 ∧ a = nI s := by
  have hc : 0 ≤ a ∧ a ≤ 5 := Classical.byContradiction (fun z => h (inB_0.mpr z))
  obtain ⟨s, hs, e⟩ := nat_of (x := a) (n := 5) hc.1 hc.2 (by decide)
  exact ⟨s, by omega, e⟩
theorem inB_nI {s : Nat} (hs : s < 6) : inB (nI s) 0 5 = 1 := by
  unfold inB
  exact if_pos ⟨nI_pos' (by omega), (nI_le_iff (b := 5) (by omega) (by decide)).mpr (by omega)⟩
theorem dec8 {r : Nat} (hr : r < 8) : decide ((0 : Int32) ≤ nI r ∧ nI r ≤ 7) = true := decide_eq_true ⟨nI_pos' (by omega), (nI_le_iff (b := 7) (by omega) (by decide)).mpr (by omega)⟩
theorem rul_of {b : Int32} (h1 : ¬ b < 0) (h2 : b ≤ 7) : ∃ r : Nat, r < 8 ∧ b = nI r := by
  have h0 : 0 ≤ b := by rw [lt_nle, Classical.not_not] at h1; exact h1
  obtain ⟨r, hr, e⟩ := nat_of (x := b) (n := 7) h0 h2 (by decide)
  exact ⟨r, by omega, e⟩
theorem P_shifts {M : Mem} (H : Inv M) (a b : Int32) : f_X11_shifts a b M (fun r M1 => f_X12_shifts a b M1 (fun r' M2 => r' = r ∧ Inv M2)) := by
  unfold f_X11_shifts f_X11_shifts_b23
  rw [v_X11_isShop, x1, x2]
  refine ⟨fun c1 => ?_, fun c1 => ?_⟩
  · obtain ⟨s, hs, rfl⟩ := shop_of c1
    have hb2 : ¬ (0 ≤ b ∧ b ≤ 7) → f_X12_shifts (nI s) b (rfC M (-2)) (fun r' M2 => r' = -2 ∧ Inv M2) := by
      intro z
      unfold f_X12_shifts
      rw [v_X12_isShop, inB_nI hs]
      refine ⟨fun _ => m_in _ _ _ _ _ ?_, fun y => absurd y (by decide)⟩
      rw [decide_eq_false z]
      refine ⟨fun y => absurd rfl y, fun _ => ?_⟩
      rw [y2]
      exact ⟨rfl, i_rf H _⟩
    refine ⟨fun c2 => hb2 (fun z => lt_nle.mp c2 z.1), fun c2 => ⟨fun c3 => ?_, fun c3 => hb2 (fun z => c3 z.2)⟩⟩
    obtain ⟨r, hr, rfl⟩ := rul_of c2 c3
    unfold f_X11_bestShifts
    refine C_few H hs hr (fun M1 hF hI hA => ?_)
    show f_X12_shifts (nI s) (nI r) M1 (fun r' M2 => r' = M1 81 12 ∧ Inv M2)
    unfold f_X12_shifts f_X12_shifts_b47
    rw [v_X12_isShop, inB_nI hs]
    refine ⟨fun _ => m_in _ _ _ _ _ ?_, fun y => absurd y (by decide)⟩
    rw [dec8 hr]
    refine ⟨fun _ => M_fs hI hs hr (fun v M2 hF2 hI2 hro h4 => ?_), fun y => absurd y (by decide)⟩
    rw [Bs.rRe (Bs.tfr hF)] at hro
    have hA1 := hA.1
    cases hR : rR M s r with
    | none =>
      rw [hR] at hro hA1
      have e1 : M1 81 12 = -9 := hA1
      have e2 : v = -1 := hro
      rw [e1, e2]
      exact ⟨fun z => absurd z (by decide), fun _ => ⟨rfl, hI2⟩⟩
    | some x =>
      obtain ⟨l, p⟩ := x
      have hb := rR_bd hR
      rw [hR] at hro hA1
      rw [hA1.1, hro.1]
      exact ⟨fun _ => ⟨rfl, hI2⟩, fun z => absurd (nI_pos' (by omega)) z⟩
  · show f_X12_shifts a b (rfC M (-1)) (fun r' M2 => r' = -1 ∧ Inv M2)
    unfold f_X12_shifts
    rw [v_X12_isShop, c1]
    refine ⟨fun y => absurd rfl y, fun _ => ?_⟩
    rw [y1]
    exact ⟨rfl, i_rf H _⟩
theorem tmL_srt (x5 x6 : Nat → Int32) (s : Int32) : ∀ n i j, i < j → j < (tmL x5 x6 s n).length → (tmL x5 x6 s n).getD i 0 < (tmL x5 x6 s n).getD j 0
  | 0, i, j, _, h => absurd h (Nat.not_lt_zero _)
  | n + 1, i, j, hij, hj => by
    unfold tmL at hj ⊢
    by_cases c : (tmL x5 x6 s n).length < 4 ∧ ¬ x6 n = 0 ∧ x5 n = s
    · rw [if_pos c] at hj ⊢
      rw [List.length_append, List.length_singleton] at hj
      rw [getD_snoc, getD_snoc]
      by_cases e : j < (tmL x5 x6 s n).length
      · rw [if_pos e, if_pos (by omega)]
        exact tmL_srt x5 x6 s n i j hij e
      · rw [if_neg e, if_pos (show j = (tmL x5 x6 s n).length by omega), if_pos (show i < (tmL x5 x6 s n).length by omega)]
        exact tmL_lt x5 x6 s n _ (getD_mem (by omega))
    · rw [if_neg c] at hj ⊢
      exact tmL_srt x5 x6 s n i j hij hj
theorem tmM_inj {M : Mem} {s i j : Nat} (h4 : (tmM M s).length = 4) (hi : i < 4) (hj : j < 4) (e : (tmM M s).getD i 0 = (tmM M s).getD j 0) : i = j := by
  rcases Nat.lt_trichotomy i j with q | q | q
  · have := tmL_srt (M 5) (M 6) (nI s) (nn (M 4 0)) i j q (by show j < (tmM M s).length; omega)
    have e' : (tmL (M 5) (M 6) (nI s) (nn (M 4 0))).getD i 0 = (tmL (M 5) (M 6) (nI s) (nn (M 4 0))).getD j 0 := e
    omega
  · exact q
  · have := tmL_srt (M 5) (M 6) (nI s) (nn (M 4 0)) j i q (by show i < (tmM M s).length; omega)
    have e' : (tmL (M 5) (M 6) (nI s) (nn (M 4 0))).getD i 0 = (tmL (M 5) (M 6) (nI s) (nn (M 4 0))).getD j 0 := e
    omega
def shV (x : Int32) (i : Nat) : Int32 := (x >>> (((2 : Int32) * ((3 : Int32) - nI i)) &&& 31)) &&& (3 : Int32)
theorem t_best {M : Mem} {tm : List Nat} {a3 : Int32} {d : Nat} {x : Int32} (hd : d < 4) (e83 : ∀ i, i < 4 → M 83 i = nI (tm.getD i 0)) (hne : ¬ M 81 12 = -9) (hv : vp_in (M 94 d) 24) (ex : M 84 (nn (M 94 d)) = x) {K : Int32 → Mem → Prop} (h1 : ∀ i, i < 4 → a3 = nI (tm.getD i 0) → K (shV x i) M) (h0 : (∀ i, i < 4 → ¬ a3 = nI (tm.getD i 0)) → K (-9) M) : f_X8_bestShift a3 (nI d) M K := by
  unfold f_X8_bestShift
  refine Lp.up (fun i a => a = (a3, nI d, nI i, M) ∧ ∀ j, j < i → ¬ a3 = nI (tm.getD j 0)) 4 (fun i a r hi ha hr => ?_) (j := 0) (by omega) ⟨rfl, fun j hj => absurd hj (by omega)⟩
  obtain ⟨rfl, hp⟩ := ha
  show f_X8_bestShift_c2 K r a3 (nI d) (nI i) M
  unfold f_X8_bestShift_c2 f_X8_bestShift_b51
  rw [lq_4 (by omega)]
  refine ⟨fun c => h0 (fun j hj => hp j (by omega)), fun c => ⟨vin_nI (by omega) (by decide), ?_⟩⟩
  rw [nI_cl i (by omega), e83 i (by omega), nI_1]
  refine ⟨fun z => hr (by omega) _ ⟨rfl, fun j hj => ?_⟩, fun z => ⟨fun y => absurd y (nI_pos (by omega)), fun _ => ⟨fun y => absurd y ?_, fun _ => ⟨fun y => absurd y hne, fun _ => ⟨vin_nI hd (by decide), ?_⟩⟩⟩⟩⟩
  · by_cases e : j = i
    · subst e; exact fun q => z q.symm
    · exact hp j (by omega)
  · rw [lq_4 (by omega)]; omega
  · rw [nI_cl d (by omega)]
    refine ⟨hv, ?_⟩
    have ex' : M 84 (M 94 d).toNatClampNeg = x := ex
    rw [ex']
    exact h1 i (by omega) z.symm
theorem q_best {M : Mem} {tm : List Nat} {a3 : Int32} {d l : Nat} {x : Int32} (hd : d < 4) (hl : l < 2147483648) (e349 : ∀ i, i < 4 → M 349 i = nI (tm.getD i 0)) (ex : M 352 d = x) {K : Int32 → Mem → Prop} (h1 : ∀ i, i < 4 → a3 = nI (tm.getD i 0) → K (shV x i) M) (h0 : (∀ i, i < 4 → ¬ a3 = nI (tm.getD i 0)) → K (-9) M) :
    Lp (fun (r70 : Int32 × Int32 × Int32 × Int32 × Int32 × Mem → Prop) a => f_X12_shiftOf_c70 K r70 a.1 a.2.1 a.2.2.1 a.2.2.2.1 a.2.2.2.2.1 a.2.2.2.2.2) (a3, nI d, nI l, (-9 : Int32), (0 : Int32), M) := by
  refine Lp.up (fun i a => ∃ v, a = (a3, nI d, nI l, v, nI i, M) ∧ ((v = -9 ∧ ∀ j, j < i → ¬ a3 = nI (tm.getD j 0)) ∨ ∃ j, j < i ∧ a3 = nI (tm.getD j 0) ∧ v = shV x j)) 4 (fun i a r hi ha hr => ?_) (j := 0) (by omega) ⟨-9, rfl, Or.inl ⟨rfl, fun j hj => absurd hj (by omega)⟩⟩
  obtain ⟨v, rfl, hp⟩ := ha
  show f_X12_shiftOf_c70 K r a3 (nI d) (nI l) v (nI i) M
  unfold f_X12_shiftOf_c70 f_X12_shiftOf_b117 f_X12_shiftOf_b109
  rw [lq_4 (by omega)]
  refine ⟨fun c => ?_, fun c => ⟨fun z => absurd z (nI_pos hl), fun _ => ⟨vin_nI (by omega) (by decide), ?_⟩⟩⟩
  · rcases hp with ⟨e, q⟩ | ⟨j, hj, q, e⟩
    · rw [e]; exact h0 (fun j hj => q j (by omega))
    · rw [e]; exact h1 j (by omega) q
  · rw [nI_cl i (by omega), e349 i (by omega), nI_1]
    refine ⟨fun z => hr (by omega) _ ⟨v, rfl, ?_⟩, fun z => ⟨vin_nI hd (by decide), ?_⟩⟩
    · rcases hp with ⟨e, q⟩ | ⟨j, hj, q, e⟩
      · refine Or.inl ⟨e, fun j hj => ?_⟩
        by_cases e2 : j = i
        · subst e2; exact fun y => z y.symm
        · exact q j (by omega)
      · exact Or.inr ⟨j, by omega, q, e⟩
    · rw [nI_cl d (by omega), ex, sh_mv x (by omega)]
      exact hr (by omega) _ ⟨shV x i, rfl, Or.inr ⟨i, by omega, z.symm, rfl⟩⟩
theorem P_shiftOf {M : Mem} (H : Inv M) (a b c d : Int32) : f_X11_shiftOf a b c d M (fun r M1 => f_X12_shiftOf a b c d M1 (fun r' M2 => r' = r ∧ Inv M2)) := by
  have hpn : M 287 2 = M 4 0 := H.P.1
  unfold f_X11_shiftOf f_X11_shiftOf_b18 f_X11_shiftOf_b34 f_X11_shiftOf_b52 f_X11_shiftOf_b85
  rw [v_X11_isShop, x1]
  refine ⟨fun c1 => ?_, fun c1 => ?_⟩
  · show f_X12_shiftOf a b c d (rfC M (-1)) (fun r' M2 => r' = -1 ∧ Inv M2)
    unfold f_X12_shiftOf f_X12_shiftOf_b15
    rw [v_X12_isShop, c1, y1]
    exact ⟨fun _ => ⟨rfl, i_rf H _⟩, fun z => absurd rfl z⟩
  · obtain ⟨s, hs, rfl⟩ := shop_of c1
    rw [v_X9_has H.P.2.1 H.P.2.2.1, x1, x2, x3]
    refine ⟨fun c3 => ?_, fun c3 => ?_⟩
    · have hb2 : ¬ (0 ≤ b ∧ b ≤ 7) → f_X12_shiftOf (nI s) b c d (rfC M (-2)) (fun r' M2 => r' = -2 ∧ Inv M2) := by
        intro z
        unfold f_X12_shiftOf
        rw [v_X12_isShop, inB_nI hs]
        refine ⟨fun y => absurd y (by decide), fun _ => ?_⟩
        rw [v_X12_isPerson, Eqm.rfC M (-2) 287 (by decide), hpn]
        refine ⟨fun _ => m_in _ _ _ _ _ ?_, fun y => absurd y c3⟩
        rw [decide_eq_false z]
        refine ⟨fun y => absurd rfl y, fun _ => ?_⟩
        rw [y2]
        exact ⟨rfl, i_rf H _⟩
      refine ⟨fun c4 => hb2 (fun z => lt_nle.mp c4 z.1), fun c4 => ⟨fun c5 => ?_, fun c5 => hb2 (fun z => c5 z.2)⟩⟩
      obtain ⟨r, hr, rfl⟩ := rul_of c4 c5
      have hb3 : ¬ (0 ≤ d ∧ d ≤ 3) → f_X12_shiftOf (nI s) (nI r) c d (rfC M (-3)) (fun r' M2 => r' = -3 ∧ Inv M2) := by
        intro z
        unfold f_X12_shiftOf
        rw [v_X12_isShop, inB_nI hs]
        refine ⟨fun y => absurd y (by decide), fun _ => ?_⟩
        rw [v_X12_isPerson, Eqm.rfC M (-3) 287 (by decide), hpn]
        refine ⟨fun _ => m_in _ _ _ _ _ ?_, fun y => absurd y c3⟩
        rw [dec8 hr]
        refine ⟨fun _ => m_in _ _ _ _ _ ?_, fun y => absurd y (by decide)⟩
        rw [decide_eq_false z]
        refine ⟨fun y => absurd rfl y, fun _ => ?_⟩
        rw [y3]
        exact ⟨rfl, i_rf H _⟩
      refine ⟨fun c6 => hb3 (fun z => lt_nle.mp c6 z.1), fun c6 => ⟨fun c7 => ?_, fun c7 => hb3 (fun z => c7 ?_)⟩⟩
      · have h0 : 0 ≤ d := by rw [lt_nle, Classical.not_not] at c6; exact c6
        have h4 : d < nI 4 := c7
        obtain ⟨e, he, rfl⟩ := nat_of (x := d) (n := 4) h0 (Int32.le_of_lt h4) (by decide)
        rw [nI_lt_iff (by omega) (by omega)] at h4
        unfold f_X11_bestShifts
        refine C_few H hs hr (fun M1 hF hI hA => ?_)
        have hBs := Bs.tfr hF
        have hmd : ∀ w : Int32, (∀ v M2, Inv M2 → roR (rR M s r) (-1) v (M2 352) → (∀ i, i < (tmM M s).length → M2 349 i = nI ((tmM M s).getD i 0)) → Lp (fun (r70 : Int32 × Int32 × Int32 × Int32 × Int32 × Mem → Prop) a => f_X12_shiftOf_c70 (fun r' M2 => r' = w ∧ Inv M2) r70 a.1 a.2.1 a.2.2.1 a.2.2.2.1 a.2.2.2.2.1 a.2.2.2.2.2) (c, nI e, v, (-9 : Int32), (0 : Int32), M2)) → f_X12_shiftOf (nI s) (nI r) c (nI e) M1 (fun r' M2 => r' = w ∧ Inv M2) := by
          intro w hw
          unfold f_X12_shiftOf
          rw [v_X12_isShop, inB_nI hs]
          refine ⟨fun y => absurd y (by decide), fun _ => ?_⟩
          have e2 : M1 287 2 = M 4 0 := (hF 287 2 (by omega) (by omega)).trans hpn
          rw [v_X12_isPerson, e2]
          refine ⟨fun _ => m_in _ _ _ _ _ ?_, fun y => absurd y c3⟩
          rw [dec8 hr]
          refine ⟨fun _ => m_in _ _ _ _ _ ?_, fun y => absurd y (by decide)⟩
          have hd3 : decide ((0 : Int32) ≤ nI e ∧ nI e ≤ 3) = true := decide_eq_true ⟨nI_pos' (by omega), (nI_le_iff (b := 3) (by omega) (by decide)).mpr (by omega)⟩
          rw [hd3]
          refine ⟨fun _ => M_fs hI hs hr (fun v M2 hF2 hI2 hro h4 => ?_), fun y => absurd y (by decide)⟩
          rw [Bs.rRe hBs] at hro
          rw [Bs.tm hBs] at h4
          exact hw v M2 hI2 hro h4
        have hA1 := hA.1
        cases hR : rR M s r with
        | none =>
          rw [hR] at hA1
          have e1 : M1 81 12 = -9 := hA1
          rw [e1]
          refine ⟨fun z => absurd rfl z, fun _ => hmd _ (fun v M2 hI2 hro h4 => ?_)⟩
          rw [hR] at hro
          have e2 : v = -1 := hro
          rw [e2]
          refine Lp.one (fun r70 => ?_)
          show f_X12_shiftOf_c70 _ r70 c (nI e) (-1) (-9) 0 M2
          unfold f_X12_shiftOf_c70 f_X12_shiftOf_b117
          exact ⟨fun z => absurd z (by decide), fun _ => ⟨fun _ => ⟨rfl, hI2⟩, fun z => absurd (by decide) z⟩⟩
        | some x =>
          obtain ⟨l, p⟩ := x
          have hb := rR_bd hR
          have h44 : (tmM M s).length = 4 := by
            unfold rR rosS at hR
            by_cases z : (tmL (M 5) (M 6) (nI s) (nn (M 4 0))).length = 4
            · exact z
            · rw [if_neg z] at hR; cases hR
          rw [hR] at hA1
          have hne : ¬ M1 81 12 = -9 := by rw [hA1.1]; exact nI_n9 (by omega)
          obtain ⟨hA2, hA3⟩ := hA.2 h44
          refine ⟨fun _ => ?_, fun z => absurd z hne⟩
          refine t_best (tm := tmM M s) (x := nI (p.getD (3 - e) 0)) h4 (fun i hi => hA3 i hi) hne (hA2 hne e h4) (hA1.2 e h4) (fun i hi ei => ?_) (fun hno => ?_)
          · refine hmd _ (fun v M2 hI2 hro hfo => ?_)
            rw [hR] at hro
            rw [hro.1]
            refine q_best (tm := tmM M s) (x := nI (p.getD (3 - e) 0)) h4 (by omega) (fun j hj => hfo j (by omega)) (hro.2 e h4) (fun j hj ej => ⟨?_, hI2⟩) (fun hno => absurd ei (hno i hi))
            rw [ei] at ej
            have hl1 := tmL_lt (M 5) (M 6) (nI s) _ _ (getD_mem (l := tmM M s) (a := i) (by omega))
            have hl2 := tmL_lt (M 5) (M 6) (nI s) _ _ (getD_mem (l := tmM M s) (a := j) (by omega))
            have hp2 := H.pn.2
            have := tmM_inj h44 hi hj ((nI_eq_iff (by omega) (by omega)).mp ej)
            rw [this]
          · refine hmd _ (fun v M2 hI2 hro hfo => ?_)
            rw [hR] at hro
            rw [hro.1]
            exact q_best (tm := tmM M s) (x := nI (p.getD (3 - e) 0)) h4 (by omega) (fun j hj => hfo j (by omega)) (hro.2 e h4) (fun j hj ej => absurd ej (hno j hj)) (fun _ => ⟨rfl, hI2⟩)
      · have h3 : d ≤ nI 3 := z.2
        obtain ⟨e, he, rfl⟩ := nat_of (x := d) (n := 3) z.1 h3 (by decide)
        exact (nI_lt_iff (b := 4) (by omega) (by decide)).mpr (by omega)
    · show f_X12_shiftOf (nI s) b c d (rfC M (-1)) (fun r' M2 => r' = -1 ∧ Inv M2)
      unfold f_X12_shiftOf f_X12_shiftOf_b15
      rw [v_X12_isShop, inB_nI hs, y1]
      refine ⟨fun y => absurd y (by decide), fun _ => ?_⟩
      rw [v_X12_isPerson, Eqm.rfC M (-1) 287 (by decide), hpn, c3, y1]
      exact ⟨fun z => absurd rfl z, fun _ => ⟨rfl, i_rf H _⟩⟩
