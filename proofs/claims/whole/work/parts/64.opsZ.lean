theorem deed_b {M : Mem} (H : Inv M) {a b c d : Int32} (ha : a = -1 ∨ ∃ i, a = nI i ∧ i < nn (M 0 5)) {K : Int32 → Mem → Prop} (hK : ∀ r M1, Eqm M M1 → f_X12_deed_b54 (fun r' M2 => r' = r ∧ Inv M2) a b c d M1 → K r M1) : f_X11_deed_b61 K a b c d M := by
  have hE := H.E
  unfold gDeed at hE
  obtain ⟨e1, e2, e3, -⟩ := hE
  obtain ⟨n, hn, en⟩ := nat_of (n := 60) e2 e3 (by decide)
  have h67 : M 287 67 = nI n := e1.trans en
  unfold f_X11_deed_b61 f_X11_deed_b141
  rw [v_X11_wrongTopic, v_X11_fullAt, v_X11_worse]
  have l60 : ((60 : Int32) ≤ nI n) ↔ n = 60 := (nI_le_iff (a := 60) (by omega) (by omega)).trans ⟨fun h => by omega, fun h => by omega⟩
  have q60 : (nI n = 60) ↔ n = 60 := nI_eq_iff (b := 60) (by omega) (by omega)
  have hw0 := wors_0 (wtop_r c d) (ful_r (M 72 0) 60)
  refine ⟨fun hz => ?_, fun hz => ?_⟩
  · obtain ⟨o1, o2⟩ := hw0.mp hz
    have hlt : n < 60 := by
      unfold ful at o2
      rw [en] at o2
      by_cases q : n = 60
      · rw [if_pos (l60.mpr q)] at o2; exact absurd o2 (by decide)
      · omega
    have hcd := wtop_0.mp o1
    obtain ⟨s, hs, rfl⟩ := nat_of (x := c) (n := 63) (Int32.le_trans (by decide) hcd.1.1) hcd.1.2 (by decide)
    refine t_gB H b (nI s) d 0 (fun M' hT => t_kindOf H hT (fun g hg => (gvB_lt H hg).1) ?_)
    generalize hG : gvB M b (nI s) d 0 = G at *
    have hGl : ∀ g, G = some g → g < nn (M 15 0) ∧ g < 24 := fun g hg => gvB_lt H (hG.trans hg)
    have hkr := kdO_r H (fun g hg => (hGl g hg).1)
    have e72 : M' 72 0 = nI n := by rw [hT 72 (by decide) (by decide) (by decide) (by decide) (by decide)]; exact en
    have e1' : M' 1 0 = M 1 0 := by rw [hT 1 (by decide) (by decide) (by decide) (by decide) (by decide)]
    have hgo : ∀ x, bz x → x = (if 0 < kdO M G then 1 else 0) → f_X4_add a (M' 1 0) (nI s) d x M' (fun v2 M2 => K v2 M2) := fun x hbz hx => by
      unfold f_X4_add
      rw [e72, e1', nI_cl n (by omega)]
      have l : (nI n < 60) ↔ n < 60 := nI_lt_iff (b := 60) (by omega) (by omega)
      rw [l]
      have hv : vp_in (nI n) 60 := vin_nI hlt (by decide)
      refine ⟨fun _ => ⟨hv, hv, hv, hv, hv, hbz, hK _ _ (fun c hc => ?_) ?_⟩, fun z => absurd hlt z⟩
      · simp (disch := omega) only [mset_ne]; exact hT c (by omega) (by omega) (by omega) (by omega) (by omega)
      · generalize hM1 : (mset (mset (mset (mset (mset (mset M' 73 n a) 74 n (M 1 0)) 75 n (nI s)) 76 n d) 77 n x) 72 0 (nI n + 1)) = M1
        have hE1 : Eqm M M1 := fun c hc => by
          subst hM1
          simp (disch := omega) only [mset_ne]; exact hT c (by omega) (by omega) (by omega) (by omega) (by omega)
        unfold f_X12_deed_b54 f_X12_deed_b168
        rw [v_X12_wrongSums, o1]
        refine ⟨fun _ => ⟨fun _ => q_giver H (show s < 512 by omega) b d 0 hE1 (fun M2 hT2 _ => ?_), fun z => ?_⟩, fun z => absurd (by decide) z⟩
        · change gvB M b (nI s) d 0 = G at hG
          have hG' : gvO (brB M b (FK M (nI s) d 0)) (M 43) (nn (M 15 0)) = G := hG
          rw [hG']
          have m67 : M2 287 67 = nI n := by rw [hT2.2 67 (by omega), hE1 287 (by decide)]; exact h67
          have m0 : M2 287 0 = M 1 0 := by rw [hT2.2 0 (by omega), hE1 287 (by decide)]; exact H.D.1
          rw [m67, m0, nI_cl n (by omega)]
          have hF : Fr (mset (mset (mset (mset (mset (mset M 73 n a) 74 n (M 1 0)) 75 n (nI s)) 76 n d) 77 n x) 72 0 (nI n + 1)) M2 := by
            refine Fr.trans ?_ (Fr.txM hT2)
            subst hM1
            exact ((((((Fr.tx hT).cset 73 n a).cset 74 n _).cset 75 n _).cset 76 n d).cset 77 n x).cset 72 0 _
          have fin : ∀ Mx, Mx = mset (mset (mset (mset M2 339 n a) 340 n (M 1 0)) 341 n (nI s)) 342 n d → ((nI n + 1 - 1 = nI n + 1 - 1) ∧ Inv (mset (mset Mx 343 n (kdO M G)) 287 67 (Mx 287 67 + 1))) := fun Mx ex => by
            refine ⟨rfl, ?_⟩
            have : Mx 287 67 = nI n := by subst ex; simp (disch := omega) only [mset_ne]; exact m67
            rw [this]
            subst ex
            refine Inv.fr ?_ (i_deed (a := a) (c := nI s) (d := d) (kd := kdO M G) (x := x) H hlt en ha hcd.1 hcd.2 hx)
            rw [← nI_1]
            exact (((((hF.cset 339 n a).cset 340 n _).cset 341 n _).cset 342 n d).cset 343 n _).cset 287 67 _
          have m67' : (mset (mset (mset (mset M2 339 n a) 340 n (M 1 0)) 341 n (nI s)) 342 n d) 287 67 = nI n := by simp (disch := omega) only [mset_ne]; exact m67
          have hfin := fin _ rfl
          rw [m67'] at hfin
          refine ⟨hv, hv, hv, hv, ?_⟩
          cases hGG : G with
          | none =>
            refine ⟨fun z => absurd (show (0 : Int32) ≤ -1 from z) (by decide), fun _ => ⟨hv, ?_⟩⟩
            rw [m67']
            rw [hGG] at hfin
            exact hfin
          | some g =>
            refine ⟨fun _ => ?_, fun z => absurd (nI_pos' (by have := (hGl g hGG).2; omega)) z⟩
            refine q_kindIn (M := M) ?_ (hGl g hGG).2 ⟨hv, ?_⟩
            · simp (disch := omega) only [mset_ne]
              rw [hT2.1 297 (by decide) (by decide) (by decide) (by decide) (by decide), hE1 297 (by decide)]
            · rw [m67']
              rw [hGG] at hfin
              exact hfin
        · rw [hE1 287 (by decide), h67] at z
          exact absurd (q60.mp z) (by omega)
    exact ⟨fun q => hgo 0 bz0 (if_neg (fun z => lt_nle.mp z q)).symm, fun q => hgo 1 bz1 (if_pos (lt_nle.mpr q)).symm⟩
  · have hR : ∀ r, r = wors (wtop c d) (ful (M 72 0) 60) → isR r := fun r hr => by
      unfold isR
      rcases wors_r (wtop_r c d) (ful_r (M 72 0) 60) with q | q | q
      · exact absurd q hz
      · rw [hr, q]; decide
      · rw [hr, q]; decide
    rw [w_X11_refuse (hR _ rfl)]
    refine hK _ _ (Eqm.rfC M _) ?_
    unfold f_X12_deed_b54
    rw [v_X12_wrongSums, v_X12_wrongSums, rfC_c M _ 287 (by decide), h67, q60]
    have hwt := wtop_r c d
    have e0 : wtop c d = 0 → n = 60 ∧ wors (wtop c d) (ful (M 72 0) 60) = -6 := fun q => by
      have hf : ful (M 72 0) 60 = -6 := by
        unfold ful
        by_cases w : (60 : Int32) ≤ M 72 0
        · rw [if_pos w]
        · exact absurd (hw0.mpr ⟨q, by unfold ful; exact if_neg w⟩) hz
      refine ⟨?_, by rw [q, hf]; decide⟩
      unfold ful at hf
      rw [en] at hf
      split at hf
      · rename_i w; exact l60.mp w
      · exact absurd hf (by decide)
    have e4 : ¬ wtop c d = 0 → wors (wtop c d) (ful (M 72 0) 60) = wtop c d := fun q => by
      rcases hwt with w | w | w
      · exact absurd w q
      · rw [w]; rcases ful_r (M 72 0) 60 with u | u | u <;> rw [u] <;> decide
      · rw [w]; unfold ful; split <;> decide
    refine ⟨fun q => ?_, fun q => ?_⟩
    · have w0 : wtop c d = 0 := by
        rcases hwt with w | w | w
        · exact w
        · rw [w] at q; exact absurd q (by decide)
        · rw [w] at q; exact absurd q (by decide)
      obtain ⟨n60, ew⟩ := e0 w0
      rw [ew, y6]
      exact ⟨fun z => absurd n60 z, fun _ => ⟨rfl, i_rf H _⟩⟩
    · have w0 : ¬ wtop c d = 0 := fun w => q (by rw [w]; decide)
      rw [e4 w0, w_X12_refuse (by rw [← e4 w0]; exact hR _ rfl)]
      exact ⟨rfl, i_rf H _⟩
theorem deed_19 {M : Mem} (H : Inv M) {a b c d : Int32} (ha : a = -1 ∨ ∃ i, a = nI i ∧ i < nn (M 0 5)) {K : Int32 → Mem → Prop} (hK : ∀ r M1, Eqm M M1 → f_X12_deed_b19 (fun r' M2 => r' = r ∧ Inv M2) a b c d M1 → K r M1) : f_X11_deed_b19 K a b c d M := by
  unfold f_X11_deed_b19
  rw [v_X11_isWhat]
  refine ⟨fun c1 => ?_, fun c1 => ?_⟩
  · rw [v_X11_isMatter H.M.2.1 H.M.2.2.1]
    rcases ha with rfl | ⟨i, rfl, hi⟩
    · refine ⟨fun _ => deed_b H (Or.inl rfl) (fun r M1 hE h => hK r M1 hE ?_), fun z => absurd (inB_0.mpr (fun y => absurd y.1 (by decide))) z⟩
      unfold f_X12_deed_b19
      rw [v_X12_isWhat]
      exact ⟨fun _ => ⟨fun _ => h, fun z => absurd (by decide) z⟩, fun z => absurd z c1⟩
    · obtain ⟨o, ho2, eo⟩ := nat_of (n := 40) H.M.2.1 H.M.2.2.1 (by decide)
      have hi' := hi
      rw [eo, nn_nI o (by omega)] at hi'
      have hm : M (127 + 4 * i) 2 = M 308 i := by
        have hM := H.M
        unfold gMat mrow at hM
        have h1 := (hM.2.2.2.1 i hi).1
        rw [rws_in M 127 4 40 (by omega)] at h1
        exact h1
      have hv : vp_in (nI i) 40 := vin_nI (by omega) (by decide)
      have hneg : ¬ nI i < 0 := by rw [lt_nle]; exact fun y => y (nI_pos' (by omega))
      have hin : ¬ inB (nI i) 0 (M 0 5 - 1) = 0 := fun z => inB_0.mp z ⟨nI_pos' (by omega), by rw [eo, nI_s1 (by omega) (by omega)]; exact (nI_le_iff (by omega) (by omega)).mpr (by omega)⟩
      rw [nI_cl i (by omega), hm]
      have go : ∀ {M1 : Mem} {K' : Int32 → Mem → Prop}, Eqm M M1 → (M 308 i = b → f_X12_deed_b54 K' (nI i) b c d M1) → (¬ M 308 i = b → K' (-3) (rfM M1 (-3))) → f_X12_deed_b19 K' (nI i) b c d M1 := fun {M1 K'} hE h1 h2 => by
        unfold f_X12_deed_b19
        rw [v_X12_isWhat, hE 308 (by decide), nI_cl i (by omega), y3]
        exact ⟨fun _ => ⟨fun z => absurd z hneg, fun _ => ⟨hv, h1, h2⟩⟩, fun z => absurd z c1⟩
      refine ⟨fun z => absurd z hin, fun _ => ⟨hv, fun c2 => deed_b H (Or.inr ⟨i, rfl, hi⟩) (fun r M1 hE h => hK r M1 hE (go hE (fun _ => h) (fun z => absurd c2 z))), fun c2 => ?_⟩⟩
      rw [x3]
      exact hK _ _ (Eqm.rfC M _) (go (Eqm.rfC M _) (fun z => absurd z c2) (fun _ => ⟨rfl, i_rf H _⟩))
  · rw [x2]
    refine hK _ _ (Eqm.rfC M _) ?_
    unfold f_X12_deed_b19
    rw [v_X12_isWhat, y2]
    exact ⟨fun z => absurd c1 z, fun _ => ⟨rfl, i_rf H _⟩⟩
theorem P_deed {M : Mem} (H : Inv M) (a b c d : Int32) : f_X11_deed a b c d M (fun r M1 => f_X12_deed a b c d M1 (fun r' M2 => r' = r ∧ Inv M2)) := by
  have e32 : ∀ M1, Eqm M M1 → M1 287 32 = M 0 5 := fun M1 h => by rw [h 287 (by decide)]; exact H.M.1
  unfold f_X11_deed
  rw [v_X11_isMatter H.M.2.1 H.M.2.2.1]
  refine ⟨fun c1 => deed_19 H (Or.inl c1) (fun r M1 hE h => ?_), fun c1 => ⟨fun c2 => ?_, fun c2 => ?_⟩⟩
  · unfold f_X12_deed
    exact ⟨fun _ => h, fun z => absurd c1 z⟩
  · have hin : 0 ≤ a ∧ a ≤ M 0 5 - 1 := by
      by_cases q : 0 ≤ a ∧ a ≤ M 0 5 - 1
      · exact q
      · exact absurd (inB_0.mpr q) c2
    obtain ⟨i, ei, hi40, hi⟩ := H.mat hin
    refine deed_19 H (Or.inr ⟨i, ei, hi⟩) (fun r M1 hE h => ?_)
    unfold f_X12_deed
    rw [v_X12_isMatter, e32 M1 hE]
    exact ⟨fun z => absurd z c1, fun _ => ⟨fun _ => h, fun z => absurd z c2⟩⟩
  · rw [x1]
    unfold f_X12_deed
    dsimp only
    rw [v_X12_isMatter, e32 _ (Eqm.rfC M _), y1]
    exact ⟨fun z => absurd z c1, fun _ => ⟨fun z => absurd c2 z, fun _ => ⟨rfl, i_rf H _⟩⟩⟩
