/-! kind -/
theorem qrIM0 (o : Option (Nat × Nat)) : qrI 0 o = qrM 1 o := by
  cases o with
  | none => rfl
  | some p => obtain ⟨i, j⟩ := p; unfold qrI qrM; dsimp only; rw [if_pos rfl, if_neg (by decide)]
theorem qrIM1 (o : Option (Nat × Nat)) : qrI 1 o = qrM 0 o := by
  cases o with
  | none => rfl
  | some p => obtain ⟨i, j⟩ := p; unfold qrI qrM; dsimp only; rw [if_neg (by decide), if_pos rfl]
def kiR (M : Mem) (w s m f x : Int32) : Int32 := if x = 0 then kdO M (gvB M w s m f) else if x = 1 then opI (-9) (gvB M w s m f) else if x = 3 then qrM 1 (qr1 (brB M w (FK M s m f)) (kdA M) (nn (M 15 0)) 0) else qrM 0 (qr1 (brB M w (FK M s m f)) (kdA M) (nn (M 15 0)) 0)
theorem C_kindB {M : Mem} (H : Inv M) {w s m f x : Int32} (hx0 : 0 ≤ x) (hx3 : x ≤ 3) {K : Int32 → Mem → Prop} (hK : ∀ M', Tx M M' → K (kiR M w s m f x) M') :
    f_X11_tellFacts s m f M (fun M9 => f_X0_bearingOn w (M9 1 0) M9 (fun v10 M10 =>
                  ((x < (2 : Int32)) →
                    f_X0_giverAmong v10 M10 (fun v12 M12 =>
                      ((¬ x = (1 : Int32)) →
                        f_X0_kindOf v12 M12 (fun v14 M14 =>
                          f_X11_kind_b127 K v14 M14)) ∧
                      ((x = (1 : Int32)) →
                        f_X11_kind_b127 K v12 M12))) ∧
                  ((¬ x < (2 : Int32)) →
                    ((¬ x = (2 : Int32)) →
                      f_X11_kind_b92 K (0 : Int32) v10 M10) ∧
                    ((x = (2 : Int32)) →
                      f_X11_kind_b92 K (1 : Int32) v10 M10)))) := by
  obtain ⟨nb, hn, en, -⟩ := H.act
  unfold f_X11_kind_b127 f_X11_kind_b92
  unfold kiR at hK
  obtain ⟨k, hk, rfl⟩ := nat_of (n := 3) hx0 hx3 (by decide)
  refine t_facts H s m f (fun M9 k9 f9 => ?_)
  rw [k9 1 (by decide)]
  refine t_bear H w (FK M s m f) (fun c _ c2 _ _ _ => k9 c c2) f9 (fun v M' hT hv => ?_)
  have hh := hK M' hT
  have hv' := hv
  rw [en, nn_nI nb (by omega)] at hv'
  have gk : ∀ K' : Int32 → Mem → Prop, K' (opI (-9) (gvB M w s m f)) M' → f_X0_giverAmong v M' K' := fun K' h => t_giver hn en hT hv' (by unfold gvB at h; rw [en, nn_nI nb (by omega)] at h; exact h)
  have ko : ∀ K' : Int32 → Mem → Prop, K' (kdO M (gvB M w s m f)) M' → f_X0_kindOf (opI (-9) (gvB M w s m f)) M' K' := fun K' h => t_kindOf H hT (fun g hg => (gvB_lt H hg).1) h
  have qk : ∀ (z : Int32) (K' : Int32 → Mem → Prop), K' (qrI z (qr1 (brB M w (FK M s m f)) (kdA M) (nn (M 15 0)) 0)) M' → f_X0_quarrelAmong v z M' K' := fun z K' h => t_quar H hT hv h
  match k, hk with
  | 0, _ => exact ⟨fun _ => gk _ ⟨fun _ => ko _ hh, fun z => absurd z (by decide)⟩, fun z => absurd (by decide) z⟩
  | 1, _ => exact ⟨fun _ => gk _ ⟨fun z => absurd rfl z, fun _ => hh⟩, fun z => absurd (by decide) z⟩
  | 2, _ => exact ⟨fun z => absurd z (by decide), fun _ => ⟨fun z => absurd rfl z, fun _ => qk 1 _ (by rw [qrIM1]; exact hh)⟩⟩
  | 3, _ => exact ⟨fun z => absurd z (by decide), fun _ => ⟨fun _ => qk 0 _ (by rw [qrIM0]; exact hh), fun z => absurd z (by decide)⟩⟩
theorem M_kindB {M : Mem} (H : Inv M) {s : Nat} (hs : s < 512) {w m f x : Int32} (hx0 : 0 ≤ x) (hx3 : x ≤ 3) {M1 : Mem} (hE : Eqm M M1) {K : Int32 → Mem → Prop} (hK : ∀ M', TxM M1 M' → K (kiR M w (nI s) m f x) M') :
    f_X12_givingAct w (nI s) m f M1 (fun v9 M9 =>
                ((¬ x = 0) →
                  ((¬ x = (1 : Int32)) →
                    ((¬ x = (3 : Int32)) →
                      f_X12_kind_b109 K (0 : Int32) M9) ∧
                    ((x = (3 : Int32)) →
                      f_X12_kind_b109 K (1 : Int32) M9)) ∧
                  ((x = (1 : Int32)) →
                    ((0 ≤ v9) →
                      f_X12_kind_b112 K v9 M9) ∧
                    ((¬ 0 ≤ v9) →
                      f_X12_kind_b112 K (-9 : Int32) M9))) ∧
                ((x = 0) →
                  ((0 ≤ v9) →
                    f_X12_kindIn v9 M9 (fun v15 M15 =>
                      f_X12_kind_b112 K v15 M15)) ∧
                  ((¬ 0 ≤ v9) →
                    f_X12_kind_b112 K (0 : Int32) M9))) := by
  obtain ⟨nb, hn, en, en2, -⟩ := H.act
  unfold f_X12_kind_b109 f_X12_kind_b112
  unfold kiR at hK
  obtain ⟨k, hk, rfl⟩ := nat_of (n := 3) hx0 hx3 (by decide)
  refine q_giver H hs w m f hE (fun M2 hT hB => ?_)
  have hh := hK M2 hT
  have e97 : M2 297 = M 297 := by rw [hT.1 297 (by decide) (by decide) (by decide) (by decide) (by decide), hE 297 (by decide)]
  have e12 : M2 287 12 = nI nb := by rw [hT.2 12 (by omega), hE 287 (by decide)]; exact en2
  have hB' := hB
  rw [en, nn_nI nb (by omega)] at hB'
  have qk : ∀ (z : Int32) (K' : Int32 → Mem → Prop), K' (qrM z (qr1 (brB M w (FK M (nI s) m f)) (kdA M) (nn (M 15 0)) 0)) M2 → f_X12_quarrel z M2 K' := fun z K' h => q_quar hn e12 e97 hB' (by rw [en, nn_nI nb (by omega)] at h; exact h)
  change (¬ nI k = 0 → _) ∧ _
  have hGl : ∀ g, gvB M w (nI s) m f = some g → g < 24 := fun g hg => (gvB_lt H hg).2
  have eG : gvO (brB M w (FK M (nI s) m f)) (M 43) (nn (M 15 0)) = gvB M w (nI s) m f := rfl
  rw [eG]
  match k, hk with
  | 0, _ =>
    refine ⟨fun z => absurd rfl z, fun _ => ?_⟩
    cases hg : gvB M w (nI s) m f with
    | none => rw [hg] at hh; exact ⟨fun z => absurd (show (0 : Int32) ≤ -1 from z) (by decide), fun _ => hh⟩
    | some g => rw [hg] at hh; exact ⟨fun _ => q_kindIn e97 (hGl g hg) hh, fun z => absurd (nI_pos' (by have := hGl g hg; omega)) z⟩
  | 1, _ =>
    refine ⟨fun _ => ⟨fun z => absurd rfl z, fun _ => ?_⟩, fun z => absurd z (by decide)⟩
    cases hg : gvB M w (nI s) m f with
    | none => rw [hg] at hh; exact ⟨fun z => absurd (show (0 : Int32) ≤ -1 from z) (by decide), fun _ => hh⟩
    | some g => rw [hg] at hh; exact ⟨fun _ => hh, fun z => absurd (nI_pos' (by have := hGl g hg; omega)) z⟩
  | 2, _ => exact ⟨fun _ => ⟨fun _ => ⟨fun _ => qk 0 _ hh, fun z => absurd z (by decide)⟩, fun z => absurd z (by decide)⟩, fun z => absurd z (by decide)⟩
  | 3, _ => exact ⟨fun _ => ⟨fun _ => ⟨fun z => absurd rfl z, fun _ => qk 1 _ hh⟩, fun z => absurd z (by decide)⟩, fun z => absurd z (by decide)⟩
theorem P_kind {M : Mem} (H : Inv M) (w s m f x : Int32) : f_X11_kind w s m f x M (fun r M1 => f_X12_kind w s m f x M1 (fun r' M2 => r' = r ∧ Inv M2)) := by
  unfold f_X11_kind f_X11_kind_b18
  rw [v_X11_isWhat, x2]
  have m2 : inB w 0 7 = 0 ∨ ¬ (0 ≤ x ∧ x ≤ 3) → ∀ M1, Eqm M M1 → ∀ K : Int32 → Mem → Prop, K (-2) (rfM M1 (-2)) → f_X12_kind w s m f x M1 K := fun h M1 hE K hk => by
    unfold f_X12_kind f_X12_kind_b17
    rw [v_X12_isWhat, y2]
    refine ⟨fun _ => hk, fun c => ?_⟩
    rw [v_X12_in]
    have h' := h.resolve_left c
    refine ⟨fun c2 => absurd (inB_0.mpr h') c2, fun _ => ?_⟩
    exact (y2 _ _).mpr hk
  refine ⟨fun c1 => m2 (Or.inl c1) _ (Eqm.rfC M _) _ ⟨rfl, i_rf H _⟩, fun c1 => ⟨fun c2 => m2 (Or.inr (fun z => lt_nle.mp c2 z.1)) _ (Eqm.rfC M _) _ ⟨rfl, i_rf H _⟩, fun c2 => ⟨fun c3 => ?_, fun c3 => m2 (Or.inr (fun z => c3 z.2)) _ (Eqm.rfC M _) _ ⟨rfl, i_rf H _⟩⟩⟩⟩
  rw [lt_nle, Classical.not_not] at c2
  have mgo : ∀ M1 (K : Int32 → Mem → Prop), (wtop s m = 0 → f_X12_givingAct w s m f M1 (fun v9 M9 =>
                ((¬ x = 0) →
                  ((¬ x = (1 : Int32)) →
                    ((¬ x = (3 : Int32)) →
                      f_X12_kind_b109 K (0 : Int32) M9) ∧
                    ((x = (3 : Int32)) →
                      f_X12_kind_b109 K (1 : Int32) M9)) ∧
                  ((x = (1 : Int32)) →
                    ((0 ≤ v9) →
                      f_X12_kind_b112 K v9 M9) ∧
                    ((¬ 0 ≤ v9) →
                      f_X12_kind_b112 K (-9 : Int32) M9))) ∧
                ((x = 0) →
                  ((0 ≤ v9) →
                    f_X12_kindIn v9 M9 (fun v15 M15 =>
                      f_X12_kind_b112 K v15 M15)) ∧
                  ((¬ 0 ≤ v9) →
                    f_X12_kind_b112 K (0 : Int32) M9)))) → (¬ wtop s m = 0 → K (wtop s m) (rfM M1 (wtop s m))) → f_X12_kind w s m f x M1 K := fun M1 K h1 h2 => by
    unfold f_X12_kind f_X12_kind_b17
    rw [v_X12_isWhat]
    refine ⟨fun z => absurd z c1, fun _ => ?_⟩
    rw [v_X12_in]
    refine ⟨fun _ => ?_, fun z => absurd ⟨c2, c3⟩ (inB_0.mp z)⟩
    rw [v_X12_wrongSums]
    rcases wtop_r s m with e | e | e
    · exact ⟨fun _ => h1 e, fun z => absurd (by rw [e]; decide) z⟩
    · refine ⟨fun z => absurd z (by rw [e]; decide), fun _ => ?_⟩
      rw [v_X12_wrongSums, w_X12_refuse (by rw [e]; unfold isR; decide)]
      exact h2 (by rw [e]; decide)
    · refine ⟨fun z => absurd z (by rw [e]; decide), fun _ => ?_⟩
      rw [v_X12_wrongSums, w_X12_refuse (by rw [e]; unfold isR; decide)]
      exact h2 (by rw [e]; decide)
  rw [v_X11_wrongTopic]
  refine ⟨fun c4 => ?_, fun c4 => ?_⟩
  · have hcd := wtop_0.mp c4
    obtain ⟨s', hs, rfl⟩ := nat_of (x := s) (n := 63) (Int32.le_trans (by decide) hcd.1.1) hcd.1.2 (by decide)
    refine C_kindB H c2 c3 (fun M' hT => mgo M' _ (fun _ => ?_) (fun z => absurd c4 z))
    exact M_kindB H (by omega) c2 c3 (fun c hc => hT c (by omega) (by omega) (by omega) (by omega) (by omega)) (fun M2 hT2 => ⟨rfl, Inv.fr ((Fr.tx hT).trans (Fr.txM hT2)) H⟩)
  · have hR : isR (wtop s m) := by
      unfold isR
      rcases wtop_r s m with e | e | e
      · exact absurd e c4
      · rw [e]; decide
      · rw [e]; decide
    rw [w_X11_refuse hR]
    exact mgo _ _ (fun z => absurd z c4) (fun _ => ⟨rfl, i_rf H _⟩)
