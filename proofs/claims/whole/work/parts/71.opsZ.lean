theorem P_open {M : Mem} (H : Inv M) (w s m f : Int32) : f_X11_open w s m f M (fun r M1 => f_X12_open w s m f M1 (fun r' M2 => r' = r ∧ Inv M2)) := by
  obtain ⟨n, hn, en⟩ := nat_of (n := 40) H.M.2.1 H.M.2.2.1 (by decide)
  have e32 : ∀ M1, Eqm M M1 → M1 287 32 = nI n := fun M1 h => by rw [h 287 (by decide)]; exact H.M.1.trans en
  have l40 : ((40 : Int32) ≤ nI n) ↔ n = 40 := (nI_le_iff (a := 40) (by omega) (by omega)).trans ⟨fun h => by omega, fun h => by omega⟩
  have q40 : (nI n = 40) ↔ n = 40 := nI_eq_iff (b := 40) (by omega) (by omega)
  unfold f_X11_open
  rw [v_X11_isWhat]
  refine ⟨fun c1 => ?_, fun c1 => ?_⟩
  · rw [v_X11_wrongTopic, v_X11_fullAt, v_X11_worse]
    have hw0 := wors_0 (wtop_r s m) (ful_r (M 0 5) 40)
    refine ⟨fun hz => ?_, fun hz => ?_⟩
    · obtain ⟨o1, o2⟩ := hw0.mp hz
      have hlt : n < 40 := by
        unfold ful at o2
        rw [en] at o2
        by_cases q : n = 40
        · rw [if_pos (l40.mpr q)] at o2; exact absurd o2 (by decide)
        · omega
      have hcd := wtop_0.mp o1
      have hww : 0 ≤ w ∧ w ≤ 7 := by
        by_cases q : 0 ≤ w ∧ w ≤ 7
        · exact q
        · exact absurd (inB_0.mpr q) c1
      obtain ⟨s', hs, rfl⟩ := nat_of (x := s) (n := 63) (Int32.le_trans (by decide) hcd.1.1) hcd.1.2 (by decide)
      have hkr := kdO_r H (o := gvB M w (nI s') m f) (fun g hg => (gvB_lt H hg).1)
      obtain ⟨kd, hkd, ekd⟩ := nat_of (n := 4) hkr.1 hkr.2 (by decide)
      refine C_openB H hlt en (show kd < 5 by omega) ekd (fun M' hT => ?_)
      generalize hM1 : (mset (mset (mset (mset (mset (mset (mset (mset (mset (mset M' (127 + 4 * n) 2 w) (127 + 4 * n) 3 (nI s')) (127 + 4 * n) 4 m) (127 + 4 * n) 5 (opI (-9) (gvB M w (nI s') m f))) (127 + 4 * n) 6 (M 1 0)) (127 + 4 * n) 7 (nI kd)) (127 + 4 * n) 8 (M 305 kd)) (127 + 4 * n) 9 (M 306 kd)) (127 + 4 * n) 10 (M 307 kd)) 0 5 (nI n + 1)) = M1
      have hE1 : Eqm M M1 := fun c hc => by
        subst hM1
        simp (disch := omega) only [mset_ne]; exact hT c (by omega) (by omega) (by omega) (by omega) (by omega)
      unfold f_X12_open
      rw [v_X12_isWhat]
      refine ⟨fun _ => ?_, fun z => absurd z c1⟩
      rw [v_X12_wrongSums, o1, e32 M1 hE1, q40]
      refine ⟨fun _ => ⟨fun _ => ?_, fun z => absurd z (by omega)⟩, fun z => absurd (by decide) z⟩
      refine q_open H (show s' < 512 by omega) hlt en hE1 (show kd < 5 by omega) ekd (fun M2 hT2 => ⟨rfl, ?_⟩)
      refine Inv.fr ?_ (i_open (w := w) (s := nI s') (m := m) (g := opI (-9) (gvB M w (nI s') m f)) H hlt en hww hcd.1 hcd.2 (show kd < 5 by omega))
      have hF : Fr (mset (mset (mset (mset (mset (mset (mset (mset (mset (mset M (127 + 4 * n) 2 w) (127 + 4 * n) 3 (nI s')) (127 + 4 * n) 4 m) (127 + 4 * n) 5 (opI (-9) (gvB M w (nI s') m f))) (127 + 4 * n) 6 (M 1 0)) (127 + 4 * n) 7 (nI kd)) (127 + 4 * n) 8 (M 305 kd)) (127 + 4 * n) 9 (M 306 kd)) (127 + 4 * n) 10 (M 307 kd)) 0 5 (nI n + 1)) M2 := by
        refine Fr.trans ?_ (Fr.txM hT2)
        subst hM1
        exact ((((((((((Fr.tx hT).cset _ 2 _).cset _ 3 _).cset _ 4 _).cset _ 5 _).cset _ 6 _).cset _ 7 _).cset _ 8 _).cset _ 9 _).cset _ 10 _).cset 0 5 _
      rw [← nI_1]
      exact (((((((((hF.cset 308 n _).cset 309 n _).cset 310 n _).cset 311 n _).cset 312 n _).cset 313 n _).cset 314 n _).cset 315 n _).cset 316 n _).cset 287 32 _
    · have hR : isR (wors (wtop s m) (ful (M 0 5) 40)) := by
        unfold isR
        rcases wors_r (wtop_r s m) (ful_r (M 0 5) 40) with q | q | q
        · exact absurd q hz
        · rw [q]; decide
        · rw [q]; decide
      rw [w_X11_refuse hR]
      unfold f_X12_open
      dsimp only
      rw [v_X12_isWhat]
      refine ⟨fun _ => ?_, fun z => absurd z c1⟩
      rw [v_X12_wrongSums, v_X12_wrongSums, e32 _ (Eqm.rfC M _), q40]
      have hwt := wtop_r s m
      refine ⟨fun q => ?_, fun q => ?_⟩
      · have w0 : wtop s m = 0 := by
          rcases hwt with e | e | e
          · exact e
          · rw [e] at q; exact absurd q (by decide)
          · rw [e] at q; exact absurd q (by decide)
        have hf : ful (M 0 5) 40 = -6 := by
          unfold ful
          by_cases e : (40 : Int32) ≤ M 0 5
          · rw [if_pos e]
          · exact absurd (hw0.mpr ⟨w0, by unfold ful; exact if_neg e⟩) hz
        have n40 : n = 40 := by
          unfold ful at hf
          rw [en] at hf
          split at hf
          · rename_i e; exact l40.mp e
          · exact absurd hf (by decide)
        rw [w0, hf, show wors 0 (-6) = -6 by decide, y6]
        exact ⟨fun z => absurd n40 z, fun _ => ⟨rfl, i_rf H _⟩⟩
      · have w0 : ¬ wtop s m = 0 := fun e => q (by rw [e]; decide)
        have ew : wors (wtop s m) (ful (M 0 5) 40) = wtop s m := by
          rcases hwt with e | e | e
          · exact absurd e w0
          · rw [e]; rcases ful_r (M 0 5) 40 with u | u | u <;> rw [u] <;> decide
          · rw [e]; unfold ful; split <;> decide
        rw [ew] at hR ⊢
        rw [w_X12_refuse hR]
        exact ⟨rfl, i_rf H _⟩
  · rw [x2]
    unfold f_X12_open
    dsimp only
    rw [v_X12_isWhat, y2]
    exact ⟨fun z => absurd c1 z, fun _ => ⟨rfl, i_rf H _⟩⟩
