/-! elections, worths: the calls -/
theorem i_elx {M : Mem} (H : Inv M) {k : Nat} (hk : k = 0 ∨ (anyV M = true ∧ k ≤ 9)) : Inv (mput (mput (mput (mput (mput (mput M 51 (upd (M 51) 1 (nI k))) 53 (seaR M k)) 54 (memR M k)) 287 (upd (M 287) 48 (nI k))) 323 (seaR M k)) 324 (memR M k)) := by
  unfold Inv
  simp (disch := omega) only [mset_ne, mset_row, rws_ne, upd_s, upd_n, mput_n, mput_s, rws_put]
  refine ⟨H.R, H.D, H.S, H.P, H.Q, H.W, H.A, H.X, H.B, H.T, H.M, ?_, H.N, H.G, H.C, H.E, H.H, H.F, H.U, H.L, H.O, H.I, H.J, H.K⟩
  · have hk9 : k ≤ 9 := by omega
    obtain ⟨v1, v2, v3, v4, v5, v6, v7, v8, v9⟩ := H.V
    refine ⟨rfl, nI_pos' (by omega), (nI_le_iff (b := 9) (by omega) (by omega)).mpr hk9, v4, rfl, rfl, v7, fun j => ?_, fun j hj => ?_⟩
    · unfold seaR
      split
      · rename_i hjk
        rcases hk with hk | hk
        · omega
        · cases hw : nwS (vtN M) (wnK (vtN M) j) 6 with
          | none =>
            have := (anyV_f M).mpr ((nwS_none _ _ _).mp hw)
            rw [this] at hk; exact absurd hk.1 (by decide)
          | some b =>
            obtain ⟨hb, -⟩ := nwS_lt _ _ _ b hw
            exact ⟨nI_pos' (by omega), (nI_le_iff (b := 5) (by omega) (by omega)).mpr (by omega)⟩
      · exact v8 j
    · rw [nn_nI k (by omega)] at hj
      unfold memR
      rw [if_pos hj]
      exact Or.inl rfl
theorem P_elect {M : Mem} (H : Inv M) (a : Int32) : f_X11_elect a M (fun r M1 => f_X12_elect a M1 (fun r' M2 => r' = r ∧ Inv M2)) := by
  unfold f_X11_elect
  simp only [v_X11_outside]
  by_cases c1 : 1 ≤ a
  · by_cases c2 : a ≤ 9
    · obtain ⟨n, hn, rfl⟩ := nat_of (n := 9) (show 0 ≤ a by lia) c2 (by decide)
      have hn1 : 1 ≤ n := (nI_le_iff (a := 1) (by omega) (by omega)).mp c1
      have ho : outs (nI n) 1 9 = 0 := outs_0.mpr ⟨c1, c2⟩
      rw [ho]
      refine ⟨fun _ => t_fill H hn1 hn _ (fun Mk hk => ?_), fun z => absurd rfl z⟩
      have hE : Eqm M Mk := fun c hc => hk.1 c (by omega) (by omega) (by omega) (by omega)
      unfold f_X12_elect
      refine ⟨fun _ => ⟨fun _ => t_elM H hE hn1 hn _ (fun Mf hf => ⟨rfl, ?_⟩), fun z => absurd c2 z⟩, fun z => absurd c1 z⟩
      obtain ⟨e1, e2, e3, e4⟩ := hk
      obtain ⟨g1, g2, g3, g4⟩ := hf
      have hkk : elN M n = 0 ∨ (anyV M = true ∧ elN M n ≤ 9) := by
        unfold elN
        split
        · exact Or.inr ⟨by assumption, hn⟩
        · exact Or.inl rfl
      refine Inv.fr (M := _) (fun c k hs => ?_) (i_elx H hkk)
      simp only [mput_at]
      by_cases d1 : c = 324
      · subst d1; simp [g4]
      · by_cases d2 : c = 323
        · subst d2; simp [g3]
        · by_cases d3 : c = 287
          · subst d3; simp [g2, hE 287 (by decide)]
          · rw [if_neg d1, if_neg d2, if_neg d3, g1 c d3 d2 d1]
            by_cases d4 : c = 54
            · subst d4; simp [e4]
            · by_cases d5 : c = 53
              · subst d5; simp [e3]
              · by_cases d6 : c = 51
                · subst d6; simp [e2]
                · rw [if_neg d4, if_neg d5, if_neg d6, e1 c d6 d5 d4 (fun z => hs (by unfold Sc; omega))]
    · have ho : outs a 1 9 = -6 := outs_6.mpr ⟨c1, c2⟩
      rw [ho]
      refine ⟨fun z => absurd z (by decide), fun _ => ?_⟩
      rw [x6]
      unfold f_X12_elect
      refine ⟨fun _ => ⟨fun z => absurd z c2, fun _ => ?_⟩, fun z => absurd c1 z⟩
      rw [y6]
      exact ⟨rfl, i_rf H _⟩
  · have ho : outs a 1 9 = -4 := outs_4.mpr c1
    rw [ho]
    refine ⟨fun z => absurd z (by decide), fun _ => ?_⟩
    rw [x4]
    unfold f_X12_elect
    refine ⟨fun z => absurd z c1, fun _ => ?_⟩
    rw [y4]
    exact ⟨rfl, i_rf H _⟩
/-- the last that is best among those that count -/
def fiB (c : Nat → Bool) (d : Nat → Int32) : Nat → Int32
  | 0 => -9
  | q + 1 => if c q = true ∧ (fiB c d q = -9 ∨ d (nn (fiB c d q)) ≤ d q) then nI q else fiB c d q
theorem fiB_r (c : Nat → Bool) (d : Nat → Int32) : ∀ q, q ≤ 30 → fiB c d q = -9 ∨ ∃ j, j < q ∧ fiB c d q = nI j
  | 0, _ => Or.inl rfl
  | q + 1, h => by
    have ih := fiB_r c d q (by omega)
    unfold fiB
    split
    · exact Or.inr ⟨q, by omega, rfl⟩
    · rcases ih with e | ⟨j, hj, e⟩
      · exact Or.inl e
      · exact Or.inr ⟨j, by omega, e⟩
def conB (M : Mem) (s w : Int32) (q : Nat) : Bool := decide (M 308 (nn (M 63 q)) = w ∧ (M 309 (nn (M 63 q)) >>> (s &&& 31)) &&& 1 = 1)
theorem p_conc {M : Mem} (H : Inv M) {q : Nat} (hq : q < nn (M 62 0)) (s w : Int32) (K : Int32 → Mem → Prop) (h : K (bi (conB M s w q)) M) : f_X11_concerns (nI q) s w M K := by
  obtain ⟨i, ei, hi, hi2, e3, j0, j1, hq30⟩ := H.agr hq
  obtain ⟨f1, f2, f3, f4, f5, f6, f7⟩ := mok_f (H.mok hi2)
  have hin : inB (nI i) 0 (M 0 5 - 1) = 1 := by
    obtain ⟨o, ho, eo⟩ := nat_of (n := 40) H.m0 H.m1 (by decide)
    rw [eo, nn_nI o (by omega)] at hi2
    refine inB1 ⟨nI_pos' (by omega), ?_⟩
    rw [i_le, i_sub1 H.m0, eo, nI_ti i (by omega), nI_ti o (by omega)]
    omega
  have hvi : vp_in (nI i) 40 := vin_nI hi (by decide)
  have hvq : vp_in (nI q) 30 := vin_nI hq30 (by decide)
  have z0 := bz0
  have z1 := bz1
  simp only [f_X11_concerns, f_X11_concerns_b56, f_X11_concerns_b57, v_X11_isMatter H.m0 H.m1]
  rw [nI_cl q (by omega), ei, nI_cl i (by omega), hin, f5, f6]
  unfold conB at h
  rw [ei, nn_nI i (by omega)] at h
  unfold bi at h
  simp only [decide_eq_true_eq] at h
  clear H
  grind
def inF (M : Mem) (s w d : Int32) (q : Nat) : Bool := decide (¬ d < M 65 q ∧ ¬ M 66 q < d ∧ conB M s w q = true ∧ hldB M q = true)
def inE (M : Mem) (s w d : Int32) (q : Nat) : Bool := decide (¬ M 66 q < M 65 q ∧ ¬ d ≤ M 66 q ∧ conB M s w q = true ∧ hldB M q = true)
theorem t_inF {M : Mem} (H : Inv M) {n : Nat} (hn : n ≤ 30) (e : M 62 0 = nI n) (s w d : Int32) (K : Int32 → Mem → Prop) (h : K (fiB (inF M s w d) (M 65) n) M) : f_X11_agreementInForce s w d M K := by
  unfold f_X11_agreementInForce
  refine Lp.up (fun q a => a = (s, w, d, fiB (inF M s w d) (M 65) q, nI q, M)) n (fun q a r hq ha hr => ?_) (j := 0) (by omega) rfl
  subst ha
  simp only [f_X11_agreementInForce_c7, f_X11_agreementInForce_b100, f_X11_agreementInForce_b104]
  rw [e, nI_le_iff (by omega) (by omega), nI_cl q (by omega), nI_1]
  refine ⟨fun c => by rw [show q = n by omega]; exact h, fun c => ?_⟩
  have hv : vp_in (nI q) 30 := vin_nI (by omega) (by decide)
  have hqn : q < nn (M 62 0) := by rw [e, nn_nI n (by omega)]; omega
  have g1 := p_conc H hqn s w
  have g2 := p_holds H hqn
  have hr2 := hr (by omega) _ rfl
  unfold fiB at hr2
  have hf := fiB_r (inF M s w d) (M 65) q (by omega)
  have hx : inF M s w d q = true ↔ (¬ d < M 65 q ∧ ¬ M 66 q < d ∧ conB M s w q = true ∧ hldB M q = true) := by unfold inF; exact decide_eq_true_iff
  have hvf : ¬ fiB (inF M s w d) (M 65) q = -9 → vp_in (fiB (inF M s w d) (M 65) q) 30 := fun z => by
    obtain ⟨j, hj, ej⟩ := hf.resolve_left z
    rw [ej]; exact vin_nI (by omega) (by decide)
  unfold nn at hr2
  unfold bi at g1 g2
  generalize fiB (inF M s w d) (M 65) q = f at *
  generalize inF M s w d q = x at *
  generalize conB M s w q = y at *
  generalize hldB M q = z at *
  clear H h hr hf
  grind (splits := 30)
theorem t_inE {M : Mem} (H : Inv M) {n : Nat} (hn : n ≤ 30) (e : M 62 0 = nI n) (s w d : Int32) (K : Int32 → Mem → Prop) (h : K (fiB (inE M s w d) (M 66) n) M) : f_X11_agreementEndedLast s w d M K := by
  unfold f_X11_agreementEndedLast
  refine Lp.up (fun q a => a = (s, w, d, fiB (inE M s w d) (M 66) q, nI q, M)) n (fun q a r hq ha hr => ?_) (j := 0) (by omega) rfl
  subst ha
  simp only [f_X11_agreementEndedLast_c7, f_X11_agreementEndedLast_b47, f_X11_agreementEndedLast_b121, f_X11_agreementEndedLast_b125]
  rw [e, nI_le_iff (by omega) (by omega), nI_cl q (by omega), nI_1]
  refine ⟨fun c => by rw [show q = n by omega]; exact h, fun c => ?_⟩
  have hv : vp_in (nI q) 30 := vin_nI (by omega) (by decide)
  have hqn : q < nn (M 62 0) := by rw [e, nn_nI n (by omega)]; omega
  have g1 := p_conc H hqn s w
  have g2 := p_holds H hqn
  have hr2 := hr (by omega) _ rfl
  unfold fiB at hr2
  have hf := fiB_r (inE M s w d) (M 66) q (by omega)
  have hx : inE M s w d q = true ↔ (¬ M 66 q < M 65 q ∧ ¬ d ≤ M 66 q ∧ conB M s w q = true ∧ hldB M q = true) := by unfold inE; exact decide_eq_true_iff
  have hvf : ¬ fiB (inE M s w d) (M 66) q = -9 → vp_in (fiB (inE M s w d) (M 66) q) 30 := fun z => by
    obtain ⟨j, hj, ej⟩ := hf.resolve_left z
    rw [ej]; exact vin_nI (by omega) (by decide)
  unfold nn at hr2
  unfold bi at g1 g2
  generalize fiB (inE M s w d) (M 66) q = f at *
  generalize inE M s w d q = x at *
  generalize conB M s w q = y at *
  generalize hldB M q = z at *
  clear H h hr hf
  grind (splits := 30)
def mm9 (x : Int32) : Int32 := if x = -9 then -1 else x
def agV (M : Mem) (s w d : Int32) : Int32 := if ¬ fiB (inF M s w d) (M 65) (nn (M 62 0)) = -9 then fiB (inF M s w d) (M 65) (nn (M 62 0)) else if M 71 (nn w) = 0 then -9 else fiB (inE M s w d) (M 66) (nn (M 62 0))
theorem t_agF {M : Mem} (H : Inv M) {M' : Mem} (hE : Eqm M M') (s w d : Int32) (hw : 0 ≤ w ∧ w ≤ 7) (K : Int32 → Mem → Prop) (h : K (mm9 (agV M s w d)) M') : f_X12_agreementFor s w d M' K := by
  obtain ⟨g1, g2, g3, g4, g5, g6, g7, g8, g9, -⟩ := H.G
  obtain ⟨n, hn, e⟩ := nat_of (n := 30) g2 g3 (by decide)
  unfold agV at h
  rw [e, nn_nI n (by omega)] at h
  unfold f_X12_agreementFor
  have hvw : vp_in w 8 := vinB hw (by decide)
  refine Lp.up (fun q a => a = (s, w, d, mm9 (fiB (inF M s w d) (M 65) q), mm9 (fiB (inE M s w d) (M 66) q), nI q, M')) n (fun q a r hq ha hr => ?_) (j := 0) (by omega) rfl
  subst ha
  simp only [f_X12_agreementFor_c9, f_X12_agreementFor_b88, f_X12_agreementFor_b89, f_X12_agreementFor_b118, f_X12_agreementFor_b123, f_X12_agreementFor_b125, f_X12_agreementFor_b159, f_X12_agreementFor_b160, f_X12_agreementFor_b189, f_X12_agreementFor_b194, f_X12_agreementFor_b196, f_X12_agreementFor_b198, f_X12_agreementFor_b229]
  rw [hE 287 (by decide), g1, e, nI_le_iff (by omega) (by omega), nI_cl q (by omega), nI_1, hE 338 (by decide), show M 338 = M 71 from H.C.2.2.1, hE 330 (by decide), g4, hE 308 (by decide), hE 309 (by decide)]
  have hf := fiB_r (inF M s w d) (M 65) q (by omega)
  have hg := fiB_r (inE M s w d) (M 66) q (by omega)
  have hfn : fiB (inF M s w d) (M 65) q = -9 ∨ 0 ≤ fiB (inF M s w d) (M 65) q := hf.imp_right (fun ⟨j, hj, ej⟩ => by rw [ej]; exact nI_pos' (by omega))
  have hgn : fiB (inE M s w d) (M 66) q = -9 ∨ 0 ≤ fiB (inE M s w d) (M 66) q := hg.imp_right (fun ⟨j, hj, ej⟩ => by rw [ej]; exact nI_pos' (by omega))
  have h9 : (-9 : Int32) < 0 := by decide
  have h1 : (-1 : Int32) < 0 := by decide
  refine ⟨fun c => ?_, fun c => ?_⟩
  · rw [show n = q by omega] at h
    unfold nn at h
    unfold mm9 at h ⊢
    generalize fiB (inF M s w d) (M 65) q = f at *
    generalize fiB (inE M s w d) (M 66) q = g at *
    clear H hE hr hf hg
    grind
  · have hv : vp_in (nI q) 30 := vin_nI (by omega) (by decide)
    have hqn : q < nn (M 62 0) := by rw [e, nn_nI n (by omega)]; omega
    obtain ⟨i, ei, hi, hi2, e3, j0, j1, hq30⟩ := H.agr hqn
    have hvi : vp_in (nI i) 40 := vin_nI hi (by decide)
    have k2 := q_holds H hqn hE
    have hr2 := hr (by omega) _ rfl
    unfold fiB at hr2
    have hx : inF M s w d q = true ↔ (¬ d < M 65 q ∧ ¬ M 66 q < d ∧ conB M s w q = true ∧ hldB M q = true) := by unfold inF; exact decide_eq_true_iff
    have hy : inE M s w d q = true ↔ (¬ M 66 q < M 65 q ∧ ¬ d ≤ M 66 q ∧ conB M s w q = true ∧ hldB M q = true) := by unfold inE; exact decide_eq_true_iff
    have hcn : conB M s w q = true ↔ (M 308 i = w ∧ (M 309 i >>> (s &&& 31)) &&& 1 = 1) := by unfold conB; rw [ei, nn_nI i (by omega)]; exact decide_eq_true_iff
    have hvf : ¬ fiB (inF M s w d) (M 65) q = -9 → vp_in (fiB (inF M s w d) (M 65) q) 30 := fun z => by
      obtain ⟨j, hj, ej⟩ := hf.resolve_left z
      rw [ej]; exact vin_nI (by omega) (by decide)
    have hvg : ¬ fiB (inE M s w d) (M 66) q = -9 → vp_in (fiB (inE M s w d) (M 66) q) 30 := fun z => by
      obtain ⟨j, hj, ej⟩ := hg.resolve_left z
      rw [ej]; exact vin_nI (by omega) (by decide)
    rw [ei, nI_cl i (by omega)]
    have eF : ∀ k, M' 332 k = M 65 k := fun k => by rw [hE 332 (by decide), g6]
    have eT : ∀ k, M' 333 k = M 66 k := fun k => by rw [hE 333 (by decide), g7]
    have hnq : ¬ nI q = -9 := fun z => absurd (z ▸ nI_pos' (n := q) (by omega)) (by decide)
    unfold nn at hr2
    unfold bi at k2
    unfold mm9 at hr2 ⊢
    generalize fiB (inF M s w d) (M 65) q = f at *
    generalize fiB (inE M s w d) (M 66) q = g at *
    generalize inF M s w d q = x at *
    generalize inE M s w d q = y at *
    generalize conB M s w q = u at *
    generalize hldB M q = z at *
    generalize (M 309 i >>> (s &&& 31)) &&& 1 = bt1 at *
    clear H hE h hr hf hg g1 g2 g3 g4 g5 g6 g7 g8 g9
    by_cases cu : M 308 i = w
    · by_cases cb : bt1 = 1
      · cases z
        · grind
        · refine ⟨hv, hvi, fun zz => absurd cu zz, fun _ => ⟨hvi, fun zz => absurd cb zz, fun _ => k2 _ ⟨fun zz => absurd zz (by decide), fun _ => ⟨hv, ?_⟩⟩⟩⟩
          by_cases d1 : d < M 65 q <;> by_cases d2 : M 66 q < d <;> by_cases d3 : M 66 q < M 65 q <;> by_cases d4 : d ≤ M 66 q <;> grind (splits := 30)
      · grind
    · grind
