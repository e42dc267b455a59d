/-! worths; months checked -/
def worV (M : Mem) (w g : Int32) : Int32 := if g = -9 then (if M 69 (nn w) = -1 then -9 else M 69 (nn w)) else if M 69 (nn w) = -1 ∨ M 70 (nn w) = 2 then M 64 (nn g) else if M 70 (nn w) = 0 then M 69 (nn w) else if M 69 (nn w) < M 64 (nn g) then M 64 (nn g) else M 69 (nn w)
theorem agV_r {M : Mem} (H : Inv M) (s w d : Int32) : agV M s w d = -9 ∨ ∃ j, j < nn (M 62 0) ∧ j < 30 ∧ agV M s w d = nI j := by
  obtain ⟨n, hn, e⟩ := nat_of (n := 30) H.G.2.1 H.G.2.2.1 (by decide)
  unfold agV
  rw [e, nn_nI n (by omega)]
  have h1 := fiB_r (inF M s w d) (M 65) n (by omega)
  have h2 := fiB_r (inE M s w d) (M 66) n (by omega)
  split
  · obtain ⟨j, hj, ej⟩ := h1.resolve_left (by assumption)
    exact Or.inr ⟨j, hj, by omega, ej⟩
  · split
    · exact Or.inl rfl
    · exact h2.imp_right (fun ⟨j, hj, ej⟩ => ⟨j, hj, by omega, ej⟩)
def cworth (M : Mem) (a b c d : Int32) : Int32 := if ¬ (0 ≤ a ∧ a ≤ 5) then -1 else if ¬ (0 ≤ b ∧ b ≤ 7) ∨ ¬ (0 ≤ d ∧ d ≤ 1) then -2 else if ¬ 0 ≤ c then -4 else if ¬ c ≤ 1000 then -6 else 0
theorem C_worth {M : Mem} (H : Inv M) (a b c d : Int32) {K : Int32 → Mem → Prop} (k1 : isR (cworth M a b c d) → K (cworth M a b c d) (rfC M (cworth M a b c d)))
    (k2 : (cworth M a b c d) = 0 → K (if d = 1 then agV M a b c else worV M b (agV M a b c)) M) : f_X11_worth a b c d M K := by
  obtain ⟨n, hn, en⟩ := nat_of (n := 30) H.G.2.1 H.G.2.2.1 (by decide)
  simp only [f_X11_worth, f_X11_worth_b31, f_X11_worth_b97, f_X11_worth_b118, f_X1_worthBy, f_X1_worthBy_b26, f_X1_worthBy_b42, f_X1_worthBy_b72, v_X11_isShop, v_X11_isWhat, v_X11_outside, v_X1_has H.G.2.1 H.G.2.2.1]
  unfold cworth at k1 k2
  unfold isR at k1
  have g1 := t_inF H hn en a b c
  have g2 := t_inE H hn en a b c
  have ga := agV_r H a b c
  have hvb : 0 ≤ b ∧ b ≤ 7 → vp_in b 8 := fun q => vinB q (by decide)
  have hbx : ∀ g, agV M a b c = g → g = -9 ∨ (0 ≤ g ∧ g ≤ M 62 0 - 1 ∧ vp_in g 30) := fun g eg => by
    rw [← eg]
    rcases ga with z | ⟨j, hj, hj30, ej⟩
    · exact Or.inl z
    · refine Or.inr ?_
      rw [ej]
      rw [en, nn_nI n (by omega)] at hj
      refine ⟨nI_pos' (by omega), ?_, vin_nI hj30 (by decide)⟩
      rw [i_le, i_sub1 H.G.2.1, en, nI_ti j (by omega), nI_ti n (by omega)]
      omega
  have hag : agV M a b c = if ¬ fiB (inF M a b c) (M 65) n = -9 then fiB (inF M a b c) (M 65) n else if M 71 (nn b) = 0 then -9 else fiB (inE M a b c) (M 66) n := by unfold agV; rw [en, nn_nI n (by omega)]
  have hb9 := hbx _ rfl
  have e4 : ∀ x K, f_X1_has x M K ↔ K (inB x 0 (M 62 0 - 1)) M := fun x K => v_X1_has H.G.2.1 H.G.2.2.1 x K
  have hin9 : inB (-9) 0 (M 62 0 - 1) = 0 := inB0 (fun z => absurd z.1 (by decide))
  unfold worV at k2
  unfold nn at k2 hag
  have e3 : ∀ x, inB x 0 (M 62 0 - 1) = if 0 ≤ x ∧ x ≤ M 62 0 - 1 then 1 else 0 := fun _ => rfl
  have e5 : inB a 0 5 = if 0 ≤ a ∧ a ≤ 5 then 1 else 0 := rfl
  have e7 : inB b 0 7 = if 0 ≤ b ∧ b ≤ 7 then 1 else 0 := rfl
  generalize agV M a b c = g at *
  generalize fiB (inF M a b c) (M 65) n = f1 at *
  generalize fiB (inE M a b c) (M 66) n = f2 at *
  clear H ga hbx en
  by_cases c1 : 0 ≤ a ∧ a ≤ 5
  · by_cases c2 : 0 ≤ b ∧ b ≤ 7
    · by_cases c3 : 0 ≤ d ∧ d ≤ 1
      · by_cases c4 : 0 ≤ c
        · by_cases c5 : c ≤ 1000
          · have ho : outs c 0 1000 = 0 := outs_0.mpr ⟨c4, c5⟩
            have hvb2 := hvb c2
            have hc0 : ¬ d < 0 := by rw [lt_nle]; exact fun z => z c3.1
            rw [e5, e7, if_pos c1, if_pos c2, ho]
            have k3 := k2 (by grind)
            clear k1 k2
            refine ⟨fun _ => ⟨fun z => absurd z (by decide), fun _ => ⟨fun z => absurd z hc0, fun _ => ⟨fun _ => ⟨fun _ => g1 _ ?_, fun z => absurd rfl z⟩, fun z => absurd c3.2 z⟩⟩⟩, fun z => absurd z (by decide)⟩
            by_cases c6 : f1 = -9
            · by_cases c7 : M 71 b.toNatClampNeg = 0 <;> grind (splits := 40)
            · grind (splits := 40)
          · clear k2; grind (splits := 40) [x6, outs]
        · clear k2; grind (splits := 40) [x4, outs]
      · clear k2; have hd : ¬ 0 ≤ d ∨ ¬ d ≤ 1 := by { by_cases q : 0 ≤ d; exact Or.inr (fun z => c3 ⟨q, z⟩); exact Or.inl q }; grind (splits := 40) [x2]
    · clear k2; grind (splits := 40) [x2]
  · clear k2; grind (splits := 40) [x1]
theorem M_worth {M : Mem} (H : Inv M) (a b c d : Int32) {M' : Mem} (hE : Eqm M M') {K : Int32 → Mem → Prop} (k1 : isR (cworth M a b c d) → K (cworth M a b c d) (rfM M' (cworth M a b c d)))
    (k2 : (cworth M a b c d) = 0 → K (if d = 1 then agV M a b c else worV M b (agV M a b c)) M') : f_X12_worth a b c d M' K := by
  simp only [f_X12_worth, f_X12_worth_b30, f_X12_worth_b89, f_X12_worth_b120, f_X12_worth_b135, f_X12_worth_b160, f_X12_worth_b172, v_X12_isShop, v_X12_isWhat, v_X12_in]
  unfold cworth at k1 k2
  unfold isR at k1
  have e2 : ∀ x l g : Int32, inB x l g = if l ≤ x ∧ x ≤ g then 1 else 0 := fun _ _ _ => rfl
  simp only [e2]
  have ga := agV_r H a b c
  have hvb : 0 ≤ b ∧ b ≤ 7 → vp_in b 8 := fun q => vinB q (by decide)
  have g1 := fun q => t_agF H hE a b c q
  have hbx : agV M a b c = -9 ∨ (0 ≤ agV M a b c ∧ vp_in (agV M a b c) 30) := by
    rcases ga with z | ⟨j, hj, hj30, ej⟩
    · exact Or.inl z
    · refine Or.inr ?_
      rw [ej]
      exact ⟨nI_pos' (by omega), vin_nI hj30 (by decide)⟩
  have eA : ∀ k, M' 336 k = M 69 k := fun k => by rw [hE 336 (by decide)]; exact congrFun H.C.1 k
  have eB : ∀ k, M' 337 k = M 70 k := fun k => by rw [hE 337 (by decide)]; exact congrFun H.C.2.1 k
  have eD : ∀ k, M' 331 k = M 64 k := fun k => by rw [hE 331 (by decide)]; exact congrFun H.G.2.2.2.2.1 k
  have hown : 0 ≤ b ∧ b ≤ 7 → -1 ≤ M 69 b.toNatClampNeg := fun q => (H.C.2.2.2.2.1 _ (by obtain ⟨j, hj, rfl⟩ := nat_of (n := 7) q.1 q.2 (by decide); rw [nI_cl j (by omega)]; omega)).1
  unfold worV at k2
  unfold nn at k2
  unfold mm9 at g1
  generalize agV M a b c = g at *
  clear H hE ga
  by_cases c1 : 0 ≤ a ∧ a ≤ 5
  · by_cases c2 : 0 ≤ b ∧ b ≤ 7
    · by_cases c3 : 0 ≤ d ∧ d ≤ 1
      · by_cases c4 : 0 ≤ c
        · by_cases c5 : c ≤ 1000
          · have hvb2 := hvb c2
            have ho2 := hown c2
            rw [if_pos c1, if_pos c2, if_pos c3]
            have k3 := k2 (by grind)
            clear k1 k2
            have hoo : (0 ≤ M 69 b.toNatClampNeg) ↔ ¬ M 69 b.toNatClampNeg = -1 := by constructor <;> intro _ <;> lia
            refine ⟨fun _ => ⟨fun z => absurd z (by decide), fun _ => ⟨fun _ => ⟨fun _ => ⟨fun _ => g1 c2 _ ?_, fun z => absurd c5 z⟩, fun z => absurd c4 z⟩, fun z => absurd z (by decide)⟩⟩, fun z => absurd z (by decide)⟩
            have h9 : (-9 : Int32) < 0 := by decide
            have h1 : (-1 : Int32) < 0 := by decide
            by_cases c6 : g = -9 <;> grind (splits := 40)
          · clear k2; grind (splits := 40) [y6]
        · clear k2; grind (splits := 40) [y4]
      · clear k2; grind (splits := 40) [y2]
    · clear k2; grind (splits := 40) [y2]
  · clear k2; grind (splits := 40) [y1]
theorem P_worth {M : Mem} (H : Inv M) (a b c d : Int32) : f_X11_worth a b c d M (fun r M1 => f_X12_worth a b c d M1 (fun r' M2 => r' = r ∧ Inv M2)) :=
  C_worth H a b c d (fun hz => M_worth H a b c d (Eqm.rfC M _) (fun _ => ⟨rfl, i_rf H _⟩) (fun h0 => absurd h0 (nR0 hz)))
    (fun h0 => M_worth H a b c d (Eqm.refl M) (fun hz => absurd h0 (nR0 hz)) (fun _ => ⟨rfl, H⟩))
def chP (M : Mem) (j k : Int32) (i : Nat) : Bool := decide (nn (M 0 5) ≤ i ∨ j < M 313 i ∨ ¬ stM M i j k = M 125 i)
theorem mok_0 {M : Mem} {i : Nat} (h : mok M i) (k : Nat) (v : Int32) : mok (mset M 0 k v) i := by
  unfold mok at h ⊢
  simp (disch := omega) only [mset_ne]
  exact h
theorem sok_0 {M : Mem} (h : sok M) (k : Nat) (v : Int32) : sok (mset M 0 k v) := by
  unfold sok at h ⊢
  simp (disch := omega) only [mset_ne]
  exact h
theorem t_chk {M : Mem} (H : Inv M) {n : Nat} (hn : n ≤ 40) {j k : Int32} (j0 : 0 ≤ j) (j1 : j ≤ 1000) (K : Int32 → Mem → Prop) (h : K (fsN (chP M j k) n 0) (mset M 0 14 0)) :
    Lp (fun (r51 : Int32 × Int32 × Int32 × Int32 × Mem → Prop) a => f_X11_check_c51 K r51 a.1 a.2.1 a.2.2.1 a.2.2.2.1 a.2.2.2.2) (j, k, nI n, 0, mset M 0 14 0) := by
  obtain ⟨o, ho, eo⟩ := nat_of (n := 40) H.m0 H.m1 (by decide)
  have e05 : mset M 0 14 0 0 5 = M 0 5 := by rw [mset_row, upd_n _ _ (by decide)]
  refine Lp.up (fun q a => K (fsN (chP M j k) (n - q) q) (mset M 0 14 0) ∧ a = (j, k, nI n, nI q, mset M 0 14 0)) n (fun q a r hq ha hr => ?_) (j := 0) (by omega) ⟨h, rfl⟩
  obtain ⟨hk, rfl⟩ := ha
  simp only [f_X11_check_c51, f_X11_check_b109, f_X11_check_b118, v_X11_isMatter (M := mset M 0 14 0) (by rw [e05]; exact H.m0) (by rw [e05]; exact H.m1)]
  have l40 : ((40 : Int32) ≤ nI q) ↔ 40 ≤ q := nI_le_iff (a := 40) (by omega) (by omega)
  rw [l40, nI_le_iff (by omega) (by omega), nI_cl q (by omega), e05, nI_1]
  refine ⟨fun c => by rw [show n - q = 0 by omega] at hk; exact hk, fun c => ⟨fun z => absurd z (by omega), fun _ => ?_⟩⟩
  rw [show n - q = (n - (q + 1)) + 1 by omega] at hk
  unfold fsN at hk
  have hr2 := fun z => hr (by omega) (j, k, nI n, nI (q + 1), mset M 0 14 0) ⟨z, rfl⟩
  have hx : chP M j k q = true ↔ (nn (M 0 5) ≤ q ∨ j < M 313 q ∨ ¬ stM M q j k = M 125 q) := by unfold chP; exact decide_eq_true_iff
  have hvq : vp_in (nI q) 40 := vin_nI (by omega) (by decide)
  by_cases c2 : q < nn (M 0 5)
  · have hin : inB (nI q) 0 (M 0 5 - 1) = 1 := by
      rw [eo, nn_nI o (by omega)] at c2
      refine inB1 ⟨nI_pos' (by omega), ?_⟩
      rw [i_le, i_sub1 H.m0, eo, nI_ti q (by omega), nI_ti o (by omega)]
      omega
    have hm := H.mok c2
    have g1 := p_state (mok_0 hm 14 0) (sok_0 H.sok 14 0) j0 j1 k
    have es : stM (mset M 0 14 0) q j k = stM M q j k := stM_cell (fun c hc => mset_ne _ _ _ (by omega)) q j k
    rw [es] at g1
    have e6 : mset M 0 14 0 (127 + 4 * q) 6 = M 313 q := by rw [mset_ne _ _ _ (by omega)]; exact (mok_f hm).1
    have e125 : mset M 0 14 0 125 q = M 125 q := by rw [mset_ne _ _ _ (by decide)]
    rw [hin, e6]
    generalize chP M j k q = x at *
    generalize stM M q j k = st at *
    clear H h hr hm
    grind
  · have hin : inB (nI q) 0 (M 0 5 - 1) = 0 := by
      refine inB0 (fun z => c2 ?_)
      have := z.2
      rw [i_le, i_sub1 H.m0, eo, nI_ti q (by omega), nI_ti o (by omega)] at this
      rw [eo, nn_nI o (by omega)]; omega
    rw [hin]
    rw [if_pos (hx.mpr (Or.inl (by omega)))] at hk
    exact ⟨fun _ => hk, fun z => absurd rfl z⟩
theorem t_chkM {M : Mem} (H : Inv M) {M' : Mem} (e : ∀ c, 287 < c → M' c = M c) (e32 : M' 287 32 = M 0 5) {n : Nat} (hn : n ≤ 40) {j k : Int32} (j0 : 0 ≤ j) (j1 : j ≤ 1000) (K : Int32 → Mem → Prop) (h : K (fsN (chP M j k) n 0) M') :
    Lp (fun (r48 : Int32 × Int32 × Int32 × Int32 × Mem → Prop) a => f_X12_check_c48 K r48 a.1 a.2.1 a.2.2.1 a.2.2.2.1 a.2.2.2.2) (j, k, nI n, 0, M') := by
  obtain ⟨o, ho, eo⟩ := nat_of (n := 40) H.m0 H.m1 (by decide)
  refine Lp.up (fun q a => K (fsN (chP M j k) (n - q) q) M' ∧ a = (j, k, nI n, nI q, M')) n (fun q a r hq ha hr => ?_) (j := 0) (by omega) ⟨h, rfl⟩
  obtain ⟨hk, rfl⟩ := ha
  simp only [f_X12_check_c48, f_X12_check_b92]
  rw [nI_le_iff (by omega) (by omega), nI_cl q (by omega), e32, eo, nI_le_iff (by omega) (by omega), nI_1, e 313 (by decide)]
  refine ⟨fun c => by rw [show n - q = 0 by omega] at hk; exact hk, fun c => ?_⟩
  rw [show n - q = (n - (q + 1)) + 1 by omega] at hk
  unfold fsN at hk
  have hr2 := fun z => hr (by omega) (j, k, nI n, nI (q + 1), M') ⟨z, rfl⟩
  have hx : chP M j k q = true ↔ (o ≤ q ∨ j < M 313 q ∨ ¬ stM M q j k = M 125 q) := by unfold chP; rw [eo, nn_nI o (by omega)]; exact decide_eq_true_iff
  have hvq : vp_in (nI q) 40 := vin_nI (by omega) (by decide)
  have e368 : ∀ i, M' 368 i = M 125 i := fun i => by rw [e 368 (by decide)]; exact congrFun H.O.2.2.2 i
  by_cases c2 : q < nn (M 0 5)
  · have hmm := H.mm c2
    have hmm' : mmo M' q := by
      unfold mmo at hmm ⊢
      rw [e 317 (by decide), e 313 (by decide), e 311 (by decide), e 319 (by decide), e 318 (by decide), e 321 (by decide)]
      exact hmm
    have es : stM M' q j k = stM M q j k := by
      unfold stM wdrM rulM ansM whM
      rw [e 311 (by decide), e 313 (by decide), e 314 (by decide), e 315 (by decide), e 316 (by decide), e 317 (by decide), e 318 (by decide), e 319 (by decide), e 320 (by decide), e 321 (by decide), e 329 (by decide), e 288 (by decide)]
    have g1 := q_state hmm' (Eqm.refl M') j0 j1 k
    rw [es] at g1
    rw [eo, nn_nI o (by omega)] at c2
    generalize chP M j k q = x at *
    generalize stM M q j k = st at *
    clear H h hr
    grind
  · rw [eo, nn_nI o (by omega)] at c2
    rw [if_pos (hx.mpr (Or.inl (by omega)))] at hk
    exact ⟨fun _ => hk, fun z => absurd (by omega) z⟩
theorem i_chk {M : Mem} (H : Inv M)  : Inv (mset (mset M 0 14 0) 287 106 0) := by
  unfold Inv
  simp (disch := omega) only [mset_ne, mset_row, rws_ne, upd_s, upd_n, mput_n, mput_s, rws_put]
  refine ⟨H.R, H.D, H.S, H.P, H.Q, H.W, H.A, H.X, H.B, H.T, H.M, H.V, H.N, H.G, H.C, H.E, H.H, H.F, H.U, H.L, ?_, H.I, H.J, H.K⟩
  · have h := H.O; exact ⟨rfl, by decide, by decide, h.2.2.2⟩
def ccheck (M : Mem) (a b : Int32) : Int32 := if ¬ 0 ≤ a ∨ ¬ 0 ≤ b then -4 else if b < a ∨ M 1 0 < b then -3 else 0
theorem C_check {M : Mem} (H : Inv M) (a b : Int32) {K : Int32 → Mem → Prop} (k1 : isR (ccheck M a b) → K (ccheck M a b) (rfC M (ccheck M a b)))
    (k2 : (ccheck M a b) = 0 → K (fsN (chP M a b) (nn (M 0 14)) 0) (mset M 0 14 0)) : f_X11_check a b M K := by
  obtain ⟨n, hn, en⟩ := nat_of (n := 40) H.O.2.1 H.O.2.2.1 (by decide)
  have d1 := H.D.2.2.1
  simp only [f_X11_check, f_X11_check_b8, f_X11_check_b31]
  unfold ccheck at k1 k2
  unfold isR at k1
  rw [en, nn_nI n (by omega)] at k2
  rw [en]
  have g1 := fun q1 q2 => t_chk (j := a) (k := b) H hn q1 q2 K
  have hle : ¬ b < a → b ≤ M 1 0 → a ≤ 1000 := fun x y => by lia
  generalize fsN (chP M a b) n 0 = x at *
  generalize Lp (fun (r51 : Int32 × Int32 × Int32 × Int32 × Mem → Prop) a => f_X11_check_c51 K r51 a.1 a.2.1 a.2.2.1 a.2.2.2.1 a.2.2.2.2) (a, b, nI n, 0, mset M 0 14 0) = LL at *
  clear H
  grind [x3, x4]
theorem M_check {M : Mem} (H : Inv M) (a b : Int32) {M' : Mem} (hE : Eqm M M') {K : Int32 → Mem → Prop} (k1 : isR (ccheck M a b) → K (ccheck M a b) (rfM M' (ccheck M a b)))
    (k2 : (ccheck M a b) = 0 → K (fsN (chP M a b) (nn (M 0 14)) 0) (mset M' 287 106 0)) : f_X12_check a b M' K := by
  obtain ⟨n, hn, en⟩ := nat_of (n := 40) H.O.2.1 H.O.2.2.1 (by decide)
  have d1 := H.D.2.2.1
  simp only [f_X12_check, f_X12_check_b8, f_X12_check_b28]
  unfold ccheck at k1 k2
  unfold isR at k1
  rw [en, nn_nI n (by omega)] at k2
  rw [hE 287 (by decide), H.D.1, H.O.1, en]
  have g1 := fun q1 q2 => t_chkM (j := a) (k := b) H (M' := mset M' 287 106 0) (fun c hc => (mset_ne _ _ _ (by omega)).trans (hE c (by omega))) (by rw [mset_row, upd_n _ _ (by decide), hE 287 (by decide)]; exact H.M.1) hn q1 q2 K
  have hle : ¬ b < a → b ≤ M 1 0 → a ≤ 1000 := fun x y => by lia
  generalize fsN (chP M a b) n 0 = x at *
  generalize Lp (fun (r48 : Int32 × Int32 × Int32 × Int32 × Mem → Prop) a => f_X12_check_c48 K r48 a.1 a.2.1 a.2.2.1 a.2.2.2.1 a.2.2.2.2) (a, b, nI n, 0, mset M' 287 106 0) = LL at *
  clear H hE
  grind [y3, y4]
theorem P_check {M : Mem} (H : Inv M) (a b : Int32) : f_X11_check a b M (fun r M1 => f_X12_check a b M1 (fun r' M2 => r' = r ∧ Inv M2)) :=
  C_check H a b (fun hz => M_check H a b (Eqm.rfC M _) (fun _ => ⟨rfl, i_rf H _⟩) (fun h0 => absurd h0 (nR0 hz)))
    (fun h0 => M_check H a b (Eqm.set (Eqm.refl M) _ _ (by decide)) (fun hz => absurd h0 (nR0 hz)) (fun _ => ⟨rfl, i_chk H⟩))
