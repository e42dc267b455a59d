/-! sessions and agreements: the calls -/
theorem sumz {f : Nat → Nat} : ∀ o, (∀ j, j < o → f j = 0) → ((List.range o).map f).sum = 0
  | 0, _ => rfl
  | o + 1, h => by
    rw [List.range_succ, List.map_append, List.sum_append, sumz o (fun j hj => h j (by omega))]
    simp [h o (by omega)]
theorem cA_0 (y318 y321 : Nat → Int32) (s : Int32) (i : Nat) : ∀ m, (∀ k, k < m → y318 (30 * i + k) = 3 → ¬ y321 (30 * i + k) = s) → cA y318 y321 s i m = 0
  | 0, _ => rfl
  | m + 1, h => by rw [cA_s, cA_0 y318 y321 s i m (fun k hk => h k (by omega)), if_neg (fun q => h m (by omega) q.1 q.2)]
theorem ans_new {M : Mem} (H : Inv M) {n : Nat} (hn : n < 30) (en : M 51 5 = nI n) : ansN (nn (M 0 5)) (M 317) (M 318) (M 321) (nI n) = 0 := by
  rw [ansN_eq]
  refine sumz _ (fun j hj => cA_0 _ _ _ _ _ (fun k hk c e => ?_))
  obtain ⟨-, -, -, z⟩ := (mok_q (H.mok hj) k hk).2.2.2.2.2.2 c
  rw [e, en] at z
  exact absurd ((nI_lt_iff (by omega) (by omega)).mp z) (by omega)
def canB (M : Mem) (b : Int32) : Bool := decide (b.toInt < 2 ^ nn (M 51 1)) && !absB M b (nn (M 51 1))
def rgt (M : Mem) (a b : Int32) : Int32 := if M 1 0 - a < M 124 0 then 0 else if 2 * bcv b ≤ M 51 1 then 0 else 1
theorem rgt_bz (M : Mem) (a b : Int32) : bz (rgt M a b) := by unfold rgt; split; exact bz0; exact bz_fi _
theorem canB_lt {M : Mem} (H : Inv M) {b : Int32} (h0 : 0 ≤ b) (h : canB M b = true) : ∃ m, m < 512 ∧ b = nI m := by
  unfold canB at h
  rw [Bool.and_eq_true] at h
  have h1 := of_decide_eq_true h.1
  obtain ⟨n, hn, en⟩ := nat_of (n := 9) H.V.2.1 H.V.2.2.1 (by decide)
  rw [en, nn_nI n (by omega)] at h1
  have hpw : (2 : Int) ^ n ≤ 2 ^ 9 := by have := Nat.pow_le_pow_right (n := 2) (by decide) hn; exact_mod_cast this
  have h2 := i_le.mp h0
  have e0 : (0 : Int32).toInt = 0 := rfl
  refine ⟨b.toInt.toNat, by omega, ?_⟩
  rw [i_eq, nI_ti _ (by omega)]
  omega
theorem q_ones {n : Nat} (hn : n < 512) (M' : Mem) (K : Int32 → Mem → Prop) (h : K (bcv (nI n)) M') : f_X12_ones (nI n) M' K := t_ones hn (by rw [← bc_n hn]; exact h)
theorem add1s (x : Int32) : x + 1 - 1 = x := Int32.add_sub_cancel x 1
theorem i_session {M : Mem} (H : Inv M) {n : Nat} {a b : Int32} (hn : n < 30) (en : M 51 5 = nI n) (h0 : 0 ≤ b) (h1 : b < 512) (ha : bz a) : Inv (mset (mset (mset (mset (mset (mset (mset (mset (mset (mset (mset M 56 n (M 1 0)) 57 n b) 58 n a) 59 n 1000000) 60 n 0) 51 5 (nI (n + 1))) 326 n (M 1 0)) 327 n b) 328 n a) 329 n 1000000) 287 52 (nI (n + 1))) := by
  unfold Inv
  simp (disch := omega) only [mset_ne, mset_row, rws_ne, upd_s, upd_n, mput_n, mput_s, rws_put]
  refine ⟨H.R, H.D, H.S, H.P, H.Q, H.W, H.A, H.X, H.B, H.T, ?_, H.V, ?_, H.G, H.C, H.E, H.H, H.F, H.U, H.L, H.O, H.I, H.J, H.K⟩
  · have h := H.M; have hse : M 51 5 ≤ nI (n + 1) := by rw [en]; exact (nI_le_iff (by omega) (by omega)).mpr (by omega)
    unfold gMat mrow at h ⊢; grind
  · have hA := ans_new H hn en
    obtain ⟨a1, a2, a3, a4, a5, a6, a7, a8, a9⟩ := H.N
    rw [en, nn_nI n (by omega)] at a9
    refine ⟨rfl, nI_pos' (by omega), (nI_le_iff (b := 30) (by omega) (by omega)).mpr (by omega), by rw [a4], by rw [a5], by rw [a6], by rw [a7], fun k => ?_, fun k hk => ?_⟩
    · rw [upd_at]; split; exact ha; exact a8 k
    · rw [nn_nI (n + 1) (by omega)] at hk
      by_cases c : k = n
      · subst c
        have d := H.D
        simp only [upd_s]
        exact ⟨d.2.1, Int32.le_refl _, h0, h1, by decide, by decide, Or.inl trivial, by rw [hA]; rfl⟩
      · simp only [upd_n _ _ c]
        exact a9 k (by omega)
def csession (M : Mem) (a b : Int32) : Int32 := if ¬ 0 ≤ a ∨ ¬ 0 ≤ b then -4 else if M 1 0 < a ∨ canB M b = false then -3 else if M 51 5 = 30 then -6 else 0
theorem C_session {M : Mem} (H : Inv M) (a b : Int32) {K : Int32 → Mem → Prop} (k1 : isR (csession M a b) → K (csession M a b) (rfC M (csession M a b)))
    (k2 : (csession M a b) = 0 → K (M 51 5) (mset (mset (mset (mset (mset (mset M 56 (nn (M 51 5)) (M 1 0)) 57 (nn (M 51 5)) b) 58 (nn (M 51 5)) (rgt M a b)) 59 (nn (M 51 5)) 1000000) 60 (nn (M 51 5)) 0) 51 5 (nI (nn (M 51 5) + 1)))) : f_X11_session a b M K := by
  obtain ⟨n, hn, en⟩ := nat_of (n := 30) H.N.2.1 H.N.2.2.1 (by decide)
  obtain ⟨s, hs, es⟩ := nat_of (n := 9) H.V.2.1 H.V.2.2.1 (by decide)
  have e30 : (nI n = 30) ↔ n = 30 := nI_eq_iff (b := 30) (by omega) (by omega)
  have l30 : (nI n < 30) ↔ n < 30 := nI_lt_iff (b := 30) (by omega) (by omega)
  have hv : n < 30 → vp_in (nI n) 30 := fun q => vin_nI q (by decide)
  have z0 := bz0
  have z1 := bz1
  have hp1 : nI n + 1 = nI (n + 1) := nI_1 n
  have hcl : (nI n).toNatClampNeg = n := nI_cl n (by omega)
  have hsb : nI n + 1 - 1 = nI n := add1s _
  have g1 : 0 ≤ b → ∀ K, K (bi (canB M b)) M → f_X11_canBePresent b M K := fun q K h => t_canB H hs es q (by unfold canB at h; rw [es, nn_nI s (by omega)] at h; exact h)
  simp only [f_X11_session, f_X11_session_b8, f_X11_session_b34, f_X11_session_b95, f_X2_meet, f_X2_meet_b61, f_X2_meet_b62, v_bc]
  unfold csession at k1 k2
  unfold isR at k1
  rw [en, nn_nI n (by omega)] at k2
  rw [en] at k1
  have h1 : ∀ u v, (mset (mset M 56 n u) 57 n v) 51 = M 51 := fun u v => by rw [mset_ne _ _ _ (by decide), mset_ne _ _ _ (by decide)]
  have h2 : ∀ x, (if x < (30 : Int32) then True else False) ↔ x < 30 := fun x => by simp
  unfold rgt at k2
  unfold bi at g1
  generalize canB M b = cb at *
  clear H
  grind (splits := 30) [x3, x4, x6, mset_at]
theorem M_session {M : Mem} (H : Inv M) (a b : Int32) {M' : Mem} (hE : Eqm M M') {K : Int32 → Mem → Prop} (k1 : isR (csession M a b) → K (csession M a b) (rfM M' (csession M a b)))
    (k2 : (csession M a b) = 0 → K (M 51 5) (mset (mset (mset (mset (mset M' 326 (nn (M 51 5)) (M 1 0)) 327 (nn (M 51 5)) b) 328 (nn (M 51 5)) (rgt M a b)) 329 (nn (M 51 5)) 1000000) 287 52 (nI (nn (M 51 5) + 1)))) : f_X12_session a b M' K := by
  obtain ⟨n, hn, en⟩ := nat_of (n := 30) H.N.2.1 H.N.2.2.1 (by decide)
  obtain ⟨s, hs, es⟩ := nat_of (n := 9) H.V.2.1 H.V.2.2.1 (by decide)
  have e30 : (nI n = 30) ↔ n = 30 := nI_eq_iff (b := 30) (by omega) (by omega)
  have l30 : (nI n < 30) ↔ n < 30 := nI_lt_iff (b := 30) (by omega) (by omega)
  have hv : n < 30 → vp_in (nI n) 30 := fun q => vin_nI q (by decide)
  have z0 := bz0
  have z1 := bz1
  have hp1 : nI n + 1 = nI (n + 1) := nI_1 n
  have hcl : (nI n).toNatClampNeg = n := nI_cl n (by omega)
  have hsb : nI n + 1 - 1 = nI n := add1s _
  have g2 : canB M b = true → 0 ≤ b → ∀ M' K, K (bcv b) M' → f_X12_ones b M' K := fun q0 q1 M' K h => by obtain ⟨m, hm, em⟩ := canB_lt H q1 q0; rw [em] at h ⊢; exact q_ones hm M' K h
  have g1 : 0 ≤ b → ∀ K, K (bi (canB M b)) M' → f_X12_allSit b M' K := fun q K h => t_allS H hs es q hE (by unfold canB at h; rw [es, nn_nI s (by omega)] at h; exact h)
  simp only [f_X12_session, f_X12_session_b8, f_X12_session_b31, f_X12_session_b117, f_X12_session_b118]
  unfold csession at k1 k2
  unfold isR at k1
  rw [en, nn_nI n (by omega)] at k2
  rw [en] at k1
  have eV : M' 287 52 = nI n := by rw [hE 287 (by decide), H.N.1, en]
  have eN : M' 287 0 = M 1 0 := by rw [hE 287 (by decide), H.D.1]
  have eS : M' 325 0 = M 124 0 := by rw [hE 325 (by decide), H.S.1]
  have eV2 : M' 287 48 = M 51 1 := by rw [hE 287 (by decide), H.V.1]
  unfold rgt at k2
  unfold bi at g1
  generalize canB M b = cb at *
  have h1 : ∀ j j' u v k, mset (mset M' 326 j u) 327 j' v 287 k = M' 287 k := fun j j' u v k => by rw [mset_ne _ _ _ (by decide), mset_ne _ _ _ (by decide)]
  have h3 : ∀ j j' j2 j3 u v w z k, mset (mset (mset (mset M' 326 j u) 327 j' v) 328 j2 w) 329 j3 z 287 k = M' 287 k := fun j j' j2 j3 u v w z k => by rw [mset_ne _ _ _ (by decide), mset_ne _ _ _ (by decide), mset_ne _ _ _ (by decide), mset_ne _ _ _ (by decide)]
  clear H hE
  grind (splits := 30) [y3, y4, y6]
theorem ses_inv {M : Mem} (H : Inv M) {a b : Int32} (h : csession M a b = 0) : Inv (mset (mset (mset (mset (mset (mset (mset (mset (mset (mset (mset M 56 (nn (M 51 5)) (M 1 0)) 57 (nn (M 51 5)) b) 58 (nn (M 51 5)) (rgt M a b)) 59 (nn (M 51 5)) 1000000) 60 (nn (M 51 5)) 0) 51 5 (nI (nn (M 51 5) + 1))) 326 (nn (M 51 5)) (M 1 0)) 327 (nn (M 51 5)) b) 328 (nn (M 51 5)) (rgt M a b)) 329 (nn (M 51 5)) 1000000) 287 52 (nI (nn (M 51 5) + 1))) := by
  obtain ⟨n, hn, en⟩ := nat_of (n := 30) H.N.2.1 H.N.2.2.1 (by decide)
  unfold csession at h
  have e30 : (nI n = 30) ↔ n = 30 := nI_eq_iff (b := 30) (by omega) (by omega)
  have h0 : 0 ≤ b := by grind
  have h1 : canB M b = true := by cases hc : canB M b; (rw [hc] at h; grind); rfl
  have h2 : ¬ n = 30 := by rw [en] at h; grind
  obtain ⟨m, hm, em⟩ := canB_lt H h0 h1
  have h3 : b < 512 := by rw [em]; exact (nI_lt_iff (b := 512) (by omega) (by omega)).mpr hm
  have := i_session H (a := rgt M a b) (by omega : n < 30) en h0 h3 (rgt_bz M a b)
  rw [en, nn_nI n (by omega)]
  exact this
theorem P_session {M : Mem} (H : Inv M) (a b : Int32) : f_X11_session a b M (fun r M1 => f_X12_session a b M1 (fun r' M2 => r' = r ∧ Inv M2)) :=
  C_session H a b (fun hz => M_session H a b (Eqm.rfC M _) (fun _ => ⟨rfl, i_rf H _⟩) (fun h0 => absurd h0 (nR0 hz)))
    (fun h0 => M_session H a b (Eqm.set (Eqm.set (Eqm.set (Eqm.set (Eqm.set (Eqm.set (Eqm.refl M) _ _ (by decide)) _ _ (by decide)) _ _ (by decide)) _ _ (by decide)) _ _ (by decide)) _ _ (by decide)) (fun hz => absurd h0 (nR0 hz)) (fun _ => ⟨rfl, ses_inv H h0⟩))
def cagreementOf (M : Mem) (a b : Int32) : Int32 := if ¬ (0 ≤ a ∧ a ≤ M 62 0 - 1) then -1 else if ¬ (0 ≤ b ∧ b ≤ 4) then -2 else 0
theorem C_agreementOf {M : Mem} (H : Inv M) (a b : Int32) {K : Int32 → Mem → Prop} (k1 : isR (cagreementOf M a b) → K (cagreementOf M a b) (rfC M (cagreementOf M a b)))
    (k2 : (cagreementOf M a b) = 0 → K (if b = 0 then M 63 (nn a) else if b = 1 then M 64 (nn a) else if b = 2 then M 65 (nn a) else if b = 3 then M 66 (nn a) else bi (hldB M (nn a))) M) : f_X11_agreementOf a b M K := by
  simp only [f_X11_agreementOf, f_X11_agreementOf_b105, v_X1_has H.G.2.1 H.G.2.2.1]
  unfold cagreementOf at k1 k2
  unfold isR at k1
  have e2 : ∀ x l g : Int32, inB x l g = if l ≤ x ∧ x ≤ g then 1 else 0 := fun _ _ _ => rfl
  rw [e2]
  have g6 : (b.toInt < 0 ∨ 4 < b.toInt) ↔ ¬ (0 ≤ b ∧ b ≤ 4) := ⟨fun q z => by rw [i_le, i_le] at z; have e0 : (0 : Int32).toInt = 0 := rfl; have e1 : (4 : Int32).toInt = 4 := rfl; omega, ix5⟩
  have g7 : (0 ≤ b ∧ b ≤ 4) → b = 0 ∨ b = 1 ∨ b = 2 ∨ b = 3 ∨ b = 4 := i5
  by_cases c1 : 0 ≤ a ∧ a ≤ M 62 0 - 1
  · obtain ⟨q, rfl, hq, hq2⟩ := H.agN c1
    have g1 := p_holds H hq2
    have hv : vp_in (nI q) 30 := vin_nI hq (by decide)
    rw [nn_nI q (by omega)] at k2
    rw [nI_cl q (by omega)]
    unfold bi at g1 k2
    generalize hldB M q = hb at *
    grind (splits := 40) [x1, x2]
  · grind [x1]
theorem M_agreementOf {M : Mem} (H : Inv M) (a b : Int32) {M' : Mem} (hE : Eqm M M') {K : Int32 → Mem → Prop} (k1 : isR (cagreementOf M a b) → K (cagreementOf M a b) (rfM M' (cagreementOf M a b)))
    (k2 : (cagreementOf M a b) = 0 → K (if b = 0 then M 63 (nn a) else if b = 1 then M 64 (nn a) else if b = 2 then M 65 (nn a) else if b = 3 then M 66 (nn a) else bi (hldB M (nn a))) M') : f_X12_agreementOf a b M' K := by
  simp only [f_X12_agreementOf, f_X12_agreementOf_b98, v_X12_isAgreement, v_X12_in]
  rw [hE 287 (by decide), H.G.1]
  unfold cagreementOf at k1 k2
  unfold isR at k1
  have e2 : ∀ x l g : Int32, inB x l g = if l ≤ x ∧ x ≤ g then 1 else 0 := fun _ _ _ => rfl
  rw [e2, e2]
  have g7 : (0 ≤ b ∧ b ≤ 4) → b = 0 ∨ b = 1 ∨ b = 2 ∨ b = 3 ∨ b = 4 := i5
  rw [hE 330 (by decide), hE 331 (by decide), hE 332 (by decide), hE 333 (by decide), show M 330 = M 63 from H.G.2.2.2.1, show M 331 = M 64 from H.G.2.2.2.2.1, show M 332 = M 65 from H.G.2.2.2.2.2.1, show M 333 = M 66 from H.G.2.2.2.2.2.2.1]
  by_cases c1 : 0 ≤ a ∧ a ≤ M 62 0 - 1
  · obtain ⟨q, rfl, hq, hq2⟩ := H.agN c1
    have g1 := q_holds H hq2 hE
    have hv : vp_in (nI q) 30 := vin_nI hq (by decide)
    rw [nn_nI q (by omega)] at k2
    rw [nI_cl q (by omega)]
    unfold bi at g1 k2
    generalize hldB M q = hb at *
    grind (splits := 40) [y1, y2]
  · grind [y1]
theorem P_agreementOf {M : Mem} (H : Inv M) (a b : Int32) : f_X11_agreementOf a b M (fun r M1 => f_X12_agreementOf a b M1 (fun r' M2 => r' = r ∧ Inv M2)) :=
  C_agreementOf H a b (fun hz => M_agreementOf H a b (Eqm.rfC M _) (fun _ => ⟨rfl, i_rf H _⟩) (fun h0 => absurd h0 (nR0 hz)))
    (fun h0 => M_agreementOf H a b (Eqm.refl M) (fun hz => absurd h0 (nR0 hz)) (fun _ => ⟨rfl, H⟩))
theorem t_voidsM {M : Mem} (H : Inv M) (s : Int32) {M' : Mem} (e317 : M' 317 = M 317) (e318 : M' 318 = M 318) (e321 : M' 321 = M 321) (e287 : M' 287 32 = M 0 5) (K : Int32 → Mem → Prop) (h : K (nI (ansN (nn (M 0 5)) (M 317) (M 318) (M 321) s)) M') :
    Lp (fun (r56 : Int32 × Int32 × Int32 × Mem → Prop) a => f_X12_voids_c56 K r56 a.1 a.2.1 a.2.2.1 a.2.2.2) (s, 0, 0, M') := by
  obtain ⟨o, ho, eo⟩ := nat_of (n := 40) H.m0 H.m1 (by decide)
  have h30 := told30 H
  have hmm := fun i (hi : i < nn (M 0 5)) => (H.mm hi).2.1
  rw [eo, nn_nI o (by omega)] at h h30 hmm
  rw [eo] at e287
  rw [ansN_eq] at h
  refine Lp.up (fun i a => a = (s, nI ((List.range i).map (fun i => cA (M 318) (M 321) s i (nn (M 317 i)))).sum, nI i, M')) o (fun i a r hi ha hr => ?_) (j := 0) (by omega) rfl
  subst ha
  unfold f_X12_voids_c56
  dsimp only
  rw [e287, nI_le_iff (by omega) (by omega)]
  refine ⟨fun c => by rw [show i = o by omega]; exact h, fun c => ?_⟩
  obtain ⟨n, hn, en⟩ := hmm i (by omega)
  have hr2 := hr (by omega) _ rfl
  rw [List.range_succ, List.map_append, List.sum_append, List.map_singleton, List.sum_singleton, en, nn_nI n (by omega)] at hr2
  generalize ((List.range i).map (fun i => cA (M 318) (M 321) s i (nn (M 317 i)))).sum = S at *
  refine Lp.up (fun q a => a = (s, nI (S + cA (M 318) (M 321) s i q), nI i, nI (30 * i + q), M')) n (fun q a r2 hq ha2 hr3 => ?_) (j := 0) (by omega) (by rw [m30]; rfl)
  subst ha2
  have hv : vp_in (nI i) 40 := vin_nI (by omega) (by decide)
  have hle : ((30 : Int32) * nI i + nI n ≤ nI (30 * i + q)) ↔ n ≤ q := by
    rw [m30, nI_add, nI_le_iff (by omega) (by omega)]; omega
  simp only [f_X12_voids_c70, f_X12_voids_b113, f_X12_voids_b114]
  rw [nI_cl i (by omega), e317, en, hle, nI_cl (30 * i + q) (by omega), e318, e321, nI_1, nI_1]
  refine ⟨hv, fun c2 => by rw [show q = n by omega]; exact hr2, fun c2 => ?_⟩
  have hq2 : vp_in (nI (30 * i + q)) 1200 := vin_nI (by omega) (by decide)
  have hr4 := hr3 (by omega) _ rfl
  rw [cA_s, show 30 * i + (q + 1) = 30 * i + q + 1 by omega] at hr4
  refine ⟨hq2, fun c3 => ?_, fun c3 => ⟨hq2, fun c4 => ?_, fun c4 => ?_⟩⟩
  · rw [if_neg (fun z => c3 z.1)] at hr4
    rw [add0]; exact hr4
  · rw [if_neg (fun z => c4 z.2)] at hr4
    rw [add0]; exact hr4
  · rw [if_pos ⟨c3, c4⟩, ← Nat.add_assoc] at hr4
    rw [nI_1]; exact hr4
theorem i_voids {M : Mem} (H : Inv M) {k : Nat} : Inv (mset (mset M 59 k (M 1 0)) 329 k (M 1 0)) := by
  unfold Inv
  simp (disch := omega) only [mset_ne, mset_row, rws_ne, upd_s, upd_n, mput_n, mput_s, rws_put]
  refine ⟨H.R, H.D, H.S, H.P, H.Q, H.W, H.A, H.X, H.B, H.T, H.M, H.V, ?_, H.G, H.C, H.E, H.H, H.F, H.U, H.L, H.O, H.I, H.J, H.K⟩
  · have d := H.D.2; obtain ⟨a1, a2, a3, a4, a5, a6, a7, a8, a9⟩ := H.N; refine ⟨a1, a2, a3, a4, a5, a6, by rw [a7], a8, fun j hj => ?_⟩; have h9 := a9 j hj; rw [upd_at]; grind
def cvoids (M : Mem) (a : Int32) : Int32 := if ¬ (0 ≤ a ∧ a ≤ M 51 5 - 1) then -1 else if ¬ M 58 (nn a) = 0 ∨ ¬ M 59 (nn a) = 1000000 then -3 else 0
theorem C_voids {M : Mem} (H : Inv M) (a : Int32) {K : Int32 → Mem → Prop} (k1 : isR (cvoids M a) → K (cvoids M a) (rfC M (cvoids M a)))
    (k2 : (cvoids M a) = 0 → K (M 60 (nn a)) (mset M 59 (nn a) (M 1 0))) : f_X11_voids a M K := by
  simp only [f_X11_voids, f_X11_voids_b43, v_X2_hasSession H.N.2.1 H.N.2.2.1]
  unfold cvoids at k1 k2
  unfold isR at k1
  have e2 : ∀ x l g : Int32, inB x l g = if l ≤ x ∧ x ≤ g then 1 else 0 := fun _ _ _ => rfl
  rw [e2]
  by_cases c1 : 0 ≤ a ∧ a ≤ M 51 5 - 1
  · obtain ⟨q, rfl, hq, hq2⟩ := H.ses c1
    have hv : vp_in (nI q) 30 := vin_nI hq (by decide)
    rw [nn_nI q (by omega)] at k1 k2
    rw [nI_cl q (by omega)]
    grind [x1, x3]
  · clear k2; grind [x1]
theorem M_voids {M : Mem} (H : Inv M) (a : Int32) {M' : Mem} (hE : Eqm M M') {K : Int32 → Mem → Prop} (k1 : isR (cvoids M a) → K (cvoids M a) (rfM M' (cvoids M a)))
    (k2 : (cvoids M a) = 0 → K (M 60 (nn a)) (mset M' 329 (nn a) (M 1 0))) : f_X12_voids a M' K := by
  simp only [f_X12_voids, f_X12_voids_b35, v_X12_isSession]
  rw [hE 287 (by decide), H.N.1, H.D.1, hE 328 (by decide), hE 329 (by decide), show M 328 = M 58 from H.N.2.2.2.2.2.1, show M 329 = M 59 from H.N.2.2.2.2.2.2.1]
  unfold cvoids at k1 k2
  unfold isR at k1
  have e2 : ∀ x l g : Int32, inB x l g = if l ≤ x ∧ x ≤ g then 1 else 0 := fun _ _ _ => rfl
  rw [e2]
  by_cases c1 : 0 ≤ a ∧ a ≤ M 51 5 - 1
  · obtain ⟨q, rfl, hq, hq2⟩ := H.ses c1
    have hv : vp_in (nI q) 30 := vin_nI hq (by decide)
    obtain ⟨z1, z2, z3, z4, z5, z6, z7, z8⟩ := H.N.2.2.2.2.2.2.2.2 q hq2
    rw [nn_nI q (by omega)] at k1 k2
    rw [nI_cl q (by omega)]
    have g1 := t_voidsM H (nI q) (M' := mset M' 329 q (M 1 0)) (by rw [mset_ne _ _ _ (by decide), hE _ (by decide)]) (by rw [mset_ne _ _ _ (by decide), hE _ (by decide)]) (by rw [mset_ne _ _ _ (by decide), hE _ (by decide)]) (by rw [mset_ne _ _ _ (by decide), hE _ (by decide)]; exact H.M.1) K
    rw [← z8] at g1
    have hle : (1000000 ≤ M 59 q) ↔ M 59 q = 1000000 := by constructor <;> intro _ <;> lia
    grind [y1, y3]
  · clear k2; grind [y1]
theorem P_voids {M : Mem} (H : Inv M) (a : Int32) : f_X11_voids a M (fun r M1 => f_X12_voids a M1 (fun r' M2 => r' = r ∧ Inv M2)) :=
  C_voids H a (fun hz => M_voids H a (Eqm.rfC M _) (fun _ => ⟨rfl, i_rf H _⟩) (fun h0 => absurd h0 (nR0 hz)))
    (fun h0 => M_voids H a (Eqm.set (Eqm.refl M) _ _ (by decide)) (fun hz => absurd h0 (nR0 hz)) (fun _ => ⟨rfl, i_voids H⟩))
