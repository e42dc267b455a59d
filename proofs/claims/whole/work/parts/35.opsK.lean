/-! seats, sessions, agreements: the calls -/
theorem Eqm.set {M M' : Mem} (h : Eqm M M') {c : Nat} (k : Nat) (v : Int32) (hc : c < 287) : Eqm M (mset M' c k v) := fun c' q => (mset_ne _ _ _ (by omega)).trans (h c' q)
theorem Inv.peo {M : Mem} (H : Inv M) {a : Int32} (h : 0 ≤ a ∧ a ≤ M 4 0 - 1) : ∃ i, a = nI i ∧ i < 24 ∧ i < nn (M 4 0) := by
  obtain ⟨n, hn, en⟩ := nat_of (n := 24) H.P.2.1 H.P.2.2.1 (by decide)
  obtain ⟨i, hi, ei⟩ := natL en (by omega) h
  exact ⟨i, ei, by omega, by rw [en, nn_nI n (by omega)]; exact hi⟩
theorem Inv.sea {M : Mem} (H : Inv M) {a : Int32} (h : 0 ≤ a ∧ a ≤ M 51 1 - 1) : ∃ i, a = nI i ∧ i < 9 ∧ i < nn (M 51 1) := by
  obtain ⟨n, hn, en⟩ := nat_of (n := 9) H.V.2.1 H.V.2.2.1 (by decide)
  obtain ⟨i, hi, ei⟩ := natL en (by omega) h
  exact ⟨i, ei, by omega, by rw [en, nn_nI n (by omega)]; exact hi⟩
theorem Inv.ses {M : Mem} (H : Inv M) {a : Int32} (h : 0 ≤ a ∧ a ≤ M 51 5 - 1) : ∃ i, a = nI i ∧ i < 30 ∧ i < nn (M 51 5) := by
  obtain ⟨n, hn, en⟩ := nat_of (n := 30) H.N.2.1 H.N.2.2.1 (by decide)
  obtain ⟨i, hi, ei⟩ := natL en (by omega) h
  exact ⟨i, ei, by omega, by rw [en, nn_nI n (by omega)]; exact hi⟩
theorem Inv.agN {M : Mem} (H : Inv M) {a : Int32} (h : 0 ≤ a ∧ a ≤ M 62 0 - 1) : ∃ i, a = nI i ∧ i < 30 ∧ i < nn (M 62 0) := by
  obtain ⟨n, hn, en⟩ := nat_of (n := 30) H.G.2.1 H.G.2.2.1 (by decide)
  obtain ⟨i, hi, ei⟩ := natL en (by omega) h
  exact ⟨i, ei, by omega, by rw [en, nn_nI n (by omega)]; exact hi⟩
def sitB (M : Mem) (s : Nat) (b : Int32) : Bool := exB (fun q => decide (¬ q = s ∧ M 54 q = b)) (nn (M 51 1))
theorem t_sitM {M : Mem} (H : Inv M) {M' : Mem} (hE : Eqm M M') {s p : Nat} (hs : s < 9) (hp : p < 24) (hp2 : p < nn (M 4 0)) (K : Int32 → Mem → Prop) (h : (sitB M s (nI p) = true ∨ M 6 p = 0 ∨ ¬ M 5 p = M 53 s → K (-3) (rfM M' (-3))) ∧ (¬ (sitB M s (nI p) = true ∨ M 6 p = 0 ∨ ¬ M 5 p = M 53 s) → K 1 (mset M' 324 s (nI p)))) :
    Lp (fun (r27 : Int32 × Int32 × Int32 × Int32 × Mem → Prop) a => f_X12_sit_c27 K r27 a.1 a.2.1 a.2.2.1 a.2.2.2.1 a.2.2.2.2) (nI s, nI p, 0, 0, M') := by
  obtain ⟨v1, v2, v3, v4, v5, v6, v7, v8, v9⟩ := H.V
  obtain ⟨q1, p0, p1, q4, q5, q6, q7, q8, q9, q10, q11, q12⟩ := H.P
  obtain ⟨n, hn, e⟩ := nat_of (n := 9) v2 v3 (by decide)
  unfold sitB at h
  rw [e, nn_nI n (by omega)] at h
  refine Lp.up (fun q a => a = (nI s, nI p, bi (exB (fun q => decide (¬ q = s ∧ M 54 q = nI p)) q), nI q, M')) n (fun q a r hq ha hr => ?_) (j := 0) (by omega) rfl
  subst ha
  have hvp : vp_in (nI p) 24 := vin_nI hp (by decide)
  have hvs : vp_in (nI s) 9 := vin_nI hs (by decide)
  have h6 := q8 p hp2
  simp only [f_X12_sit_c27, f_X12_sit_b57, f_X12_sit_b61, f_X12_sit_b62, f_X12_sit_b97]
  rw [hE 287 (by decide), v1, e, nI_le_iff (by omega) (by omega), nI_cl q (by omega), nI_cl p (by omega), nI_cl s (by omega), nI_1, nI_eq_iff (by omega) (by omega), hE 324 (by decide), hE 294 (by decide), hE 289 (by decide), hE 323 (by decide), v6, v5, q4]
  refine ⟨fun c => ?_, fun c => ?_⟩
  · rw [show n = q by omega] at h
    cases hx : exB (fun q => decide (¬ q = s ∧ M 54 q = nI p)) q <;> rw [hx] at h <;> simp only [bi] <;> grind [y3]
  · have hv : vp_in (nI q) 9 := vin_nI (by omega) (by decide)
    have hr2 := hr (by omega) _ rfl
    rw [show exB (fun q => decide (¬ q = s ∧ M 54 q = nI p)) (q + 1) = (exB (fun q => decide (¬ q = s ∧ M 54 q = nI p)) q || decide (¬ q = s ∧ M 54 q = nI p)) from rfl] at hr2
    cases hx : exB (fun q => decide (¬ q = s ∧ M 54 q = nI p)) q <;> rw [hx] at hr2 <;> simp only [bi] at hr2 ⊢ <;> grind
theorem i_sit {M : Mem} (H : Inv M) {s p : Nat} (hp : p < nn (M 4 0)) (hp24 : p < 24) : Inv (mset (mset M 54 s (nI p)) 324 s (nI p)) := by
  unfold Inv
  simp (disch := omega) only [mset_ne, mset_row, rws_ne, upd_s, upd_n, mput_n, mput_s, rws_put]
  refine ⟨H.R, H.D, H.S, H.P, H.Q, H.W, H.A, H.X, H.B, H.T, H.M, ?_, H.N, H.G, H.C, H.E, H.H, H.F, H.U, H.L, H.O, H.I, H.J, H.K⟩
  · have h := H.V; have hP := H.P.2.1; have hP1 := H.P.2.2.1; unfold gSeat at h ⊢; obtain ⟨v1, v2, v3, v4, v5, v6, v7, v8, v9⟩ := h; refine ⟨v1, v2, v3, v4, v5, by rw [v6], v7, v8, fun k hk => ?_⟩; rw [upd_at]; split; exact Or.inr ⟨nI_pos' (by omega), by obtain ⟨m, hm, em⟩ := nat_of (n := 24) hP hP1 (by decide); rw [em, nn_nI m (by omega)] at hp; rw [em]; exact (nI_lt_iff (by omega) (by omega)).mpr hp⟩; exact v9 k hk
def csit (M : Mem) (a b : Int32) : Int32 := if ¬ (0 ≤ a ∧ a ≤ M 51 1 - 1) ∨ ¬ (0 ≤ b ∧ b ≤ M 4 0 - 1) then -1 else if sitB M (nn a) b = true ∨ M 6 (nn b) = 0 ∨ ¬ M 5 (nn b) = M 53 (nn a) then -3 else 0
theorem C_sit {M : Mem} (H : Inv M) (a b : Int32) {K : Int32 → Mem → Prop} (k1 : isR (csit M a b) → K (csit M a b) (rfC M (csit M a b)))
    (k2 : (csit M a b) = 0 → K 1 (mset M 54 (nn a) b)) : f_X11_sit a b M K := by
  simp only [f_X11_sit, f_X11_sit_b22, f_X11_sit_b73, v_X2_hasSeat H.V.2.1 H.V.2.2.1, v_X9_has H.P.2.1 H.P.2.2.1]
  unfold csit at k1 k2
  unfold isR at k1
  have e2 : ∀ x l g : Int32, inB x l g = if l ≤ x ∧ x ≤ g then 1 else 0 := fun _ _ _ => rfl
  rw [e2, e2]
  by_cases c1 : 0 ≤ a ∧ a ≤ M 51 1 - 1
  · by_cases c2 : 0 ≤ b ∧ b ≤ M 4 0 - 1
    · obtain ⟨s, rfl, hs, hs2⟩ := H.sea c1
      obtain ⟨p, rfl, hp, hp2⟩ := H.peo c2
      obtain ⟨n, hn, en⟩ := nat_of (n := 9) H.V.2.1 H.V.2.2.1 (by decide)
      have g1 : ∀ K, K (bi (sitB M s (nI p))) M → f_X2_sitsElsewhere (nI p) (nI s) M K := fun K h => t_sitE hn hs en _ (by unfold sitB at h; rw [en, nn_nI n (by omega)] at h; exact h)
      have hvp : vp_in (nI p) 24 := vin_nI hp (by decide)
      have hvs : vp_in (nI s) 9 := vin_nI hs (by decide)
      rw [nn_nI s (by omega), nn_nI p (by omega)] at k1 k2
      rw [nI_cl s (by omega), nI_cl p (by omega)]
      unfold bi at g1
      generalize sitB M s (nI p) = sb at *
      grind [x1, x3]
    · clear k2; grind [x1]
  · clear k2; grind [x1]
theorem M_sit {M : Mem} (H : Inv M) (a b : Int32) {M' : Mem} (hE : Eqm M M') {K : Int32 → Mem → Prop} (k1 : isR (csit M a b) → K (csit M a b) (rfM M' (csit M a b)))
    (k2 : (csit M a b) = 0 → K 1 (mset M' 324 (nn a) b)) : f_X12_sit a b M' K := by
  simp only [f_X12_sit, f_X12_sit_b16, v_X12_isSeat, v_X12_isPerson]
  rw [hE 287 (by decide), H.V.1, H.P.1]
  unfold csit at k1 k2
  unfold isR at k1
  have e2 : ∀ x l g : Int32, inB x l g = if l ≤ x ∧ x ≤ g then 1 else 0 := fun _ _ _ => rfl
  rw [e2, e2]
  by_cases c1 : 0 ≤ a ∧ a ≤ M 51 1 - 1
  · by_cases c2 : 0 ≤ b ∧ b ≤ M 4 0 - 1
    · obtain ⟨s, rfl, hs, hs2⟩ := H.sea c1
      obtain ⟨p, rfl, hp, hp2⟩ := H.peo c2
      have g1 := t_sitM H hE hs hp hp2
      rw [nn_nI s (by omega), nn_nI p (by omega)] at k1 k2
      generalize sitB M s (nI p) = sb at *
      rw [if_pos c1, if_pos c2]
      refine ⟨fun z => absurd z (by decide), fun _ => ⟨fun _ => g1 K ⟨fun c3 => ?_, fun c3 => ?_⟩, fun z => absurd z (by decide)⟩⟩
      · grind
      · grind
    · clear k2; grind [y1]
  · clear k2; grind [y1]
theorem sit_inv {M : Mem} (H : Inv M) {a b : Int32} (h : csit M a b = 0) : Inv (mset (mset M 54 (nn a) b) 324 (nn a) b) := by
  unfold csit at h
  by_cases c2 : 0 ≤ b ∧ b ≤ M 4 0 - 1
  · obtain ⟨p, rfl, hp, hp2⟩ := H.peo c2
    exact i_sit H hp2 hp
  · rw [if_pos (Or.inr c2)] at h
    exact absurd h (by decide)
theorem P_sit {M : Mem} (H : Inv M) (a b : Int32) : f_X11_sit a b M (fun r M1 => f_X12_sit a b M1 (fun r' M2 => r' = r ∧ Inv M2)) :=
  C_sit H a b (fun hz => M_sit H a b (Eqm.rfC M _) (fun _ => ⟨rfl, i_rf H _⟩) (fun h0 => absurd h0 (nR0 hz)))
    (fun h0 => M_sit H a b (Eqm.set (Eqm.refl M) _ _ (by decide)) (fun hz => absurd h0 (nR0 hz)) (fun _ => ⟨rfl, sit_inv H h0⟩))
