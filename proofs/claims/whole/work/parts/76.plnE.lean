/-! THE PLAN: the two calls -/
theorem nnE {x : Int32} {n : Nat} (h0 : 0 ≤ x) (h1 : x ≤ nI n) (hn : n < 2147483648) : x = nI (nn x) ∧ nn x ≤ n := by
  obtain ⟨j, hj, e⟩ := nat_of h0 h1 hn
  rw [e, nn_nI j (by omega)]
  exact ⟨rfl, hj⟩
theorem nnL {x : Int32} {l : Nat} (h : nI l ≤ x) (e : x = nI (nn x)) (hl : l < 2147483648) (hx : nn x < 2147483648) : l ≤ nn x := by
  rw [e, nI_le_iff hl hx] at h
  exact h
theorem fold_inv {α β : Type} (P : β → Prop) (f : β → α → β) : ∀ (l : List α) (b : β), P b → (∀ b x, x ∈ l → P b → P (f b x)) → P (l.foldl f b)
  | [], _, h, _ => h
  | x :: l, b, h, hs => fold_inv P f l (f b x) (hs b x (List.mem_cons_self ..) h) (fun b y hy => hs b y (List.mem_cons_of_mem _ hy))
theorem pS_bd (R : Nat) (len due wt : Nat → Nat) : ∀ m i pl full late (acc : Ac), late + 6 * m ≤ 42 → (∀ l p, acc = some (l, p) → l ≤ 42) → ∀ l p, pS R len due wt m i pl full late acc = some (l, p) → l ≤ 42
  | 0, i, pl, full, late, acc, h1, h2, l, p, e => by
    unfold pS at e
    cases acc with
    | none => cases e; omega
    | some x =>
      obtain ⟨b, bp⟩ := x
      have hb := h2 b bp rfl
      have e' : (if late < b then some (late, pl) else some (b, bp)) = some (l, p) := e
      by_cases c : late < b
      · rw [if_pos c] at e'; cases e'; omega
      · rw [if_neg c] at e'; cases e'; exact hb
  | m + 1, i, pl, full, late, acc, h1, h2, l, p, e => by
    unfold pS at e
    have key := fold_inv (fun a : Ac => ∀ l p, a = some (l, p) → l ≤ 42) (fun acc p => if mayP R len wt i pl full p then pS R len due wt m (i + 1) (updN pl i p) (updN full p (full p + len i)) (late + (p - due i)) acc else acc) (List.range 7) acc h2 (fun b x hx hb => by
      have hx7 := List.mem_range.mp hx
      by_cases c : mayP R len wt i pl full x = true
      · simp only [if_pos c]
        exact pS_bd R len due wt m (i + 1) _ _ _ b (by omega) hb
      · simp only [if_neg c]
        exact hb)
    exact key l p e
def PL (M : Mem) : Ac := plS (nn (M 124 3)) (nn (M 111 0)) (M 112) (M 113) (M 114)
theorem PL_bd {M : Mem} (H : Inv M) {l : Nat} {p : Nat → Nat} (h : PL M = some (l, p)) : l ≤ 42 := by
  have hn := (nnE (n := 7) H.L.2.1 H.L.2.2.1 (by decide)).2
  exact pS_bd _ _ _ _ _ 0 _ _ 0 none (by omega) (fun _ _ e => by cases e) l p h
theorem Inv.pln {M : Mem} (H : Inv M) : ∀ k, k < nn (M 111 0) → M 112 k = nI (nn (M 112 k)) ∧ 1 ≤ nn (M 112 k) ∧ nn (M 112 k) ≤ 3 ∧ M 113 k = nI (nn (M 113 k)) ∧ nn (M 113 k) ≤ 6 ∧ M 114 k = nI (nn (M 114 k)) ∧ nn (M 114 k) < 128 := by
  intro k hk
  have hn := (nnE (n := 7) H.L.2.1 H.L.2.2.1 (by decide)).2
  obtain ⟨a1, a2, a3, a4, a5, a6⟩ := H.L.2.2.2.2.2.2 k hk
  have z1 := nnE (n := 3) (Int32.le_trans (by decide) a1) a2 (by decide)
  have z2 := nnE (n := 6) a3 a4 (by decide)
  have z3 := nnE (n := 127) a5 (by
    rw [i_le, nI_ti 127 (by decide)]
    have : (2 : Int) ^ k ≤ 2 ^ 6 := by
      have : (2 : Nat) ^ k ≤ 2 ^ 6 := Nat.pow_le_pow_right (by decide) (by omega)
      exact_mod_cast this
    omega) (by decide)
  exact ⟨z1.1, nnL (l := 1) a1 z1.1 (by decide) (by omega), z1.2, z2.1, z2.2, z3.1, by omega⟩
theorem Inv.roo {M : Mem} (H : Inv M) : M 124 3 = nI (nn (M 124 3)) ∧ 3 ≤ nn (M 124 3) ∧ nn (M 124 3) ≤ 9 := by
  obtain ⟨a1, a2, a3, a4, a5, a6, a7, a8⟩ := H.S
  have z1 := nnE (n := 9) (a2 3 (by decide)) a7 (by decide)
  exact ⟨z1.1, nnL (l := 3) a6 z1.1 (by decide) (by omega), z1.2⟩
theorem i_plC {M : Mem} (H : Inv M) {bl : Int32} {f : Nat → Int32} (h : plR (PL M) (-9) (nn (M 111 0)) bl f) : Inv (mput (mset (mset M 111 8 (M 124 3)) 111 7 bl) 117 f) := by
  unfold Inv
  simp (disch := omega) only [mset_ne, mset_row, rws_ne, upd_s, upd_n, mput_n, mput_s, rws_put]
  refine ⟨H.R, H.D, H.S, H.P, H.Q, H.W, H.A, H.X, H.B, H.T, H.M, H.V, H.N, H.G, H.C, H.E, H.H, H.F, H.U, H.L, H.O, ?_, H.J, H.K⟩
  exact Or.inr ⟨nn (M 124 3), H.roo.2.1, H.roo.2.2, H.roo.1, h⟩
theorem C_pl {M : Mem} (H : Inv M) {K : Int32 → Mem → Prop} (h : ∀ M1, Eqm M M1 → Inv M1 → plR (PL M) (-9) (nn (M 111 0)) (M1 111 7) (M1 117) → K (M1 111 7) M1) : f_X6_leastLate (M 124 3) M K := by
  obtain ⟨r1, r2, r3⟩ := H.roo
  have hn := nnE (n := 7) H.L.2.1 H.L.2.2.1 (by decide)
  unfold f_X6_leastLate f_X6_leastLate_b46
  refine ⟨fun c => ?_, fun c => ?_⟩
  · refine h M (Eqm.refl M) H ?_
    rcases H.I with e | ⟨R, b1, b2, e, hp⟩
    · rw [e, r1] at c; exact absurd c.symm (nI_n9 (by omega))
    · rw [c] at e
      unfold PL
      rw [e, nn_nI R (by omega)]
      exact hp
  · generalize hMB : mset M 111 8 (M 124 3) = MB
    have hPH : pnH MB (nn (M 124 3)) (nn (M 111 0)) (fun k => nn (M 112 k)) (fun k => nn (M 113 k)) (fun k => nn (M 114 k)) := by
      subst hMB
      refine ⟨hn.2, r2, r3, ?_, ?_, fun k hk => ?_⟩
      · rw [mset_nk _ _ _ (by decide)]; exact hn.1
      · rw [mset_eq]; exact r1
      · rw [mset_ne _ _ _ (by decide), mset_ne _ _ _ (by decide), mset_ne _ _ _ (by decide)]; exact H.pln k hk
    refine Lp.up (fun j a => ∃ M', a = (nI j, M') ∧ (∀ c k, c ≠ 116 → ¬ (c = 111 ∧ k = 7) → M' c k = MB c k) ∧ M' 111 7 = -9 ∧ ∀ k, k < j → M' 116 k = 0) 7 (fun j a r hj ha hr => ?_) (j := 0) (by omega) ⟨_, rfl, fun c k d1 d2 => by rw [mset_at, if_neg d2], by rw [mset_eq], fun k hk => absurd hk (by omega)⟩
    obtain ⟨M', rfl, f1, f2, f3⟩ := ha
    unfold f_X6_leastLate_c21 f_X6_leastLate_b46
    dsimp only
    rw [lq_7 (by omega)]
    refine ⟨fun c7 => ?_, fun c7 => ⟨vin_nI (by omega) (by decide), ?_⟩⟩
    · refine k_pl hPH 12 0 (fun _ => 0) (fun _ => 0) 0 none M' _ (by omega) (by omega) (fun _ _ => by omega) (fun _ => by omega) (by omega) ⟨fun c k d1 d2 d3 d4 => f1 c k d2 d4, f2, (fun _ _ e => by cases e), fun k hk => absurd hk (by omega), fun p hp => f3 p (by omega)⟩ (fun M3 hM3 => ?_)
      obtain ⟨g1, g2, g3, g4, g5⟩ := hM3
      rw [Nat.sub_zero] at g2
      have hpl : plR (PL M) (-9) (nn (M 111 0)) (M3 111 7) (M3 117) := g2
      refine h M3 (fun c hc => ?_) ?_ hpl
      · funext k
        rw [g1 c k (by omega) (by omega) (by omega) (by omega), ← hMB, mset_ne _ _ _ (by omega)]
      · refine Inv.fr (fun c k hs => ?_) (i_plC H hpl)
        unfold Sc at hs
        by_cases e1 : c = 117
        · subst e1; rw [mput_s]
        · rw [mput_n _ _ e1]
          by_cases e2 : c = 111 ∧ k = 7
          · obtain ⟨rfl, rfl⟩ := e2; rw [mset_eq]
          · rw [g1 c k (by omega) (by omega) e1 e2, mset_at, if_neg e2, hMB]
    · rw [nI_1, nI_cl j (by omega)]
      refine hr (by omega) _ ⟨_, rfl, fun c k d1 d2 => ?_, ?_, fun k hk => ?_⟩
      · rw [mset_ne _ _ _ d1]; exact f1 c k d1 d2
      · rw [mset_ne _ _ _ (by decide)]; exact f2
      · rw [mset_row, upd_at]
        by_cases e : k = j
        · rw [if_pos e]
        · rw [if_neg e]; exact f3 k (by omega)
theorem M_pl {M : Mem} (H : Inv M) {M1 : Mem} (hE : Eqm M M1) (hI : Inv M1) {K : Int32 → Mem → Prop} (h : ∀ v M2, Inv M2 → plR (PL M) (-1) (nn (M 111 0)) v (M2 365) → K v M2) : f_X12_findPlan M1 K := by
  obtain ⟨r1, r2, r3⟩ := H.roo
  have hn := nnE (n := 7) H.L.2.1 H.L.2.2.1 (by decide)
  obtain ⟨l1, l2, l3, l4, l5, l6, l7⟩ := H.L
  have hPM : pnM M1 (nn (M 124 3)) (nn (M 111 0)) (fun k => nn (M 112 k)) (fun k => nn (M 113 k)) (fun k => nn (M 114 k)) := by
    refine ⟨hn.2, r2, r3, ?_, ?_, fun k hk => ?_⟩
    · rw [hE 287 (by decide), l1]; exact hn.1
    · rw [hE 325 (by decide), H.S.1]; exact r1
    · rw [hE 361 (by decide), hE 362 (by decide), hE 363 (by decide), l4, l5, l6]; exact H.pln k hk
  unfold f_X12_findPlan
  refine Lp.up (fun j a => ∃ M', a = (-1, 0, nI j, M') ∧ (∀ c, c ≠ 367 → M' c = M1 c) ∧ ∀ k, k < j → M' 367 k = 0) 7 (fun j a r hj ha hr => ?_) (j := 0) (by omega) ⟨_, rfl, fun c _ => rfl, fun k hk => absurd hk (by omega)⟩
  obtain ⟨M', rfl, f1, f2⟩ := ha
  unfold f_X12_findPlan_c6
  dsimp only
  rw [lq_7 (by omega)]
  refine ⟨fun c7 => ?_, fun c7 => ⟨vin_nI (by omega) (by decide), ?_⟩⟩
  · refine m_pl hPM (nn (M 111 0)) 0 (by omega) (fun _ => 0) (fun _ => 0) (fun _ => 0) none _ (-1) (fun _ _ => by omega) (fun _ => by omega) (by omega) ⟨fun c d1 d2 d3 d4 => ?_, rfl, (fun _ _ e => by cases e), fun k hk => absurd hk (by omega), fun k hk => ?_, fun p hp => ?_⟩ (fun _ => ?_) (fun _ _ _ e => by cases e) (fun M2 v hG => ?_)
    · rw [mset_ne _ _ _ d1, mset_ne _ _ _ d3]; exact f1 c d4
    · rw [show k = 0 by omega, mset_ne _ _ _ (by decide), mset_eq]; rfl
    · rw [mset_ne _ _ _ (by decide), mset_ne _ _ _ (by decide)]; exact f2 p (by omega)
    · rw [mset_eq]
    · obtain ⟨g1, g2, g3, g4, g5, g6⟩ := hG
      refine Lp.one (fun r => ?_)
      show f_X12_findPlan_c39 K r v (nI 0 + -1) M2
      unfold f_X12_findPlan_c39
      refine ⟨fun _ => h v M2 (Inv.fr (fun c k hs => ?_) hI) g2, fun z => absurd (by decide) z⟩
      unfold Sc at hs
      rw [g1 c (by omega) (by omega) (by omega) (by omega)]
  · rw [nI_1, nI_cl j (by omega)]
    refine hr (by omega) _ ⟨_, rfl, fun c d => ?_, fun k hk => ?_⟩
    · rw [mset_ne _ _ _ d]; exact f1 c d
    · rw [mset_row, upd_at]
      by_cases e : k = j
      · rw [if_pos e]
      · rw [if_neg e]; exact f2 k (by omega)
theorem P_plan {M : Mem} (H : Inv M) : f_X11_plan M (fun r M1 => f_X12_plan M1 (fun r' M2 => r' = r ∧ Inv M2)) := by
  unfold f_X11_plan
  refine C_pl H (fun M1 hE hI hp => ?_)
  unfold f_X12_plan f_X12_plan_b15
  refine M_pl H hE hI (fun v M2 hI2 hv => ?_)
  cases hL : PL M with
  | none =>
    rw [hL] at hp hv
    have e1 : M1 111 7 = -9 := hp
    have e2 : v = -1 := hv
    rw [e1, e2]
    exact ⟨fun z => absurd z (by decide), fun _ => ⟨rfl, hI2⟩⟩
  | some x =>
    obtain ⟨l, p⟩ := x
    have hb := PL_bd H hL
    rw [hL] at hp hv
    rw [hp.1, hv.1]
    exact ⟨fun _ => ⟨rfl, hI2⟩, fun z => absurd (nI_pos' (by omega)) z⟩
theorem P_placeOf {M : Mem} (H : Inv M) (a : Int32) : f_X11_placeOf a M (fun r M1 => f_X12_placeOf a M1 (fun r' M2 => r' = r ∧ Inv M2)) := by
  have hn := nnE (n := 7) H.L.2.1 H.L.2.2.1 (by decide)
  have l1 := H.L.1
  have href : f_X11_placeOf_b15 (fun r M1 => f_X12_placeOf a M1 (fun r' M2 => r' = r ∧ Inv M2)) M ↔ f_X12_placeOf a (rfC M (-1)) (fun r' M2 => r' = -1 ∧ Inv M2) := by
    unfold f_X11_placeOf_b15
    rw [x1]
  have hmod : ¬ (0 ≤ a ∧ a < M 111 0) → f_X12_placeOf a (rfC M (-1)) (fun r' M2 => r' = -1 ∧ Inv M2) := by
    intro hc
    unfold f_X12_placeOf
    refine m_in _ _ _ _ _ ?_
    rw [Eqm.rfC M (-1) 287 (by decide), l1, decide_eq_false (fun z => hc ⟨z.1, by
      obtain ⟨z1, z2⟩ := z
      rw [hn.1] at z2 ⊢
      obtain ⟨j, hj, e⟩ := natL (a := a) (x := nI (nn (M 111 0))) rfl (by omega) ⟨z1, z2⟩
      rw [e]; exact (nI_lt_iff (by omega) (by omega)).mpr hj⟩)]
    refine ⟨fun z => absurd rfl z, fun _ => ?_⟩
    rw [y1]
    exact ⟨rfl, i_rf H _⟩
  unfold f_X11_placeOf
  refine ⟨fun c => href.mpr (hmod (fun z => lt_nle.mp c z.1)), fun c => ⟨fun c2 => ?_, fun c2 => href.mpr (hmod (fun z => c2 z.2))⟩⟩
  have h0 : 0 ≤ a := by rw [lt_nle, Classical.not_not] at c; exact c
  have hlt : a < nI (nn (M 111 0)) := by rw [← hn.1]; exact c2
  obtain ⟨j, hj, rfl⟩ := nat_of (x := a) (n := nn (M 111 0)) h0 (Int32.le_of_lt hlt) (by omega)
  rw [nI_lt_iff (by omega) (by omega)] at hlt
  refine C_pl H (fun M1 hE hI hp => ?_)
  unfold f_X11_placeOf_b53
  have hmd : ∀ w : Int32, (∀ v M2, Inv M2 → plR (PL M) (-1) (nn (M 111 0)) v (M2 365) → (0 ≤ v → M2 365 j = w) ∧ (¬ 0 ≤ v → -9 = w)) → f_X12_placeOf (nI j) M1 (fun r' M2 => r' = w ∧ Inv M2) := by
    intro w hw
    unfold f_X12_placeOf f_X12_placeOf_b38
    refine m_in _ _ _ _ _ ?_
    have e97 : M1 287 97 = nI (nn (M 111 0)) := by rw [hE 287 (by decide), l1]; exact hn.1
    have hd : decide (0 ≤ nI j ∧ nI j ≤ M1 287 97 - 1) = true := decide_eq_true ⟨nI_pos' (by omega), by rw [e97, nI_s1 (by omega) (by omega), nI_le_iff (by omega) (by omega)]; omega⟩
    rw [hd]
    refine ⟨fun _ => M_pl H hE hI (fun v M2 hI2 hv => ⟨fun z => ⟨vin_nI (by omega) (by decide), ?_⟩, fun z => ⟨(hw v M2 hI2 hv).2 z, hI2⟩⟩), fun z => absurd z (by decide)⟩
    rw [nI_cl j (by omega)]
    exact ⟨(hw v M2 hI2 hv).1 z, hI2⟩
  cases hL : PL M with
  | none =>
    have e1 : M1 111 7 = -9 := by rw [hL] at hp; exact hp
    refine ⟨fun z => absurd e1 z, fun _ => hmd _ (fun v M2 hI2 hv => ?_)⟩
    rw [hL] at hv
    have e2 : v = -1 := hv
    rw [e2]
    exact ⟨fun z => absurd z (by decide), fun _ => rfl⟩
  | some x =>
    obtain ⟨l, p⟩ := x
    have hb := PL_bd H hL
    rw [hL] at hp
    rw [hp.1]
    refine ⟨fun _ => ⟨vin_nI (by omega) (by decide), ?_⟩, fun z => absurd z (nI_n9 (by omega))⟩
    rw [nI_cl j (by omega), hp.2 j hlt]
    refine hmd _ (fun v M2 hI2 hv => ?_)
    rw [hL] at hv
    rw [hv.1]
    exact ⟨fun _ => hv.2 j hlt, fun z => absurd (nI_pos' (by omega)) z⟩
