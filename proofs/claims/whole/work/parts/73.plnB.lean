/-! THE PLAN, the class: its search gives what pS says -/
abbrev Ac : Type := Option (Nat × (Nat → Nat))
def pnH (M0 : Mem) (R n : Nat) (len due wt : Nat → Nat) : Prop :=
  n ≤ 7 ∧ 3 ≤ R ∧ R ≤ 9 ∧ M0 111 0 = nI n ∧ M0 111 8 = nI R ∧ ∀ k, k < n → M0 112 k = nI (len k) ∧ 1 ≤ len k ∧ len k ≤ 3 ∧ M0 113 k = nI (due k) ∧ due k ≤ 6 ∧ M0 114 k = nI (wt k) ∧ wt k < 128
def pnC (M0 : Mem) (n i : Nat) (pl full : Nat → Nat) (acc : Ac) (M : Mem) : Prop :=
  (∀ c k, c ≠ 115 → c ≠ 116 → c ≠ 117 → ¬ (c = 111 ∧ k = 7) → M c k = M0 c k) ∧ plR acc (-9) n (M 111 7) (M 117) ∧ (∀ l p, acc = some (l, p) → l ≤ 42) ∧
  (∀ k, k < i → M 115 k = nI (pl k)) ∧ ∀ p, p < 7 → M 116 p = nI (full p)
theorem pn_first {i : Nat} (hi : i < 7) {w : Nat} (hw : w < 128) {pl : Nat → Nat} {M : Mem} (h4 : M 114 i = nI w) (h5 : ∀ k, k < i → M 115 k = nI (pl k)) (hb : ∀ k, k < i → pl k ≤ 20) {K : Int32 → Mem → Prop} (h : K (nI (pnP w pl i)) M) : f_X6_firstPlace (nI i) M K := by
  unfold f_X6_firstPlace
  refine Lp.up (fun j a => a = (nI i, nI (pnP w pl j), nI j, M)) i (fun j a r hj ha hr => ?_) (j := 0) (by omega) rfl
  subst ha
  show f_X6_firstPlace_c4 K r (nI i) (nI (pnP w pl j)) (nI j) M
  unfold f_X6_firstPlace_c4 f_X6_firstPlace_b36
  have hP : pnP w pl j ≤ 21 := pnP_bd w pl 21 j (fun k hk => by have := hb k (by omega); omega)
  rw [nI_le_iff (by omega) (by omega)]
  refine ⟨fun c => ?_, fun c => ⟨vin_nI hi (by decide), ?_⟩⟩
  · rw [show j = i by omega]; exact h
  · have hr2 := hr (by omega) _ rfl
    unfold pnP at hr2
    rw [nI_cl i (by omega), nI_cl j (by omega), h4, btS _ _ (by omega), btN (by omega)]
    refine ⟨fun b => ?_, fun b => ⟨vin_nI (by omega) (by decide), ?_⟩⟩
    · rw [if_neg b] at hr2
      rw [nI_1]; exact hr2
    · rw [if_pos b] at hr2
      have h5j := h5 j (by omega)
      have hbj := hb j (by omega)
      rw [h5j, nI_1, nI_1, if_nI (by omega) (by omega)]
      exact hr2
theorem pn_least {M0 : Mem} {R n : Nat} {len due wt : Nat → Nat} (H : pnH M0 R n len due wt) {i : Nat} {pl full : Nat → Nat} {acc : Ac} (hi : i ≤ n) (hb : ∀ k, k < i → pl k ≤ 6) (hf : ∀ p, full p ≤ 9) {M : Mem} (hM : pnC M0 n i pl full acc M) {K : Int32 → Mem → Prop}
    (h : pnL R len due wt (n - i) i pl full ≤ 98 → ∀ M', pnC M0 n i pl full acc M' → K (nI (pnL R len due wt (n - i) i pl full)) M') : f_X6_leastLateFrom (nI i) M K := by
  obtain ⟨hn, hR1, hR2, e0, e8, ht⟩ := H
  unfold f_X6_leastLateFrom
  generalize hL : pnL R len due wt (n - i) i pl full = L at h
  refine Lp.up (fun j a => ∃ plj s M', a = (nI s, nI j, M') ∧ i ≤ j ∧ pnC M0 n j plj full acc M' ∧ (∀ k, k < i → plj k = pl k) ∧ (∀ k, k < j → plj k ≤ 7 + k) ∧ s ≤ 14 * j ∧ s + pnL R len due wt (n - j) j plj full = L) n (fun j a r hj ha hr => ?_) (j := i) hi
    ⟨pl, 0, M, rfl, Nat.le_refl _, hM, fun _ _ => rfl, fun k hk => by have := hb k hk; omega, Nat.zero_le _, by rw [Nat.zero_add]; exact hL⟩
  obtain ⟨plj, s, M', rfl, hij, hC, hp1, hp2, hs, hsum⟩ := ha
  obtain ⟨c1, c2, c3, c4, c5⟩ := hC
  unfold f_X6_leastLateFrom_c4
  dsimp only
  rw [c1 111 0 (by decide) (by decide) (by decide) (by decide), e0, nI_le_iff (by omega) (by omega)]
  refine ⟨fun c => ?_, fun c => ?_⟩
  · rw [show n - j = 0 by omega] at hsum
    unfold pnL at hsum
    rw [Nat.add_zero] at hsum
    subst hsum
    exact h (by omega) M' ⟨c1, c2, c3, fun k hk => by rw [c4 k (by omega), hp1 k hk], c5⟩
  · obtain ⟨t1, t2, t3, t4, t5, t6, t7⟩ := ht j (by omega)
    have e112 : M' 112 j = nI (len j) := (c1 112 j (by decide) (by decide) (by decide) (by omega)).trans t1
    have e113 : M' 113 j = nI (due j) := (c1 113 j (by decide) (by decide) (by decide) (by omega)).trans t4
    have e114 : M' 114 j = nI (wt j) := (c1 114 j (by decide) (by decide) (by decide) (by omega)).trans t6
    have e8' : M' 111 8 = nI R := (c1 111 8 (by decide) (by decide) (by decide) (by decide)).trans e8
    refine pn_first (by omega) t7 e114 c4 (fun k hk => by have := hp2 k hk; omega) ?_
    have hPb : pnP (wt j) plj j ≤ 7 + j := pnP_bd _ _ _ _ (fun k hk => by have := hp2 k hk; omega)
    generalize hq : pnT R len wt j plj full = q
    have hqb : q ≤ 7 + j := by
      subst hq
      have := pnF_bd R (len j) full (7 - pnP (wt j) plj j) (pnP (wt j) plj j)
      unfold pnT
      omega
    have hfin : ∀ r' : Int32 × Int32 × Mem → Prop, (∀ a', (∃ plj s M', a' = (nI s, nI (j + 1), M') ∧ i ≤ j + 1 ∧ pnC M0 n (j + 1) plj full acc M' ∧ (∀ k, k < i → plj k = pl k) ∧ (∀ k, k < j + 1 → plj k ≤ 7 + k) ∧ s ≤ 14 * (j + 1) ∧ s + pnL R len due wt (n - (j + 1)) (j + 1) plj full = L) → r' a') → f_X6_leastLateFrom_b53 r' K (nI s) (nI j) (nI q) M' := by
      intro r' hr'
      unfold f_X6_leastLateFrom_b53
      refine ⟨vin_nI (by omega) (by decide), vin_nI (by omega) (by decide), ?_⟩
      rw [nI_cl j (by omega), e113, pn_late (by omega) (by omega), nI_add, nI_1]
      refine hr' _ ⟨updN plj j q, s + (q - due j), _, rfl, by omega, ⟨fun c k d1 d2 d3 d4 => ?_, ?_, c3, fun k hk => ?_, fun p hp => ?_⟩, fun k hk => ?_, fun k hk => ?_, by omega, ?_⟩
      · rw [mset_ne _ _ _ d1]; exact c1 c k d1 d2 d3 d4
      · rw [mset_ne _ _ _ (by decide), mset_ne _ _ _ (by decide)]; exact c2
      · rw [mset_row, upd_at]
        by_cases e : k = j
        · subst e; rw [if_pos rfl, updN_s]
        · rw [if_neg e, updN_n _ _ e]; exact c4 k (by omega)
      · rw [mset_ne _ _ _ (by decide)]; exact c5 p hp
      · rw [updN_n _ _ (by omega)]; exact hp1 k hk
      · by_cases e : k = j
        · subst e; rw [updN_s]; exact hqb
        · rw [updN_n _ _ e]; exact hp2 k (by omega)
      · rw [show n - j = (n - (j + 1)) + 1 by omega] at hsum
        unfold pnL at hsum
        rw [hq] at hsum
        omega
    refine Lp.up (fun p a => a = (nI s, nI j, nI p, M') ∧ pnF R (len j) full (7 - p) p = q) 14 (fun p a r' hp ha' hr' => ?_) (j := pnP (wt j) plj j) (by omega) ⟨rfl, hq⟩
    obtain ⟨rfl, hF⟩ := ha'
    unfold f_X6_leastLateFrom_c19
    dsimp only
    rw [lq_7 (by omega)]
    refine ⟨fun c6 => ?_, fun c6 => ⟨vin_nI (by omega) (by decide), vin_nI (by omega) (by decide), ?_⟩⟩
    · rw [show 7 - p = 0 by omega] at hF
      unfold pnF at hF
      rw [hF]
      exact hfin r (hr (by omega))
    · rw [nI_cl p (by omega), nI_cl j (by omega), c5 p (by omega), e112, e8', nI_add, nI_le_iff (by have := hf p; omega) (by omega)]
      rw [show 7 - p = (7 - (p + 1)) + 1 by omega] at hF
      unfold pnF at hF
      refine ⟨fun c7 => ?_, fun c7 => ?_⟩
      · rw [if_pos c7] at hF
        rw [hF]
        exact hfin r (hr (by omega))
      · rw [if_neg c7] at hF
        rw [nI_1]
        exact hr' (by omega) _ ⟨rfl, hF⟩
theorem pn_keep {M0 : Mem} {R n : Nat} {len due wt : Nat → Nat} (H : pnH M0 R n len due wt) {pl full : Nat → Nat} {acc : Ac} {late : Nat} (hl : late ≤ 42) {M : Mem} (hM : pnC M0 n n pl full acc M) {K : Mem → Prop}
    (h : ∀ M', pnC M0 n n pl full (some (late, pl)) M' → K M') : f_X6_keepPlaces (nI late) M K := by
  obtain ⟨hn, hR1, hR2, e0, e8, ht⟩ := H
  obtain ⟨c1, c2, c3, c4, c5⟩ := hM
  unfold f_X6_keepPlaces
  refine Lp.up (fun j a => ∃ M', a = (nI j, M') ∧ (∀ c k, c ≠ 117 → M' c k = mset M 111 7 (nI late) c k) ∧ ∀ k, k < j → M' 117 k = nI (pl k)) n (fun j a r hj ha hr => ?_) (j := 0) (by omega) ⟨_, rfl, fun _ _ _ => rfl, fun k hk => absurd hk (by omega)⟩
  obtain ⟨M', rfl, f1, f2⟩ := ha
  unfold f_X6_keepPlaces_c7
  dsimp only
  have e0' : M' 111 0 = nI n := by
    rw [f1 111 0 (by decide), mset_row, upd_n _ _ (by decide)]
    exact (c1 111 0 (by decide) (by decide) (by decide) (by decide)).trans e0
  rw [e0', nI_le_iff (by omega) (by omega)]
  refine ⟨fun c => ?_, fun c => ⟨vin_nI (by omega) (by decide), vin_nI (by omega) (by decide), ?_⟩⟩
  · refine h M' ⟨fun c k d1 d2 d3 d4 => ?_, ⟨?_, fun k hk => f2 k (by omega)⟩, fun l p e => ?_, fun k hk => ?_, fun p hp => ?_⟩
    · rw [f1 c k d3, mset_at, if_neg d4]; exact c1 c k d1 d2 d3 d4
    · rw [f1 111 7 (by decide), mset_eq]
    · cases e; exact hl
    · rw [f1 115 k (by decide), mset_ne _ _ _ (by decide)]; exact c4 k hk
    · rw [f1 116 p (by decide), mset_ne _ _ _ (by decide)]; exact c5 p hp
  · rw [nI_1, nI_cl j (by omega)]
    refine hr (by omega) _ ⟨_, rfl, fun c k d => ?_, fun k hk => ?_⟩
    · rw [mset_ne _ _ _ d]; exact f1 c k d
    · rw [mset_row, upd_at]
      by_cases e : k = j
      · subst e
        rw [if_pos rfl, f1 115 k (by decide), mset_ne _ _ _ (by decide)]
        exact c4 k (by omega)
      · rw [if_neg e]; exact f2 k (by omega)
theorem k_pl {M0 : Mem} {R n : Nat} {len due wt : Nat → Nat} (H : pnH M0 R n len due wt) : ∀ (d i : Nat) (pl full : Nat → Nat) (late : Nat) (acc : Ac) (M : Mem) (K : Mem → Prop), n - i < d → i ≤ n → (∀ k, k < i → pl k ≤ 6) → (∀ p, full p ≤ 9) → late ≤ 6 * i → pnC M0 n i pl full acc M →
    (∀ M', pnC M0 n i pl full (pS R len due wt (n - i) i pl full late acc) M' → K M') → fr_pl d (nI i) (nI late) M K := by
  intro d
  induction d with
  | zero => intro i pl full late acc M K h; exact absurd h (by omega)
  | succ d ih =>
    intro i pl full late acc M K hd hi hb hf hl hM h
    have H' := H
    obtain ⟨hn, hR1, hR2, e0, e8, ht⟩ := H'
    show f_X6_settleFrom (fr_pl d) (nI i) (nI late) M K
    have key : ∀ M1, pnC M0 n i pl full acc M1 → (i = n → ∀ b bp, acc = some (b, bp) → late < b) → f_X6_settleFrom_b32 (fr_pl d) K (nI i) (nI late) M1 := by
      intro M1 hM1 hbest
      have hM1' := hM1
      obtain ⟨c1, c2, c3, c4, c5⟩ := hM1'
      unfold f_X6_settleFrom_b32
      rw [c1 111 0 (by decide) (by decide) (by decide) (by decide), e0, nI_eq_iff (by omega) (by omega)]
      refine ⟨fun c => ?_, fun c => ?_⟩
      · obtain ⟨t1, t2, t3, t4, t5, t6, t7⟩ := ht i (by omega)
        unfold f_X6_settleOn
        refine pn_first (pl := pl) (w := wt i) (by omega) t7 ((c1 114 i (by decide) (by decide) (by decide) (by omega)).trans t6) c4 (fun k hk => by have := hb k hk; omega) ?_
        have hP : pnP (wt i) pl i ≤ 7 := pnP_bd _ _ _ _ (fun k hk => by have := hb k hk; omega)
        refine Lp.up (fun p a => ∃ M', a = (nI i, nI late, nI p, M') ∧ pnP (wt i) pl i ≤ p ∧ pnC M0 n i pl full (pnA R len due wt (n - (i + 1)) i pl full late acc p) M') 7 (fun p a r hp ha hr => ?_) (j := pnP (wt i) pl i) hP ⟨M1, rfl, Nat.le_refl _, by rw [pnA_lo _ _ _ _ _ _ _ _ _ _ _ (Nat.le_refl _)]; exact hM1⟩
        obtain ⟨M', rfl, hpp, hC⟩ := ha
        have hC' := hC
        obtain ⟨c1, c2, c3, c4, c5⟩ := hC
        show f_X6_settleOn_c6 (fr_pl d) K r (nI i) (nI late) (nI p) M'
        unfold f_X6_settleOn_c6
        rw [lq_7 (by omega)]
        refine ⟨fun c6 => ?_, fun c6 => ⟨vin_nI (by omega) (by decide), vin_nI (by omega) (by decide), ?_⟩⟩
        · rw [show p = 7 by omega, ← pS_s, show n - (i + 1) + 1 = n - i by omega] at hC'
          exact h M' hC'
        · have e112 : M' 112 i = nI (len i) := (c1 112 i (by decide) (by decide) (by decide) (by omega)).trans t1
          have e113 : M' 113 i = nI (due i) := (c1 113 i (by decide) (by decide) (by decide) (by omega)).trans t4
          have e8' : M' 111 8 = nI R := (c1 111 8 (by decide) (by decide) (by decide) (by decide)).trans e8
          have hfp := hf p
          rw [nI_cl p (by omega), nI_cl i (by omega), c5 p (by omega), e112, e113, e8', nI_add, nI_le_iff (by omega) (by omega)]
          refine ⟨fun c7 => ⟨vin_nI (by omega) (by decide), vin_nI (by omega) (by decide), vin_nI (by omega) (by decide), vin_nI (by omega) (by decide), vin_nI (by omega) (by decide), ?_⟩, fun c7 => ?_⟩
          · have hmay : mayP R len wt i pl full p = true := (pn_may R len wt i pl full p).mpr ⟨c7, hpp⟩
            rw [pn_late (by omega) (by omega), nI_add, nI_1]
            refine ih (i + 1) (updN pl i p) (updN full p (full p + len i)) (late + (p - due i)) (pnA R len due wt (n - (i + 1)) i pl full late acc p) _ _ (by omega) (by omega) (fun k hk => ?_) (fun q => ?_) (by omega) ⟨fun c k d1 d2 d3 d4 => ?_, ?_, c3, fun k hk => ?_, fun q hq => ?_⟩ (fun M2 hM2 => ⟨vin_nI (by omega) (by decide), vin_nI (by omega) (by decide), vin_nI (by omega) (by decide), ?_⟩)
            · by_cases e : k = i
              · subst e; rw [updN_s]; omega
              · rw [updN_n _ _ e]; exact hb k (by omega)
            · by_cases e : q = p
              · subst e; rw [updN_s]; omega
              · rw [updN_n _ _ e]; exact hf q
            · rw [mset_ne _ _ _ d1, mset_ne _ _ _ d2]; exact c1 c k d1 d2 d3 d4
            · rw [mset_ne _ _ _ (by decide), mset_ne _ _ _ (by decide), mset_ne _ _ _ (by decide), mset_ne _ _ _ (by decide)]; exact c2
            · rw [mset_row, upd_at]
              by_cases e : k = i
              · subst e; rw [if_pos rfl, updN_s]
              · rw [if_neg e, updN_n _ _ e, mset_ne _ _ _ (by decide)]; exact c4 k (by omega)
            · rw [mset_ne _ _ _ (by decide), mset_row, upd_at]
              by_cases e : q = p
              · subst e; rw [if_pos rfl, updN_s]
              · rw [if_neg e, updN_n _ _ e]; exact c5 q hq
            · obtain ⟨g1, g2, g3, g4, g5⟩ := hM2
              unfold f_X6_settleOn_b93
              have e112' : M2 112 i = nI (len i) := (g1 112 i (by decide) (by decide) (by decide) (by omega)).trans t1
              rw [g5 p (by omega), updN_s, e112', nI_sb (by omega) (by omega), Nat.add_sub_cancel, nI_1]
              refine hr (by omega) _ ⟨_, rfl, by omega, ?_⟩
              rw [pnA_s, if_pos hmay]
              refine ⟨fun c k d1 d2 d3 d4 => ?_, ?_, g3, fun k hk => ?_, fun q hq => ?_⟩
              · rw [mset_ne _ _ _ d2]; exact g1 c k d1 d2 d3 d4
              · rw [mset_ne _ _ _ (by decide), mset_ne _ _ _ (by decide)]; exact g2
              · rw [mset_ne _ _ _ (by decide), g4 k (by omega), updN_n _ _ (by omega)]
              · rw [mset_row, upd_at]
                by_cases e : q = p
                · subst e; rw [if_pos rfl]
                · rw [if_neg e, g5 q hq, updN_n _ _ e]
          · unfold f_X6_settleOn_b93
            rw [nI_1]
            refine hr (by omega) _ ⟨_, rfl, by omega, ?_⟩
            rw [pnA_s, if_neg (fun z => c7 ((pn_may R len wt i pl full p).mp z).1)]
            exact hC'
      · subst c
        refine pn_keep H (by omega) hM1 (fun M' hM' => h M' ?_)
        rw [Nat.sub_self]
        unfold pS
        cases acc with
        | none => exact hM'
        | some x =>
          obtain ⟨b, bp⟩ := x
          have hlt : late < b := hbest rfl b bp rfl
          show pnC M0 i i pl full (if late < b then some (late, pl) else some (b, bp)) M'
          rw [if_pos hlt]
          exact hM'
    have hM' := hM
    obtain ⟨c1, c2, c3, c4, c5⟩ := hM'
    unfold f_X6_settleFrom
    rw [c1 111 0 (by decide) (by decide) (by decide) (by decide), e0, nI_lt_iff (by omega) (by omega)]
    refine ⟨fun z => absurd z (by omega), fun _ => ?_⟩
    cases acc with
    | none =>
      have e7 : M 111 7 = -9 := c2
      rw [e7]
      exact ⟨fun _ => key M hM (fun _ b bp e => absurd e (by simp)), fun z => absurd rfl z⟩
    | some x =>
      obtain ⟨b, bp⟩ := x
      have e7 : M 111 7 = nI b := c2.1
      have hb42 : b ≤ 42 := c3 b bp rfl
      rw [e7]
      refine ⟨fun z => absurd z (nI_n9 (by omega)), fun _ => ?_⟩
      refine pn_least H hi hb hf hM (fun hL98 M6 hM6 => ?_)
      have hM6' := hM6
      obtain ⟨-, g2, -, -, -⟩ := hM6'
      have e7' : M6 111 7 = nI b := g2.1
      rw [e7', nI_add, nI_lt_iff (by omega) (by omega)]
      refine ⟨fun z => key M6 hM6 (fun hin b' bp' e => ?_), fun z => h M6 ?_⟩
      · cases e; omega
      · rw [pn_prune R len due wt b bp (n - i) i pl full late pl full (fun _ _ => Nat.le_refl _) (fun _ => Nat.le_refl _) (by omega)]
        exact hM6
