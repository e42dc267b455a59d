/-- at the head of the loop: the next place to be tried is p -/
def pnE (M0 : Mem) (n i : Nat) (pl full lt len : Nat → Nat) (acc : Ac) (p : Nat) (x1 : Int32) (M : Mem) : Prop :=
  pnG M0 n i pl (if p = 0 then full else updN full (p - 1) (full (p - 1) + len i)) lt acc x1 M ∧ M 364 i = nI p - 1
theorem pn_head {M0 : Mem} {R n : Nat} {len due wt : Nat → Nat} (H : pnM M0 R n len due wt) {i : Nat} (hi : i < n) {pl full lt : Nat → Nat} (hb : ∀ k, k < i → pl k ≤ 6) (hf : ∀ p, full p ≤ 9) {acc : Ac} {x1 : Int32} {M : Mem} {p : Nat} (hp : p ≤ 7) (hE : pnE M0 n i pl full lt len acc p x1 M)
    {K : Int32 → Mem → Prop} {a' : Int32 × Int32 × Mem} (h : ∀ r : Int32 × Int32 × Mem → Prop, r a' → ∀ M1, M1 = (if p = 0 then M else mset M 367 (p - 1) (nI (full (p - 1)))) → f_X12_findPlan_b151 r K x1 (nI i) (nI (pnN R len wt i pl full (7 - p) p)) M1) (h' : Lp (pnB K) a') : Lp (pnB K) (x1, nI i, M) := by
  have H' := H
  obtain ⟨hn, hR1, hR2, e0, e3, ht⟩ := H'
  obtain ⟨hC, e64⟩ := hE
  obtain ⟨c1, c2, c3, c4, c5, c6⟩ := hC
  obtain ⟨t1, t2, t3, t4, t5, t6, t7⟩ := ht i hi
  refine Lp.next (fun r hr => ?_) h'
  have h1 := h r hr _ rfl
  show f_X12_findPlan_c39 K r x1 (nI i) M
  unfold f_X12_findPlan_c39
  have e0' : M 287 97 = nI n := by rw [c1 287 (by decide) (by decide) (by decide) (by decide)]; exact e0
  have e61 : M 361 i = nI (len i) := by rw [c1 361 (by decide) (by decide) (by decide) (by decide)]; exact t1
  rw [e0', nI_eq_iff (by omega) (by omega)]
  refine ⟨fun z => absurd z (nI_pos (by omega)), fun _ => ⟨fun _ => ⟨vin_nI (by omega) (by decide), ?_⟩, fun z => absurd z (by omega)⟩⟩
  rw [nI_cl i (by omega), e64]
  by_cases q : p = 0
  · subst q
    rw [if_pos rfl] at h1 c6
    refine ⟨fun _ => ?_, fun z => absurd (by decide) z⟩
    exact pn_seek H hi hb hf ⟨c1, c2, c3, c4, c5, c6⟩ hp e64 h1
  · rw [if_neg q] at h1 c6
    have hs : nI p - 1 = nI (p - 1) := nI_s1 (by omega) (by omega)
    rw [hs, nI_cl (p - 1) (by omega)]
    refine ⟨fun z => absurd z (nI_pos (by omega)), fun _ => ⟨vin_nI (by omega) (by decide), vin_nI (by omega) (by decide), vin_nI (by omega) (by decide), vin_nI (by omega) (by decide), ?_⟩⟩
    have hfp := hf (p - 1)
    rw [c6 (p - 1) (by omega), updN_s, e61, nI_sb (by omega) (by omega), Nat.add_sub_cancel]
    refine pn_seek (lt := lt) (acc := acc) H hi hb hf ⟨fun c d1 d2 d3 d4 => ?_, ?_, c3, fun k hk => ?_, fun k hk => ?_, fun x hx => ?_⟩ hp ?_ h1
    · rw [mset_ne _ _ _ d4]; exact c1 c d1 d2 d3 d4
    · rw [mset_ne _ _ _ (by decide)]; exact c2
    · rw [mset_ne _ _ _ (by decide)]; exact c4 k hk
    · rw [mset_ne _ _ _ (by decide)]; exact c5 k hk
    · rw [mset_row, upd_at]
      by_cases e : x = p - 1
      · subst e; rw [if_pos rfl]
      · rw [if_neg e, c6 x hx, updN_n _ _ e]
    · rw [mset_ne _ _ _ (by decide)]; exact e64
theorem pn_rm {M0 : Mem} {n i : Nat} {pl full lt len : Nat → Nat} {acc : Ac} {p : Nat} {x1 : Int32} {M M1 : Mem} (hE : pnE M0 n i pl full lt len acc p x1 M) (e : M1 = if p = 0 then M else mset M 367 (p - 1) (nI (full (p - 1)))) : pnG M0 n i pl full lt acc x1 M1 := by
  obtain ⟨⟨c1, c2, c3, c4, c5, c6⟩, e64⟩ := hE
  subst e
  by_cases q : p = 0
  · rw [if_pos q] at c6 ⊢
    exact ⟨c1, c2, c3, c4, c5, c6⟩
  · rw [if_neg q] at c6 ⊢
    refine ⟨fun c d1 d2 d3 d4 => ?_, ?_, c3, fun k hk => ?_, fun k hk => ?_, fun x hx => ?_⟩
    · rw [mset_ne _ _ _ d4]; exact c1 c d1 d2 d3 d4
    · rw [mset_ne _ _ _ (by decide)]; exact c2
    · rw [mset_ne _ _ _ (by decide)]; exact c4 k hk
    · rw [mset_ne _ _ _ (by decide)]; exact c5 k hk
    · rw [mset_row, upd_at]
      by_cases e : x = p - 1
      · subst e; rw [if_pos rfl]
      · rw [if_neg e, c6 x hx, updN_n _ _ e]
theorem m_pl {M0 : Mem} {R n : Nat} {len due wt : Nat → Nat} (H : pnM M0 R n len due wt) {K : Int32 → Mem → Prop} : ∀ (m i : Nat), i + m = n → ∀ (pl full lt : Nat → Nat) (acc : Ac) (M : Mem) (x1 : Int32), (∀ k, k < i → pl k ≤ 6) → (∀ p, full p ≤ 9) → lt i ≤ 6 * i → pnG M0 n i pl full lt acc x1 M →
    (i < 7 → M 364 i = -1) → (i = n → ∀ b bp, acc = some (b, bp) → lt i < b) → (∀ M' x1', pnG M0 n i pl full lt (pS R len due wt m i pl full (lt i) acc) x1' M' → Lp (pnB K) (x1', nI i + -1, M')) → Lp (pnB K) (x1, nI i, M) := by
  intro m
  induction m with
  | zero =>
    intro i him pl full lt acc M x1 hb hf hl hC h364 hbest h
    have hin : i = n := by omega
    subst hin
    refine pn_leaf H hC (h _ _ ?_)
    obtain ⟨c1, c2, c3, c4, c5, c6⟩ := hC
    have hacc : pS R len due wt 0 i pl full (lt i) acc = some (lt i, pl) := by
      unfold pS
      cases acc with
      | none => rfl
      | some x =>
        obtain ⟨b, bp⟩ := x
        exact if_pos (hbest rfl b bp rfl)
    rw [hacc]
    have hn7 := H.1
    refine ⟨fun c d1 d2 d3 d4 => ?_, ⟨rfl, fun k hk => ?_⟩, fun l p e => ?_, fun k hk => ?_, fun k hk => ?_, fun x hx => ?_⟩
    · rw [cpM_o M d2]; exact c1 c d1 d2 d3 d4
    · rw [cpM_s M i k hk]; exact c4 k hk
    · cases e; omega
    · rw [cpM_o M (by decide)]; exact c4 k hk
    · rw [cpM_o M (by decide)]; exact c5 k hk
    · rw [cpM_o M (by decide)]; exact c6 x hx
  | succ m ih =>
    intro i him pl full lt acc M x1 hb hf hl hC h364 hbest h
    have H' := H
    obtain ⟨hn, hR1, hR2, e0, e3, ht⟩ := H'
    obtain ⟨t1, t2, t3, t4, t5, t6, t7⟩ := ht i (by omega)
    have Q : ∀ (d p : Nat), 7 - p < d → p ≤ 7 → ∀ (M : Mem) (x1 : Int32), pnE M0 n i pl full lt len (pnA R len due wt m i pl full (lt i) acc p) p x1 M → Lp (pnB K) (x1, nI i, M) := by
      intro d
      induction d with
      | zero => intro p hd; exact absurd hd (by omega)
      | succ d ihd =>
        intro p hd hp M x1 hE
        have hN := pnN_ge R len wt i pl full (7 - p) p
        have hNm := pnN_may R len wt i pl full (7 - p) p
        have hNA := pnA_N R len due wt m i pl full (lt i) acc (7 - p) p
        have hpos := hE.2
        generalize hq : pnN R len wt i pl full (7 - p) p = q at hN hNm hNA
        generalize hM1 : (if p = 0 then M else mset M 367 (p - 1) (nI (full (p - 1)))) = M1
        have hC1 := pn_rm hE hM1.symm
        have hC1' := hC1
        obtain ⟨c1, c2, c3, c4, c5, c6⟩ := hC1'
        rw [← hNA] at c2 c3 hC1
        by_cases hq7 : q = 7
        · subst hq7
          refine pn_head H (by omega) hb hf hp hE (fun r hr M1' hM1' => ?_) (h M1 x1 (by rw [pS_s]; exact hC1))
          rw [hM1] at hM1'
          subst hM1'
          rw [hq]
          unfold f_X12_findPlan_b151
          exact ⟨fun z => absurd rfl z, fun _ => hr⟩
        · have hmay := hNm (by omega)
          have hfq := hf q
          have hfit := ((pn_may R len wt i pl full q).mp hmay).1
          have e61 : M1 361 i = nI (len i) := by rw [c1 361 (by decide) (by decide) (by decide) (by decide)]; exact t1
          have e62 : M1 362 i = nI (due i) := by rw [c1 362 (by decide) (by decide) (by decide) (by decide)]; exact t4
          have hs := pnA_s R len due wt m i pl full (lt i) acc q
          rw [if_pos hmay] at hs
          generalize hA : pnA R len due wt m i pl full (lt i) acc q = A at *
          have hli : ∀ k, k ≤ i → updN lt (i + 1) (lt i + (q - due i)) k = lt k := fun k hk => updN_n _ _ (by omega)
          generalize hM3 : mset (mset (mset M1 364 i (nI q)) 367 q (nI (full q + len i))) 366 (i + 1) (nI (lt i + (q - due i))) = M3
          have hG3 : pnG M0 n (i + 1) (updN pl i q) (updN full q (full q + len i)) (updN lt (i + 1) (lt i + (q - due i))) A x1 M3 := by
            subst hM3
            refine ⟨fun c d1 d2 d3 d4 => ?_, ?_, c3, fun k hk => ?_, fun k hk => ?_, fun x hx => ?_⟩
            · rw [mset_ne _ _ _ d3, mset_ne _ _ _ d4, mset_ne _ _ _ d1]; exact c1 c d1 d2 d3 d4
            · rw [mset_ne _ _ _ (by decide), mset_ne _ _ _ (by decide), mset_ne _ _ _ (by decide)]; exact c2
            · rw [mset_ne _ _ _ (by decide), mset_ne _ _ _ (by decide), mset_row, upd_at]
              by_cases e : k = i
              · subst e; rw [if_pos rfl, updN_s]
              · rw [if_neg e, updN_n _ _ e]; exact c4 k (by omega)
            · rw [mset_row, upd_at]
              by_cases e : k = i + 1
              · subst e; rw [if_pos rfl, updN_s]
              · rw [if_neg e, updN_n _ _ e, mset_ne _ _ _ (by decide), mset_ne _ _ _ (by decide)]; exact c5 k (by omega)
            · rw [mset_ne _ _ _ (by decide), mset_row, upd_at]
              by_cases e : x = q
              · subst e; rw [if_pos rfl, updN_s]
              · rw [if_neg e, updN_n _ _ e, mset_ne _ _ _ (by decide)]; exact c6 x hx
          have hrun : ∀ r : Int32 × Int32 × Mem → Prop, f_X12_findPlan_b220 r K x1 (nI i) (nI (q - due i)) (nI (lt i)) (nI (i + 1)) (mset (mset M1 364 i (nI q)) 367 q (nI (full q + len i))) → f_X12_findPlan_b151 r K x1 (nI i) (nI q) M1 := by
            intro r hr
            unfold f_X12_findPlan_b151
            refine ⟨fun _ => ⟨vin_nI (by omega) (by decide), vin_nI (by omega) (by decide), vin_nI (by omega) (by decide), vin_nI (by omega) (by decide), vin_nI (by omega) (by decide), vin_nI (by omega) (by decide), ?_⟩, fun z => absurd z (by rw [show (7 : Int32) = nI 7 from rfl, nI_eq_iff (by omega) (by omega)]; exact hq7)⟩
            rw [nI_cl i (by omega), nI_cl q (by omega), c6 q (by omega), e61, e62, c5 i (Nat.le_refl _), nI_add, nI_1, nI_le_iff (by omega) (by omega)]
            refine ⟨fun z => ?_, fun z => ⟨vin_nI (by omega) (by decide), ?_⟩⟩
            · rw [show q - due i = 0 by omega] at hr
              exact hr
            · rw [nI_sb (by omega) (by omega)]
              exact hr
          have hfin : ∀ M' x1', pnG M0 n (i + 1) (updN pl i q) (updN full q (full q + len i)) (updN lt (i + 1) (lt i + (q - due i))) (pnA R len due wt m i pl full (lt i) acc (q + 1)) x1' M' → Lp (pnB K) (x1', nI i, M') := by
            intro M' x1' hG
            refine ihd (q + 1) (by omega) (by omega) M' x1' ⟨?_, ?_⟩
            · obtain ⟨g1, g2, g3, g4, g5, g6⟩ := hG
              rw [if_neg (by omega), Nat.add_sub_cancel]
              exact ⟨g1, g2, g3, fun k hk => by rw [g4 k (by omega), updN_n _ _ (by omega)], fun k hk => by rw [g5 k (by omega), hli k hk], g6⟩
            · rw [hG.2.2.2.1 i (by omega), updN_s, nI_s1 (by omega) (by omega), Nat.add_sub_cancel]
          have hlt7 : ((7 : Int32) ≤ nI (i + 1)) ↔ 7 ≤ i + 1 := lq_7 (by omega)
          have hdesc : (∀ b bp, A = some (b, bp) → lt i + (q - due i) < b) → Lp (pnB K) (x1, nI (i + 1), if 7 ≤ i + 1 then M3 else mset M3 364 (i + 1) (-1)) := by
            intro hlb
            refine ih (i + 1) (by omega) (updN pl i q) (updN full q (full q + len i)) (updN lt (i + 1) (lt i + (q - due i))) A _ x1 (fun k hk => ?_) (fun x => ?_) ?_ ?_ (fun z => ?_) (fun _ b bp e => ?_) (fun M' x1' hG => ?_)
            · by_cases e : k = i
              · subst e; rw [updN_s]; omega
              · rw [updN_n _ _ e]; exact hb k (by omega)
            · by_cases e : x = q
              · subst e; rw [updN_s]; omega
              · rw [updN_n _ _ e]; exact hf x
            · rw [updN_s]; omega
            · by_cases z : 7 ≤ i + 1
              · rw [if_pos z]; exact hG3
              · rw [if_neg z]
                obtain ⟨g1, g2, g3, g4, g5, g6⟩ := hG3
                refine ⟨fun c d1 d2 d3 d4 => ?_, ?_, g3, fun k hk => ?_, fun k hk => ?_, fun x hx => ?_⟩
                · rw [mset_ne _ _ _ d1]; exact g1 c d1 d2 d3 d4
                · rw [mset_ne _ _ _ (by decide)]; exact g2
                · rw [mset_row, upd_n _ _ (by omega)]; exact g4 k hk
                · rw [mset_ne _ _ _ (by decide)]; exact g5 k hk
                · rw [mset_ne _ _ _ (by decide)]; exact g6 x hx
            · rw [if_neg (by omega), mset_eq]
            · rw [updN_s]; exact hlb b bp e
            · rw [updN_s, ← hs] at hG
              rw [x_m1, nI_s1 (by omega) (by omega), Nat.add_sub_cancel]
              exact hfin M' x1' hG
          have hb254 : ∀ r : Int32 × Int32 × Mem → Prop, r (x1, nI (i + 1), if 7 ≤ i + 1 then M3 else mset M3 364 (i + 1) (-1)) → f_X12_findPlan_b238 r K x1 (nI i) M3 := by
            intro r hr
            unfold f_X12_findPlan_b238 f_X12_findPlan_b254
            rw [nI_1, hlt7]
            refine ⟨fun z => ?_, fun z => ⟨vin_nI (by omega) (by decide), ?_⟩⟩
            · rw [if_pos z] at hr; exact hr
            · rw [if_neg z] at hr
              rw [nI_cl (i + 1) (by omega)]; exact hr
          cases hAc : A with
          | none =>
            have ex1 : x1 = -1 := by rw [hAc] at c2; exact c2
            refine pn_head H (by omega) hb hf hp hE (fun r hr M1' hM1' => ?_) (hdesc (fun b bp e => absurd (hAc.symm.trans e) (by simp)))
            rw [hM1] at hM1'
            subst hM1'
            rw [hq]
            refine hrun r ?_
            unfold f_X12_findPlan_b220
            rw [nI_cl (i + 1) (by omega), nI_add, hM3]
            exact ⟨vin_nI (by omega) (by decide), fun _ => hb254 r hr, fun z => absurd (by rw [ex1]; decide) z⟩
          | some y =>
            obtain ⟨b, bp⟩ := y
            have ex1 : x1 = nI b := by rw [hAc] at c2; exact c2.1
            have hb42 : b ≤ 42 := c3 b bp hAc
            have e366 : M3 366 (i + 1) = nI (lt i + (q - due i)) := by rw [← hM3, mset_eq]
            by_cases hlb : lt i + (q - due i) < b
            · refine pn_head H (by omega) hb hf hp hE (fun r hr M1' hM1' => ?_) (hdesc (fun b' bp' e => by rw [hAc] at e; cases e; exact hlb))
              rw [hM1] at hM1'
              subst hM1'
              rw [hq]
              refine hrun r ?_
              unfold f_X12_findPlan_b220
              rw [nI_cl (i + 1) (by omega), nI_add, hM3, nI_1, nI_cl (i + 1) (by omega), e366, ex1, nI_le_iff (by omega) (by omega), ← ex1]
              exact ⟨vin_nI (by omega) (by decide), fun _ => hb254 r hr, fun _ => ⟨vin_nI (by omega) (by decide), fun z => absurd z (by omega), fun _ => hb254 r hr⟩⟩
            · have hpr : pnA R len due wt m i pl full (lt i) acc (q + 1) = A := by
                rw [hs, hAc]
                exact pn_prune R len due wt b bp m (i + 1) _ _ _ _ _ (fun _ _ => Nat.le_refl _) (fun _ => Nat.le_refl _) (by omega)
              refine pn_head H (by omega) hb hf hp hE (fun r hr M1' hM1' => ?_) (hfin M3 x1 (by rw [hpr]; exact hG3))
              rw [hM1] at hM1'
              subst hM1'
              rw [hq]
              refine hrun r ?_
              unfold f_X12_findPlan_b220 f_X12_findPlan_b254
              rw [nI_cl (i + 1) (by omega), nI_add, hM3, nI_1, nI_cl (i + 1) (by omega), e366, ex1, nI_le_iff (by omega) (by omega)]
              refine ⟨vin_nI (by omega) (by decide), fun z => absurd z (nI_pos (by omega)), fun _ => ⟨vin_nI (by omega) (by decide), fun _ => ?_, fun z => absurd z (by omega)⟩⟩
              rw [← ex1]; exact hr
    refine Q 8 0 (by omega) (by omega) M x1 ⟨?_, ?_⟩
    · rw [if_pos rfl]; exact hC
    · rw [h364 (by omega)]; rfl
