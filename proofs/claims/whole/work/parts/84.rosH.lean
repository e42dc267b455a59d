/-! SHIFTS, the model: the search -/
abbrev rqB (K : Int32 → Mem → Prop) : (Int32 × Int32 × Int32 × Mem → Prop) → Int32 × Int32 × Int32 × Mem → Prop := fun r45 a => f_X12_seekShifts_c45 K r45 a.1 a.2.1 a.2.2.1 a.2.2.2
/-- what the model's search is given -/
def SHM (r most : Nat) (w : Nat → Nat → Nat) (cs : List Nat) (M : Mem) : Prop :=
  r < 8 ∧ most ≤ 4 ∧ cs.length ≤ 24 ∧ (∀ a, a < cs.length → cs.getD a 0 < 256) ∧ M 325 4 = nI most ∧ LsM cs M ∧ (∀ d c, w d c ≤ 4) ∧
  ∀ (M' : Mem) (d c : Nat) (K : Int32 → Mem → Prop), (∀ k, M' 349 k = M 349 k) → (∀ k, M' 348 k = M 348 k) → d < 4 → c < 256 → K (nI (w d c)) M' → f_X12_brokenBy (nI d) (nI c) M' K
def MG (M0 : Mem) (pre : List Nat) (lt sa wp : Nat → Nat) (acc : Ar) (x : Int32) (M : Mem) : Prop :=
  (∀ c k, c ≠ 350 → c ≠ 351 → c ≠ 352 → c ≠ 355 → c ≠ 356 → M c k = M0 c k) ∧
  (match acc with | none => x = -1 | some (b, p) => x = nI b ∧ b ≤ 16 ∧ ∀ e, e < 4 → M 352 e = nI (p.getD (3 - e) 0)) ∧
  (∀ k, k < pre.length → M 350 k = nI (pre.getD (pre.length - 1 - k) 0)) ∧ (∀ k, k ≤ pre.length → M 351 k = nI (lt k)) ∧ (∀ k, k ≤ pre.length → M 356 k = nI (sa k)) ∧ ∀ k, k < pre.length → M 355 k = nI (wp k)
def rqN (r most : Nat) (cs pre : List Nat) : Nat → Nat → Nat
  | 0, k => k
  | q + 1, k => if stO r most pre (cs.getD k 0) = true then k else rqN r most cs pre q (k + 1)
theorem rqN_ge (r most : Nat) (cs pre : List Nat) : ∀ q k, k ≤ rqN r most cs pre q k ∧ rqN r most cs pre q k ≤ k + q
  | 0, k => ⟨Nat.le_refl _, Nat.le_refl _⟩
  | q + 1, k => by
    unfold rqN
    have := rqN_ge r most cs pre q (k + 1)
    split <;> omega
theorem rqN_may (r most : Nat) (cs pre : List Nat) : ∀ q k, rqN r most cs pre q k < k + q → stO r most pre (cs.getD (rqN r most cs pre q k) 0) = true
  | 0, k, h => absurd h (by unfold rqN; omega)
  | q + 1, k, h => by
    unfold rqN at h ⊢
    by_cases c : stO r most pre (cs.getD k 0) = true
    · rw [if_pos c]; exact c
    · rw [if_neg c] at h ⊢
      exact rqN_may r most cs pre q (k + 1) (by omega)
theorem rqN_A (r most : Nat) (w : Nat → Nat → Nat) (cs : List Nat) (m : Nat) (pre : List Nat) (cost : Nat) (acc : Ar) : ∀ q k, k + q ≤ cs.length → rA r most w cs m pre cost (cs.take (rqN r most cs pre q k)) acc = rA r most w cs m pre cost (cs.take k) acc
  | 0, k, _ => rfl
  | q + 1, k, h => by
    unfold rqN
    by_cases c : stO r most pre (cs.getD k 0) = true
    · rw [if_pos c]
    · rw [if_neg c, rqN_A r most w cs m pre cost acc q (k + 1) (by omega), take_s (by omega), rA_snoc, if_neg c]
def cqM (M : Mem) : Nat → Mem
  | 0 => M
  | j + 1 => mset (cqM M j) 352 j (cqM M j 350 j)
theorem cqM_o (M : Mem) {c : Nat} (h : c ≠ 352) : ∀ j, cqM M j c = M c
  | 0 => rfl
  | j + 1 => by unfold cqM; rw [mset_ne _ _ _ h, cqM_o M h j]
theorem cqM_s (M : Mem) : ∀ j k, k < j → cqM M j 352 k = M 350 k
  | 0, k, h => absurd h (by omega)
  | j + 1, k, h => by
    unfold cqM
    rw [mset_row, upd_at, cqM_o M (by decide) j]
    by_cases e : k = j
    · subst e; rw [if_pos rfl]
    · rw [if_neg e]; exact cqM_s M j k (by omega)
theorem rq_seek {M0 : Mem} {r most : Nat} {w : Nat → Nat → Nat} {cs : List Nat} (H : SHM r most w cs M0) {pre : List Nat} (hp : pre.length < 4) (hpc : ∀ c, c ∈ pre → c < 256) {lt sa wp : Nat → Nat} {acc : Ar} {x : Int32} {M : Mem} (hsa : sa pre.length = w16 (cnS pre)) (hC : MG M0 pre lt sa wp acc x M) {k : Nat} (hk : k ≤ cs.length) (e355 : M 355 pre.length = nI k - 1)
    {K : Int32 → Mem → Prop} {a' : Int32 × Int32 × Int32 × Mem} (h : ∀ r45 : Int32 × Int32 × Int32 × Mem → Prop, r45 a' → f_X12_seekShifts_b88 r45 K (nI r) x (nI pre.length) (nI (rqN r most cs pre (cs.length - k) k)) M) (h' : Lp (rqB K) a') : Lp (rqB K) (nI r, x, nI pre.length, M) := by
  obtain ⟨hr8, hm4, hlen, hcs, e4, hLM, hw4, hbk⟩ := H
  obtain ⟨c1, c2, c3, c4, c5, c6⟩ := hC
  refine Lp.next (fun r45 hr => ?_) h'
  have h1 := h r45 hr
  show f_X12_seekShifts_c45 K r45 (nI r) x (nI pre.length) M
  unfold f_X12_seekShifts_c45
  refine ⟨fun z => absurd z (nI_pos (by omega)), fun _ => ⟨vin_nI (by omega) (by decide), ?_⟩⟩
  rw [nI_cl pre.length (by omega), e355, show nI k - 1 + 1 = nI k by rw [Int32.sub_add_cancel]]
  generalize hq : rqN r most cs pre (cs.length - k) k = q at h1
  have e86 : M 287 86 = nI cs.length := (c1 287 86 (by decide) (by decide) (by decide) (by decide) (by decide)).trans hLM.1
  refine Lp.up (fun j a => a = (nI r, x, nI pre.length, nI j, M) ∧ rqN r most cs pre (cs.length - j) j = q) cs.length (fun j a r61 hj ha hr61 => ?_) (j := k) hk ⟨rfl, hq⟩
  obtain ⟨rfl, hN⟩ := ha
  show f_X12_seekShifts_c61 r45 K r61 (nI r) x (nI pre.length) (nI j) M
  unfold f_X12_seekShifts_c61
  rw [e86, nI_le_iff (by omega) (by omega)]
  refine ⟨fun c => ?_, fun c => ?_⟩
  · rw [show cs.length - j = 0 by omega] at hN
    unfold rqN at hN
    rw [hN]; exact h1
  · rw [show cs.length - j = (cs.length - (j + 1)) + 1 by omega] at hN
    unfold rqN at hN
    obtain ⟨l1, l2⟩ := hLM.2 j (by omega)
    refine q_may (r := r) (most := most) (pre := pre) (c := cs.getD j 0) hr8 hm4 hp hpc (hcs j (by omega)) (by omega) (by rw [c5 _ (Nat.le_refl _), hsa]) ?_ ?_ ?_ c3 ?_
    · rw [c1 354 j (by decide) (by decide) (by decide) (by decide) (by decide)]; exact l2
    · rw [c1 353 j (by decide) (by decide) (by decide) (by decide) (by decide)]; exact l1
    · rw [c1 325 4 (by decide) (by decide) (by decide) (by decide) (by decide)]; exact e4
    · by_cases b : stO r most pre (cs.getD j 0) = true
      · rw [if_pos b] at hN
        rw [b, hN]
        exact ⟨fun _ => h1, fun z => absurd z (by decide)⟩
      · rw [if_neg b] at hN
        rw [Bool.not_eq_true] at b
        rw [b, nI_1]
        exact ⟨fun z => absurd rfl z, fun _ => hr61 (by omega) _ ⟨rfl, hN⟩⟩
theorem rS_1 (r most : Nat) (w : Nat → Nat → Nat) (cs pre : List Nat) (cost : Nat) (acc : Ar) : rS r most w cs 0 pre cost acc = if faO r pre = true then upA acc (cost, pre) else acc := rS_z r most w cs pre cost acc
theorem MG.down {M0 : Mem} {c : Nat} {pre : List Nat} {lt sa wp lt' sa' wp' : Nat → Nat} {acc : Ar} {x : Int32} {M : Mem} (h : MG M0 (c :: pre) lt' sa' wp' acc x M) (h1 : ∀ k, k ≤ pre.length → lt' k = lt k) (h2 : ∀ k, k ≤ pre.length → sa' k = sa k) (h3 : ∀ k, k < pre.length → wp' k = wp k) : MG M0 pre lt sa wp acc x M := by
  obtain ⟨c1, c2, c3, c4, c5, c6⟩ := h
  refine ⟨c1, c2, fun k hk => ?_, fun k hk => ?_, fun k hk => ?_, fun k hk => ?_⟩
  · have := c3 k (by rw [List.length_cons]; omega)
    rw [List.length_cons, Nat.add_sub_cancel, show pre.length - k = (pre.length - 1 - k) + 1 by omega, List.getD_cons_succ] at this
    exact this
  · rw [c4 k (by rw [List.length_cons]; omega), h1 k hk]
  · rw [c5 k (by rw [List.length_cons]; omega), h2 k hk]
  · rw [c6 k (by rw [List.length_cons]; omega), h3 k hk]
theorem rq_body {M0 : Mem} {r most : Nat} {w : Nat → Nat → Nat} {cs : List Nat} (H : SHM r most w cs M0) {K : Int32 → Mem → Prop} (m : Nat) (pre : List Nat) (hm : pre.length + (m + 1) = 4) (hpc : ∀ c, c ∈ pre → c < 256) (lt sa wp : Nat → Nat) (acc : Ar) (hlt : lt pre.length ≤ 4 * pre.length) (hsa : sa pre.length = w16 (cnS pre))
    (desc : ∀ (c : Nat) (lt' sa' wp' : Nat → Nat) (A : Ar) (M3 : Mem) (x : Int32), c < 256 → lt' (pre.length + 1) ≤ 4 * (pre.length + 1) → sa' (pre.length + 1) = w16 (cnS (c :: pre)) → (∀ b p, A = some (b, p) → lt' (pre.length + 1) < b) → MG M0 (c :: pre) lt' sa' wp' A x M3 →
      (∀ M' x', MG M0 (c :: pre) lt' sa' wp' (rS r most w cs m (c :: pre) (lt' (pre.length + 1)) A) x' M' → Lp (rqB K) (nI r, x', nI pre.length, M')) → ∃ a', (∀ r45 : Int32 × Int32 × Int32 × Mem → Prop, r45 a' → f_X12_seekShifts_b200 r45 K (nI r) x (nI pre.length) M3) ∧ Lp (rqB K) a') :
    ∀ (M : Mem) (x : Int32), MG M0 pre lt sa wp acc x M → M 355 pre.length = -1 → (∀ M' x', MG M0 pre lt sa wp (rS r most w cs (m + 1) pre (lt pre.length) acc) x' M' → Lp (rqB K) (nI r, x', nI pre.length + -1, M')) → Lp (rqB K) (nI r, x, nI pre.length, M) := by
  intro M x hC h355 h
  have H' := H
  obtain ⟨hr8, hm4, hlen, hcs, e4, hLM, hw4, hbk⟩ := H'
  have Q : ∀ (d k : Nat), cs.length - k < d → k ≤ cs.length → ∀ (M : Mem) (x : Int32), MG M0 pre lt sa wp (rA r most w cs m pre (lt pre.length) (cs.take k) acc) x M → M 355 pre.length = nI k - 1 → Lp (rqB K) (nI r, x, nI pre.length, M) := by
    intro d
    induction d with
    | zero => intro k hd; exact absurd hd (by omega)
    | succ d ihd =>
      intro k hd hk M x hC hpos
      have hN := rqN_ge r most cs pre (cs.length - k) k
      have hNm := rqN_may r most cs pre (cs.length - k) k
      have hNA := rqN_A r most w cs m pre (lt pre.length) acc (cs.length - k) k (by omega)
      generalize hq : rqN r most cs pre (cs.length - k) k = q at hN hNm hNA
      have hC' := hC
      rw [← hNA] at hC'
      obtain ⟨c1, c2, c3, c4, c5, c6⟩ := hC'
      have e86 : M 287 86 = nI cs.length := (c1 287 86 (by decide) (by decide) (by decide) (by decide) (by decide)).trans hLM.1
      by_cases hqe : q = cs.length
      · subst hqe
        rw [List.take_length, ← rS_s] at c2
        refine rq_seek H (by omega) hpc hsa hC hk hpos (a' := (nI r, x, nI pre.length + -1, mset M 355 pre.length (nI cs.length))) (fun r45 hr => ?_) (h _ x ⟨fun c k' d1 d2 d3 d4 d5 => ?_, ?_, fun k' hk' => ?_, fun k' hk' => ?_, fun k' hk' => ?_, fun k' hk' => ?_⟩)
        · rw [hq]
          unfold f_X12_seekShifts_b88
          rw [e86, nI_cl pre.length (by omega)]
          exact ⟨vin_nI (by omega) (by decide), fun z => absurd rfl z, fun _ => hr⟩
        · rw [mset_ne _ _ _ d4]; exact c1 c k' d1 d2 d3 d4 d5
        · rw [mset_ne _ _ _ (by decide)]; exact c2
        · rw [mset_ne _ _ _ (by decide)]; exact c3 k' hk'
        · rw [mset_ne _ _ _ (by decide)]; exact c4 k' hk'
        · rw [mset_ne _ _ _ (by decide)]; exact c5 k' hk'
        · rw [mset_row, upd_n _ _ (by omega)]; exact c6 k' hk'
      · have hql : q < cs.length := by omega
        have hst := hNm (by omega)
        have hcc := hcs q hql
        obtain ⟨l1, l2⟩ := hLM.2 q hql
        have hsn := rA_snoc r most w cs m pre (lt pre.length) (cs.take q) (cs.getD q 0) acc
        rw [← take_s hql, if_pos hst] at hsn
        generalize hcv : cs.getD q 0 = c at hst hcc l1 l2 hsn
        have hwc := hw4 pre.length c
        have e53 : M 353 q = nI c := (c1 353 q (by decide) (by decide) (by decide) (by decide) (by decide)).trans l1
        have e54 : M 354 q = nI (si c) := (c1 354 q (by decide) (by decide) (by decide) (by decide) (by decide)).trans l2
        generalize hA : rA r most w cs m pre (lt pre.length) (cs.take q) acc = A at *
        generalize hM3 : mset (mset (mset (mset M 355 pre.length (nI q)) 350 pre.length (nI c)) 351 (pre.length + 1) (nI (lt pre.length + w pre.length c))) 356 (pre.length + 1) (nI (w16 (cnS (c :: pre)))) = M3
        have hG3 : MG M0 (c :: pre) (updN lt (pre.length + 1) (lt pre.length + w pre.length c)) (updN sa (pre.length + 1) (w16 (cnS (c :: pre)))) (updN wp pre.length q) A x M3 := by
          subst hM3
          refine ⟨fun c' k' d1 d2 d3 d4 d5 => ?_, ?_, fun k' hk' => ?_, fun k' hk' => ?_, fun k' hk' => ?_, fun k' hk' => ?_⟩
          · rw [mset_ne _ _ _ d5, mset_ne _ _ _ d2, mset_ne _ _ _ d1, mset_ne _ _ _ d4]; exact c1 c' k' d1 d2 d3 d4 d5
          · rw [mset_ne _ _ _ (by decide), mset_ne _ _ _ (by decide), mset_ne _ _ _ (by decide), mset_ne _ _ _ (by decide)]; exact c2
          · rw [List.length_cons] at hk'
            rw [mset_ne _ _ _ (by decide), mset_ne _ _ _ (by decide), mset_row, upd_at]
            by_cases e : k' = pre.length
            · subst e
              rw [if_pos rfl, List.length_cons, Nat.add_sub_cancel, Nat.sub_self]
              rfl
            · rw [if_neg e, List.length_cons, Nat.add_sub_cancel, show pre.length - k' = (pre.length - 1 - k') + 1 by omega, List.getD_cons_succ, mset_ne _ _ _ (by decide)]
              exact c3 k' (by omega)
          · rw [List.length_cons] at hk'
            rw [mset_ne _ _ _ (by decide), mset_row, upd_at]
            by_cases e : k' = pre.length + 1
            · subst e; rw [if_pos rfl, updN_s]
            · rw [if_neg e, updN_n _ _ e, mset_ne _ _ _ (by decide), mset_ne _ _ _ (by decide)]; exact c4 k' (by omega)
          · rw [List.length_cons] at hk'
            rw [mset_row, upd_at]
            by_cases e : k' = pre.length + 1
            · subst e; rw [if_pos rfl, updN_s]
            · rw [if_neg e, updN_n _ _ e, mset_ne _ _ _ (by decide), mset_ne _ _ _ (by decide), mset_ne _ _ _ (by decide)]; exact c5 k' (by omega)
          · rw [List.length_cons] at hk'
            rw [mset_ne _ _ _ (by decide), mset_ne _ _ _ (by decide), mset_ne _ _ _ (by decide), mset_row, upd_at]
            by_cases e : k' = pre.length
            · subst e; rw [if_pos rfl, updN_s]
            · rw [if_neg e, updN_n _ _ e]; exact c6 k' (by omega)
        have e351 : M3 351 (pre.length + 1) = nI (lt pre.length + w pre.length c) := by
          rw [← hM3, mset_ne _ _ _ (by decide), mset_eq]
        have hrun : ∀ r45 : Int32 × Int32 × Int32 × Mem → Prop, ((x < 0 → f_X12_seekShifts_b200 r45 K (nI r) x (nI pre.length) M3) ∧ (¬ x < 0 → (nI (lt pre.length + w pre.length c) < x → f_X12_seekShifts_b200 r45 K (nI r) x (nI pre.length) M3) ∧ (¬ nI (lt pre.length + w pre.length c) < x → r45 (nI r, x, nI pre.length, M3)))) → f_X12_seekShifts_b88 r45 K (nI r) x (nI pre.length) (nI q) M := by
          intro r45 hr
          unfold f_X12_seekShifts_b88
          rw [e86, nI_eq_iff (by omega) (by omega), nI_cl pre.length (by omega), nI_cl q (by omega), e53]
          refine ⟨vin_nI (by omega) (by decide), fun _ => ⟨vin_nI (by omega) (by decide), vin_nI (by omega) (by decide), vin_nI (by omega) (by decide), vin_nI (by omega) (by decide), ?_⟩, fun z => absurd z hqe⟩
          refine hbk _ pre.length c _ (fun k' => ?_) (fun k' => ?_) (by omega) hcc ?_
          · rw [mset_ne _ _ _ (by decide), mset_ne _ _ _ (by decide)]; exact c1 349 k' (by decide) (by decide) (by decide) (by decide) (by decide)
          · rw [mset_ne _ _ _ (by decide), mset_ne _ _ _ (by decide)]; exact c1 348 k' (by decide) (by decide) (by decide) (by decide) (by decide)
          · have e56 : mset (mset M 355 pre.length (nI q)) 350 pre.length (nI c) 356 pre.length + mset (mset M 355 pre.length (nI q)) 350 pre.length (nI c) 354 q = nI (w16 (cnS (c :: pre))) := by
              rw [mset_ne _ _ _ (by decide), mset_ne _ _ _ (by decide), mset_ne _ _ _ (by decide), mset_ne _ _ _ (by decide), c5 _ (Nat.le_refl _), hsa, e54, nI_add, w16_c]
            rw [nI_1, nI_cl (pre.length + 1) (by omega), e56, c4 _ (Nat.le_refl _), nI_add, hM3, mset_eq]
            refine ⟨vin_nI (by omega) (by decide), vin_nI (by omega) (by decide), vin_nI (by omega) (by decide), vin_nI (by omega) (by decide), hr.1, fun z => ⟨vin_nI (by omega) (by decide), hr.2 z⟩⟩
        have hfin : ∀ M' x', MG M0 (c :: pre) (updN lt (pre.length + 1) (lt pre.length + w pre.length c)) (updN sa (pre.length + 1) (w16 (cnS (c :: pre)))) (updN wp pre.length q) (rA r most w cs m pre (lt pre.length) (cs.take (q + 1)) acc) x' M' → Lp (rqB K) (nI r, x', nI pre.length, M') := by
          intro M' x' hG
          refine ihd (q + 1) (by omega) (by omega) M' x' (MG.down hG (fun k' hk' => updN_n _ _ (by omega)) (fun k' hk' => updN_n _ _ (by omega)) (fun k' hk' => updN_n _ _ (by omega))) ?_
          rw [hG.2.2.2.2.2 pre.length (by rw [List.length_cons]; omega), updN_s, nI_s1 (by omega) (by omega), Nat.add_sub_cancel]
        have hdesc : (∀ b p, A = some (b, p) → lt pre.length + w pre.length c < b) → ∃ a', (∀ r45 : Int32 × Int32 × Int32 × Mem → Prop, r45 a' → f_X12_seekShifts_b200 r45 K (nI r) x (nI pre.length) M3) ∧ Lp (rqB K) a' := by
          intro hb
          refine desc c _ _ _ A M3 x hcc (by rw [updN_s]; omega) (by rw [updN_s]) (fun b p e => by rw [updN_s]; exact hb b p e) hG3 (fun M' x' hG => ?_)
          rw [updN_s, ← hsn] at hG
          exact hfin M' x' hG
        cases hAc : A with
        | none =>
          have ex : x = -1 := by rw [hAc] at c2; exact c2
          obtain ⟨a', h1, h2⟩ := hdesc (fun b p e => by rw [hAc] at e; cases e)
          refine rq_seek H (by omega) hpc hsa hC hk hpos (fun r45 hr => ?_) h2
          rw [hq]
          exact hrun r45 ⟨fun _ => h1 r45 hr, fun z => absurd (by rw [ex]; decide) z⟩
        | some y =>
          obtain ⟨b, p⟩ := y
          have ex : x = nI b ∧ b ≤ 16 := by rw [hAc] at c2; exact ⟨c2.1, c2.2.1⟩
          by_cases hlb : lt pre.length + w pre.length c < b
          · obtain ⟨a', h1, h2⟩ := hdesc (fun b' p' e => by rw [hAc] at e; cases e; exact hlb)
            refine rq_seek H (by omega) hpc hsa hC hk hpos (fun r45 hr => ?_) h2
            rw [hq]
            refine hrun r45 ⟨fun _ => h1 r45 hr, fun _ => ⟨fun _ => h1 r45 hr, fun z => absurd ?_ z⟩⟩
            rw [ex.1, nI_lt_iff (by omega) (by omega)]
            exact hlb
          · have hd : rS r most w cs m (c :: pre) (lt pre.length + w pre.length c) A = A := by
              refine rS_dom r most w cs m (c :: pre) _ A (fun y _ => ⟨(b, p), hAc, ?_⟩)
              show b ≤ _
              omega
            rw [hd] at hsn
            refine rq_seek H (by omega) hpc hsa hC hk hpos (a' := (nI r, x, nI pre.length, M3)) (fun r45 hr => ?_) (hfin M3 x (by rw [hsn]; exact hG3))
            rw [hq]
            refine hrun r45 ⟨fun z => absurd z (by rw [ex.1]; exact nI_pos (by omega)), fun _ => ⟨fun z => absurd z ?_, fun _ => hr⟩⟩
            rw [ex.1, nI_lt_iff (by omega) (by omega)]
            exact hlb
  refine Q (cs.length + 1) 0 (by omega) (by omega) M x ?_ ?_
  · rw [List.take_zero]; exact hC
  · rw [h355]; rfl
theorem m_rs {M0 : Mem} {r most : Nat} {w : Nat → Nat → Nat} {cs : List Nat} (H : SHM r most w cs M0) {K : Int32 → Mem → Prop} : ∀ (m : Nat) (pre : List Nat), pre.length + (m + 1) = 4 → (∀ c, c ∈ pre → c < 256) → ∀ (lt sa wp : Nat → Nat) (acc : Ar) (M : Mem) (x : Int32), lt pre.length ≤ 4 * pre.length → sa pre.length = w16 (cnS pre) →
    MG M0 pre lt sa wp acc x M → M 355 pre.length = -1 → (∀ M' x', MG M0 pre lt sa wp (rS r most w cs (m + 1) pre (lt pre.length) acc) x' M' → Lp (rqB K) (nI r, x', nI pre.length + -1, M')) → Lp (rqB K) (nI r, x, nI pre.length, M) := by
  intro m
  induction m with
  | zero =>
    intro pre hm hpc lt sa wp acc M x hlt hsa hC h355 h
    obtain ⟨hr8, hm4, hlen, hcs, e4, hLM, hw4, hbk⟩ := id H
    refine rq_body H 0 pre hm hpc lt sa wp acc hlt hsa (fun c lt' sa' wp' A M3 x3 hc hl3 hs3 hbest hG hcont => ?_) M x hC h355 h
    have h4 := fl_4 ⟨r, hr8⟩
    simp only at h4
    have hp3 : pre.length = 3 := by omega
    obtain ⟨c1, c2, c3, c4, c5, c6⟩ := id hG
    have hl4 : (c :: pre).length = 4 := by rw [List.length_cons]; omega
    have e350 : ∀ j, j < 4 → M3 350 j = nI ((c :: pre).getD (3 - j) 0) := fun j hj => by
      have := c3 j (by omega)
      rw [hl4] at this
      exact this
    have e351 : M3 351 4 = nI (lt' 4) := c4 4 (by omega)
    rw [hp3] at hl3 hs3 hbest hcont
    by_cases hf : faO r (c :: pre) = true
    · refine ⟨(nI r, nI (lt' 4), nI 3, cqM M3 4), fun r45 hr => ?_, ?_⟩
      · have h233 : f_X12_seekShifts_b233 r45 K (nI r) (nI pre.length) M3 := by
          rw [hp3]
          unfold f_X12_seekShifts_b233
          rw [e351]
          refine Lp.up (fun j a => a = (nI r, nI (lt' 4), nI 3, nI j, cqM M3 j)) 4 (fun j a r' hj ha hr' => ?_) (j := 0) (by omega) rfl
          subst ha
          show f_X12_seekShifts_c243 r45 K r' (nI r) (nI (lt' 4)) (nI 3) (nI j) (cqM M3 j)
          unfold f_X12_seekShifts_c243 f_X12_seekShifts_b269
          rw [lq_4 (by omega)]
          refine ⟨fun z => ?_, fun z => ⟨vin_nI (by omega) (by decide), vin_nI (by omega) (by decide), ?_⟩⟩
          · rw [show j = 4 by omega]; exact hr
          · rw [nI_1, nI_cl j (by omega)]
            have := hr' (by omega) _ rfl
            unfold cqM at this
            exact this
        unfold f_X12_seekShifts_b200 f_X12_seekShifts_b269
        rw [lq_3 (by omega), h4]
        refine ⟨fun _ => ⟨fun _ => h233, fun z => ?_⟩, fun z => absurd z (by omega)⟩
        rw [Classical.not_not] at z
        exact q_fair hl4 (fun y hy => by rcases List.mem_cons.mp hy with e | e; exact e ▸ hc; exact hpc y e) e350 (fun _ => ⟨fun y => absurd y (by decide), fun _ => h233⟩) (fun y => absurd y (faO_iff.mp hf z))
      · refine hcont (cqM M3 4) (nI (lt' 4)) ?_
        have hA : rS r most w cs 0 (c :: pre) (lt' 4) A = some (lt' 4, c :: pre) := by
          rw [rS_1, if_pos hf]
          cases A with
          | none => rfl
          | some y =>
            obtain ⟨b, p⟩ := y
            exact if_pos (hbest b p rfl)
        rw [show 3 + 1 = 4 from rfl, hA]
        refine ⟨fun c' k' d1 d2 d3 d4 d5 => ?_, ⟨rfl, by omega, fun e he => ?_⟩, fun k' hk' => ?_, fun k' hk' => ?_, fun k' hk' => ?_, fun k' hk' => ?_⟩
        · rw [cqM_o M3 d3]; exact c1 c' k' d1 d2 d3 d4 d5
        · rw [cqM_s M3 4 e he]; exact e350 e he
        · rw [cqM_o M3 (by decide)]; exact c3 k' hk'
        · rw [cqM_o M3 (by decide)]; exact c4 k' hk'
        · rw [cqM_o M3 (by decide)]; exact c5 k' hk'
        · rw [cqM_o M3 (by decide)]; exact c6 k' hk'
    · have hA : rS r most w cs 0 (c :: pre) (lt' (3 + 1)) A = A := by rw [rS_1, if_neg hf]
      rw [hA] at hcont
      have hz : r / 4 % 2 = 1 ∧ apart 0 (c :: pre) := by
        rw [faO_iff] at hf
        by_cases z : r / 4 % 2 = 1
        · refine ⟨z, Classical.byContradiction (fun y => hf (fun _ => y))⟩
        · exact absurd (fun q => absurd q z) hf
      refine ⟨(nI r, x3, nI pre.length, M3), fun r45 hr => ?_, ?_⟩
      · unfold f_X12_seekShifts_b200 f_X12_seekShifts_b269
        rw [lq_3 (by omega), h4]
        refine ⟨fun _ => ⟨fun y => absurd hz.1 y, fun _ => ?_⟩, fun z => absurd z (by omega)⟩
        exact q_fair hl4 (fun y hy => by rcases List.mem_cons.mp hy with e | e; exact e ▸ hc; exact hpc y e) e350 (fun y => absurd hz.2 y) (fun _ => ⟨fun _ => hr, fun y => absurd rfl y⟩)
      · rw [hp3]; exact hcont M3 x3 hG
  | succ m ih =>
    intro pre hm hpc lt sa wp acc M x hlt hsa hC h355 h
    obtain ⟨hr8, hm4, hlen, hcs, e4, hLM, hw4, hbk⟩ := id H
    refine rq_body H (m + 1) pre hm hpc lt sa wp acc hlt hsa (fun c lt' sa' wp' A M3 x3 hc hl3 hs3 hbest hG hcont => ?_) M x hC h355 h
    refine ⟨(nI r, x3, nI (pre.length + 1), mset M3 355 (pre.length + 1) (-1)), fun r45 hr => ?_, ?_⟩
    · unfold f_X12_seekShifts_b200 f_X12_seekShifts_b269
      rw [lq_3 (by omega), nI_1, nI_cl (pre.length + 1) (by omega)]
      exact ⟨fun z => absurd z (by omega), fun _ => ⟨vin_nI (by omega) (by decide), hr⟩⟩
    · have hl : (c :: pre).length = pre.length + 1 := List.length_cons
      obtain ⟨c1, c2, c3, c4, c5, c6⟩ := id hG
      have := ih (c :: pre) (by rw [hl]; omega) (fun y hy => by rcases List.mem_cons.mp hy with e | e; exact e ▸ hc; exact hpc y e) lt' sa' wp' A (mset M3 355 (pre.length + 1) (-1)) x3 (by rw [hl]; exact hl3) (by rw [hl]; exact hs3)
        ⟨fun c' k' d1 d2 d3 d4 d5 => by rw [mset_ne _ _ _ d4]; exact c1 c' k' d1 d2 d3 d4 d5, by rw [mset_ne _ _ _ (by decide)]; exact c2, fun k' hk' => by rw [mset_ne _ _ _ (by decide)]; exact c3 k' hk', fun k' hk' => by rw [mset_ne _ _ _ (by decide)]; exact c4 k' hk', fun k' hk' => by rw [mset_ne _ _ _ (by decide)]; exact c5 k' hk', fun k' hk' => by rw [mset_row, upd_n _ _ (by omega)]; exact c6 k' hk'⟩
        (by rw [hl, mset_eq]) (fun M' x' hG' => ?_)
      · rw [hl] at this; exact this
      · rw [hl] at hG' ⊢
        rw [x_m1, nI_s1 (by omega) (by omega), Nat.add_sub_cancel]
        exact hcont M' x' hG'
