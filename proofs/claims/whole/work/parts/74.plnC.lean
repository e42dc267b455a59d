/-! THE PLAN, the model: its search gives what pS says -/
def pnM (M0 : Mem) (R n : Nat) (len due wt : Nat → Nat) : Prop :=
  n ≤ 7 ∧ 3 ≤ R ∧ R ≤ 9 ∧ M0 287 97 = nI n ∧ M0 325 3 = nI R ∧ ∀ k, k < n → M0 361 k = nI (len k) ∧ 1 ≤ len k ∧ len k ≤ 3 ∧ M0 362 k = nI (due k) ∧ due k ≤ 6 ∧ M0 363 k = nI (wt k) ∧ wt k < 128
def pnG (M0 : Mem) (n i : Nat) (pl full lt : Nat → Nat) (acc : Ac) (x1 : Int32) (M : Mem) : Prop :=
  (∀ c, c ≠ 364 → c ≠ 365 → c ≠ 366 → c ≠ 367 → M c = M0 c) ∧ plR acc (-1) n x1 (M 365) ∧ (∀ l p, acc = some (l, p) → l ≤ 42) ∧
  (∀ k, k < i → M 364 k = nI (pl k)) ∧ (∀ k, k ≤ i → M 366 k = nI (lt k)) ∧ ∀ p, p < 7 → M 367 p = nI (full p)
def pnN (R : Nat) (len wt : Nat → Nat) (i : Nat) (pl full : Nat → Nat) : Nat → Nat → Nat
  | 0, p => p
  | k + 1, p => if mayP R len wt i pl full p = true then p else pnN R len wt i pl full k (p + 1)
theorem pnN_ge (R : Nat) (len wt : Nat → Nat) (i : Nat) (pl full : Nat → Nat) : ∀ k p, p ≤ pnN R len wt i pl full k p ∧ pnN R len wt i pl full k p ≤ p + k
  | 0, p => ⟨Nat.le_refl _, Nat.le_refl _⟩
  | k + 1, p => by
    unfold pnN
    have := pnN_ge R len wt i pl full k (p + 1)
    split <;> omega
theorem pnN_may (R : Nat) (len wt : Nat → Nat) (i : Nat) (pl full : Nat → Nat) : ∀ k p, pnN R len wt i pl full k p < p + k → mayP R len wt i pl full (pnN R len wt i pl full k p) = true
  | 0, p, h => absurd h (by unfold pnN; omega)
  | k + 1, p, h => by
    unfold pnN at h ⊢
    by_cases c : mayP R len wt i pl full p = true
    · rw [if_pos c]; exact c
    · rw [if_neg c] at h ⊢
      exact pnN_may R len wt i pl full k (p + 1) (by omega)
theorem pnA_N (R : Nat) (len due wt : Nat → Nat) (m i : Nat) (pl full : Nat → Nat) (late : Nat) (acc : Ac) : ∀ k p, pnA R len due wt m i pl full late acc (pnN R len wt i pl full k p) = pnA R len due wt m i pl full late acc p
  | 0, p => rfl
  | k + 1, p => by
    unfold pnN
    by_cases c : mayP R len wt i pl full p = true
    · rw [if_pos c]
    · rw [if_neg c, pnA_N R len due wt m i pl full late acc k (p + 1), pnA_s, if_neg c]
def cpM (M : Mem) : Nat → Mem
  | 0 => M
  | j + 1 => mset (cpM M j) 365 j (cpM M j 364 j)
theorem cpM_o (M : Mem) {c : Nat} (h : c ≠ 365) : ∀ j, cpM M j c = M c
  | 0 => rfl
  | j + 1 => by unfold cpM; rw [mset_ne _ _ _ h, cpM_o M h j]
theorem cpM_s (M : Mem) : ∀ j k, k < j → cpM M j 365 k = M 364 k
  | 0, k, h => absurd h (by omega)
  | j + 1, k, h => by
    unfold cpM
    rw [mset_row, upd_at, cpM_o M (by decide) j]
    by_cases e : k = j
    · subst e; rw [if_pos rfl]
    · rw [if_neg e]; exact cpM_s M j k (by omega)
theorem m_may {R i p : Nat} {len wt pl full : Nat → Nat} (hi : i < 7) (hp : p < 7) (hR : R ≤ 9) (hw : wt i < 128) (hl : len i ≤ 3) (hf : full p ≤ 9) {M : Mem} (e3 : M 325 3 = nI R) (e61 : M 361 i = nI (len i)) (e63 : M 363 i = nI (wt i)) (e64 : ∀ k, k < i → M 364 k = nI (pl k)) (hb : ∀ k, k < i → pl k ≤ 6) (e67 : M 367 p = nI (full p))
    {K : Int32 → Mem → Prop} (h : K (bi (mayP R len wt i pl full p)) M) : f_X12_mayBeAt (nI i) (nI p) M K := by
  have key : ∀ b : Bool, decide (full p + len i ≤ R) = b → f_X12_mayBeAt_b27 K (nI i) (nI p) (bi b) M := by
    intro b hb0
    unfold f_X12_mayBeAt_b27
    refine Lp.up (fun k a => a = (nI i, nI p, bi (b && (List.range k).all (fun k => decide (wt i / 2 ^ k % 2 = 1 → pl k < p))), nI k, M)) i (fun k a r hk ha hr => ?_) (j := 0) (by omega) (by cases b <;> rfl)
    subst ha
    unfold f_X12_mayBeAt_c31 f_X12_mayBeAt_b66 f_X12_mayBeAt_b70 f_X12_mayBeAt_b71
    dsimp only
    rw [nI_le_iff (by omega) (by omega)]
    refine ⟨fun c => ⟨bi_bz _, ?_⟩, fun c => ?_⟩
    · rw [show k = i by omega, ← hb0]
      exact h
    · have hr2 := hr (by omega) _ rfl
      rw [List.range_succ, List.all_append, ← Bool.and_assoc] at hr2
      simp only [List.all_cons, List.all_nil, Bool.and_true] at hr2
      rw [nI_1]
      rw [nI_cl i (by omega), nI_cl k (by omega), e63, e64 k (by omega), nI_le_iff (by omega) (by have := hb k (by omega); omega)]
      have h01 : ((nI (wt i) >>> (nI k &&& 31)) &&& 1 = 0) ↔ ¬ wt i / 2 ^ k % 2 = 1 := by
        rw [← btN (w := wt i) (k := k) (by omega), ← btS (nI (wt i)) k (by omega)]
        rcases and1 (nI (wt i) >>> (nI k &&& 31)) with e | e <;> rw [e] <;> decide
      rw [h01]
      generalize (b && (List.range k).all (fun k => decide (wt i / 2 ^ k % 2 = 1 → pl k < p))) = bb at hr2 ⊢
      refine ⟨fun z => ?_, fun z => ⟨vin_nI hi (by decide), fun y => ?_, fun y => ⟨vin_nI (by omega) (by decide), fun x => ?_, fun x => ?_⟩⟩⟩
      · rw [bi_0] at z
        subst z
        exact hr2
      · cases bb with
        | false => exact absurd rfl z
        | true =>
          rw [decide_eq_true (fun q => absurd q y)] at hr2
          exact hr2
      · rw [Classical.not_not] at y
        rw [decide_eq_false (fun q => by have := q y; omega), Bool.and_false] at hr2
        exact hr2
      · cases bb with
        | false => exact absurd rfl z
        | true =>
          rw [decide_eq_true (fun _ => by omega)] at hr2
          exact hr2
  unfold f_X12_mayBeAt
  rw [nI_cl i (by omega), nI_cl p (by omega), e3, e61, e67, nI_add, nI_lt_iff (by omega) (by omega)]
  exact ⟨vin_nI hp (by decide), vin_nI hi (by decide), fun z => key false (decide_eq_false (by omega)), fun z => key true (decide_eq_true (by omega))⟩
abbrev pnB (K : Int32 → Mem → Prop) : (Int32 × Int32 × Mem → Prop) → Int32 × Int32 × Mem → Prop := fun r39 a => f_X12_findPlan_c39 K r39 a.1 a.2.1 a.2.2
theorem pn_leaf {M0 : Mem} {R n : Nat} {len due wt : Nat → Nat} (H : pnM M0 R n len due wt) {pl full lt : Nat → Nat} {acc : Ac} {x1 : Int32} {M : Mem} (hC : pnG M0 n n pl full lt acc x1 M) {K : Int32 → Mem → Prop}
    (h : Lp (pnB K) (nI (lt n), nI n + -1, cpM M n)) : Lp (pnB K) (x1, nI n, M) := by
  obtain ⟨hn, hR1, hR2, e0, e3, ht⟩ := H
  obtain ⟨c1, c2, c3, c4, c5, c6⟩ := hC
  refine Lp.next (fun r hr => ?_) h
  show f_X12_findPlan_c39 K r x1 (nI n) M
  unfold f_X12_findPlan_c39
  have e0' : M 287 97 = nI n := by rw [c1 287 (by decide) (by decide) (by decide) (by decide)]; exact e0
  rw [e0']
  refine ⟨fun z => absurd z (nI_pos (by omega)), fun _ => ⟨fun z => absurd rfl z, fun _ => ⟨vin_nI (by omega) (by decide), ?_⟩⟩⟩
  rw [nI_cl n (by omega), c5 n (Nat.le_refl _)]
  refine Lp.up (fun j a => a = (nI (lt n), nI n, nI j, cpM M j)) n (fun j a r' hj ha hr' => ?_) (j := 0) (by omega) rfl
  subst ha
  unfold f_X12_findPlan_c60
  dsimp only
  rw [cpM_o M (by decide) j, e0', nI_le_iff (by omega) (by omega)]
  refine ⟨fun c => ?_, fun c => ⟨vin_nI (by omega) (by decide), vin_nI (by omega) (by decide), ?_⟩⟩
  · rw [show j = n by omega]; exact hr
  · rw [nI_1, nI_cl j (by omega)]
    have := hr' (by omega) _ rfl
    unfold cpM at this
    exact this
theorem pn_seek {M0 : Mem} {R n : Nat} {len due wt : Nat → Nat} (H : pnM M0 R n len due wt) {i : Nat} (hi : i < n) {pl full lt : Nat → Nat} (hb : ∀ k, k < i → pl k ≤ 6) (hf : ∀ p, full p ≤ 9) {acc : Ac} {x1 : Int32} {M : Mem} (hC : pnG M0 n i pl full lt acc x1 M) {p : Nat} (hp : p ≤ 7) (e64 : M 364 i = nI p - 1)
    {K : Int32 → Mem → Prop} {r : Int32 × Int32 × Mem → Prop} (h : f_X12_findPlan_b151 r K x1 (nI i) (nI (pnN R len wt i pl full (7 - p) p)) M) : f_X12_findPlan_b121 r K x1 (nI i) M := by
  obtain ⟨hn, hR1, hR2, e0, e3, ht⟩ := H
  obtain ⟨c1, c2, c3, c4, c5, c6⟩ := hC
  obtain ⟨t1, t2, t3, t4, t5, t6, t7⟩ := ht i hi
  unfold f_X12_findPlan_b121
  refine ⟨vin_nI (by omega) (by decide), ?_⟩
  rw [nI_cl i (by omega), e64, show nI p - 1 + 1 = nI p by rw [Int32.sub_add_cancel]]
  generalize hq : pnN R len wt i pl full (7 - p) p = q at h
  refine Lp.up (fun j a => a = (x1, nI i, nI j, M) ∧ pnN R len wt i pl full (7 - j) j = q) 7 (fun j a r' hj ha hr' => ?_) (j := p) hp ⟨rfl, hq⟩
  obtain ⟨rfl, hN⟩ := ha
  unfold f_X12_findPlan_c130
  dsimp only
  rw [lq_7 (by omega)]
  refine ⟨fun c => ?_, fun c => ?_⟩
  · rw [show 7 - j = 0 by omega] at hN
    unfold pnN at hN
    rw [hN]; exact h
  · rw [show 7 - j = (7 - (j + 1)) + 1 by omega] at hN
    unfold pnN at hN
    refine m_may (R := R) (len := len) (wt := wt) (pl := pl) (full := full) (by omega) (by omega) hR2 t7 t3 (hf j) ?_ ?_ ?_ c4 hb (c6 j (by omega)) ?_
    · rw [c1 325 (by decide) (by decide) (by decide) (by decide)]; exact e3
    · rw [c1 361 (by decide) (by decide) (by decide) (by decide)]; exact t1
    · rw [c1 363 (by decide) (by decide) (by decide) (by decide)]; exact t6
    · by_cases b : mayP R len wt i pl full j = true
      · rw [if_pos b] at hN
        rw [b, hN]
        exact ⟨fun _ => h, fun z => absurd z (by decide)⟩
      · rw [if_neg b] at hN
        rw [Bool.not_eq_true] at b
        rw [b, nI_1]
        exact ⟨fun z => absurd rfl z, fun _ => hr' (by omega) _ ⟨rfl, hN⟩⟩
