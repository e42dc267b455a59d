/-! SHIFTS, the model: the four, the ways, what may stand, what is fair, what is broken -/
theorem sh_w : ∀ i : Fin 4, ((2 : Int32) * ((3 : Int32) - nI i.val)) = (6 : Int32) - (2 : Int32) * nI i.val := by decide
theorem sh_mv (x : Int32) {i : Nat} (hi : i < 4) (M : Mem) (K : Int32 → Mem → Prop) : f_X12_shiftIn x (nI i) M K ↔ f_X8_shiftIn x (nI i) M K := by
  have := sh_w ⟨i, hi⟩
  simp only at this
  unfold f_X12_shiftIn f_X8_shiftIn
  rw [this]
theorem sh_mi {c i : Nat} (hc : c < 256) (hi : i < 4) (M : Mem) (K : Int32 → Mem → Prop) : f_X12_shiftIn (nI c) (nI i) M K ↔ K (nI (shN c i)) M := by
  rw [sh_mv _ hi, sh_in hc hi]
theorem t_four {x5 x6 : Nat → Int32} {M : Mem} {n s : Nat} (hn : n ≤ 24) (e : M 287 2 = nI n) (e5 : M 289 = x5) (e6 : ∀ j, j < n → (x6 j = 0 ↔ ¬ M 294 j = 0)) {K : Mem → Prop} (h : ∀ M', (∀ c k, c ≠ 349 → ¬ (c = 287 ∧ k = 80) → M' c k = M c k) → M' 287 80 = nI (tmL x5 x6 (nI s) n).length → (∀ i, i < (tmL x5 x6 (nI s) n).length → M' 349 i = nI ((tmL x5 x6 (nI s) n).getD i 0)) → K M') : f_X12_findFour (nI s) M K := by
  unfold f_X12_findFour
  refine Lp.up (fun j a => ∃ M', a = (nI s, nI j, M') ∧ (∀ c k, c ≠ 349 → ¬ (c = 287 ∧ k = 80) → M' c k = M c k) ∧ M' 287 80 = nI (tmL x5 x6 (nI s) j).length ∧ ∀ i, i < (tmL x5 x6 (nI s) j).length → M' 349 i = nI ((tmL x5 x6 (nI s) j).getD i 0)) n (fun j a r hj ha hr => ?_) (j := 0) (by omega) ⟨_, rfl, fun c k _ d => by rw [mset_at, if_neg d], mset_eq _ _ _ _, fun i hi => absurd hi (Nat.not_lt_zero _)⟩
  obtain ⟨M', rfl, f1, f0, f2⟩ := ha
  have hle := tmL_le x5 x6 (nI s) j
  have hend : tmL x5 x6 (nI s) j = tmL x5 x6 (nI s) n → K M' := fun e1 => h M' f1 (by rw [f0, e1]) (by rw [← e1]; exact f2)
  unfold f_X12_findFour_c7 f_X12_findFour_b62
  dsimp only
  rw [f1 287 2 (by decide) (by decide), e, f0, nI_le_iff (by omega) (by omega), lq_4 (by omega)]
  refine ⟨fun c => hend (by rw [show j = n by omega]), fun c => ⟨fun c4 => hend (tmL_full (by omega) n (by omega)).symm, fun c4 => ⟨vin_nI (by omega) (by decide), ?_⟩⟩⟩
  have hst : tmL x5 x6 (nI s) (j + 1) = if (tmL x5 x6 (nI s) j).length < 4 ∧ ¬ x6 j = 0 ∧ x5 j = nI s then tmL x5 x6 (nI s) j ++ [j] else tmL x5 x6 (nI s) j := rfl
  have h6 := e6 j (by omega)
  rw [nI_cl j (by omega), f1 289 j (by decide) (by omega), e5, f1 294 j (by decide) (by omega), nI_1]
  have hno : ¬ (¬ x6 j = 0 ∧ x5 j = nI s) → r (nI s, nI (j + 1), M') := by
    intro z
    rw [if_neg (fun y => z y.2)] at hst
    exact hr (by omega) _ ⟨M', rfl, f1, by rw [hst]; exact f0, by rw [hst]; exact f2⟩
  refine ⟨fun c5 => hno (fun z => c5 z.2), fun c5 => ⟨vin_nI (by omega) (by decide), fun c6 => hno (fun z => z.1 (h6.mpr c6)), fun c6 => ⟨vin_nI (by omega) (by decide), ?_⟩⟩⟩
  rw [if_pos ⟨by omega, fun z => h6.mp z c6, c5⟩] at hst
  rw [nI_cl _ (by omega), nI_1]
  generalize htm : tmL x5 x6 (nI s) j = tm at *
  refine hr (by omega) (nI s, nI (j + 1), _) ⟨_, rfl, fun c k d1 d2 => ?_, ?_, fun i hi => ?_⟩
  · rw [mset_at, if_neg d2, mset_ne _ _ _ d1]; exact f1 c k d1 d2
  · rw [mset_eq, hst, List.length_append, List.length_singleton]
  · rw [hst, List.length_append, List.length_singleton] at hi
    rw [hst, getD_snoc, mset_ne _ _ _ (by decide), mset_row, upd_at]
    by_cases e : i = tm.length
    · subst e; rw [if_pos rfl, if_neg (by omega), if_pos rfl]
    · rw [if_neg e, if_pos (by omega)]; exact f2 i (by omega)
theorem q_need {nd : Nat → Nat} {c : Nat} (hc : c < 256) {M : Mem} (e82 : ∀ s, s < 3 → M 347 s = nI (nd s)) (hnd : ∀ s, s < 3 → nd s ≤ 2) {K : Int32 → Mem → Prop} (h : K (bi (ndOk nd c)) M) : f_X12_isNeeded (nI c) M K := by
  unfold f_X12_isNeeded
  have hok : ndOk nd c = (List.range 3).all (fun s => decide (s4 (fun i => if shN c i = s then 1 else 0) = nd s)) := rfl
  refine Lp.up (fun k a => a = (nI c, bi ((List.range k).all (fun s => decide (s4 (fun i => if shN c i = s then 1 else 0) = nd s))), nI k, M)) 3 (fun k a r hk ha hr => ?_) (j := 0) (by omega) rfl
  subst ha
  unfold f_X12_isNeeded_c4
  dsimp only
  rw [lq_3 (by omega)]
  refine ⟨fun c3 => ⟨bi_bz _, ?_⟩, fun c3 => ?_⟩
  · rw [show k = 3 by omega, ← hok]; exact h
  · have hr2 := hr (by omega) _ rfl
    rw [List.range_succ, List.all_append] at hr2
    simp only [List.all_cons, List.all_nil, Bool.and_true] at hr2
    generalize hbb : (List.range k).all (fun s => decide (s4 (fun i => if shN c i = s then 1 else 0) = nd s)) = bb at hr2 ⊢
    refine Lp.up (fun i a => a = (nI c, bi bb, nI k, nI (sK (fun i => if shN c i = k then 1 else 0) i), nI i, M)) 4 (fun i a r' hi ha hr' => ?_) (j := 0) (by omega) rfl
    subst ha
    unfold f_X12_isNeeded_c15 f_X12_isNeeded_b66 f_X12_isNeeded_b67 f_X12_isNeeded_b38
    dsimp only
    have hsk := sK_le (fun i => if shN c i = k then 1 else 0) (fun i => by show (if shN c i = k then 1 else 0) ≤ 1; split <;> omega) i
    rw [lq_4 (by omega), nI_1]
    refine ⟨fun c4 => ?_, fun c4 => ?_⟩
    · have e4 : i = 4 := by omega
      subst e4
      rw [sK4] at hsk ⊢
      have := hnd k (by omega)
      rw [nI_cl k (by omega), e82 k (by omega), nI_eq_iff (by omega) (by omega)]
      cases bb with
      | false => exact ⟨fun _ => hr2, fun z => absurd rfl z⟩
      | true =>
        refine ⟨fun z => absurd z (by decide), fun _ => ⟨vin_nI (by omega) (by decide), fun z => ?_, fun z => ?_⟩⟩
        · rw [decide_eq_false z] at hr2; exact hr2
        · rw [decide_eq_true z] at hr2; exact hr2
    · have hr3 := hr' (by omega) _ rfl
      unfold sK at hr3
      rw [sh_mi hc (by omega), nI_eq_iff (by have := shN_lt c i; omega) (by omega), nI_1]
      refine ⟨fun e => ?_, fun e => ?_⟩
      · rw [if_neg e] at hr3
        rw [Int32.add_zero]
        exact hr3
      · rw [if_pos e] at hr3
        rw [nI_1]
        exact hr3
theorem or_gen {x b k : Nat} (hx : x < 2 ^ k) (hb : b ≤ 1) (hk : k ≤ 28) : nI x ||| (nI b <<< (nI k &&& 31)) = nI (x + b * 2 ^ k) := by
  have h28 : (2 : Nat) ^ k ≤ 2 ^ 28 := Nat.pow_le_pow_right (by decide) hk
  have hbk : b * 2 ^ k ≤ 2 ^ 28 := by
    have := Nat.mul_le_mul_right (2 ^ k) hb
    omega
  apply Int32.toBitVec_inj.mp
  rw [Int32.toBitVec_or, Int32.toBitVec_shiftLeft, BitVec.shiftLeft_eq', shS k (by omega)]
  show BitVec.ofNat 32 x ||| (BitVec.ofNat 32 b <<< k) = BitVec.ofNat 32 (x + b * 2 ^ k)
  apply BitVec.eq_of_toNat_eq
  rw [BitVec.toNat_or, BitVec.toNat_shiftLeft, BitVec.toNat_ofNat, BitVec.toNat_ofNat, BitVec.toNat_ofNat, Nat.mod_eq_of_lt (a := x) (by omega), Nat.mod_eq_of_lt (a := b) (by omega), Nat.shiftLeft_eq, Nat.mod_eq_of_lt (a := b * 2 ^ k) (by omega), Nat.mod_eq_of_lt (by omega)]
  have := Nat.shiftLeft_add_eq_or_of_lt (b := x) (i := k) hx b
  rw [Nat.shiftLeft_eq] at this
  rw [Nat.or_comm, ← this, Nat.add_comm]
def w16 (f : Nat → Nat) : Nat := f 0 + 16 * f 1 + 256 * f 2 + 4096 * f 3
def siF (c i : Nat) : Nat := if shN c i < 3 then 1 else 0
def si (c : Nat) : Nat := w16 (siF c)
def sW (f : Nat → Nat) : Nat → Nat
  | 0 => 0
  | k + 1 => sW f k + f k * 2 ^ (4 * k)
theorem sW4 (f : Nat → Nat) : sW f 4 = w16 f := by
  show 0 + f 0 * 2 ^ (4 * 0) + f 1 * 2 ^ (4 * 1) + f 2 * 2 ^ (4 * 2) + f 3 * 2 ^ (4 * 3) = f 0 + 16 * f 1 + 256 * f 2 + 4096 * f 3
  rw [show (2 : Nat) ^ (4 * 0) = 1 from rfl, show (2 : Nat) ^ (4 * 1) = 16 from rfl, show (2 : Nat) ^ (4 * 2) = 256 from rfl, show (2 : Nat) ^ (4 * 3) = 4096 from rfl]
  omega
theorem siF_le (c i : Nat) : siF c i ≤ 1 := by unfold siF; split <;> omega
theorem sW_lt (f : Nat → Nat) (h : ∀ i, f i ≤ 1) : ∀ k, sW f k < 2 ^ (4 * k)
  | 0 => (by decide : (0 : Nat) < 2 ^ (4 * 0))
  | k + 1 => by
    have h1 := sW_lt f h k
    have h2 := Nat.mul_le_mul_right (2 ^ (4 * k)) (h k)
    unfold sW
    rw [show 4 * (k + 1) = 4 * k + 4 by omega, Nat.pow_add]
    omega
def LsM (cs : List Nat) (M : Mem) : Prop := M 287 86 = nI cs.length ∧ ∀ a, a < cs.length → M 353 a = nI (cs.getD a 0) ∧ M 354 a = nI (si (cs.getD a 0))
theorem q_list {nd : Nat → Nat} {M : Mem} (e82 : ∀ s, s < 3 → M 347 s = nI (nd s)) (hnd : ∀ s, s < 3 → nd s ≤ 2) {K : Mem → Prop} (h : ∀ M', (∀ c k, c ≠ 353 → c ≠ 354 → ¬ (c = 287 ∧ k = 86) → M' c k = M c k) → LsM (cods nd) M' → K M') : f_X12_findNeeded M K := by
  have h24 := cods24 hnd
  have hcods : cods nd = codL nd 256 := rfl
  unfold f_X12_findNeeded
  refine Lp.up (fun j a => ∃ M', a = (nI j, M') ∧ (∀ c k, c ≠ 353 → c ≠ 354 → ¬ (c = 287 ∧ k = 86) → M' c k = M c k) ∧ LsM (codL nd j) M') 256 (fun j a r hj ha hr => ?_) (j := 0) (by omega) ⟨_, rfl, fun c k d1 d2 d3 => by rw [mset_at, if_neg d3], by rw [mset_eq]; rfl, fun a ha => absurd ha (by exact Nat.not_lt_zero _)⟩
  obtain ⟨M', rfl, f1, f2, f3⟩ := ha
  have hlen : (codL nd j).length ≤ 24 := by
    obtain ⟨l, hl⟩ := codL_le nd (k := j) 256 hj
    rw [hcods, hl, List.length_append] at h24
    omega
  unfold f_X12_findNeeded_c7 f_X12_findNeeded_b95
  dsimp only
  rw [show (256 : Int32) = nI 256 from rfl, nI_le_iff (by omega) (by omega)]
  refine ⟨fun c => ?_, fun c => ?_⟩
  · rw [show j = 256 by omega] at f2 f3
    exact h M' f1 ⟨f2, f3⟩
  · refine q_need (nd := nd) (by omega) (fun s hs => (f1 347 s (by decide) (by decide) (by omega)).trans (e82 s hs)) hnd ?_
    have hs := codL_s nd j
    rw [f2, nI_1]
    cases hb : ndOk nd j with
    | false =>
      rw [hb, if_neg (by decide)] at hs
      refine ⟨fun _ => hr (by omega) _ ⟨M', rfl, f1, ?_⟩, fun z => absurd rfl z⟩
      rw [hs]
      exact ⟨f2, f3⟩
    | true =>
      rw [hb, if_pos rfl] at hs
      refine ⟨fun z => absurd z (by decide), fun _ => ⟨vin_nI (by omega) (by decide), vin_nI (by omega) (by decide), ?_⟩⟩
      rw [nI_cl (codL nd j).length (by omega)]
      generalize hn : (codL nd j).length = n at *
      refine Lp.up (fun i a => ∃ M2, a = (nI j, nI i, M2) ∧ (∀ c k, ¬ (c = 353 ∧ k = n) → ¬ (c = 354 ∧ k = n) → M2 c k = M' c k) ∧ M2 353 n = nI j ∧ M2 354 n = nI (sW (siF j) i)) 4 (fun i a r' hi ha hr' => ?_) (j := 0) (by omega) ⟨_, rfl, fun c k d1 d2 => by rw [mset_at, if_neg d2, mset_at, if_neg d1], by rw [mset_ne _ _ _ (by decide), mset_eq], by rw [mset_eq]; rfl⟩
      obtain ⟨M2, rfl, g1, g2, g3⟩ := ha
      have e86 : M2 287 86 = nI n := (g1 287 86 (by omega) (by omega)).trans f2
      unfold f_X12_findNeeded_c44 f_X12_findNeeded_b73 f_X12_findNeeded_b95
      dsimp only
      rw [lq_4 (by omega), e86, nI_1, nI_1, nI_1]
      refine ⟨fun c4 => ?_, fun c4 => ⟨vin_nI (by omega) (by decide), ?_⟩⟩
      · rw [show i = 4 by omega, sW4] at g3
        refine hr (by omega) _ ⟨_, rfl, fun c k d1 d2 d3 => ?_, ?_, fun a ha => ?_⟩
        · rw [mset_at, if_neg d3, g1 c k (by omega) (by omega)]; exact f1 c k d1 d2 d3
        · rw [mset_eq, hs, List.length_append, List.length_singleton, hn]
        · rw [hs, List.length_append, List.length_singleton, hn] at ha
          rw [mset_ne _ _ _ (by decide), mset_ne _ _ _ (by decide), hs, getD_snoc, hn]
          by_cases e : a = n
          · subst e
            rw [if_neg (by omega), if_pos rfl]
            exact ⟨g2, g3⟩
          · rw [if_pos (by omega), g1 353 a (by omega) (by omega), g1 354 a (by omega) (by omega)]
            exact f3 a (by omega)
      · have hs4 := shN_lt j i
        have h2 := sW_lt (siF j) (siF_le j) i
        have e4 : (4 : Int32) * nI i = nI (4 * i) := by rw [show (4 : Int32) = nI 4 from rfl, pk_mul]
        rw [sh_mi (by omega) (by omega), nI_cl n (by omega), g3, e4, show (3 : Int32) = nI 3 from rfl, nI_le_iff (by omega) (by omega), show (0 : Int32) = nI 0 from rfl, show (1 : Int32) = nI 1 from rfl, or_gen h2 (by omega) (by omega), or_gen h2 (by omega) (by omega)]
        have hput : r' (nI j, nI (i + 1), mset M2 354 n (nI (sW (siF j) (i + 1)))) := by
          refine hr' (by omega) _ ⟨_, rfl, fun c k d1 d2 => ?_, ?_, mset_eq _ _ _ _⟩
          · rw [mset_at, if_neg d2]; exact g1 c k d1 d2
          · rw [mset_ne _ _ _ (by decide)]; exact g2
        have hsW : sW (siF j) (i + 1) = sW (siF j) i + siF j i * 2 ^ (4 * i) := rfl
        refine ⟨fun z => ⟨vin_nI (by omega) (by decide), ?_⟩, fun z => ⟨vin_nI (by omega) (by decide), ?_⟩⟩
        · have : siF j i = 0 := if_neg (by omega)
          rw [hsW, this] at hput
          exact hput
        · have : siF j i = 1 := if_pos (by omega)
          rw [hsW, this] at hput
          exact hput
theorem w16_d {f : Nat → Nat} (hf : ∀ i, f i ≤ 15) : w16 f % 16 = f 0 ∧ w16 f / 16 % 16 = f 1 ∧ w16 f / 256 % 16 = f 2 ∧ w16 f / 4096 % 16 = f 3 := by
  have := hf 0; have := hf 1; have := hf 2; have := hf 3
  unfold w16
  generalize f 0 = a0 at *; generalize f 1 = a1 at *; generalize f 2 = a2 at *; generalize f 3 = a3 at *
  refine ⟨?_, ?_, ?_, ?_⟩ <;> omega
theorem w16_div {f : Nat → Nat} (hf : ∀ i, f i ≤ 15) : ∀ i, i < 4 → w16 f / 2 ^ (4 * i) % 16 = f i := by
  obtain ⟨z1, z2, z3, z4⟩ := w16_d hf
  refine i4c ?_ z2 z3 z4
  rw [Nat.mul_zero, Nat.pow_zero, Nat.div_one]
  exact z1
theorem w16_c (c : Nat) (pre : List Nat) : w16 (cnS pre) + si c = w16 (cnS (c :: pre)) := by
  unfold si w16 siF
  rw [cnS_c, cnS_c, cnS_c, cnS_c]
  omega
theorem w16_lt {f : Nat → Nat} (hf : ∀ i, f i ≤ 15) : w16 f < 65536 := by
  have := hf 0; have := hf 1; have := hf 2; have := hf 3
  unfold w16
  omega
theorem fl_1b : ∀ r : Fin 8, (nI r.val &&& 1 = 1) ↔ r.val % 2 = 1 := by decide
theorem fl_2b : ∀ r : Fin 8, (nI r.val &&& 2 = 2) ↔ r.val / 2 % 2 = 1 := by decide
def tird (pre : List Nat) (c j : Nat) : Prop := ∃ c' l, pre = c' :: l ∧ shN c' j = 2 ∧ shN c j < 2
theorem rsB_t {pre : List Nat} {c : Nat} : rsB pre c = true ↔ ∀ j, j < 4 → ¬ tird pre c j := by
  cases pre with
  | nil => exact ⟨fun _ j _ ⟨c', l, e, _⟩ => absurd e (by simp), fun _ => rfl⟩
  | cons c' l =>
    show rstOk c' c = true ↔ _
    unfold rstOk
    rw [List.all_eq_true]
    constructor
    · intro h j hj ⟨c2, l2, e, e1, e2⟩
      cases e
      exact decide_eq_true_iff.mp (h j (List.mem_range.mpr hj)) ⟨e1, e2⟩
    · intro h j hj
      exact decide_eq_true_iff.mpr (fun z => h j (List.mem_range.mp hj) ⟨c', l, rfl, z.1, z.2⟩)
theorem q_may {r most : Nat} {pre : List Nat} {c k : Nat} (hr8 : r < 8) (hmo : most ≤ 4) (hp : pre.length < 4) (hpc : ∀ x, x ∈ pre → x < 256) (hc : c < 256) (hk : k < 256) {M : Mem} (e356 : M 356 pre.length = nI (w16 (cnS pre))) (e354 : M 354 k = nI (si c)) (e353 : M 353 k = nI c) (e4 : M 325 4 = nI most)
    (e350 : ∀ j, j < pre.length → M 350 j = nI (pre.getD (pre.length - 1 - j) 0)) {K : Int32 → Mem → Prop} (h : K (bi (stO r most pre c)) M) : f_X12_mayStand (nI pre.length) (nI k) (nI r) M K := by
  have h1 := fl_1b ⟨r, hr8⟩
  have h2 := fl_2b ⟨r, hr8⟩
  simp only at h1 h2
  have hcn : ∀ i, cnS (c :: pre) i ≤ 15 := fun i => by have := cnS_le (c :: pre) i; rw [List.length_cons] at this; omega
  have hN := w16_lt hcn
  have hdv := w16_div hcn
  unfold f_X12_mayStand
  refine ⟨vin_nI (by omega) (by decide), vin_nI (by omega) (by decide), ?_⟩
  rw [nI_cl _ (by omega), nI_cl k (by omega), e356, e354, nI_add, w16_c]
  generalize hNn : w16 (cnS (c :: pre)) = N at hN hdv
  have hfalse : ∀ i, i < 4 → (r % 2 = 1 ∧ tird pre c i ∨ r / 2 % 2 = 1 ∧ ¬ cnS (c :: pre) i ≤ most) → K 0 M := by
    intro i hi hz
    have : stO r most pre c = false := by
      rw [← Bool.not_eq_true]
      intro z
      rw [stO_iff, rsB_t] at z
      rcases hz with q | q
      · exact z.1 q.1 i hi q.2
      · exact q.2 (z.2 q.1 i hi)
    rw [this] at h
    exact h
  refine Lp.up (fun i a => a = (nI pre.length, nI k, nI r, nI N, nI i, M) ∧ ∀ j, j < i → (r % 2 = 1 → ¬ tird pre c j) ∧ (r / 2 % 2 = 1 → cnS (c :: pre) j ≤ most)) 4 (fun i a r' hi ha hr => ?_) (j := 0) (by omega) ⟨rfl, fun j hj => absurd hj (by omega)⟩
  obtain ⟨rfl, hp2⟩ := ha
  unfold f_X12_mayStand_c18
  dsimp only
  rw [lq_4 (by omega)]
  refine ⟨fun c4 => ?_, fun c4 => ?_⟩
  · have : stO r most pre c = true := stO_iff.mpr ⟨fun q => rsB_t.mpr (fun j hj => (hp2 j (by omega)).1 q), fun q j hj => (hp2 j (by omega)).2 q⟩
    rw [this] at h
    exact h
  · have hgo : (r % 2 = 1 → ¬ tird pre c i) → f_X12_mayStand_b79 r' K (nI pre.length) (nI k) (nI r) (nI N) (nI i) M := by
      intro ht
      have e4i : (4 : Int32) * nI i = nI (4 * i) := by rw [show (4 : Int32) = nI 4 from rfl, pk_mul]
      have ef : (nI N >>> (nI (4 * i) &&& 31)) &&& 15 = nI (cnS (c :: pre) i) := by
        rw [pk_shrN (by omega) _ (4 * i) (shS (4 * i) (by omega)), ← hdv i (by omega)]
        exact pk_andN (n := N / 2 ^ (4 * i)) (by have := Nat.div_le_self N (2 ^ (4 * i)); omega) (m := 15) 4 rfl
      unfold f_X12_mayStand_b79 f_X12_mayStand_b107 f_X12_mayStand_b105
      have hci := hcn i
      rw [h2, e4i, ef, e4, nI_le_iff (by omega) (by omega), nI_1]
      have hnx : (r / 2 % 2 = 1 → cnS (c :: pre) i ≤ most) → r' (nI pre.length, nI k, nI r, nI N, nI (i + 1), M) := fun hq => hr (by omega) _ ⟨rfl, fun j hj => by
        by_cases e : j = i
        · subst e; exact ⟨ht, hq⟩
        · exact hp2 j (by omega)⟩
      exact ⟨fun z => hnx (fun q => absurd q z), fun z => ⟨fun y => hnx (fun _ => y), fun y => hfalse i (by omega) (Or.inr ⟨z, y⟩)⟩⟩
    have h65 : ∀ t : Bool, (t = true ↔ tird pre c i) → f_X12_mayStand_b65 r' K (nI pre.length) (nI k) (nI r) (nI N) (nI i) (bi t) M := by
      intro t ht
      unfold f_X12_mayStand_b65 f_X12_mayStand_b105
      rw [h1]
      refine ⟨fun z => hgo (fun q => absurd q z), fun z => ⟨fun y => ?_, fun y => ?_⟩⟩
      · cases t with
        | false => exact absurd rfl y
        | true => exact hfalse i (by omega) (Or.inl ⟨z, ht.mp rfl⟩)
      · rw [bi_0] at y
        subst y
        exact hgo (fun _ q => absurd (ht.mpr q) (by decide))
    unfold f_X12_mayStand_b64
    have hno : ¬ tird pre c i → f_X12_mayStand_b65 r' K (nI pre.length) (nI k) (nI r) (nI N) (nI i) 0 M := fun z => h65 false ⟨fun q => absurd q (by decide), fun q => absurd q z⟩
    have hye : tird pre c i → f_X12_mayStand_b65 r' K (nI pre.length) (nI k) (nI r) (nI N) (nI i) 1 M := fun z => h65 true ⟨fun _ => z, fun _ => rfl⟩
    rw [show (0 : Int32) = nI 0 from rfl, nI_le_iff (a := pre.length) (by omega) (by omega), show nI 0 = (0 : Int32) from rfl]
    cases pre with
    | nil => exact ⟨fun _ => hno (fun ⟨_, _, e, _⟩ => by cases e), fun z => absurd (Nat.le_refl 0) z⟩
    | cons c' l =>
      have hc' : c' < 256 := hpc c' (List.mem_cons_self ..)
      have hl : (c' :: l).length = l.length + 1 := List.length_cons
      have e50 : M 350 l.length = nI c' := by
        have := e350 l.length (by omega)
        rw [hl, Nat.add_sub_cancel, Nat.sub_self] at this
        exact this
      refine ⟨fun z => absurd z (by omega), fun _ => ?_⟩
      rw [hl, nI_s1 (by omega) (by omega), Nat.add_sub_cancel, nI_cl l.length (by omega), e50]
      have hs1 := shN_lt c' i
      have hs2 := shN_lt c i
      rw [hl] at hno hye
      refine ⟨vin_nI (by omega) (by decide), ?_⟩
      rw [sh_mi hc' (by omega), show (2 : Int32) = nI 2 from rfl, nI_eq_iff (by omega) (by omega)]
      refine ⟨fun z => hno (fun ⟨_, _, e, e1, _⟩ => by cases e; exact z e1), fun z => ⟨vin_nI (by omega) (by decide), ?_⟩⟩
      rw [nI_cl k (by omega), e353, sh_mi hc (by omega), nI_le_iff (by omega) (by omega)]
      exact ⟨fun y => hno (fun ⟨_, _, e, _, e2⟩ => by cases e; omega), fun y => hye ⟨c', l, rfl, z, by omega⟩⟩
theorem cn4 {pre : List Nat} (h : pre.length = 4) (i : Nat) : cnN pre i = sK (fun d => if shN (pre.getD (3 - d) 0) i = 2 then 1 else 0) 4 := by
  match pre, h with
  | [a, b, c, d], _ =>
    rw [sK4]
    unfold s4
    rw [cnN_c, cnN_c, cnN_c, cnN_c]
    show _ = (if shN d i = 2 then 1 else 0) + (if shN c i = 2 then 1 else 0) + (if shN b i = 2 then 1 else 0) + (if shN a i = 2 then 1 else 0)
    rw [show cnN [] i = 0 from rfl]
    omega
theorem q_fair {pre : List Nat} (hp : pre.length = 4) (hpc : ∀ x, x ∈ pre → x < 256) {M : Mem} (e350 : ∀ j, j < 4 → M 350 j = nI (pre.getD (3 - j) 0)) {K : Int32 → Mem → Prop} (h1 : ¬ apart 0 pre → K 1 M) (h0 : apart 0 pre → K 0 M) : f_X12_isFair M K := by
  have hc4 : ∀ i, cnN pre i ≤ 4 := fun i => by have := cnN_le pre i; omega
  unfold f_X12_isFair
  refine Lp.up (fun i a => ∃ mn mx, a = (nI mn, nI mx, nI i, M) ∧ mn ≤ 9 ∧ mx ≤ 4 ∧ (∀ j, j < i → mn ≤ cnN pre j ∧ cnN pre j ≤ mx) ∧ (mn = 9 ∨ ∃ j, j < 4 ∧ cnN pre j = mn) ∧ (mx = 0 ∨ ∃ j, j < 4 ∧ cnN pre j = mx)) 4 (fun i a r hi ha hr => ?_) (j := 0) (by omega) ⟨9, 0, rfl, by omega, by omega, fun j hj => absurd hj (by omega), Or.inl rfl, Or.inl rfl⟩
  obtain ⟨mn, mx, rfl, l1, l2, hb, hn, hx⟩ := ha
  unfold f_X12_isFair_c7 f_X12_isFair_b99
  dsimp only
  rw [lq_4 (by omega)]
  refine ⟨fun c => ?_, fun c => ?_⟩
  · have hb0 := hb 0 (by omega)
    rw [nI_sb (by omega) (by omega), show (2 : Int32) = nI 2 from rfl, nI_le_iff (by omega) (by omega)]
    refine ⟨fun z => ⟨bz0, h0 ?_⟩, fun z => ⟨bz1, h1 ?_⟩⟩
    · rcases hn with q | ⟨jn, q1, q2⟩
      · have := hc4 0; omega
      · rcases hx with q | ⟨jx, q3, q4⟩
        · omega
        · exact ⟨jx, jn, q3, q1, by omega⟩
    · rintro ⟨i', j', hi', hj', hc⟩
      have := hb i' (by omega)
      have := hb j' (by omega)
      omega
  · refine Lp.up (fun d a => a = (nI mn, nI mx, nI i, nI (sK (fun d => if shN (pre.getD (3 - d) 0) i = 2 then 1 else 0) d), nI d, M)) 4 (fun d a r' hd ha hr' => ?_) (j := 0) (by omega) rfl
    subst ha
    have hsk := sK_le (fun d => if shN (pre.getD (3 - d) 0) i = 2 then 1 else 0) (fun d => by show (if shN (pre.getD (3 - d) 0) i = 2 then 1 else 0) ≤ 1; split <;> omega) d
    unfold f_X12_isFair_c18 f_X12_isFair_b67 f_X12_isFair_b80 f_X12_isFair_b46
    dsimp only
    rw [lq_4 (by omega)]
    refine ⟨fun c4 => ?_, fun c4 => ⟨vin_nI (by omega) (by decide), ?_⟩⟩
    · rw [show d = 4 by omega, ← cn4 hp]
      have hci := hc4 i
      generalize hcv : cnN pre i = v at hci
      have hput : ∀ mn' mx', mn' ≤ mn → mn' ≤ v → mx ≤ mx' → v ≤ mx' → mx' ≤ 4 → (mn' = mn ∨ mn' = v) → (mx' = mx ∨ mx' = v) → r (nI mn', nI mx', nI (i + 1), M) := by
        intro mn' mx' q1 q2 q3 q4 q5 q6 q7
        refine hr (by omega) _ ⟨mn', mx', rfl, by omega, q5, fun j hj => ?_, ?_, ?_⟩
        · by_cases e : j = i
          · subst e; rw [hcv]; exact ⟨q2, q4⟩
          · have := hb j (by omega); omega
        · rcases q6 with rfl | rfl
          · exact hn
          · exact Or.inr ⟨i, by omega, hcv⟩
        · rcases q7 with rfl | rfl
          · exact hx
          · exact Or.inr ⟨i, by omega, hcv⟩
      rw [nI_le_iff (by omega) (by omega), nI_le_iff (by omega) (by omega), nI_1]
      refine ⟨fun z => ⟨fun y => ?_, fun y => ?_⟩, fun z => ⟨fun y => ?_, fun y => ?_⟩⟩
      · exact hput mn mx (by omega) (by omega) (by omega) (by omega) (by omega) (Or.inl rfl) (Or.inl rfl)
      · exact hput mn v (by omega) (by omega) (by omega) (by omega) (by omega) (Or.inl rfl) (Or.inr rfl)
      · exact hput v mx (by omega) (by omega) (by omega) (by omega) (by omega) (Or.inr rfl) (Or.inl rfl)
      · exact hput v v (by omega) (by omega) (by omega) (by omega) (by omega) (Or.inr rfl) (Or.inr rfl)
    · have hr2 := hr' (by omega) _ rfl
      unfold sK at hr2
      have hlt : pre.getD (3 - d) 0 < 256 := hpc _ (getD_mem (by omega))
      have := shN_lt (pre.getD (3 - d) 0) i
      rw [nI_cl d (by omega), e350 d (by omega), sh_mi hlt (by omega), show (2 : Int32) = nI 2 from rfl, nI_eq_iff (by omega) (by omega), nI_1]
      refine ⟨fun e => ?_, fun e => ?_⟩
      · rw [if_neg e] at hr2
        rw [Int32.add_zero]
        exact hr2
      · rw [if_pos e] at hr2
        rw [nI_1]
        exact hr2
theorem q_brk {x13 : Nat → Int32} {tm : List Nat} {d c : Nat} (hd : d < 4) (hc : c < 256) {M : Mem} (e349 : ∀ i, i < 4 → M 349 i = nI (tm.getD i 0) ∧ tm.getD i 0 < 24) (e348 : ∀ p, p < 24 → ∀ b, b < 12 → M 348 (12 * p + b) = if bt (x13 p) b = true then 1 else 0) {K : Int32 → Mem → Prop} (h : K (nI (wsh x13 tm d c)) M) : f_X12_brokenBy (nI d) (nI c) M K := by
  have hw : wsh x13 tm d c = sK (wsF x13 tm d c) 4 := (sK4 _).symm
  unfold f_X12_brokenBy
  refine Lp.up (fun i a => a = (nI d, nI c, nI (sK (wsF x13 tm d c) i), nI i, M)) 4 (fun i a r hi ha hr => ?_) (j := 0) (by omega) rfl
  subst ha
  unfold f_X12_brokenBy_c5 f_X12_brokenBy_b55 f_X12_brokenBy_b56
  dsimp only
  rw [lq_4 (by omega)]
  refine ⟨fun c4 => ?_, fun c4 => ?_⟩
  · rw [show i = 4 by omega, ← hw]
    exact h
  · have hs := shN_lt c i
    have hr2 := hr (by omega) _ rfl
    have hst : sK (wsF x13 tm d c) (i + 1) = sK (wsF x13 tm d c) i + wsF x13 tm d c i := rfl
    rw [hst] at hr2
    have z0 : ∀ x : Int32, x + 0 = x := fun x => Int32.add_zero x
    obtain ⟨q1, q2⟩ := e349 i (by omega)
    have em : (((12 : Int32) * nI (tm.getD i 0)) + ((3 : Int32) * nI d)) + nI (shN c i) = nI (12 * tm.getD i 0 + (3 * d + shN c i)) := by
      rw [show (12 : Int32) = nI 12 from rfl, show (3 : Int32) = nI 3 from rfl, pk_mul, pk_mul, nI_add, nI_add, Nat.add_assoc]
    rw [sh_mi hc (by omega), nI_1, show (3 : Int32) ≤ nI (shN c i) ↔ 3 ≤ shN c i from lq_3 (by omega)]
    refine ⟨fun e3 => ?_, fun n3 => ⟨vin_nI (by omega) (by decide), ?_⟩⟩
    · have : wsF x13 tm d c i = 0 := if_neg (fun z => by omega)
      rw [this] at hr2
      rw [z0]; exact hr2
    · rw [nI_cl i (by omega), q1, em, nI_cl _ (by omega), e348 _ q2 _ (by omega)]
      refine ⟨vin_nI (by omega) (by decide), fun n => ?_, fun b => ?_⟩
      · have : wsF x13 tm d c i = 0 := if_neg (fun z => by rw [if_pos z.2] at n; exact absurd n (by decide))
        rw [this] at hr2
        rw [z0]; exact hr2
      · have : wsF x13 tm d c i = 1 := if_pos ⟨by omega, by
          by_cases z : bt (x13 (tm.getD i 0)) (3 * d + shN c i) = true
          · exact z
          · rw [if_neg z] at b; exact absurd rfl b⟩
        rw [this] at hr2
        rw [nI_1]; exact hr2
