/-! SHIFTS, the class: the days' ways are listed, and what each breaks -/
theorem sh_v : ∀ c : Fin 256, ∀ i : Fin 4, (nI c.val >>> (((2 : Int32) * ((3 : Int32) - nI i.val)) &&& 31)) &&& (3 : Int32) = nI (shN c.val i.val) := by decide +kernel
theorem shN_lt (c i : Nat) : shN c i < 4 := Nat.mod_lt _ (by decide)
theorem sh_in {c i : Nat} (hc : c < 256) (hi : i < 4) (M : Mem) (K : Int32 → Mem → Prop) : f_X8_shiftIn (nI c) (nI i) M K ↔ K (nI (shN c i)) M := by
  unfold f_X8_shiftIn
  rw [sh_v ⟨c, hc⟩ ⟨i, hi⟩]
def sK (f : Nat → Nat) : Nat → Nat
  | 0 => 0
  | k + 1 => sK f k + f k
theorem sK4 (f : Nat → Nat) : sK f 4 = s4 f := by
  unfold s4
  show 0 + f 0 + f 1 + f 2 + f 3 = _
  omega
theorem sK_le (f : Nat → Nat) (h : ∀ i, f i ≤ 1) : ∀ k, sK f k ≤ k
  | 0 => Nat.le_refl _
  | k + 1 => by have := sK_le f h k; have := h k; unfold sK; omega
theorem s4_le (f : Nat → Nat) (b : Nat) (h : ∀ i, f i ≤ b) : s4 f ≤ 4 * b := by
  have := h 0; have := h 1; have := h 2; have := h 3
  unfold s4
  omega
theorem t_meets {nd : Nat → Nat} {c : Nat} (hc : c < 256) {M : Mem} (e82 : ∀ s, s < 3 → M 82 s = nI (nd s)) (hnd : ∀ s, s < 3 → nd s ≤ 2) {K : Int32 → Mem → Prop} (h : K (bi (ndOk nd c)) M) : f_X8_meetsNeed (nI c) M K := by
  unfold f_X8_meetsNeed
  refine Lp.up (fun k a => a = (nI c, nI k, M) ∧ ∀ s, s < k → s4 (fun i => if shN c i = s then 1 else 0) = nd s) 3 (fun k a r hk ha hr => ?_) (j := 0) (by omega) ⟨rfl, fun s hs => absurd hs (by omega)⟩
  obtain ⟨rfl, hp⟩ := ha
  unfold f_X8_meetsNeed_c2
  dsimp only
  rw [lq_3 (by omega)]
  refine ⟨fun c3 => ?_, fun c3 => ?_⟩
  · have : ndOk nd c = true := by
      unfold ndOk
      rw [List.all_eq_true]
      intro s hs
      exact decide_eq_true (hp s (by have := List.mem_range.mp hs; omega))
    rw [this] at h
    exact h
  · refine Lp.up (fun i a => a = (nI c, nI k, nI (sK (fun i => if shN c i = k then 1 else 0) i), nI i, M)) 4 (fun i a r' hi ha hr' => ?_) (j := 0) (by omega) rfl
    subst ha
    unfold f_X8_meetsNeed_c12 f_X8_meetsNeed_b34
    dsimp only
    have hsk := sK_le (fun i => if shN c i = k then 1 else 0) (fun i => by show (if shN c i = k then 1 else 0) ≤ 1; split <;> omega) i
    rw [lq_4 (by omega)]
    refine ⟨fun c4 => ⟨vin_nI (by omega) (by decide), ?_⟩, fun c4 => ?_⟩
    · have := hnd k (by omega)
      rw [nI_cl k (by omega), e82 k (by omega), nI_eq_iff (by omega) (by omega)]
      rw [show i = 4 by omega, sK4]
      refine ⟨fun e => ?_, fun e => ?_⟩
      · rw [nI_1]
        refine hr (by omega) _ ⟨rfl, fun s hs => ?_⟩
        by_cases q : s = k
        · subst q; exact e
        · exact hp s (by omega)
      · have : ndOk nd c = false := by
          rw [← Bool.not_eq_true]
          intro z
          unfold ndOk at z
          rw [List.all_eq_true] at z
          exact e (decide_eq_true_iff.mp (z k (List.mem_range.mpr (by omega))))
        rw [this] at h
        exact h
    · have hr2 := hr' (by omega) _ rfl
      unfold sK at hr2
      rw [sh_in hc (by omega), nI_eq_iff (by have := shN_lt c i; omega) (by omega), nI_1]
      refine ⟨fun e => ?_, fun e => ?_⟩
      · rw [if_neg e] at hr2
        rw [Int32.add_zero]
        exact hr2
      · rw [if_pos e] at hr2
        rw [nI_1]
        exact hr2
def ntF (c i : Nat) : Nat := if shN c i = 2 then 8 ^ i else 0
def bdF (c i : Nat) : Nat := if shN c i < 2 then 8 ^ i else 0
def nt (c : Nat) : Nat := s4 (ntF c)
def bd (c : Nat) : Nat := s4 (bdF c)
theorem or_st : ∀ i : Fin 4, ∀ x : Fin 512, x.val < 8 ^ i.val → nI x.val ||| ((1 : Int32) <<< (((3 : Int32) * nI i.val) &&& 31)) = nI (x.val + 8 ^ i.val) := by decide +kernel
theorem sK_lt8 (f : Nat → Nat) (h : ∀ i, f i ≤ 8 ^ i) : ∀ k, sK f k < 8 ^ k
  | 0 => (by decide : (0 : Nat) < 8 ^ 0)
  | k + 1 => by
    have := sK_lt8 f h k
    have := h k
    unfold sK
    rw [Nat.pow_succ]
    omega
theorem ntF_le (c i : Nat) : ntF c i ≤ 8 ^ i := by unfold ntF; split; exact Nat.le_refl _; exact Nat.zero_le _
theorem bdF_le (c i : Nat) : bdF c i ≤ 8 ^ i := by unfold bdF; split; exact Nat.le_refl _; exact Nat.zero_le _
theorem pw8 {k : Nat} (h : k < 4) : (8 : Nat) ^ k ≤ 512 := Nat.pow_le_pow_right (n := 8) (by decide) (show k ≤ 3 by omega)
theorem t_mark {c a : Nat} (hc : c < 256) (ha : a < 24) {M : Mem} {K : Mem → Prop} (h : ∀ M', (∀ c k, ¬ (c = 85 ∧ k = a) → ¬ (c = 86 ∧ k = a) → M' c k = M c k) → M' 85 a = nI (nt c) → M' 86 a = nI (bd c) → K M') : f_X8_markShifts (nI a) (nI c) M K := by
  unfold f_X8_markShifts
  refine ⟨vin_nI ha (by decide), vin_nI ha (by decide), ?_⟩
  rw [nI_cl a (by omega)]
  refine Lp.up (fun i x => ∃ M', x = (nI a, nI c, nI i, M') ∧ (∀ c k, ¬ (c = 85 ∧ k = a) → ¬ (c = 86 ∧ k = a) → M' c k = M c k) ∧ M' 85 a = nI (sK (ntF c) i) ∧ M' 86 a = nI (sK (bdF c) i)) 4 (fun i x r hi hx hr => ?_) (j := 0) (by omega) ⟨_, rfl, fun c k d1 d2 => by rw [mset_at, if_neg d2, mset_at, if_neg d1], by rw [mset_ne _ _ _ (by decide), mset_eq]; rfl, by rw [mset_eq]; rfl⟩
  obtain ⟨M', rfl, f1, f2, f3⟩ := hx
  unfold f_X8_markShifts_c16 f_X8_markShifts_b71
  dsimp only
  rw [lq_4 (by omega)]
  refine ⟨fun c4 => ?_, fun c4 => ?_⟩
  · have e4 : i = 4 := by omega
    subst e4
    rw [sK4] at f2 f3
    exact h M' f1 f2 f3
  · have hs := shN_lt c i
    have hp := pw8 (k := i) (by omega)
    have l1 := sK_lt8 (ntF c) (ntF_le c) i
    have l2 := sK_lt8 (bdF c) (bdF_le c) i
    have o1 := or_st ⟨i, by omega⟩ ⟨sK (ntF c) i, by omega⟩ l1
    have o2 := or_st ⟨i, by omega⟩ ⟨sK (bdF c) i, by omega⟩ l2
    have s1 : sK (ntF c) (i + 1) = sK (ntF c) i + ntF c i := rfl
    have s2 : sK (bdF c) (i + 1) = sK (bdF c) i + bdF c i := rfl
    simp only at o1 o2
    rw [sh_in hc (by omega), nI_cl a (by omega), nI_1]
    rw [show (2 : Int32) = nI 2 from rfl, show (3 : Int32) = nI 3 from rfl, nI_eq_iff (by omega) (by omega), nI_eq_iff (by omega) (by omega)]
    refine ⟨fun n2 => ⟨fun e3 => ?_, fun n3 => ⟨vin_nI ha (by decide), vin_nI ha (by decide), ?_⟩⟩, fun e2 => ⟨vin_nI ha (by decide), vin_nI ha (by decide), ?_⟩⟩
    · refine hr (by omega) _ ⟨M', rfl, f1, ?_, ?_⟩
      · rw [f2, s1]; unfold ntF; rw [if_neg n2]; rfl
      · rw [f3, s2]; unfold bdF; rw [if_neg (by omega)]; rfl
    · refine hr (by omega) _ ⟨_, rfl, fun c k d1 d2 => ?_, ?_, ?_⟩
      · rw [mset_at, if_neg d2]; exact f1 c k d1 d2
      · rw [mset_ne _ _ _ (by decide), f2, s1]; unfold ntF; rw [if_neg n2]; rfl
      · rw [mset_eq, f3, s2]
        have : bdF c i = 8 ^ i := if_pos (by omega)
        rw [this]
        exact o2
    · refine hr (by omega) _ ⟨_, rfl, fun c k d1 d2 => ?_, ?_, ?_⟩
      · rw [mset_at, if_neg d1]; exact f1 c k d1 d2
      · rw [mset_eq, f2, s1]
        have : ntF c i = 8 ^ i := if_pos e2
        rw [this]
        exact o1
      · rw [mset_ne _ _ _ (by decide), f3, s2]; unfold bdF; rw [if_neg (by omega)]; rfl
/-- the codes by which the needs are met, less than k -/
def codL (nd : Nat → Nat) (k : Nat) : List Nat := (List.range k).filter (ndOk nd)
theorem codL_s (nd : Nat → Nat) (k : Nat) : codL nd (k + 1) = if ndOk nd k = true then codL nd k ++ [k] else codL nd k := by
  unfold codL
  rw [List.range_succ, List.filter_append]
  by_cases h : ndOk nd k = true
  · rw [if_pos h]; simp [h]
  · rw [if_neg h]; simp [h]
theorem codL_le (nd : Nat → Nat) {k : Nat} : ∀ n, k ≤ n → ∃ l, codL nd n = codL nd k ++ l
  | 0, h => ⟨[], by rw [show k = 0 by omega, List.append_nil]⟩
  | n + 1, h => by
    by_cases e : k = n + 1
    · subst e; exact ⟨[], by rw [List.append_nil]⟩
    · obtain ⟨l, hl⟩ := codL_le nd (k := k) n (by omega)
      rw [codL_s, hl]
      split
      · exact ⟨l ++ [n], by rw [List.append_assoc]⟩
      · exact ⟨l, rfl⟩
theorem ndOk_cong {nd nd' : Nat → Nat} (h : ∀ s, s < 3 → nd s = nd' s) (c : Nat) : ndOk nd c = ndOk nd' c := by
  unfold ndOk
  rw [Bool.eq_iff_iff, List.all_eq_true, List.all_eq_true]
  constructor
  · intro z s hs
    rw [← h s (List.mem_range.mp hs)]; exact z s hs
  · intro z s hs
    rw [h s (List.mem_range.mp hs)]; exact z s hs
theorem cods24a : ∀ a b c : Fin 3, ((List.range 256).filter (ndOk (fun s => if s = 0 then a.val else if s = 1 then b.val else c.val))).length ≤ 24 := by decide +kernel
theorem cods24 {nd : Nat → Nat} (h : ∀ s, s < 3 → nd s ≤ 2) : (cods nd).length ≤ 24 := by
  have := cods24a ⟨nd 0, by have := h 0 (by omega); omega⟩ ⟨nd 1, by have := h 1 (by omega); omega⟩ ⟨nd 2, by have := h 2 (by omega); omega⟩
  have e : cods nd = (List.range 256).filter (ndOk (fun s => if s = 0 then nd 0 else if s = 1 then nd 1 else nd 2)) := by
    unfold cods
    refine List.filter_congr (fun c _ => ndOk_cong (fun s hs => ?_) c)
    by_cases e0 : s = 0
    · subst e0; rfl
    · by_cases e1 : s = 1
      · subst e1; rfl
      · rw [show s = 2 by omega]; rfl
  rw [e]
  exact this
theorem cods_lt {nd : Nat → Nat} {c : Nat} (h : c ∈ cods nd) : c < 256 := List.mem_range.mp (List.mem_filter.mp h).1
/-- the ways as the class holds them -/
def LsC (cs : List Nat) (M : Mem) : Prop := M 81 4 = nI cs.length ∧ ∀ a, a < cs.length → M 84 a = nI (cs.getD a 0) ∧ M 85 a = nI (nt (cs.getD a 0)) ∧ M 86 a = nI (bd (cs.getD a 0))
theorem getD_snoc (l : List Nat) (x a : Nat) : (l ++ [x]).getD a 0 = if a < l.length then l.getD a 0 else if a = l.length then x else 0 := by
  simp only [List.getD_eq_getElem?_getD]
  by_cases h : a < l.length
  · rw [if_pos h, List.getElem?_append_left h]
  · rw [if_neg h]
    by_cases e : a = l.length
    · subst e; rw [if_pos rfl]; simp
    · rw [if_neg e, List.getElem?_eq_none_iff.mpr (by rw [List.length_append, List.length_singleton]; omega)]; rfl
theorem t_list {nd : Nat → Nat} {M : Mem} (e82 : ∀ s, s < 3 → M 82 s = nI (nd s)) (hnd : ∀ s, s < 3 → nd s ≤ 2) {K : Mem → Prop} (h : ∀ M', (∀ c k, c ≠ 84 → c ≠ 85 → c ≠ 86 → ¬ (c = 81 ∧ k = 4) → M' c k = M c k) → LsC (cods nd) M' → K M') : f_X8_listArrangements M K := by
  have h24 := cods24 hnd
  have hcods : cods nd = codL nd 256 := rfl
  unfold f_X8_listArrangements
  refine Lp.up (fun j a => ∃ M', a = (nI j, M') ∧ (∀ c k, c ≠ 84 → c ≠ 85 → c ≠ 86 → ¬ (c = 81 ∧ k = 4) → M' c k = M c k) ∧ LsC (codL nd j) M') 256 (fun j a r hj ha hr => ?_) (j := 0) (by omega) ⟨_, rfl, fun c k d1 d2 d3 d4 => by rw [mset_at, if_neg d4], by rw [mset_eq]; rfl, fun a ha => absurd ha (by exact Nat.not_lt_zero _)⟩
  obtain ⟨M', rfl, f1, f2, f3⟩ := ha
  have hlen : (codL nd j).length ≤ 24 := by
    obtain ⟨l, hl⟩ := codL_le nd (k := j) 256 hj
    rw [hcods, hl, List.length_append] at h24
    omega
  unfold f_X8_listArrangements_c7 f_X8_listArrangements_b60
  dsimp only
  rw [show (256 : Int32) = nI 256 from rfl, show (24 : Int32) = nI 24 from rfl, f2, nI_le_iff (by omega) (by omega), nI_le_iff (by omega) (by omega)]
  have hend : codL nd j = codL nd 256 → K M' := fun e => h M' f1 (by rw [hcods, ← e]; exact ⟨f2, f3⟩)
  refine ⟨fun c => hend (by rw [show j = 256 by omega]), fun c => ⟨fun c24 => hend ?_, fun c24 => ?_⟩⟩
  · obtain ⟨l, hl⟩ := codL_le nd (k := j) 256 hj
    rw [hcods, hl, List.length_append] at h24
    rw [hl, List.eq_nil_of_length_eq_zero (show l.length = 0 by omega), List.append_nil]
  · refine t_meets (nd := nd) (by omega) (fun s hs => (f1 82 s (by decide) (by decide) (by decide) (by omega)).trans (e82 s hs)) hnd ?_
    have hs := codL_s nd j
    rw [f2, nI_1]
    cases hb : ndOk nd j with
    | false =>
      rw [hb, if_neg (by decide)] at hs
      refine ⟨fun _ => hr (by omega) _ ⟨M', rfl, f1, ?_⟩, fun z => absurd rfl z⟩
      rw [hs]
      exact ⟨f2, f3⟩
    | true =>
      rw [hb, if_pos rfl] at hs
      refine ⟨fun z => absurd z (by decide), fun _ => ⟨vin_nI (by omega) (by decide), ?_⟩⟩
      rw [nI_cl (codL nd j).length (by omega)]
      generalize hn : (codL nd j).length = n at *
      refine t_mark (c := j) (by omega) (by omega) (fun M2 g1 g2 g3 => ?_)
      rw [g1 81 4 (by omega) (by omega), mset_ne _ _ _ (by decide), f2, nI_1]
      refine hr (by omega) _ ⟨_, rfl, fun c k d1 d2 d3 d4 => ?_, ?_, fun a ha => ?_⟩
      · rw [mset_at, if_neg d4, g1 c k (by omega) (by omega), mset_ne _ _ _ d1]
        exact f1 c k d1 d2 d3 d4
      · rw [mset_eq, hs, List.length_append, List.length_singleton, hn]
      · rw [hs, List.length_append, List.length_singleton, hn] at ha
        rw [mset_ne _ _ _ (by decide), mset_ne _ _ _ (by decide), mset_ne _ _ _ (by decide), hs, getD_snoc, hn]
        by_cases e : a = n
        · subst e
          rw [if_neg (by omega), if_pos rfl, g2, g3, g1 84 a (by omega) (by omega), mset_eq]
          exact ⟨rfl, rfl, rfl⟩
        · rw [if_pos (by omega), g1 84 a (by omega) (by omega), g1 85 a (by omega) (by omega), g1 86 a (by omega) (by omega), mset_nk _ _ _ e, mset_ne _ _ _ (by decide), mset_ne _ _ _ (by decide)]
          exact f3 a (by omega)
