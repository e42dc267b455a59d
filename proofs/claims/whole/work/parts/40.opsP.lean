/-! piece times; points -/
/-- of the first q studies those that count: how many, their sum, a least, a greatest -/
def st4 (D V : Nat → Int32) (d : Int32) (L : Nat) : Nat → Nat × Nat × Nat × Nat
  | 0 => (0, 0, L, 0)
  | q + 1 => if D q ≤ d then ((st4 D V d L q).1 + 1, (st4 D V d L q).2.1 + nn (V q), (if nn (V q) < (st4 D V d L q).2.2.1 then nn (V q) else (st4 D V d L q).2.2.1), (if (st4 D V d L q).2.2.2 < nn (V q) then nn (V q) else (st4 D V d L q).2.2.2)) else st4 D V d L q
theorem st4_b (D V : Nat → Int32) (d : Int32) (L : Nat) (hL : 1000 ≤ L) : ∀ q, (∀ k, k < q → 1 ≤ V k ∧ V k ≤ 999) → (st4 D V d L q).1 ≤ q ∧ (st4 D V d L q).2.1 ≤ 999 * q ∧ (st4 D V d L q).2.2.2 ≤ 999 ∧ (st4 D V d L q).2.2.1 ≤ L ∧ ((st4 D V d L q).1 = 0 → (st4 D V d L q).2.1 = 0 ∧ (st4 D V d L q).2.2.1 = L ∧ (st4 D V d L q).2.2.2 = 0) ∧ (0 < (st4 D V d L q).1 → (st4 D V d L q).2.2.1 ≤ 999 ∧ (st4 D V d L q).2.2.1 ≤ (st4 D V d L q).2.1 ∧ (st4 D V d L q).2.2.2 ≤ (st4 D V d L q).2.1) ∧ (1 < (st4 D V d L q).1 → (st4 D V d L q).2.2.1 + (st4 D V d L q).2.2.2 ≤ (st4 D V d L q).2.1)
  | 0, _ => by unfold st4; simp
  | q + 1, h => by
    have ih := st4_b D V d L hL q (fun k hk => h k (by omega))
    obtain ⟨v0, v1⟩ := h q (by omega)
    obtain ⟨v, hv, ev⟩ := nat_of (n := 999) (show 0 ≤ V q by lia) v1 (by decide)
    have hv1 : 1 ≤ v := by rw [ev] at v0; exact (nI_le_iff (a := 1) (by omega) (by omega)).mp v0
    unfold st4
    rw [ev, nn_nI v (by omega)]
    generalize st4 D V d L q = t at *
    obtain ⟨c, s, l, g⟩ := t
    simp only at ih ⊢
    by_cases hd : D q ≤ d
    · rw [if_pos hd]
      simp only
      split <;> split <;> omega
    · rw [if_neg hd]
      simp only
      omega
theorem st4_L (D V : Nat → Int32) (d : Int32) (L L' : Nat) (hL : 1000 ≤ L) (hL' : 1000 ≤ L') : ∀ q, (∀ k, k < q → 1 ≤ V k ∧ V k ≤ 999) → (st4 D V d L q).1 = (st4 D V d L' q).1 ∧ (st4 D V d L q).2.1 = (st4 D V d L' q).2.1 ∧ (st4 D V d L q).2.2.2 = (st4 D V d L' q).2.2.2 ∧ (0 < (st4 D V d L q).1 → (st4 D V d L q).2.2.1 = (st4 D V d L' q).2.2.1)
  | 0, _ => by unfold st4; simp
  | q + 1, h => by
    have ih := st4_L D V d L L' hL hL' q (fun k hk => h k (by omega))
    have b1 := st4_b D V d L hL q (fun k hk => h k (by omega))
    have b2 := st4_b D V d L' hL' q (fun k hk => h k (by omega))
    obtain ⟨v0, v1⟩ := h q (by omega)
    obtain ⟨v, hv, ev⟩ := nat_of (n := 999) (show 0 ≤ V q by lia) v1 (by decide)
    have hv1 : 1 ≤ v := by rw [ev] at v0; exact (nI_le_iff (a := 1) (by omega) (by omega)).mp v0
    unfold st4
    rw [ev, nn_nI v (by omega)]
    generalize st4 D V d L q = t at *
    generalize st4 D V d L' q = t' at *
    obtain ⟨c, s, l, g⟩ := t
    obtain ⟨c', s', l', g'⟩ := t'
    simp only at ih b1 b2 ⊢
    by_cases hd : D q ≤ d
    · rw [if_pos hd, if_pos hd]
      simp only
      refine ⟨by omega, by omega, by rw [ih.2.2.1], fun _ => ?_⟩
      rcases Nat.eq_zero_or_pos c with c0 | c0
      · rw [if_pos (by omega), if_pos (by omega)]
      · rw [ih.2.2.2 c0]
    · rw [if_neg hd, if_neg hd]
      exact ih
theorem st4_cong {D V D' V' : Nat → Int32} (d : Int32) (L : Nat) : ∀ q, (∀ k, k < q → D k = D' k ∧ V k = V' k) → st4 D V d L q = st4 D' V' d L q
  | 0, _ => rfl
  | q + 1, h => by
    unfold st4
    rw [st4_cong d L q (fun k hk => h k (by omega)), (h q (by omega)).1, (h q (by omega)).2]
/-- the time -/
def tmV (D V : Nat → Int32) (d : Int32) (n : Nat) : Int32 := if 3 ≤ (st4 D V d 1000 n).1 then nI (((st4 D V d 1000 n).2.1 - (st4 D V d 1000 n).2.2.1 - (st4 D V d 1000 n).2.2.2) / ((st4 D V d 1000 n).1 - 2)) else -9
theorem tm_end {D V : Nat → Int32} {d : Int32} {L n : Nat} (hL : 1000 ≤ L) (hL2 : L ≤ 1000000) (hn : n ≤ 12) (hV : ∀ k, k < n → 1 ≤ V k ∧ V k ≤ 999) (K : Int32 → Mem → Prop) (M : Mem) (h : K (tmV D V d n) M) :
    (((3 : Int32) ≤ nI (st4 D V d L n).1) → ¬ (nI (st4 D V d L n).1 - 2) = 0 ∧ K (((nI (st4 D V d L n).2.1 - nI (st4 D V d L n).2.2.1) - nI (st4 D V d L n).2.2.2) / (nI (st4 D V d L n).1 - 2)) M) ∧ ((¬ (3 : Int32) ≤ nI (st4 D V d L n).1) → K (-9) M) := by
  have b := st4_b D V d L hL n hV
  have e := st4_L D V d L 1000 hL (Nat.le_refl _) n hV
  unfold tmV at h
  rw [← e.1, ← e.2.1, ← e.2.2.1] at h
  have e4 := e.2.2.2
  generalize (st4 D V d 1000 n).2.2.1 = l' at *
  generalize st4 D V d L n = t at *
  obtain ⟨c, s, l, g⟩ := t
  simp only at b e4 h ⊢
  have h3 : ((3 : Int32) ≤ nI c) ↔ 3 ≤ c := nI_le_iff (a := 3) (by omega) (by omega)
  rw [h3]
  refine ⟨fun q => ?_, fun q => ?_⟩
  · rw [if_pos q, ← e4 (by omega)] at h
    have e2 : nI c - 2 = nI (c - 2) := pk_sub (a := c) (b := 2) (by omega)
    rw [e2, pk_sub (by omega), pk_sub (by omega), pk_div (by omega) (by omega) (by omega)]
    refine ⟨fun z => ?_, h⟩
    have := (nI_eq_iff (a := c - 2) (b := 0) (by omega) (by omega)).mp z
    omega
  · rw [if_neg q] at h
    exact h
theorem tmV_r {D V : Nat → Int32} {d : Int32} {n : Nat} (hn : n ≤ 12) (hV : ∀ k, k < n → 1 ≤ V k ∧ V k ≤ 999) : tmV D V d n = -9 ∨ (0 ≤ tmV D V d n ∧ tmV D V d n ≤ 20000) := by
  have b := st4_b D V d 1000 (Nat.le_refl _) n hV
  unfold tmV
  split
  · refine Or.inr ?_
    have hd : ((st4 D V d 1000 n).2.1 - (st4 D V d 1000 n).2.2.1 - (st4 D V d 1000 n).2.2.2) / ((st4 D V d 1000 n).1 - 2) ≤ 20000 := Nat.le_trans (Nat.div_le_self _ _) (by omega)
    exact ⟨nI_pos' (by omega), (nI_le_iff (b := 20000) (by omega) (by omega)).mpr hd⟩
  · exact Or.inl rfl
theorem t_timeOn {M : Mem} {p n : Nat} (hp : p < 5) (hn : n ≤ 12) (e : M 98 p = nI n) (hV : ∀ k, k < n → 1 ≤ M (100 + p) k ∧ M (100 + p) k ≤ 999) (d : Int32) (K : Int32 → Mem → Prop) (h : K (tmV (M (106 + p)) (M (100 + p)) d n) M) : f_X10_timeOn (nI p) d M K := by
  unfold f_X10_timeOn
  have hvp : vp_in (nI p) 5 := vin_nI hp (by decide)
  refine Lp.up (fun q a => a = (nI p, d, nI (st4 (M (106 + p)) (M (100 + p)) d 1000000 q).1, nI (st4 (M (106 + p)) (M (100 + p)) d 1000000 q).2.1, nI (st4 (M (106 + p)) (M (100 + p)) d 1000000 q).2.2.1, nI (st4 (M (106 + p)) (M (100 + p)) d 1000000 q).2.2.2, nI q, M)) n (fun q a r hq ha hr => ?_) (j := 0) (by omega) rfl
  subst ha
  simp only [f_X10_timeOn_c15, f_X10_timeOn_b88, f_X10_timeOn_b116]
  rw [nI_cl p (by omega), e, nI_le_iff (by omega) (by omega), nI_cl q (by omega), Nat.one_mul]
  refine ⟨hvp, fun c => ?_, fun c => ?_⟩
  · rw [show q = n by omega]
    exact tm_end (by decide) (by decide) hn hV K M h
  · have hvq : vp_in (nI q) 12 := vin_nI (by omega) (by decide)
    obtain ⟨v0, v1⟩ := hV q (by omega)
    have b := st4_b (M (106 + p)) (M (100 + p)) d 1000000 (by decide) q (fun k hk => hV k (by omega))
    obtain ⟨v, hv, ev⟩ := nat_of (n := 999) (show 0 ≤ M (100 + p) q by lia) v1 (by decide)
    have hr2 := hr (by omega) _ rfl
    unfold st4 at hr2
    rw [ev, nn_nI v (by omega)] at hr2
    rw [ev]
    generalize st4 (M (106 + p)) (M (100 + p)) d 1000000 q = t at *
    obtain ⟨cc, s, l, g⟩ := t
    simp only at b hr2 ⊢
    have l1 : (if nI v < nI l then nI v else nI l) = nI (if v < l then v else l) := by simp only [nI_lt_iff (show v < 2147483648 by omega) (show l < 2147483648 by omega)]; split <;> rfl
    have l2 : (if nI g < nI v then nI v else nI g) = nI (if g < v then v else g) := by simp only [nI_lt_iff (show g < 2147483648 by omega) (show v < 2147483648 by omega)]; split <;> rfl
    rw [nI_1, nI_1, nI_add, l1, l2]
    refine ⟨hvp, hvq, fun c2 => ?_, fun c2 => ⟨hvp, hvq, hvp, hvq, hvp, hvq, ?_⟩⟩
    · rw [if_neg (lt_nle.mp c2)] at hr2
      exact hr2
    · rw [lt_nle, Classical.not_not] at c2
      rw [if_pos c2] at hr2
      exact hr2
theorem m12 (i : Nat) : (12 : Int32) * nI i = nI (12 * i) := pk_mul 12 i
theorem t_timeM {M : Mem} {p n : Nat} (hp : p < 5) (hn : n ≤ 12) (e : M 357 p = nI n) (hV : ∀ k, k < n → 1 ≤ M 359 (12 * p + k) ∧ M 359 (12 * p + k) ≤ 999) (d : Int32) (K : Int32 → Mem → Prop) (h : K (tmV (fun k => M 358 (12 * p + k)) (fun k => M 359 (12 * p + k)) d n) M) : f_X12_timeOf (nI p) d M K := by
  unfold f_X12_timeOf
  have hvp : vp_in (nI p) 5 := vin_nI hp (by decide)
  refine Lp.up (fun q a => a = (nI p, d, nI (st4 (fun k => M 358 (12 * p + k)) (fun k => M 359 (12 * p + k)) d 1000 q).1, nI (st4 (fun k => M 358 (12 * p + k)) (fun k => M 359 (12 * p + k)) d 1000 q).2.1, nI (st4 (fun k => M 358 (12 * p + k)) (fun k => M 359 (12 * p + k)) d 1000 q).2.2.1, nI (st4 (fun k => M 358 (12 * p + k)) (fun k => M 359 (12 * p + k)) d 1000 q).2.2.2, nI (12 * p + q), M)) n (fun q a r hq ha hr => ?_) (j := 0) (by omega) (by rw [m12]; rfl)
  subst ha
  have hle : ((12 : Int32) * nI p + nI n ≤ nI (12 * p + q)) ↔ n ≤ q := by
    rw [m12, nI_add, nI_le_iff (by omega) (by omega)]; omega
  simp only [f_X12_timeOf_c19, f_X12_timeOf_b85, f_X12_timeOf_b111, f_X12_timeOf_b113, f_X12_timeOf_b141]
  rw [nI_cl p (by omega), e, hle, nI_cl (12 * p + q) (by omega)]
  refine ⟨hvp, fun c => ?_, fun c => ?_⟩
  · rw [show q = n by omega]
    exact tm_end (by decide) (by decide) hn hV K M h
  · have hvq : vp_in (nI (12 * p + q)) 60 := vin_nI (by omega) (by decide)
    obtain ⟨v0, v1⟩ := hV q (by omega)
    have b := st4_b (fun k => M 358 (12 * p + k)) (fun k => M 359 (12 * p + k)) d 1000 (by decide) q (fun k hk => hV k (by omega))
    obtain ⟨v, hv, ev⟩ := nat_of (n := 999) (show 0 ≤ M 359 (12 * p + q) by lia) v1 (by decide)
    have hr2 := hr (by omega) _ rfl
    unfold st4 at hr2
    rw [ev, nn_nI v (by omega), show 12 * p + (q + 1) = 12 * p + q + 1 by omega] at hr2
    rw [ev]
    generalize st4 (fun k => M 358 (12 * p + k)) (fun k => M 359 (12 * p + k)) d 1000 q = t at *
    obtain ⟨cc, s, l, g⟩ := t
    simp only at b hr2 ⊢
    rw [nI_1, nI_1, nI_add, nI_le_iff (by omega) (by omega), nI_le_iff (by omega) (by omega)]
    have e1 : ∀ (x : Prop) [Decidable x] (i j : Nat), nI (if x then i else j) = (if x then nI i else nI j) := fun x _ i j => by split <;> rfl
    simp only [apply_ite Prod.fst, apply_ite Prod.snd, e1] at hr2
    clear h hr
    grind
