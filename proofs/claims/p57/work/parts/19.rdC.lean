/-! THE READER OF TEXTS (the class's): levels -/
theorem nI_sb {a b : Nat} (h : b ≤ a) (ha : a < 2147483648) : nI a - nI b = nI (a - b) := by
  rw [Int32.sub_eq_add_neg, ← Int32.sub_eq_add_neg, show nI a = nI (a - b) + nI b by rw [nI_add]; congr 1; omega, Int32.add_sub_cancel]
theorem nI_s1 {a : Nat} (h : 1 ≤ a) (ha : a < 2147483648) : nI a - 1 = nI (a - 1) := nI_sb (b := 1) h ha
theorem dpt_cons (x : Fm) (r : List Fm) : dpt (x :: r) = r.length + x.2.2.2.2 + (r.map (fun x => x.2.2.2.2)).sum := by
  unfold dpt; simp; omega
theorem GoS.top {M0 : Mem} {tx n : Nat} {F : FT} {M : Mem} {p : Nat} {x : Fm} {r : List Fm} (hG : GoS M0 tx n M p (x :: r) F) :
    M 45 6 = nI r.length ∧ r.length ≤ 5 ∧ M 48 r.length = bi (x.2.2.1 F) ∧ M 49 r.length = bi (x.2.2.2.1 F) ∧ M 50 r.length = nI x.2.2.2.2 ∧ x.2.2.2.2 ≤ 5 ∧ lvC (M 48) (M 49) (M 50) F r := by
  obtain ⟨g1, g2, g3, g4, g5, g6, g7, g8, g9, g10, g11⟩ := hG
  obtain ⟨o, a, y, z, k⟩ := x
  rw [dpt_cons] at g11
  obtain ⟨h1, h2, h3, h4⟩ := g8
  dsimp only at g11 ⊢
  exact ⟨g7, by omega, h1, h2, h3, by omega, h4⟩
theorem opn_step {M0 : Mem} {tx n : Nat} {F : FT} (hH : RdH M0 tx n F) {M : Mem} {p : Nat} {l : List Fm} (hG : GoS M0 tx n M p l F) {K : Mem → Prop} {x1 c : Int32} {r : Int32 × Mem → Prop}
    (hc : c = 33 ∨ c = 40) (hs : sgn (txT M0 tx) n p = c)
    (hb : 5 ≤ dpt l → ∀ M', BaS M0 M' p → K M')
    (hg : ¬ 5 ≤ dpt l → ∀ M', GoS M0 tx n M' (p + 1) (if c = 33 then adN l else fmZ :: l) F → r (x1 + 1, M')) : f_X7_readOpenings_b25 r K x1 c M := by
  have hn := hH.2.2.1
  have hp : p < n := sg_lt (t := txT M0 tx) (n := n) (p := p) (fun z => by rw [hs] at z; rw [z] at hc; revert hc; decide)
  have hadv := hG.adv hp
  obtain ⟨x, l', rfl⟩ : ∃ x l', l = x :: l' := by
    cases l with
    | nil => exact absurd hG.2.2.2.2.2.2.2.2.2.1 (by simp)
    | cons x l' => exact ⟨x, l', rfl⟩
  have htop := hG.top
  obtain ⟨t1, t2, t3, t4, t5, t6, t7⟩ := htop
  have hd5 : M 45 5 = nI (dpt (x :: l')) := hG.2.2.2.2.2.1
  have hdl : dpt (x :: l') ≤ 5 := hG.2.2.2.2.2.2.2.2.2.2
  unfold f_X7_readOpenings_b25 f_X7_readOpenings_b90 f_X7_openLevel
  have l5 : (M 45 5 < 5) ↔ ¬ 5 ≤ dpt (x :: l') := by
    rw [hd5]
    exact (nI_lt_iff (b := 5) (by omega) (by omega)).trans ⟨fun h => by omega, fun h => by omega⟩
  rw [l5]
  refine ⟨fun c1 => ?_, fun c1 => gd_fail hH hG (hb (Classical.not_not.mp c1))⟩
  have hdp := dpt_cons x l'
  obtain ⟨g1, g2, g3, g4, g5, g6, g7, g8, g9, g10, g11⟩ := hadv
  obtain ⟨o, a, y, z, k⟩ := x
  dsimp only at t3 t4 t5 t6 hdp
  refine ⟨fun c2 => ?_, fun c2 => ?_⟩
  · have hr := hg c1
    rw [if_neg c2] at hr
    rw [t1, nI_1]
    have hv : vp_in (nI (l'.length + 1)) 6 := vin_nI (by omega) (by decide)
    refine ⟨hv, hv, hv, hr _ ⟨fun c c1 c2 c3 c4 => ?_, ?_, ?_, ?_, ?_, ?_, ?_, ?_, hp, by simp, ?_⟩⟩
    all_goals try simp (disch := omega) only [nI_cl]
    · simp (disch := omega) only [mset_ne]
      exact hG.1 c c1 c2 c3 c4
    · simp (disch := omega) only [mset_ne, mset_row, upd_n]
      exact hG.2.1
    · simp (disch := omega) only [mset_ne, mset_row, upd_n]
      exact hG.2.2.1
    · simp (disch := omega) only [mset_ne, mset_row, upd_n, upd_s]
      rw [hG.2.2.2.1, nI_1]
    · simp (disch := omega) only [mset_ne, mset_row, upd_n, upd_s]
      exact hG.2.2.2.2.1
    · simp (disch := omega) only [mset_ne, mset_row, upd_n, upd_s]
      rw [hd5, nI_1, dpt_cons fmZ, hdp]
      simp [fmZ]
      congr 1; omega
    · simp (disch := omega) only [mset_ne, mset_row, upd_n, upd_s]
      simp
    · refine ⟨?_, ?_, ?_, lvC_cong (fun q hq => ?_) hG.2.2.2.2.2.2.2.1⟩
      · simp (disch := omega) only [mset_ne, mset_row, List.length_cons, upd_s]; rfl
      · simp (disch := omega) only [mset_ne, mset_row, List.length_cons, upd_s]; rfl
      · simp (disch := omega) only [mset_ne, mset_row, List.length_cons, upd_s]; rfl
      · simp only [List.length_cons] at hq
        simp (disch := omega) only [mset_ne, mset_row, List.length_cons, upd_n]
        exact ⟨trivial, trivial, trivial⟩
    · rw [dpt_cons fmZ]
      simp [fmZ]
      omega
  · have hr := hg c1
    rw [if_pos c2] at hr
    rw [t1]
    have hv : vp_in (nI l'.length) 6 := vin_nI (by omega) (by decide)
    refine ⟨hv, hv, hr _ ⟨fun c c1 c2 c3 c4 => ?_, ?_, ?_, ?_, ?_, ?_, ?_, ?_, hp, by simp [adN], ?_⟩⟩
    all_goals try simp (disch := omega) only [nI_cl]
    · simp (disch := omega) only [mset_ne]
      exact hG.1 c c1 c2 c3 c4
    · simp (disch := omega) only [mset_ne, mset_row, upd_n]
      exact hG.2.1
    · simp (disch := omega) only [mset_ne, mset_row, upd_n]
      exact hG.2.2.1
    · simp (disch := omega) only [mset_ne, mset_row, upd_n, upd_s]
      rw [hG.2.2.2.1, nI_1]
    · simp (disch := omega) only [mset_ne, mset_row, upd_n, upd_s]
      exact hG.2.2.2.2.1
    · simp (disch := omega) only [mset_ne, mset_row, upd_n, upd_s]
      rw [hd5, nI_1, hdp]
      simp only [adN, dpt_cons]
      congr 1; omega
    · simp (disch := omega) only [mset_ne, mset_row, upd_n, upd_s]
      rw [t1]
      simp [adN]
    · refine ⟨?_, ?_, ?_, lvC_cong (fun q hq => ?_) t7⟩
      · simp (disch := omega) only [mset_ne, mset_row, upd_s]; exact t3
      · simp (disch := omega) only [mset_ne, mset_row, upd_s]; exact t4
      · simp (disch := omega) only [mset_ne, mset_row, upd_s]; rw [t5, nI_1]
      · simp (disch := omega) only [mset_ne, mset_row, upd_n]
        exact ⟨trivial, trivial, trivial⟩
    · simp only [adN, dpt_cons]
      omega
theorem bd_opn {M0 M : Mem} {p : Nat} (hB : BaS M0 M p) {K : Mem → Prop} (h : K M) : f_X7_readOpenings M K := by
  unfold f_X7_readOpenings
  refine Lp.one (fun r => ?_)
  unfold f_X7_readOpenings_c2
  exact ⟨fun _ => h, fun _ => bd_sign hB ⟨fun z => absurd z (by decide), fun _ => ⟨fun z => absurd z (by decide), fun _ => h⟩⟩⟩
theorem gd_opn {M0 : Mem} {tx n : Nat} {F : FT} (hH : RdH M0 tx n F) {M : Mem} {p : Nat} {l : List Fm} (hG : GoS M0 tx n M p l F) {K : Mem → Prop}
    (hb : (opn (sgn (txT M0 tx) n) 6 p l).2.1 = true → ∀ M', BaS M0 M' (opn (sgn (txT M0 tx) n) 6 p l).1 → K M')
    (hg : (opn (sgn (txT M0 tx) n) 6 p l).2.1 = false → ∀ M', GoS M0 tx n M' (opn (sgn (txT M0 tx) n) 6 p l).1 (opn (sgn (txT M0 tx) n) 6 p l).2.2 F → K M') : f_X7_readOpenings M K := by
  unfold f_X7_readOpenings
  generalize hD : opn (sgn (txT M0 tx) n) 6 p l = D at hb hg
  refine Lp.up (fun j a => ∃ q ls M', a = (nI j, M') ∧ GoS M0 tx n M' q ls F ∧ opn (sgn (txT M0 tx) n) (6 - j) q ls = D) 6 (fun j a r hj ha hr => ?_) (j := 0) (by omega) ⟨_, _, M, rfl, hG, hD⟩
  obtain ⟨q, ls, M1, rfl, g, eD⟩ := ha
  unfold f_X7_readOpenings_c2
  dsimp only
  have l4 : ((5 : Int32) < nI j) ↔ 6 ≤ j := (nI_lt_iff (a := 5) (by omega) (by omega)).trans (by omega)
  rw [l4]
  refine ⟨fun c => ?_, fun c => gd_sign hH g ?_⟩
  · rw [show 6 - j = 0 by omega] at eD
    unfold opn at eD
    subst eD
    exact hg rfl M1 g
  · rw [show 6 - j = (6 - (j + 1)) + 1 by omega] at eD
    unfold opn at eD
    refine ⟨fun c1 => ?_, fun c1 => ⟨fun c2 => ?_, fun c2 => ?_⟩⟩
    · rw [if_pos c1] at eD
      refine opn_step hH g (Or.inl c1) rfl (fun c5 M' hB => ?_) (fun c5 M' hG' => ?_)
      · rw [if_pos c5] at eD; subst eD; exact hb rfl M' hB
      · rw [if_neg c5] at eD
        rw [if_pos c1] at hG'
        rw [nI_1]
        exact hr (by omega) _ ⟨_, _, M', rfl, hG', eD⟩
    · rw [if_neg c1, if_pos c2] at eD
      refine opn_step hH g (Or.inr c2) rfl (fun c5 M' hB => ?_) (fun c5 M' hG' => ?_)
      · rw [if_pos c5] at eD; subst eD; exact hb rfl M' hB
      · rw [if_neg c5] at eD
        rw [if_neg c1] at hG'
        rw [nI_1]
        exact hr (by omega) _ ⟨_, _, M', rfl, hG', eD⟩
    · rw [if_neg c1, if_neg c2] at eD
      subst eD
      exact hg rfl M1 g
