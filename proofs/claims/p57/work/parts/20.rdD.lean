/-! THE READER OF TEXTS (the class's): parts, closings, joins, rules, faults -/
theorem bd_endP {M0 M : Mem} {p : Nat} (hB : BaS M0 M p) {K : Mem → Prop} {v : Int32} (h : ∀ M', BaS M0 M' p → K M') : f_X7_endPart v M K := by
  obtain ⟨b1, b2, b3, L, hL, b4⟩ := hB
  unfold f_X7_endPart f_X7_endPart_b20 f_X7_endPart_b50 f_X7_endPart_b51
  have hv : vp_in (nI L) 6 := vin_nI (by omega) (by decide)
  rw [b4]
  have key : ∀ s : Int32, K (mset (mset (mset M 49 (nI L).toNatClampNeg s) 45 5 (M 45 5 - M 50 (nI L).toNatClampNeg)) 50 (nI L).toNatClampNeg 0) := fun s => by
    refine h _ ⟨fun c c1 c2 c3 c4 => ?_, ?_, b3, L, hL, ?_⟩
    · simp (disch := omega) only [mset_ne]; exact b1 c c1 c2 c3 c4
    · simp (disch := omega) only [mset_ne, mset_row, upd_n]; exact b2
    · simp (disch := omega) only [mset_ne, mset_row, upd_n]; exact b4
  exact ⟨hv, fun _ => ⟨hv, fun _ => ⟨hv, Or.inl rfl, hv, hv, key 0⟩, fun _ => ⟨fun _ => ⟨hv, Or.inl rfl, hv, hv, key 0⟩, fun _ => ⟨hv, Or.inr rfl, hv, hv, key 1⟩⟩⟩, fun _ => ⟨hv, fun _ => ⟨hv, Or.inl rfl, hv, hv, key 0⟩, fun _ => ⟨fun _ => ⟨hv, Or.inl rfl, hv, hv, key 0⟩, fun _ => ⟨hv, Or.inr rfl, hv, hv, key 1⟩⟩⟩⟩
theorem gd_endP {M0 : Mem} {tx n : Nat} {F : FT} (hH : RdH M0 tx n F) {M : Mem} {p : Nat} {l : List Fm} (hG : GoS M0 tx n M p l F) {K : Mem → Prop} {h : FT → Bool}
    (hg : ∀ M', GoS M0 tx n M' p (enP h l) F → K M') : f_X7_endPart (bi (h F)) M K := by
  have hn := hH.2.2.1
  obtain ⟨x, l', rfl⟩ : ∃ x l', l = x :: l' := by
    cases l with
    | nil => exact absurd hG.2.2.2.2.2.2.2.2.2.1 (by simp)
    | cons x l' => exact ⟨x, l', rfl⟩
  obtain ⟨t1, t2, t3, t4, t5, t6, t7⟩ := hG.top
  have hd5 : M 45 5 = nI (dpt (x :: l')) := hG.2.2.2.2.2.1
  have hdl : dpt (x :: l') ≤ 5 := hG.2.2.2.2.2.2.2.2.2.2
  have hdp := dpt_cons x l'
  obtain ⟨o, a, y, z, k⟩ := x
  dsimp only at t3 t4 t5 t6 hdp
  have hv : vp_in (nI l'.length) 6 := vin_nI (by omega) (by decide)
  have key : ∀ s : Int32, s = bi (z F && (h F != (k % 2 == 1))) → K (mset (mset (mset M 49 l'.length s) 45 5 (nI (dpt ((o, a, y, z, k) :: l')) - nI k)) 50 l'.length 0) := fun s es => by
    refine hg _ ⟨fun c c1 c2 c3 c4 => ?_, ?_, ?_, ?_, ?_, ?_, ?_, ?_, hG.2.2.2.2.2.2.2.2.1, by simp [enP], ?_⟩
    · simp (disch := omega) only [mset_ne]; exact hG.1 c c1 c2 c3 c4
    · simp (disch := omega) only [mset_ne, mset_row, upd_n]; exact hG.2.1
    · simp (disch := omega) only [mset_ne, mset_row, upd_n]; exact hG.2.2.1
    · simp (disch := omega) only [mset_ne, mset_row, upd_n]; exact hG.2.2.2.1
    · simp (disch := omega) only [mset_ne, mset_row, upd_n]; exact hG.2.2.2.2.1
    · simp (disch := omega) only [mset_ne, mset_row, upd_s]
      rw [nI_sb (by omega) (by omega)]
      simp only [enP, dpt_cons]
      congr 1; omega
    · simp (disch := omega) only [mset_ne, mset_row, upd_n]; rw [t1]; simp [enP]
    · refine ⟨?_, ?_, ?_, lvC_cong (fun q hq => ?_) t7⟩
      · simp (disch := omega) only [mset_ne, mset_row, upd_s]; exact t3
      · simp (disch := omega) only [mset_ne, mset_row, upd_s]; exact es
      · simp (disch := omega) only [mset_ne, mset_row, upd_s]; rfl
      · simp (disch := omega) only [mset_ne, mset_row, upd_n]
        exact ⟨trivial, trivial, trivial⟩
    · simp only [enP, dpt_cons]
      omega
  unfold f_X7_endPart f_X7_endPart_b20 f_X7_endPart_b50 f_X7_endPart_b51
  rw [t1, hd5, nI_cl l'.length (by omega), t5, t4, show nI k - nI k / 2 * 2 = nI (k % 2) from pk_rem (d := 2) (by omega) (by decide) (by decide)]
  have e1 : (nI (k % 2) = 1) ↔ (k % 2 == 1) = true := by
    rw [show (1 : Int32) = nI 1 from rfl, nI_eq_iff (by omega) (by omega)]; simp
  rw [e1]
  generalize (k % 2 == 1) = par at key ⊢
  generalize h F = b at key ⊢
  generalize z F = zz at key ⊢
  clear hg hG t1 t2 t3 t4 t5 t6 t7 hd5 hdl hdp e1
  refine ⟨hv, fun c1 => ⟨hv, fun c2 => ⟨hv, Or.inl rfl, hv, hv, key 0 ?_⟩, fun c2 => ⟨fun c3 => ⟨hv, Or.inl rfl, hv, hv, key 0 ?_⟩, fun c3 => ⟨hv, Or.inr rfl, hv, hv, key 1 ?_⟩⟩⟩, fun c1 => ⟨hv, fun c2 => ⟨hv, Or.inl rfl, hv, hv, key 0 ?_⟩, fun c2 => ⟨fun c3 => ⟨hv, Or.inl rfl, hv, hv, key 0 ?_⟩, fun c3 => ⟨hv, Or.inr rfl, hv, hv, key 1 ?_⟩⟩⟩⟩
  all_goals clear key; revert c1 c2; try revert c3
  all_goals cases par <;> cases b <;> cases zz <;> decide
theorem bd_clo {M0 M : Mem} {p : Nat} (hB : BaS M0 M p) {K : Mem → Prop} (h : K M) : f_X7_readClosings M K := by
  unfold f_X7_readClosings
  refine Lp.one (fun r => ?_)
  unfold f_X7_readClosings_c2
  exact ⟨fun _ => h, fun _ => ⟨fun _ => h, fun _ => bd_sign hB ⟨fun _ => h, fun z => absurd z (by decide)⟩⟩⟩
def tp0 : List Fm → Prop
  | [] => True
  | x :: _ => x.2.2.2.2 = 0
theorem gd_clo {M0 : Mem} {tx n : Nat} {F : FT} (hH : RdH M0 tx n F) {M : Mem} {p : Nat} {l : List Fm} (hG : GoS M0 tx n M p l F) (h0 : tp0 l) {K : Mem → Prop}
    (hg : ∀ M', GoS M0 tx n M' (clo (sgn (txT M0 tx) n) 5 p l).1 (clo (sgn (txT M0 tx) n) 5 p l).2 F → K M') : f_X7_readClosings M K := by
  unfold f_X7_readClosings
  have hn := hH.2.2.1
  generalize hD : clo (sgn (txT M0 tx) n) 5 p l = D at hg
  refine Lp.up (fun j a => ∃ q ls M', a = (nI j, M') ∧ GoS M0 tx n M' q ls F ∧ tp0 ls ∧ clo (sgn (txT M0 tx) n) (5 - j) q ls = D) 5 (fun j a r hj ha hr => ?_) (j := 0) (by omega) ⟨_, _, M, rfl, hG, h0, hD⟩
  obtain ⟨q, ls, M1, rfl, g, t0, eD⟩ := ha
  unfold f_X7_readClosings_c2 f_X7_readClosings_b47 f_X7_readClosings_b52
  dsimp only
  have l4 : ((5 : Int32) ≤ nI j) ↔ 5 ≤ j := nI_le_iff (a := 5) (by omega) (by omega)
  obtain ⟨x, l', rfl⟩ : ∃ x l', ls = x :: l' := by
    cases ls with
    | nil => exact absurd g.2.2.2.2.2.2.2.2.2.1 (by simp)
    | cons x l' => exact ⟨x, l', rfl⟩
  obtain ⟨t1, t2, t3, t4, t5, t6, t7⟩ := g.top
  have l6 : (nI l'.length ≤ 0) ↔ l'.length ≤ 0 := nI_le_iff (b := 0) (by omega) (by omega)
  rw [l4, t1, l6]
  refine ⟨fun c => ?_, fun c => ⟨fun c1 => ?_, fun c1 => gd_sign hH g ?_⟩⟩
  · rw [show 5 - j = 0 by omega] at eD
    unfold clo at eD
    subst eD
    exact hg M1 g
  · rw [show 5 - j = (5 - (j + 1)) + 1 by omega] at eD
    unfold clo at eD
    rw [if_neg (by simp; omega)] at eD
    subst eD
    exact hg M1 g
  · rw [show 5 - j = (5 - (j + 1)) + 1 by omega] at eD
    unfold clo at eD
    refine ⟨fun c2 => ?_, fun c2 => ?_⟩
    · rw [if_neg (fun z => c2 z.2)] at eD
      subst eD
      exact hg M1 g
    · rw [if_pos ⟨by simp; omega, c2⟩] at eD
      obtain ⟨o, a, y, z, k⟩ := x
      dsimp only at t3 t4 t5 t6 eD
      have k0 : k = 0 := t0
      subst k0
      have hq : q < n := sg_lt (t := txT M0 tx) (n := n) (p := q) (fun z => by rw [z] at c2; exact absurd c2 (by decide))
      have hv : vp_in (nI l'.length) 6 := vin_nI (by omega) (by decide)
      have hlast : ∀ s, s = bi (y F || z F) → f_X7_endPart s (mset (mset (mset M1 45 3 (M1 45 3 + 1)) 45 5 (M1 45 5 - 1)) 45 6 (nI l'.length - 1)) (fun M3 => r (nI j + 1, M3)) := fun s es => by
        subst es
        have hdl : dpt ((o, a, y, z, 0) :: l') ≤ 5 := g.2.2.2.2.2.2.2.2.2.2
        have hdp := dpt_cons (o, a, y, z, 0) l'
        have hdd : dpt ((o, a, y, z, 0) :: l') = dpt l' + 1 := by
          rw [hdp]; unfold dpt; simp only; omega
        refine gd_endP (l := l') (h := fun F => y F || z F) hH ?_ (fun M' hG' => by
          rw [nI_1]
          refine hr (by omega) _ ⟨_, _, M', rfl, hG', ?_, eD⟩
          cases l' with
          | nil => trivial
          | cons w l2 => exact rfl)
        refine ⟨fun c c1 c2 c3 c4 => ?_, ?_, ?_, ?_, ?_, ?_, ?_, ?_, hq, by omega, by omega⟩
        · simp (disch := omega) only [mset_ne]; exact g.1 c c1 c2 c3 c4
        · simp (disch := omega) only [mset_ne, mset_row, upd_n]; exact g.2.1
        · simp (disch := omega) only [mset_ne, mset_row, upd_n]; exact g.2.2.1
        · simp (disch := omega) only [mset_ne, mset_row, upd_n, upd_s]; rw [g.2.2.2.1, nI_1]
        · simp (disch := omega) only [mset_ne, mset_row, upd_n]; exact g.2.2.2.2.1
        · simp (disch := omega) only [mset_ne, mset_row, upd_n, upd_s]
          rw [g.2.2.2.2.2.1, nI_s1 (by omega) (by omega), hdd]; rfl
        · simp (disch := omega) only [mset_row, upd_s]
          rw [nI_s1 (by omega) (by omega)]
        · simp (disch := omega) only [mset_ne]; exact t7
      rw [t1, nI_cl l'.length (by omega), t3, t4]
      generalize y F = yy at *
      generalize z F = zz at *
      refine ⟨hv, fun c3 => ?_, fun c3 => ⟨hv, fun c4 => ?_, fun c4 => ?_⟩⟩
      · exact hlast 1 (by cases yy <;> first | rfl | exact absurd rfl c3)
      · exact hlast 0 (by cases yy <;> cases zz <;> first | rfl | exact absurd c3 (by decide) | exact absurd c4 (by decide))
      · exact hlast 1 (by cases yy <;> cases zz <;> first | rfl | exact absurd c3 (by decide) | exact absurd rfl c4)
theorem bd_joi {M0 M : Mem} {p : Nat} (hB : BaS M0 M p) {K : Int32 → Mem → Prop} (h : K 0 M) : f_X7_joinsNext M K := by
  unfold f_X7_joinsNext
  exact bd_sign hB ⟨fun z => absurd z (by decide), fun _ => ⟨fun z => absurd z (by decide), fun _ => h⟩⟩
theorem gd_joi {M0 : Mem} {tx n : Nat} {F : FT} (hH : RdH M0 tx n F) {M : Mem} {p : Nat} {l : List Fm} (hG : GoS M0 tx n M p l F) {K : Int32 → Mem → Prop}
    (hg : ∀ M', GoS M0 tx n M' (joi (sgn (txT M0 tx) n) p l).1 (joi (sgn (txT M0 tx) n) p l).2.2 F → K (bi (joi (sgn (txT M0 tx) n) p l).2.1) M') : f_X7_joinsNext M K := by
  obtain ⟨x, l', rfl⟩ : ∃ x l', l = x :: l' := by
    cases l with
    | nil => exact absurd hG.2.2.2.2.2.2.2.2.2.1 (by simp)
    | cons x l' => exact ⟨x, l', rfl⟩
  obtain ⟨t1, t2, t3, t4, t5, t6, t7⟩ := hG.top
  obtain ⟨o, a, y, z, k⟩ := x
  dsimp only at t3 t4 t5 t6
  have hv : vp_in (nI l'.length) 6 := vin_nI (by omega) (by decide)
  unfold f_X7_joinsNext f_X7_joinsNext_b19 f_X7_joinsNext_b67 f_X7_joinsNext_b72 f_X7_joinsNext_b83
  unfold joi at hg
  dsimp only at hg
  refine gd_sign hH hG ⟨fun c => ⟨fun c1 => ?_, fun c1 => ?_⟩, fun c => ⟨fun c2 => ⟨fun c1 => absurd c2 c1, fun _ => ?_⟩, fun c2 => ?_⟩⟩
  · rw [if_pos c] at hg
    have hp : p < n := sg_lt (t := txT M0 tx) (n := n) (p := p) (fun z => by rw [z] at c; exact absurd c (by decide))
    have := hG.adv hp
    refine hg _ ⟨this.1, this.2.1, this.2.2.1, this.2.2.2.1, this.2.2.2.2.1, this.2.2.2.2.2.1, this.2.2.2.2.2.2.1, this.2.2.2.2.2.2.2.1, hp, by simp, ?_⟩
    have := this.2.2.2.2.2.2.2.2.2.2
    rw [dpt_cons] at this ⊢
    exact this
  · rw [c1] at c; exact absurd c (by decide)
  · rw [if_neg c, if_pos c2] at hg
    have hp : p < n := sg_lt (t := txT M0 tx) (n := n) (p := p) (fun z => by rw [z] at c2; exact absurd c2 (by decide))
    have ha := hG.adv hp
    have key : ∀ s, s = bi (y F || z F) → K 1 (mset (mset (mset M 45 3 (M 45 3 + 1)) 48 l'.length s) 49 l'.length 1) := fun s es => by
      obtain ⟨a1, a2, a3, a4, a5, a6, a7, a8, a9, a10, a11⟩ := ha
      refine hg _ ⟨fun c c1 c2 c3 c4 => ?_, ?_, ?_, ?_, ?_, ?_, ?_, ?_, hp, by simp, ?_⟩
      · simp (disch := omega) only [mset_ne]; exact hG.1 c c1 c2 c3 c4
      · simp (disch := omega) only [mset_ne, mset_row, upd_n]; exact hG.2.1
      · simp (disch := omega) only [mset_ne, mset_row, upd_n]; exact hG.2.2.1
      · simp (disch := omega) only [mset_ne, mset_row, upd_n, upd_s]; rw [hG.2.2.2.1, nI_1]
      · simp (disch := omega) only [mset_ne, mset_row, upd_n]; exact hG.2.2.2.2.1
      · simp (disch := omega) only [mset_ne, mset_row, upd_n]; rw [hG.2.2.2.2.2.1, dpt_cons, dpt_cons]
      · simp (disch := omega) only [mset_ne, mset_row, upd_n]; rw [t1]; simp
      · refine ⟨?_, ?_, ?_, lvC_cong (fun q hq => ?_) t7⟩
        · simp (disch := omega) only [mset_ne, mset_row, upd_s]; exact es
        · simp (disch := omega) only [mset_ne, mset_row, upd_s]; rfl
        · simp (disch := omega) only [mset_ne, mset_row, upd_s]; exact t5
        · simp (disch := omega) only [mset_ne, mset_row, upd_n]
          exact ⟨trivial, trivial, trivial⟩
      · rw [dpt_cons] at a11 ⊢; exact a11
    rw [t1, nI_cl l'.length (by omega), t3, t4]
    simp (disch := omega) only [mset_row, upd_n]
    rw [t1, nI_cl l'.length (by omega)]
    clear hg hG ha t1 t2 t3 t4 t5 t6 t7
    generalize y F = yy at *
    generalize z F = zz at *
    refine ⟨hv, fun c3 => ⟨hv, Or.inr rfl, hv, key 1 ?_⟩, fun c3 => ⟨hv, fun c4 => ⟨hv, Or.inl rfl, hv, key 0 ?_⟩, fun c4 => ⟨hv, Or.inr rfl, hv, key 1 ?_⟩⟩⟩
    · cases yy <;> first | rfl | exact absurd rfl c3
    · cases yy <;> cases zz <;> first | rfl | exact absurd c3 (by decide) | exact absurd c4 (by decide)
    · cases yy <;> cases zz <;> first | rfl | exact absurd c3 (by decide) | exact absurd rfl c4
  · rw [if_neg c, if_neg c2] at hg
    exact hg M hG
theorem tp0_enP (h : FT → Bool) (l : List Fm) : tp0 (enP h l) := by
  cases l with
  | nil => trivial
  | cons x l => exact rfl
/-- what a rule's reading comes to -/
def RuR (M0 : Mem) (tx n : Nat) (F : FT) (D : Nat × Bool × (FT → Bool)) (v : Int32) (M' : Mem) : Prop :=
  bz v ∧ ((BaS M0 M' D.1 ∧ D.2.1 = true) ∨ (∃ x, GoS M0 tx n M' D.1 [x] F ∧ v = bi (D.2.2 F) ∧ D.2.1 = decide (sgn (txT M0 tx) n D.1 ≠ -1)))
theorem rule_out {M0 : Mem} {tx n : Nat} {F : FT} (hH : RdH M0 tx n F) {M : Mem} {p : Nat} {l : List Fm} (hG : GoS M0 tx n M p l F) {K : Int32 → Mem → Prop}
    (hK : ∀ v M', RuR M0 tx n F (fin (sgn (txT M0 tx) n) p l) v M' → K v M') : f_X7_ruleHolds_b41 K M := by
  obtain ⟨x, l', rfl⟩ : ∃ x l', l = x :: l' := by
    cases l with
    | nil => exact absurd hG.2.2.2.2.2.2.2.2.2.1 (by simp)
    | cons x l' => exact ⟨x, l', rfl⟩
  obtain ⟨t1, t2, t3, t4, t5, t6, t7⟩ := hG.top
  obtain ⟨o, a, y, z, k⟩ := x
  dsimp only at t3 t4 t5 t6
  unfold f_X7_ruleHolds_b41 f_X7_ruleHolds_b52 f_X7_ruleHolds_b70 f_X7_ruleHolds_b75
  have l6 : (nI l'.length ≤ 0) ↔ l'.length ≤ 0 := nI_le_iff (b := 0) (by omega) (by omega)
  rw [t1, l6]
  refine ⟨fun c => ?_, fun c => gd_fail hH hG (fun M' hB => ?_)⟩
  · have e0 : l'.length = 0 := by omega
    obtain rfl : l' = [] := List.length_eq_zero_iff.mp e0
    rw [show ([] : List Fm).length = 0 from rfl] at t3 t4
    have key : ∀ v, v = bi (y F || z F) → bz v ∧ K v M := fun v e => ⟨e ▸ bi_bz _, hK v M ⟨e ▸ bi_bz _, Or.inr ⟨_, hG, e, by unfold fin; simp⟩⟩⟩
    rw [t3, t4]
    clear hK hG
    generalize y F = yy at *
    generalize z F = zz at *
    refine ⟨fun c3 => key 1 ?_, fun c3 => ⟨fun c4 => key 0 ?_, fun c4 => key 1 ?_⟩⟩
    · cases yy <;> first | rfl | exact absurd rfl c3
    · cases yy <;> cases zz <;> first | rfl | exact absurd c3 (by decide) | exact absurd c4 (by decide)
    · cases yy <;> cases zz <;> first | rfl | exact absurd c3 (by decide) | exact absurd rfl c4
  · have key : ∀ v, bz v → bz v ∧ K v M' := fun v e => ⟨e, hK v M' ⟨e, Or.inl ⟨hB, by unfold fin; simp; omega⟩⟩⟩
    exact ⟨fun _ => key 1 (Or.inr rfl), fun _ => ⟨fun _ => key 0 (Or.inl rfl), fun _ => key 1 (Or.inr rfl)⟩⟩
theorem bd_out {M0 M : Mem} {p : Nat} (hB : BaS M0 M p) {K : Int32 → Mem → Prop} (h : ∀ v, bz v → K v M) : f_X7_ruleHolds_b41 K M := by
  unfold f_X7_ruleHolds_b41 f_X7_ruleHolds_b52 f_X7_ruleHolds_b70 f_X7_ruleHolds_b75
  have key : ∀ v, bz v → bz v ∧ K v M := fun v e => ⟨e, h v e⟩
  exact ⟨fun _ => ⟨fun _ => key 1 (Or.inr rfl), fun _ => ⟨fun _ => key 0 (Or.inl rfl), fun _ => key 1 (Or.inr rfl)⟩⟩, fun _ => bd_fail hB ⟨fun _ => key 1 (Or.inr rfl), fun _ => ⟨fun _ => key 0 (Or.inl rfl), fun _ => key 1 (Or.inr rfl)⟩⟩⟩
theorem bd_rest {M0 M : Mem} {p : Nat} (hB : BaS M0 M p) {v : Int32} {K : Int32 → Mem → Prop} (h : ∀ M', BaS M0 M' p → K 0 M') : f_X7_endPart v M (fun M10 => f_X7_readClosings M10 (fun M11 => f_X7_joinsNext M11 K)) :=
  bd_endP hB (fun M' hB' => bd_clo hB' (bd_joi hB' (h M' hB')))
theorem gd_rule {M0 : Mem} {tx n : Nat} {F : FT} (hH : RdH M0 tx n F) {M : Mem} {p : Nat} {l : List Fm} (hG : GoS M0 tx n M p l F) {K : Int32 → Mem → Prop}
    (hK : ∀ v M', RuR M0 tx n F (rle (sgn (txT M0 tx) n) 61 p l) v M' → K v M') : f_X7_ruleHolds M K := by
  unfold f_X7_ruleHolds
  generalize hD : rle (sgn (txT M0 tx) n) 61 p l = D at hK
  refine Lp.up (fun j a => ∃ x1 M', a = (x1, nI j, M') ∧ ((∃ q ls, GoS M0 tx n M' q ls F ∧ ((x1 = 1 ∧ rle (sgn (txT M0 tx) n) (61 - j) q ls = D) ∨ (x1 = 0 ∧ fin (sgn (txT M0 tx) n) q ls = D))) ∨ (x1 = 0 ∧ BaS M0 M' D.1 ∧ D.2.1 = true))) 61 (fun j a r hj ha hr => ?_) (j := 0) (by omega) ⟨1, M, rfl, Or.inl ⟨_, _, hG, Or.inl ⟨rfl, hD⟩⟩⟩
  obtain ⟨x1, M1, rfl, ⟨q, ls, g, ⟨rfl, eD⟩ | ⟨rfl, eD⟩⟩ | ⟨rfl, hB, eD⟩⟩ := ha
  · unfold f_X7_ruleHolds_c4
    dsimp only
    have l4 : ((60 : Int32) < nI j) ↔ 61 ≤ j := (nI_lt_iff (a := 60) (by omega) (by omega)).trans (by omega)
    rw [l4]
    refine ⟨fun c => ?_, fun c => ⟨fun z => absurd z (by decide), fun _ => ?_⟩⟩
    · rw [show 61 - j = 0 by omega] at eD
      unfold rle at eD
      subst eD
      exact rule_out hH g hK
    · rw [show 61 - j = (61 - (j + 1)) + 1 by omega] at eD
      unfold rle at eD
      have bad : ∀ {M' : Mem} {v : Int32}, BaS M0 M' D.1 ∧ D.2.1 = true → f_X7_endPart v M' (fun M10 => f_X7_readClosings M10 (fun M11 => f_X7_joinsNext M11 (fun v12 M12 => r (v12, nI j + 1, M12)))) := fun {M' v} h => bd_rest h.1 (fun M2 hB => by
        rw [nI_1]
        exact hr (by omega) _ ⟨0, M2, rfl, Or.inr ⟨rfl, hB, h.2⟩⟩)
      refine gd_opn hH g (fun e M' hB => ?_) (fun e M' hG1 => ?_)
      · rw [if_pos e] at eD
        subst eD
        exact bd_cmp hB (fun v _ => bad ⟨hB, rfl⟩)
      · rw [if_neg (by rw [e]; exact Bool.false_ne_true)] at eD
        refine gd_cmp hH hG1 (fun e2 v M2 _ hB => ?_) (fun e2 M2 hG2 => ?_)
        · rw [if_pos e2] at eD
          subst eD
          exact bad ⟨hB, rfl⟩
        · rw [if_neg (by rw [e2]; exact Bool.false_ne_true)] at eD
          dsimp only at eD
          refine gd_endP hH hG2 (fun M3 hG3 => gd_clo hH hG3 (tp0_enP _ _) (fun M4 hG4 => gd_joi hH hG4 (fun M5 hG5 => ?_)))
          generalize clo (sgn (txT M0 tx) n) 5 (tst (sgn (txT M0 tx) n) (opn (sgn (txT M0 tx) n) 6 q ls).1).1 (enP (tst (sgn (txT M0 tx) n) (opn (sgn (txT M0 tx) n) 6 q ls).1).2.2 (opn (sgn (txT M0 tx) n) 6 q ls).2.2) = C at *
          rw [nI_1]
          cases hd : (joi (sgn (txT M0 tx) n) C.1 C.2).2.1 with
          | true =>
            rw [if_pos hd] at eD
            exact hr (by omega) _ ⟨1, M5, rfl, Or.inl ⟨_, _, hG5, Or.inl ⟨rfl, eD⟩⟩⟩
          | false =>
            rw [if_neg (by rw [hd]; exact Bool.false_ne_true)] at eD
            have hj : (joi (sgn (txT M0 tx) n) C.1 C.2).1 = C.1 ∧ (joi (sgn (txT M0 tx) n) C.1 C.2).2.2 = C.2 := by
              revert hd
              unfold joi
              cases C.2 with
              | nil => exact fun _ => ⟨rfl, rfl⟩
              | cons x l2 =>
                dsimp only
                split
                · exact fun z => absurd z (by simp)
                · split
                  · exact fun z => absurd z (by simp)
                  · exact fun _ => ⟨rfl, rfl⟩
            rw [hj.1, hj.2] at hG5
            exact hr (by omega) _ ⟨0, M5, rfl, Or.inl ⟨_, _, hG5, Or.inr ⟨rfl, eD⟩⟩⟩
  · unfold f_X7_ruleHolds_c4
    subst eD
    exact ⟨fun _ => rule_out hH g hK, fun _ => ⟨fun _ => rule_out hH g hK, fun z => absurd rfl z⟩⟩
  · unfold f_X7_ruleHolds_c4
    have : f_X7_ruleHolds_b41 K M1 := bd_out hB (fun v hv => hK v M1 ⟨hv, Or.inl ⟨hB, eD⟩⟩)
    exact ⟨fun _ => this, fun _ => ⟨fun _ => this, fun z => absurd rfl z⟩⟩
