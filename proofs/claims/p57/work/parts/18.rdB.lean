/-! THE READER OF TEXTS (the class's), on: sums, comparisons, levels, rules -/
theorem Lp.one {α : Type} {B : (α → Prop) → α → Prop} {a : α} (h : ∀ r, B r a) : Lp B a :=
  Lp.up (fun _ b => b = a) 0 (fun _ _ r _ e _ => e ▸ h r) (j := 0) (Nat.le_refl 0) rfl
theorem bd_sumL {M0 M : Mem} {p : Nat} (hB : BaS M0 M p) {K : Int32 → Mem → Prop} (h : ∀ v, K v M) (v x : Int32) : Lp (fun (r7 : Int32 × Int32 × Mem → Prop) a => f_X7_sum_c7 K r7 a.1 a.2.1 a.2.2) (v, x, M) := by
  refine Lp.one (fun r => ?_)
  unfold f_X7_sum_c7
  exact ⟨fun _ => h v, fun _ => bd_sign hB ⟨fun z => absurd z (by decide), fun _ => ⟨fun z => absurd z (by decide), fun _ => ⟨fun z => absurd z (by decide), fun _ => h v⟩⟩⟩⟩
theorem bd_sum {M0 M : Mem} {p : Nat} (hB : BaS M0 M p) {K : Int32 → Mem → Prop} (h : ∀ v, K v M) : f_X7_sum M K :=
  bd_unit hB (fun v => bd_sumL hB h v 0)
theorem gd_sum {M0 : Mem} {tx n : Nat} {F : FT} (hH : RdH M0 tx n F) {M : Mem} {p : Nat} {l : List Fm} (hG : GoS M0 tx n M p l F) {K : Int32 → Mem → Prop}
    (hb : (smm (sgn (txT M0 tx) n) p).2.1 = true → ∀ v M', BaS M0 M' (smm (sgn (txT M0 tx) n) p).1 → K v M')
    (hg : (smm (sgn (txT M0 tx) n) p).2.1 = false → ∀ M', GoS M0 tx n M' (smm (sgn (txT M0 tx) n) p).1 l F → K ((smm (sgn (txT M0 tx) n) p).2.2 F) M') : f_X7_sum M K := by
  unfold f_X7_sum
  have hsu : ∀ q, (∀ z, sgn (txT M0 tx) n q = z → ¬ z = -1 → q < n) := fun q z e hz => sg_lt (fun y => hz (e ▸ y))
  refine gd_unit hH hG (fun e v M' hB => ?_) (fun e M' hG' => ?_)
  · have e2 : smm (sgn (txT M0 tx) n) p = unt (sgn (txT M0 tx) n) p := by unfold smm; rw [if_pos e]
    rw [e2] at hb
    exact bd_sumL hB (fun v => hb e v M' hB) v 0
  · have e2 : smm (sgn (txT M0 tx) n) p = smL (sgn (txT M0 tx) n) 60 (unt (sgn (txT M0 tx) n) p).1 (unt (sgn (txT M0 tx) n) p).2.2 := by unfold smm; rw [if_neg (by rw [e]; exact Bool.false_ne_true)]
    generalize smm (sgn (txT M0 tx) n) p = D at hb hg e2
    generalize hsg : sgn (txT M0 tx) n = sg at *
    refine Lp.up (fun j a => ∃ q v M', a = (v, nI j, M') ∧ ((GoS M0 tx n M' q l F ∧ ∃ vf : FT → Int32, vf F = v ∧ smL sg (60 - j) q vf = D) ∨ (BaS M0 M' D.1 ∧ D.2.1 = true))) 60 (fun j a r hj ha hr => ?_) (j := 0) (by omega) ⟨_, _, M', rfl, Or.inl ⟨hG', _, rfl, e2.symm⟩⟩
    obtain ⟨q, v, M1, rfl, c | ⟨c1, c2⟩⟩ := ha
    · obtain ⟨g, vf, ev, eD⟩ := c
      unfold f_X7_sum_c7 f_X7_sum_b38 f_X7_sum_b84
      dsimp only
      have l4 : ((60 : Int32) ≤ nI j) ↔ 60 ≤ j := nI_le_iff (a := 60) (by omega) (by omega)
      rw [l4]
      refine ⟨fun c3 => ?_, fun c3 => gd_sign hH g ?_⟩
      · rw [show 60 - j = 0 by omega] at eD
        unfold smL at eD
        subst eD; subst ev
        exact hg rfl M1 g
      · rw [hsg]
        rw [show 60 - j = (60 - (j + 1)) + 1 by omega] at eD
        unfold smL at eD
        have stop : ¬ isOp (sg q) = true → K v M1 := fun z => by
          rw [if_neg z] at eD
          subst eD; subst ev
          exact hg rfl M1 g
        have go : isOp (sg q) = true → ∀ K' : Int32 → Mem → Prop, (∀ v' M', (∃ q' , ((GoS M0 tx n M' q' l F ∧ ∃ vf : FT → Int32, vf F = opv (sg q) v v' ∧ smL sg (60 - (j + 1)) q' vf = D) ∨ (BaS M0 M' D.1 ∧ D.2.1 = true))) → K' v' M') → f_X7_unit (mset M1 45 3 (M1 45 3 + 1)) K' := fun z K' hK => by
          rw [if_pos z] at eD
          have hq : q < n := hsu q (sg q) rfl (fun y => by rw [y] at z; exact absurd z (by decide))
          refine gd_unit hH (g.adv hq) (fun e v' M' hB => hK v' M' ⟨0, Or.inr ?_⟩) (fun e M' hG' => hK _ M' ⟨(unt sg (q + 1)).1, Or.inl ?_⟩)
          · rw [hsg] at e hB
            rw [if_pos e] at eD
            rw [← eD]
            exact ⟨hB, rfl⟩
          · rw [hsg] at e hG' ⊢
            rw [if_neg (by rw [e]; exact Bool.false_ne_true)] at eD
            exact ⟨hG', _, by rw [ev], eD⟩
        have fin : ∀ (v' : Int32) (M' : Mem), (∃ q' , ((GoS M0 tx n M' q' l F ∧ ∃ vf : FT → Int32, vf F = opv (sg q) v v' ∧ smL sg (60 - (j + 1)) q' vf = D) ∨ (BaS M0 M' D.1 ∧ D.2.1 = true))) → r (opv (sg q) v v', nI j + 1, M') := fun v' M' ⟨q', h⟩ => by
          rw [nI_1]
          exact hr (by omega) _ ⟨q', _, M', rfl, h⟩
        unfold opv at fin
        refine ⟨fun c4 => ?_, fun c4 => ⟨fun c5 => ?_, fun c5 => ⟨fun c6 => ?_, fun c6 => ?_⟩⟩⟩
        · refine go ((op_t _).mpr (Or.inl c4)) _ (fun v' M' h' => ⟨fun z => absurd c4 z, fun _ => ?_⟩)
          have := fin v' M' h'
          rw [if_pos c4] at this
          exact this
        · refine go ((op_t _).mpr (Or.inr (Or.inl c5))) _ (fun v' M' h' => ⟨fun _ => ⟨fun z => absurd c5 z, fun _ => ?_⟩, fun z => absurd z c4⟩)
          have := fin v' M' h'
          rw [if_neg c4, if_pos c5] at this
          exact this
        · refine go ((op_t _).mpr (Or.inr (Or.inr c6))) _ (fun v' M' h' => ⟨fun _ => ⟨fun _ => ?_, fun z => absurd z c5⟩, fun z => absurd z c4⟩)
          have := fin v' M' h'
          rw [if_neg c4, if_neg c5] at this
          exact this
        · exact stop (fun z => by rcases (op_t _).mp z with y | y | y <;> contradiction)
    · exact (by
        have := fun (K' : Int32 → Mem → Prop) (h' : ∀ v, K' v M1) => h'
        unfold f_X7_sum_c7
        exact ⟨fun _ => hb c2 v M1 c1, fun _ => bd_sign c1 ⟨fun z => absurd z (by decide), fun _ => ⟨fun z => absurd z (by decide), fun _ => ⟨fun z => absurd z (by decide), fun _ => hb c2 v M1 c1⟩⟩⟩⟩)
theorem gd_expect {M0 : Mem} {tx n : Nat} {F : FT} (hH : RdH M0 tx n F) {M : Mem} {p : Nat} {l : List Fm} (hG : GoS M0 tx n M p l F) {a b : Int32} (ha : 0 ≤ a) {K : Mem → Prop}
    (hb : ¬ (a ≤ sgn (txT M0 tx) n p ∧ sgn (txT M0 tx) n p ≤ b) → ∀ M', BaS M0 M' p → K M')
    (hg : (a ≤ sgn (txT M0 tx) n p ∧ sgn (txT M0 tx) n p ≤ b) → ∀ M', GoS M0 tx n M' (p + 1) l F → K M') : f_X7_expect a b M K := by
  unfold f_X7_expect f_X7_expect_b15
  refine gd_sign hH hG ⟨fun c => gd_fail hH hG (hb (fun z => lt_nle.mp c z.1)), fun c => ⟨fun c2 => ?_, fun c2 => gd_fail hH hG (hb (fun z => c2 z.2))⟩⟩
  have c' : a ≤ sgn (txT M0 tx) n p := by rw [lt_nle, Classical.not_not] at c; exact c
  refine hg ⟨c', c2⟩ _ (hG.adv (sg_lt (t := txT M0 tx) (n := n) (p := p) (fun z => ?_)))
  rw [z] at c'
  exact absurd (Int32.le_trans ha c') (by decide)
theorem bd_expect {M0 M : Mem} {p : Nat} (hB : BaS M0 M p) {a b : Int32} (ha : 0 ≤ a) {K : Mem → Prop} (h : K M) : f_X7_expect a b M K := by
  unfold f_X7_expect f_X7_expect_b15
  refine bd_sign hB ⟨fun _ => bd_fail hB h, fun z => absurd (Int32.lt_of_lt_of_le (by decide : (-1 : Int32) < 0) ha) z⟩
theorem bd_cmp {M0 M : Mem} {p : Nat} (hB : BaS M0 M p) {K : Int32 → Mem → Prop} (h : ∀ v, bz v → K v M) : f_X7_comparisonHolds M K := by
  unfold f_X7_comparisonHolds f_X7_comparisonHolds_b71
  refine bd_sum hB (fun v2 => bd_sign hB (bd_expect hB (by decide) (bd_sum hB (fun v5 => ?_))))
  exact ⟨fun _ => ⟨fun _ => ⟨fun _ => ⟨Or.inl rfl, h _ (Or.inl rfl)⟩, fun _ => ⟨Or.inr rfl, h _ (Or.inr rfl)⟩⟩, fun z => absurd z (by decide)⟩, fun z => absurd z (by decide)⟩
theorem gd_cmp {M0 : Mem} {tx n : Nat} {F : FT} (hH : RdH M0 tx n F) {M : Mem} {p : Nat} {l : List Fm} (hG : GoS M0 tx n M p l F) {K : Int32 → Mem → Prop}
    (hb : (tst (sgn (txT M0 tx) n) p).2.1 = true → ∀ v M', bz v → BaS M0 M' (tst (sgn (txT M0 tx) n) p).1 → K v M')
    (hg : (tst (sgn (txT M0 tx) n) p).2.1 = false → ∀ M', GoS M0 tx n M' (tst (sgn (txT M0 tx) n) p).1 l F → K (bi ((tst (sgn (txT M0 tx) n) p).2.2 F)) M') : f_X7_comparisonHolds M K := by
  unfold f_X7_comparisonHolds f_X7_comparisonHolds_b71
  unfold tst at hb hg
  have bad : ∀ {M' p'} (v2 v5 x : Int32), BaS M0 M' p' → (∀ v, bz v → K v M') → ((¬x = 60 → (¬x = 61 → (v2 ≤ v5 → bz 0 ∧ K 0 M') ∧ (¬v2 ≤ v5 → bz 1 ∧ K 1 M')) ∧ (x = 61 → (¬v2 = v5 → bz 0 ∧ K 0 M') ∧ (v2 = v5 → bz 1 ∧ K 1 M'))) ∧ (x = 60 → (v5 ≤ v2 → bz 0 ∧ K 0 M') ∧ (¬v5 ≤ v2 → bz 1 ∧ K 1 M'))) := fun v2 v5 x hB h => by
    have h0 := h 0 (Or.inl rfl)
    have h1 := h 1 (Or.inr rfl)
    exact ⟨fun _ => ⟨fun _ => ⟨fun _ => ⟨Or.inl rfl, h0⟩, fun _ => ⟨Or.inr rfl, h1⟩⟩, fun _ => ⟨fun _ => ⟨Or.inl rfl, h0⟩, fun _ => ⟨Or.inr rfl, h1⟩⟩⟩, fun _ => ⟨fun _ => ⟨Or.inl rfl, h0⟩, fun _ => ⟨Or.inr rfl, h1⟩⟩⟩
  refine gd_sum hH hG (fun e v2 M2 hB => ?_) (fun e M2 hG2 => ?_)
  · rw [if_pos e] at hb
    exact bd_sign hB (bd_expect hB (by decide) (bd_sum hB (fun v5 => bad v2 v5 _ hB (fun v hv => hb rfl v M2 hv hB))))
  · have e' : ¬ (smm (sgn (txT M0 tx) n) p).2.1 = true := by rw [e]; exact Bool.false_ne_true
    rw [if_neg e'] at hb hg
    refine gd_sign hH hG2 (gd_expect hH hG2 (by decide) (fun c M4 hB => ?_) (fun c M4 hG4 => ?_))
    · rw [if_neg c] at hb
      exact bd_sum hB (fun v5 => bad _ v5 _ hB (fun v hv => hb rfl v M4 hv hB))
    · rw [if_pos c] at hb hg
      refine gd_sum hH hG4 (fun e2 v5 M5 hB => bad _ v5 _ hB (fun v hv => hb e2 v M5 hv hB)) (fun e2 M5 hG5 => ?_)
      have := hg e2 M5 hG5
      dsimp only at this
      unfold cmpB at this
      generalize sgn (txT M0 tx) n (smm (sgn (txT M0 tx) n) p).1 = x at *
      refine ⟨fun c1 => ⟨fun c2 => ⟨fun c3 => ⟨Or.inl rfl, ?_⟩, fun c3 => ⟨Or.inr rfl, ?_⟩⟩, fun c2 => ⟨fun c3 => ⟨Or.inl rfl, ?_⟩, fun c3 => ⟨Or.inr rfl, ?_⟩⟩⟩, fun c1 => ⟨fun c3 => ⟨Or.inl rfl, ?_⟩, fun c3 => ⟨Or.inr rfl, ?_⟩⟩⟩
      · rw [if_neg c1, if_neg c2, decide_eq_false (by rw [lt_nle]; exact fun z => z c3)] at this; exact this
      · rw [if_neg c1, if_neg c2, decide_eq_true (by rw [lt_nle]; exact c3)] at this; exact this
      · rw [if_neg c1, if_pos c2, decide_eq_false c3] at this; exact this
      · rw [if_neg c1, if_pos c2, decide_eq_true c3] at this; exact this
      · rw [if_pos c1, decide_eq_false (by rw [lt_nle]; exact fun z => z c3)] at this; exact this
      · rw [if_pos c1, decide_eq_true (by rw [lt_nle]; exact c3)] at this; exact this
