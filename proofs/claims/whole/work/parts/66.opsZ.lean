/-! the quarrel: the model's double loop -/
def qrM (m : Int32) (o : Option (Nat × Nat)) : Int32 := match o with
  | none => -9
  | some (i, j) => if m = 0 then nI i else nI j
theorem q_quar {M M2 : Mem} {nb : Nat} (hn : nb ≤ 24) (e12 : M2 287 12 = nI nb) (e97 : M2 297 = M 297) {B : Nat → Bool} (hB : ∀ j, j < nb → M2 304 j = bi (B j)) {m : Int32} {K : Int32 → Mem → Prop} (hK : K (qrM m (qr1 B (kdA M) nb 0)) M2) : f_X12_quarrel m M2 K := by
  unfold f_X12_quarrel
  generalize hD : qr1 B (kdA M) nb 0 = D at hK
  have kof : ∀ g, g < nb → ∀ K' : Int32 → Mem → Prop, K' (kdA M g) M2 → f_X12_kindIn (nI g) M2 K' := fun g hg K' h => q_kindIn e97 (by omega) h
  refine Lp.up (fun q a => a = (m, nI q, M2) ∧ (((∀ x, x < q → ¬ B x = true) ∧ qr1 B (kdA M) (nb - q) q = D) ∨ (D = none ∧ ∀ x y, x < nb → y < nb → B x = true → B y = true → kdA M x = kdA M y))) nb (fun q a r hq ha hr => ?_) (j := 0) (by omega) ⟨rfl, Or.inl ⟨fun x hx => absurd hx (Nat.not_lt_zero x), hD⟩⟩
  obtain ⟨rfl, hI⟩ := ha
  unfold f_X12_quarrel_c2
  dsimp only
  rw [e12, nI_le_iff (by omega) (by omega)]
  refine ⟨fun c => ?_, fun c => ?_⟩
  · have : D = none := by
      rcases hI with ⟨-, h⟩ | ⟨h, -⟩
      · rw [show nb - q = 0 by omega] at h; exact h.symm
      · exact h
    rw [this] at hK
    exact hK
  · have hqn : q < nb := by omega
    refine Lp.up (fun x a => a = (m, nI q, nI x, M2) ∧ ∀ y, y < x → ¬ (B q = true ∧ B y = true ∧ ¬ kdA M y = kdA M q)) nb (fun x a r2 hx ha hr2 => ?_) (j := 0) (by omega) ⟨rfl, fun y hy => absurd hy (Nat.not_lt_zero y)⟩
    obtain ⟨rfl, hJ⟩ := ha
    simp only [f_X12_quarrel_c12, f_X12_quarrel_b60, f_X12_quarrel_b61]
    rw [e12, nI_le_iff (by omega) (by omega), nI_1, nI_1, nI_cl q (by omega), nI_cl x (by omega), hB q hqn]
    refine ⟨fun c1 => hr hqn _ ⟨rfl, ?_⟩, fun c1 => ?_⟩
    · have hall : ∀ y, y < nb → B q = true → B y = true → kdA M y = kdA M q := fun y hy b1 b2 => by
        by_cases z : kdA M y = kdA M q
        · exact z
        · exact absurd ⟨b1, b2, z⟩ (hJ y (by omega))
      rcases hI with ⟨h1, h2⟩ | h
      · rw [show nb - q = (nb - (q + 1)) + 1 by omega, qr1] at h2
        by_cases b : B q = true
        · rw [if_pos b, fsF_none (fun y y1 y2 => by
            unfold dfB
            intro z
            rw [Bool.and_eq_true] at z
            exact of_decide_eq_true z.2 (hall y (by omega) b z.1))] at h2
          exact Or.inr ⟨h2.symm, fun y1 y2 g1 g2 b1 b2 => (hall y1 g1 b b1).trans (hall y2 g2 b b2).symm⟩
        · rw [if_neg b] at h2
          refine Or.inl ⟨fun y hy => ?_, h2⟩
          by_cases z : y = q
          · rw [z]; exact b
          · exact h1 y (by omega)
      · exact Or.inr h
    · have hxn : x < nb := by omega
      rw [hB x hxn]
      have hvq : vp_in (nI q) 24 := vin_nI (by omega) (by decide)
      have hvx : vp_in (nI x) 24 := vin_nI (by omega) (by decide)
      have nxt : ¬ (B q = true ∧ B x = true ∧ ¬ kdA M x = kdA M q) → r2 (m, nI q, nI (x + 1), M2) := fun z => hr2 hxn _ ⟨rfl, fun y hy => by
        by_cases w : y = x
        · rw [w]; exact z
        · exact hJ y (by omega)⟩
      refine ⟨hvq, fun c2 => nxt (fun z => by rw [z.1] at c2; exact absurd c2 (by decide)), fun c2 => ⟨hvx, fun c3 => nxt (fun z => by rw [z.2.1] at c3; exact absurd c3 (by decide)), fun c3 => kof q hqn _ (kof x hxn _ ⟨fun c4 => nxt (fun z => z.2.2 c4.symm), fun c4 => ?_⟩)⟩⟩
      have b1 : B q = true := by cases h : B q <;> first | rfl | exact absurd (by rw [h]; rfl) c2
      have b2 : B x = true := by cases h : B x <;> first | rfl | exact absurd (by rw [h]; rfl) c3
      rcases hI with ⟨h1, h2⟩ | ⟨-, h⟩
      · have hqx : q < x := by
          rcases Nat.lt_trichotomy q x with w | w | w
          · exact w
          · rw [w] at c4; exact absurd rfl c4
          · exact absurd b2 (h1 x w)
        rw [show nb - q = (nb - (q + 1)) + 1 by omega, qr1, if_pos b1, fsF_some (j := x) (by omega) (by omega) (fun y y1 y2 => by
          unfold dfB
          intro z
          rw [Bool.and_eq_true] at z
          exact hJ y y2 ⟨b1, z.1, of_decide_eq_true z.2⟩) (by unfold dfB; rw [b2, decide_eq_true (p := ¬ kdA M x = kdA M q) (fun z => c4 z.symm)]; rfl)] at h2
        subst h2
        refine ⟨fun c5 => ?_, fun c5 => ?_⟩
        · have := hK; unfold qrM at this; dsimp only [Option.map] at this; rw [if_pos c5] at this; exact this
        · have := hK; unfold qrM at this; dsimp only [Option.map] at this; rw [if_neg c5] at this; exact this
      · exact absurd (h q x hqn hxn b1 b2) c4
