/-! the quarrel: both sides -/
def fsF (p : Nat → Bool) : Nat → Nat → Option Nat
  | 0, _ => none
  | k + 1, j => if p j = true then some j else fsF p k (j + 1)
def dfB (B : Nat → Bool) (kd : Nat → Int32) (i j : Nat) : Bool := B j && decide (¬ kd j = kd i)
def qr1 (B : Nat → Bool) (kd : Nat → Int32) : Nat → Nat → Option (Nat × Nat)
  | 0, _ => none
  | k + 1, j => if B j = true then (fsF (dfB B kd j) k (j + 1)).map (fun x => (j, x)) else qr1 B kd k (j + 1)
theorem fsF_none {p : Nat → Bool} : ∀ {k a : Nat}, (∀ x, a ≤ x → x < a + k → ¬ p x = true) → fsF p k a = none
  | 0, _, _ => rfl
  | k + 1, a, h => by
    rw [fsF, if_neg (h a (Nat.le_refl a) (by omega))]
    exact fsF_none (fun x h1 h2 => h x (by omega) (by omega))
theorem fsF_some {p : Nat → Bool} : ∀ {k a j : Nat}, a ≤ j → j < a + k → (∀ x, a ≤ x → x < j → ¬ p x = true) → p j = true → fsF p k a = some j
  | 0, a, j, h1, h2, _, _ => absurd h2 (by omega)
  | k + 1, a, j, h1, h2, h3, h4 => by
    by_cases c : a = j
    · subst c; rw [fsF, if_pos h4]
    · rw [fsF, if_neg (h3 a (Nat.le_refl a) (by omega))]
      exact fsF_some (by omega) (by omega) (fun x g1 g2 => h3 x (by omega) g2) h4
def kdA (M : Mem) (j : Nat) : Int32 := M 297 (60 * j + 1) - 48
def qrI (m : Int32) (o : Option (Nat × Nat)) : Int32 := match o with
  | none => -9
  | some (i, j) => if m = 0 then nI j else nI i
theorem t_quar {M : Mem} (H : Inv M) {M1 : Mem} (hT : Tx M M1) {B : Nat → Bool} {v m : Int32} (hv : ∀ j, j < nn (M 15 0) → bt v j = B j) {K : Int32 → Mem → Prop} (hK : K (qrI m (qr1 B (kdA M) (nn (M 15 0)) 0)) M1) : f_X0_quarrelAmong v m M1 K := by
  obtain ⟨nb, hn, en, -, hact⟩ := H.act
  rw [en, nn_nI nb (by omega)] at hv hK
  have kof : ∀ g, g < nb → ∀ K' : Int32 → Mem → Prop, K' (kdA M g) M1 → f_X0_kindOf (nI g) M1 K' := fun g hg K' h => by
    have := t_kindOf (o := some g) H hT (fun g' e => by cases e; rw [en, nn_nI nb (by omega)]; exact hg) (K := K') h
    exact this
  unfold f_X0_quarrelAmong
  generalize hD : qr1 B (kdA M) nb 0 = D at hK
  refine Lp.up (fun j a => ∃ o : Option Nat, a = (v, m, opI (-9) o, nI j, M1) ∧ (∀ i, o = some i → i < j ∧ (fsF (dfB B (kdA M) i) (nb - j) j).map (fun x => (i, x)) = D) ∧ (o = none → qr1 B (kdA M) (nb - j) j = D)) nb (fun j a r hj ha hr => ?_) (j := 0) (by omega) ⟨none, rfl, fun i e => (by cases e), fun _ => hD⟩
  obtain ⟨o, rfl, g1, g2⟩ := ha
  simp only [f_X0_quarrelAmong_c6, f_X0_quarrelAmong_b63, f_X0_quarrelAmong_b64]
  rw [hT 15 (by decide) (by decide) (by decide) (by decide) (by decide), en, nI_le_iff (by omega) (by omega), nI_1]
  refine ⟨fun c => ?_, fun c => ?_⟩
  · have : D = none := by
      rw [show nb - j = 0 by omega] at g1 g2
      cases o with
      | none => exact (g2 rfl).symm
      | some i => exact (g1 i rfl).2.symm
    rw [this] at hK
    exact hK
  · have hjn : j < nb := by omega
    have e1 := btS v j (by omega)
    rw [hv j hjn] at e1
    have e0 : ((v >>> (nI j &&& 31)) &&& 1 = 0) ↔ ¬ B j = true := by
      rw [← e1]
      have hb : bz ((v >>> (nI j &&& 31)) &&& 1) := by
        cases h : bt v j with
        | true => exact Or.inr ((btS v j (by omega)).mpr h)
        | false =>
          refine Or.inl ?_
          apply Int32.toBitVec_inj.mp
          apply BitVec.eq_of_getLsbD_eq
          intro i hi
          unfold bt at h
          rw [Int32.toBitVec_and, shrB v j (by omega), show (1 : Int32).toBitVec = 1#32 from rfl, BitVec.getLsbD_and, BitVec.getLsbD_sshiftRight]
          cases i with
          | zero =>
            have h' : v.toBitVec[j] = false := by rw [← BitVec.getLsbD_eq_getElem]; exact h
            simp [h', show j < 32 by omega]
          | succ i => simp
      rcases hb with q | q
      · rw [q]; exact ⟨fun _ => by decide, fun _ => rfl⟩
      · rw [q]; exact ⟨fun z => absurd z (by decide), fun z => absurd rfl z⟩
    rw [e0]
    have st : nb - j = (nb - (j + 1)) + 1 := by omega
    rw [st] at g1 g2
    cases o with
    | none =>
      have g := g2 rfl
      rw [qr1] at g
      refine ⟨fun c1 => ⟨fun c2 => absurd rfl c2, fun _ => hr hjn _ ⟨some j, rfl, fun i e => ?_, fun e => by cases e⟩⟩, fun c1 => hr hjn _ ⟨none, rfl, fun i e => (by cases e), fun _ => ?_⟩⟩
      · cases e
        rw [if_pos (Classical.not_not.mp c1)] at g
        exact ⟨Nat.lt_succ_self _, g⟩
      · rw [if_neg c1] at g; exact g
    | some i =>
      obtain ⟨hij, g⟩ := g1 i rfl
      rw [fsF] at g
      have nxt : ¬ dfB B (kdA M) i j = true → r (v, m, opI (-9) (some i), nI (j + 1), M1) := fun q => by
        rw [if_neg q] at g
        exact hr hjn _ ⟨some i, rfl, fun i' e => by cases e; exact ⟨by omega, g⟩, fun e => by cases e⟩
      refine ⟨fun c1 => ⟨fun c2 => kof j hjn _ (kof i (by omega) _ ⟨fun c3 => nxt ?_, fun c3 => ?_⟩), fun c2 => absurd c2 (n9 i (by omega))⟩, fun c1 => nxt ?_⟩
      · unfold dfB; simp [c3]
      · have hd : dfB B (kdA M) i j = true := by unfold dfB; rw [Classical.not_not.mp c1, decide_eq_true c3]; rfl
        rw [if_pos hd] at g
        subst g
        refine ⟨fun c4 => ?_, fun c4 => ?_⟩
        · have := hK; unfold qrI at this; dsimp only [Option.map] at this; rw [if_pos c4] at this; exact this
        · have := hK; unfold qrI at this; dsimp only [Option.map] at this; rw [if_neg c4] at this; exact this
      · unfold dfB; intro z; exact c1 (by simp at z; exact z.1)
