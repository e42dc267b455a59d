/-! THE READER OF TEXTS (the model's): units, sums, tests -/
theorem Lp.next {α : Type} {B : (α → Prop) → α → Prop} {a a' : α} (h : ∀ r, r a' → B r a) (h' : Lp B a') : Lp B a := by
  obtain ⟨k, hk⟩ := h'
  exact ⟨k + 1, h _ hk⟩
/-- what the model's reader has to read -/
def MTx (M : Mem) (n : Nat) (t : Nat → Int32) (F : FT) : Prop :=
  n ≤ 60 ∧ M 287 19 = nI n ∧ (∀ q, ¬ t q = -1) ∧ (∀ q, q < n → (M 287 17 = 0 ∧ M 296 q = t q) ∨ (¬ M 287 17 = 0 ∧ ∃ off, M 287 18 = nI off ∧ off + 60 ≤ 1440 ∧ M 297 (off + q) = t q)) ∧ ∀ k, k < 6 → M 301 k = F k
def MA (M : Mem) (n : Nat) (M' : Mem) (p : Nat) (b : Bool) : Prop :=
  (∀ c, c ≠ 287 → M' c = M c) ∧ (∀ k, k ≠ 20 → k ≠ 21 → M' 287 k = M 287 k) ∧ M' 287 20 = nI p ∧ M' 287 21 = bi b ∧ p ≤ n
theorem MA.adv {M : Mem} {n : Nat} {M' : Mem} {p : Nat} {b : Bool} (h : MA M n M' p b) (hp : p < n) : MA M n (mset M' 287 20 (M' 287 20 + 1)) (p + 1) b := by
  obtain ⟨h1, h2, h3, h4, h5⟩ := h
  refine ⟨fun c hc => (mset_ne _ _ _ hc).trans (h1 c hc), fun k k1 k2 => ?_, ?_, ?_, hp⟩
  · rw [mset_row, upd_n _ _ k1]; exact h2 k k1 k2
  · rw [mset_eq, h3, nI_1]
  · rw [mset_row, upd_n _ _ (by decide)]; exact h4
theorem MA.bad {M : Mem} {n : Nat} {M' : Mem} {p : Nat} {b : Bool} (h : MA M n M' p b) : MA M n (mset M' 287 21 1) p true := by
  obtain ⟨h1, h2, h3, h4, h5⟩ := h
  refine ⟨fun c hc => (mset_ne _ _ _ hc).trans (h1 c hc), fun k k1 k2 => ?_, ?_, ?_, h5⟩
  · rw [mset_row, upd_n _ _ k2]; exact h2 k k1 k2
  · rw [mset_row, upd_n _ _ (by decide)]; exact h3
  · rw [mset_eq]; rfl
theorem m_sg {t : Nat → Int32} {n p : Nat} (h : ¬ sgn t n p = -1) : p < n := sg_lt h
theorem m_byte {M : Mem} {n : Nat} {t : Nat → Int32} {F : FT} (hT : MTx M n t F) {M' : Mem} {p : Nat} {b : Bool} (h : MA M n M' p b) {K : Int32 → Mem → Prop} (hK : K (sgn t n p) M') : f_X12_byteHere M' K := by
  obtain ⟨h1, h2, h3, h4, h5⟩ := h
  obtain ⟨t1, t2, t3, t4, t5⟩ := hT
  unfold f_X12_byteHere f_X12_byteHere_b48
  rw [h2 19 (by decide) (by decide), h2 17 (by decide) (by decide), h2 18 (by decide) (by decide), h3, t2, nI_lt_iff (by omega) (by omega), h1 296 (by decide), h1 297 (by decide)]
  unfold sgn at hK
  refine ⟨fun c => ?_, fun c => by rw [if_neg c] at hK; exact hK⟩
  rw [if_pos c] at hK
  rcases t4 p c with ⟨e1, e2⟩ | ⟨e1, off, e2, e3, e4⟩
  · refine ⟨fun _ => ⟨vin_nI (by omega) (by decide), ?_⟩, fun z => absurd e1 z⟩
    rw [nI_cl p (by omega), e2]; exact hK
  · refine ⟨fun z => absurd z e1, fun _ => ?_⟩
    rw [e2, nI_add]
    refine ⟨vin_nI (by omega) (by decide), ?_⟩
    rw [nI_cl _ (by omega), e4]; exact hK
theorem m_in (a b c : Int32) (M : Mem) (K : Int32 → Mem → Prop) (h : K (bi (decide (b ≤ a ∧ a ≤ c))) M) : f_X12_in a b c M K := by
  unfold f_X12_in f_X12_in_b14 f_X12_in_b15
  by_cases q1 : a < b
  · rw [decide_eq_false (fun z => lt_nle.mp q1 z.1)] at h
    exact ⟨fun _ => ⟨bz0, h⟩, fun z => absurd q1 z⟩
  · by_cases q2 : c < a
    · rw [decide_eq_false (fun z => lt_nle.mp q2 z.2)] at h
      exact ⟨fun z => absurd z q1, fun _ => ⟨fun _ => ⟨bz0, h⟩, fun z => absurd q2 z⟩⟩
    · rw [lt_nle, Classical.not_not] at q1 q2
      rw [decide_eq_true ⟨q1, q2⟩] at h
      exact ⟨fun z => absurd q1 (lt_nle.mp z), fun _ => ⟨fun z => absurd q2 (lt_nle.mp z), fun _ => ⟨bz1, h⟩⟩⟩
theorem mfc_v (c : Int32) (M : Mem) (K : Int32 → Mem → Prop) : f_X12_factOf c M K ↔ K (match fcN c with | some f => nI f | none => -1) M := by
  unfold f_X12_factOf fcN
  by_cases c1 : c = 99
  · subst c1; simp; rfl
  · by_cases c2 : c = 109
    · subst c2; simp; rfl
    · by_cases c3 : c = 110
      · subst c3; simp; rfl
      · by_cases c4 : c = 115
        · subst c4; simp; rfl
        · by_cases c5 : c = 117
          · subst c5; simp; rfl
          · by_cases c6 : c = 119
            · subst c6; simp; rfl
            · simp [c1, c2, c3, c4, c5, c6]
theorem m_unit {M : Mem} {n : Nat} {t : Nat → Int32} {F : FT} (hT : MTx M n t F) {M1 : Mem} {p : Nat} (h : MA M n M1 p false) {K : Int32 → Mem → Prop}
    (hb : (unt (sgn t n) p).2.1 = true → ∀ M', MA M n M' (unt (sgn t n) p).1 true → K 0 M')
    (hg : (unt (sgn t n) p).2.1 = false → ∀ M', MA M n M' (unt (sgn t n) p).1 false → K ((unt (sgn t n) p).2.2 F) M') : f_X12_readUnit M1 K := by
  have hn := hT.1
  unfold f_X12_readUnit
  refine m_byte hT h ?_
  unfold unt at hb hg
  rw [mfc_v]
  have hsl : ∀ q, ¬ sgn t n q = -1 → q < n := fun q z => sg_lt z
  cases hf : fcN (sgn t n p) with
  | some f =>
    obtain ⟨hf6, -⟩ := fc_lt hf
    rw [hf] at hg
    simp only at hg
    have hpn : p < n := hsl p (fun z => by rw [z] at hf; cases hf)
    refine ⟨fun z => absurd z (by rw [lt_nle]; exact fun y => y (nI_pos' (by omega))), fun _ => ?_⟩
    rw [mfc_v, hf]
    refine ⟨vin_nI hf6 (by decide), ?_⟩
    have := hg trivial _ (h.adv hpn)
    rw [nI_cl f (by omega), (h.adv hpn).1 301 (by decide), hT.2.2.2.2 f hf6]
    exact this
  | none =>
    rw [hf] at hb hg
    refine ⟨fun _ => m_in _ _ _ _ _ ?_, fun z => absurd (by decide) z⟩
    cases hd : isDg (sgn t n p) with
    | false =>
      have : decide ((48 : Int32) ≤ sgn t n p ∧ sgn t n p ≤ 57) = false := hd
      rw [this]
      simp only [hd] at hb
      exact ⟨fun z => absurd rfl z, fun _ => hb rfl _ h.bad⟩
    | true =>
      have : decide ((48 : Int32) ≤ sgn t n p ∧ sgn t n p ≤ 57) = true := hd
      rw [this]
      simp only [hd] at hg
      refine ⟨fun _ => ?_, fun z => absurd z (by decide)⟩
      generalize hD : dgN (sgn t n) 4 p 0 = D at hg
      refine Lp.up (fun j a => ∃ q v M', MA M n M' q false ∧ dgN (sgn t n) (4 - j) q v = D ∧ a = (v, nI j, M')) 4 (fun j a r hj ha hr => ?_) (j := 0) (by omega) ⟨p, 0, _, h, hD, rfl⟩
      obtain ⟨q, v, M', hG', e, rfl⟩ := ha
      unfold f_X12_readUnit_c54 f_X12_readUnit_b102
      dsimp only
      have l4 : ((4 : Int32) ≤ nI j) ↔ 4 ≤ j := nI_le_iff (a := 4) (by omega) (by omega)
      rw [l4]
      refine ⟨fun c3 => ?_, fun c3 => m_byte hT hG' (m_in _ _ _ _ _ ?_)⟩
      · rw [show 4 - j = 0 by omega] at e
        unfold dgN at e
        rw [← e] at hg
        exact hg rfl M' hG'
      · rw [show 4 - j = (4 - (j + 1)) + 1 by omega] at e
        unfold dgN at e
        cases hd2 : isDg (sgn t n q) with
        | false =>
          have : decide ((48 : Int32) ≤ sgn t n q ∧ sgn t n q ≤ 57) = false := hd2
          rw [this]
          rw [if_neg (by rw [hd2]; exact Bool.false_ne_true)] at e
          rw [← e] at hg
          exact ⟨fun _ => hg rfl M' hG', fun z => absurd rfl z⟩
        | true =>
          have : decide ((48 : Int32) ≤ sgn t n q ∧ sgn t n q ≤ 57) = true := hd2
          rw [this]
          rw [if_pos hd2] at e
          have hqn : q < n := hsl q (fun z => by rw [z] at hd2; exact absurd hd2 (by decide))
          refine ⟨fun z => absurd z (by decide), fun _ => m_byte hT hG' ?_⟩
          rw [nI_1]
          exact hr (by omega) _ ⟨q + 1, _, _, hG'.adv hqn, e, rfl⟩
theorem dgN_le (sg : Nat → Int32) : ∀ k p v, p ≤ (dgN sg k p v).1
  | 0, p, v => Nat.le_refl p
  | k + 1, p, v => by
    unfold dgN
    split
    · exact Nat.le_trans (Nat.le_succ p) (dgN_le sg k (p + 1) _)
    · exact Nat.le_refl p
theorem unt_le (sg : Nat → Int32) (p : Nat) : p ≤ (unt sg p).1 := by
  unfold unt
  split
  · exact Nat.le_succ p
  · split
    · exact dgN_le sg 4 p 0
    · exact Nat.le_refl p
theorem smL_le (sg : Nat → Int32) : ∀ k p v, p ≤ (smL sg k p v).1
  | 0, p, v => Nat.le_refl p
  | k + 1, p, v => by
    unfold smL
    have := unt_le sg (p + 1)
    split
    · split
      · dsimp only; omega
      · have := smL_le sg k (unt sg (p + 1)).1 (fun F => opv (sg p) (v F) ((unt sg (p + 1)).2.2 F)); omega
    · exact Nat.le_refl p
theorem smm_le (sg : Nat → Int32) (p : Nat) : p ≤ (smm sg p).1 := by
  unfold smm
  have := unt_le sg p
  split
  · exact this
  · exact Nat.le_trans this (smL_le sg _ _ _)
theorem tst_le (sg : Nat → Int32) (p : Nat) : p ≤ (tst sg p).1 := by
  unfold tst
  have h1 := smm_le sg p
  split
  · exact h1
  · split
    · have := smm_le sg ((smm sg p).1 + 1); dsimp only; omega
    · exact h1
theorem m_sumc {M : Mem} {n : Nat} {t : Nat → Int32} {F : FT} (hT : MTx M n t F) {M' : Mem} {q : Nat} (hG' : MA M n M' q false) {K : Int32 → Mem → Prop} {v : Int32} {r : Int32 × Int32 × Mem → Prop}
    (hn : ¬ isOp (sgn t n q) = true → r (v, 0, M'))
    (ho : isOp (sgn t n q) = true → ∀ v' M2, ((unt (sgn t n) (q + 1)).2.1 = true ∧ MA M n M2 (unt (sgn t n) (q + 1)).1 true) ∨ ((unt (sgn t n) (q + 1)).2.1 = false ∧ MA M n M2 (unt (sgn t n) (q + 1)).1 false ∧ v' = (unt (sgn t n) (q + 1)).2.2 F) → r (opv (sgn t n q) v v', (if (unt (sgn t n) (q + 1)).2.1 = true then 0 else 1), M2)) :
    f_X12_readSum_c18 K r v 1 M' := by
  unfold f_X12_readSum_c18 f_X12_readSum_b45 f_X12_readSum_b50 f_X12_readSum_b101 f_X12_readSum_b114 f_X12_readSum_b115
  refine ⟨fun z => absurd z (by decide), fun _ => m_byte hT hG' ?_⟩
  have inner : (1 : Int32) = 0 → r (v, 1, M') := fun z => absurd z (by decide)
  by_cases hop : isOp (sgn t n q) = true
  · have hq : q < n := sg_lt (fun z => by rw [z] at hop; exact absurd hop (by decide))
    have body : ¬ (1 : Int32) = 0 → f_X12_readUnit (mset M' 287 20 (M' 287 20 + 1)) (fun v3 M3 => (¬sgn t n q = 43 → (¬sgn t n q = 45 → (¬M3 287 21 = 0 → r (v * v3, 0, M3)) ∧ (M3 287 21 = 0 → r (v * v3, 1, M3))) ∧ (sgn t n q = 45 → (¬M3 287 21 = 0 → r (v - v3, 0, M3)) ∧ (M3 287 21 = 0 → r (v - v3, 1, M3)))) ∧ (sgn t n q = 43 → (¬M3 287 21 = 0 → r (v + v3, 0, M3)) ∧ (M3 287 21 = 0 → r (v + v3, 1, M3)))) := fun _ => by
      have fin : ∀ v3 M3, (((unt (sgn t n) (q + 1)).2.1 = true ∧ MA M n M3 (unt (sgn t n) (q + 1)).1 true) ∨ ((unt (sgn t n) (q + 1)).2.1 = false ∧ MA M n M3 (unt (sgn t n) (q + 1)).1 false ∧ v3 = (unt (sgn t n) (q + 1)).2.2 F)) → ((¬sgn t n q = 43 → (¬sgn t n q = 45 → (¬M3 287 21 = 0 → r (v * v3, 0, M3)) ∧ (M3 287 21 = 0 → r (v * v3, 1, M3))) ∧ (sgn t n q = 45 → (¬M3 287 21 = 0 → r (v - v3, 0, M3)) ∧ (M3 287 21 = 0 → r (v - v3, 1, M3)))) ∧ (sgn t n q = 43 → (¬M3 287 21 = 0 → r (v + v3, 0, M3)) ∧ (M3 287 21 = 0 → r (v + v3, 1, M3)))) := fun v3 M3 hc => by
        have := ho hop v3 M3 hc
        unfold opv at this
        have hb21 : (if (unt (sgn t n) (q + 1)).2.1 = true then (0 : Int32) else 1) = if M3 287 21 = 0 then 1 else 0 := by
          rcases hc with ⟨c1, c2⟩ | ⟨c1, c2, -⟩
          · rw [if_pos c1, c2.2.2.2.1]; rfl
          · rw [if_neg (by rw [c1]; exact Bool.false_ne_true), c2.2.2.2.1]; rfl
        rw [hb21] at this
        refine ⟨fun c1 => ⟨fun c2 => ?_, fun c2 => ?_⟩, fun c1 => ?_⟩
        · rw [if_neg c1, if_neg c2] at this
          exact ⟨fun c3 => by rw [if_neg c3] at this; exact this, fun c3 => by rw [if_pos c3] at this; exact this⟩
        · rw [if_neg c1, if_pos c2] at this
          exact ⟨fun c3 => by rw [if_neg c3] at this; exact this, fun c3 => by rw [if_pos c3] at this; exact this⟩
        · rw [if_pos c1] at this
          exact ⟨fun c3 => by rw [if_neg c3] at this; exact this, fun c3 => by rw [if_pos c3] at this; exact this⟩
      exact m_unit hT (hG'.adv hq) (fun e2 M3 hB => fin 0 M3 (Or.inl ⟨e2, hB⟩)) (fun e2 M3 hB => fin _ M3 (Or.inr ⟨e2, hB, rfl⟩))
    refine ⟨fun _ => ⟨inner, body⟩, fun d1 => ⟨fun _ => ⟨inner, body⟩, fun d2 => ⟨fun d3 => ?_, fun _ => ⟨inner, body⟩⟩⟩⟩
    rcases (op_t _).mp hop with y | y | y <;> contradiction
  · have no := fun (c : Int32) (hc : isOp c = true) (e : sgn t n q = c) => hop (e ▸ hc)
    exact ⟨fun z => absurd z (no 43 (by decide)), fun _ => ⟨fun z => absurd z (no 45 (by decide)), fun _ => ⟨fun _ => ⟨fun _ => hn hop, fun z => absurd rfl z⟩, fun z => absurd z (no 42 (by decide))⟩⟩⟩
theorem m_sum {M : Mem} {n : Nat} {t : Nat → Int32} {F : FT} (hT : MTx M n t F) {M1 : Mem} {p : Nat} (h : MA M n M1 p false) {K : Int32 → Mem → Prop}
    (hb : (smm (sgn t n) p).2.1 = true → ∀ v M', MA M n M' (smm (sgn t n) p).1 true → K v M')
    (hg : (smm (sgn t n) p).2.1 = false → ∀ M', MA M n M' (smm (sgn t n) p).1 false → K ((smm (sgn t n) p).2.2 F) M') : f_X12_readSum M1 K := by
  have hn := hT.1
  unfold f_X12_readSum f_X12_readSum_b17
  have out : ∀ {v M'} (r), K v M' → f_X12_readSum_c18 K r v 0 M' := fun {v M'} r hk => by
    unfold f_X12_readSum_c18
    exact ⟨fun _ => hk, fun z => absurd rfl z⟩
  refine m_unit hT h (fun e M' hB => ?_) (fun e M' hG => ?_)
  · have e2 : smm (sgn t n) p = unt (sgn t n) p := by unfold smm; rw [if_pos e]
    rw [e2] at hb
    exact ⟨fun _ => Lp.one (fun r => out r (hb e _ M' hB)), fun z => absurd z (by rw [hB.2.2.2.1]; decide)⟩
  · refine ⟨fun z => absurd hG.2.2.2.1 z, fun _ => ?_⟩
    have e2 : smm (sgn t n) p = smL (sgn t n) 60 (unt (sgn t n) p).1 (unt (sgn t n) p).2.2 := by unfold smm; rw [if_neg (by rw [e]; exact Bool.false_ne_true)]
    generalize smm (sgn t n) p = D at hb hg e2
    refine Lp.up (fun j a => (j ≤ 60 ∧ ∃ q vf M', a = (vf F, 1, M') ∧ n ≤ q + (60 - j) ∧ MA M n M' q false ∧ smL (sgn t n) (60 - j) q vf = D) ∨ (∃ v M', a = (v, 0, M') ∧ K v M')) 61 (fun j a r hj ha hr => ?_) (j := 0) (by omega) (Or.inl ⟨by omega, _, _, M', rfl, by omega, hG, e2.symm⟩)
    rcases ha with ⟨hj60, q, vf, M2, rfl, hk, hG', eD⟩ | ⟨v, M2, rfl, hk⟩
    · refine m_sumc hT hG' (fun c => hr (by omega) _ (Or.inr ⟨_, M2, rfl, ?_⟩)) (fun c v' M3 hc => ?_)
      · cases hk0 : 60 - j with
        | zero => rw [hk0] at eD; unfold smL at eD; subst eD; exact hg rfl M2 hG'
        | succ k =>
          rw [hk0] at eD; unfold smL at eD
          rw [if_neg c] at eD; subst eD; exact hg rfl M2 hG'
      · have hq : q < n := sg_lt (fun z => by rw [z] at c; exact absurd c (by decide))
        have hu := unt_le (sgn t n) (q + 1)
        rw [show 60 - j = (60 - (j + 1)) + 1 by omega] at eD
        unfold smL at eD
        rw [if_pos c] at eD
        rcases hc with ⟨c1, c2⟩ | ⟨c1, c2, rfl⟩
        · rw [if_pos c1] at eD ⊢
          subst eD
          exact hr (by omega) _ (Or.inr ⟨_, M3, rfl, hb rfl _ M3 c2⟩)
        · have c1' : ¬ (unt (sgn t n) (q + 1)).2.1 = true := by rw [c1]; exact Bool.false_ne_true
          rw [if_neg c1'] at eD ⊢
          exact hr (by omega) _ (Or.inl ⟨by omega, _, _, M3, rfl, by omega, c2, eD⟩)
    · exact out r hk
theorem m_test {M : Mem} {n : Nat} {t : Nat → Int32} {F : FT} (hT : MTx M n t F) {M1 : Mem} {p : Nat} (h : MA M n M1 p false) {K : Int32 → Mem → Prop}
    (hb : (tst (sgn t n) p).2.1 = true → ∀ v M', bz v → MA M n M' (tst (sgn t n) p).1 true → K v M')
    (hg : (tst (sgn t n) p).2.1 = false → ∀ M', MA M n M' (tst (sgn t n) p).1 false → K (bi ((tst (sgn t n) p).2.2 F)) M') : f_X12_readTest M1 K := by
  unfold f_X12_readTest f_X12_readTest_b35 f_X12_readTest_b42 f_X12_readTest_b105
  unfold tst at hb hg
  refine m_sum hT h (fun e v2 M2 hB => m_byte hT hB ?_) (fun e M2 hG2 => m_byte hT hG2 ?_)
  · rw [if_pos e] at hb
    exact ⟨fun _ => hb rfl 0 _ bz0 hB.bad, fun z => absurd z (by rw [hB.2.2.2.1]; decide)⟩
  · have e' : ¬ (smm (sgn t n) p).2.1 = true := by rw [e]; exact Bool.false_ne_true
    rw [if_neg e'] at hb hg
    refine ⟨fun z => absurd hG2.2.2.2.1 z, fun _ => ?_⟩
    have no : ¬ (60 ≤ sgn t n (smm (sgn t n) p).1 ∧ sgn t n (smm (sgn t n) p).1 ≤ 62) → K 0 (mset M2 287 21 1) := fun c => by
      rw [if_neg c] at hb
      exact hb rfl 0 _ bz0 hG2.bad
    have yes : (60 ≤ sgn t n (smm (sgn t n) p).1 ∧ sgn t n (smm (sgn t n) p).1 ≤ 62) → f_X12_readSum (mset M2 287 20 (M2 287 20 + 1)) (fun v2 M3 => (¬sgn t n (smm (sgn t n) p).1 = 60 → (¬sgn t n (smm (sgn t n) p).1 = 61 → ((smm (sgn t n) p).2.2 F ≤ v2 → bz 0 ∧ K 0 M3) ∧ (¬(smm (sgn t n) p).2.2 F ≤ v2 → bz 1 ∧ K 1 M3)) ∧ (sgn t n (smm (sgn t n) p).1 = 61 → (¬(smm (sgn t n) p).2.2 F = v2 → bz 0 ∧ K 0 M3) ∧ ((smm (sgn t n) p).2.2 F = v2 → bz 1 ∧ K 1 M3))) ∧ (sgn t n (smm (sgn t n) p).1 = 60 → (v2 ≤ (smm (sgn t n) p).2.2 F → bz 0 ∧ K 0 M3) ∧ (¬v2 ≤ (smm (sgn t n) p).2.2 F → bz 1 ∧ K 1 M3))) := fun c => by
      rw [if_pos c] at hb hg
      have hq : (smm (sgn t n) p).1 < n := sg_lt (fun z => by rw [z] at c; exact absurd c.1 (by decide))
      refine m_sum hT (hG2.adv hq) (fun e2 v5 M5 hB => ?_) (fun e2 M5 hG5 => ?_)
      · have h0 := hb e2 0 M5 bz0 hB
        have h1 := hb e2 1 M5 bz1 hB
        exact ⟨fun _ => ⟨fun _ => ⟨fun _ => ⟨Or.inl rfl, h0⟩, fun _ => ⟨Or.inr rfl, h1⟩⟩, fun _ => ⟨fun _ => ⟨Or.inl rfl, h0⟩, fun _ => ⟨Or.inr rfl, h1⟩⟩⟩, fun _ => ⟨fun _ => ⟨Or.inl rfl, h0⟩, fun _ => ⟨Or.inr rfl, h1⟩⟩⟩
      · have := hg e2 M5 hG5
        dsimp only at this
        unfold cmpB at this
        generalize sgn t n (smm (sgn t n) p).1 = x at *
        refine ⟨fun c1 => ⟨fun c2 => ⟨fun c3 => ⟨Or.inl rfl, ?_⟩, fun c3 => ⟨Or.inr rfl, ?_⟩⟩, fun c2 => ⟨fun c3 => ⟨Or.inl rfl, ?_⟩, fun c3 => ⟨Or.inr rfl, ?_⟩⟩⟩, fun c1 => ⟨fun c3 => ⟨Or.inl rfl, ?_⟩, fun c3 => ⟨Or.inr rfl, ?_⟩⟩⟩
        · rw [if_neg c1, if_neg c2, decide_eq_false (by rw [lt_nle]; exact fun z => z c3)] at this; exact this
        · rw [if_neg c1, if_neg c2, decide_eq_true (by rw [lt_nle]; exact c3)] at this; exact this
        · rw [if_neg c1, if_pos c2, decide_eq_false c3] at this; exact this
        · rw [if_neg c1, if_pos c2, decide_eq_true c3] at this; exact this
        · rw [if_pos c1, decide_eq_false (by rw [lt_nle]; exact fun z => z c3)] at this; exact this
        · rw [if_pos c1, decide_eq_true (by rw [lt_nle]; exact c3)] at this; exact this
    refine ⟨fun c1 => yes (by rw [c1]; decide), fun c1 => ⟨fun c2 => yes (by rw [c2]; decide), fun c2 => ⟨fun c3 => yes (by rw [c3]; decide), fun c3 => no (fun z => ?_)⟩⟩⟩
    have k : ∀ x : Int32, 60 ≤ x → x ≤ 62 → x = 60 ∨ x = 61 ∨ x = 62 := fun x h1 h2 => by
      rw [i_le] at h1 h2
      simp only [← Int32.toInt_inj]
      have a0 : (60 : Int32).toInt = 60 := rfl
      have a1 : (61 : Int32).toInt = 61 := rfl
      have a2 : (62 : Int32).toInt = 62 := rfl
      omega
    rcases k _ z.1 z.2 with y | y | y
    · exact c1 y
    · exact c2 y
    · exact c3 y
