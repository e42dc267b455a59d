/-! votes and agreements -/
theorem bv_or_and (x y z : BitVec 32) (h : (x ||| y) &&& z = 0#32) : x &&& z = 0#32 ∧ y &&& z = 0#32 := by
  constructor
  · apply BitVec.eq_of_getLsbD_eq
    intro i hi
    have := congrArg (fun v : BitVec 32 => v.getLsbD i) h
    simp at this ⊢
    grind
  · apply BitVec.eq_of_getLsbD_eq
    intro i hi
    have := congrArg (fun v : BitVec 32 => v.getLsbD i) h
    simp at this ⊢
    grind
theorem bv_and_or (x y z : BitVec 32) (h1 : x &&& z = 0#32) (h2 : y &&& z = 0#32) : (x ||| y) &&& z = 0#32 := by
  apply BitVec.eq_of_getLsbD_eq
  intro i hi
  have a := congrArg (fun v : BitVec 32 => v.getLsbD i) h1
  have b := congrArg (fun v : BitVec 32 => v.getLsbD i) h2
  simp at a b ⊢
  grind
theorem bv_sub (x p : BitVec 32) (h : x &&& ~~~p = 0#32) : x = x &&& p := by
  apply BitVec.eq_of_getLsbD_eq
  intro i hi
  have := congrArg (fun v : BitVec 32 => v.getLsbD i) h
  simp [hi] at this ⊢
  exact this
theorem i_or_and (x y z : Int32) : (x ||| y) &&& z = 0 ↔ x &&& z = 0 ∧ y &&& z = 0 := by
  rw [← Int32.toBitVec_inj, ← Int32.toBitVec_inj, ← Int32.toBitVec_inj, Int32.toBitVec_and, Int32.toBitVec_and, Int32.toBitVec_and, Int32.toBitVec_or]
  exact ⟨bv_or_and _ _ _, fun h => bv_and_or _ _ _ h.1 h.2⟩
theorem i_sub (x : Int32) {p : Nat} (hp : p < 512) (h : x &&& (nI p ^^^ (-1)) = 0) : ∃ m, m < 512 ∧ x = nI m := by
  have hx : (nI p ^^^ (-1)).toBitVec = ~~~ (nI p).toBitVec := by
    rw [Int32.toBitVec_xor]
    show _ ^^^ BitVec.allOnes 32 = _
    exact BitVec.xor_allOnes
  rw [← Int32.toBitVec_inj, Int32.toBitVec_and, hx] at h
  have h2 := bv_sub _ _ h
  have h3 := congrArg BitVec.toNat h2
  rw [BitVec.toNat_and, pk_tn (n := p) (by omega)] at h3
  have h4 : x.toBitVec.toNat ≤ p := by rw [h3]; exact Nat.and_le_right
  refine ⟨x.toBitVec.toNat, by omega, ?_⟩
  apply Int32.toBitVec_inj.mp
  apply BitVec.eq_of_toNat_eq
  rw [pk_tn (by omega)]
/-- the vote's sets are not as told -/
def badV (p b c : Int32) : Bool := decide (¬ b &&& (p ^^^ (-1)) = 0 ∨ ¬ c &&& (p ^^^ (-1)) = 0 ∨ ¬ b &&& c = 0)
theorem badV_n {p : Nat} {b c : Int32} (hp : p < 512) (h : badV (nI p) b c = false) : (∃ m, m < 512 ∧ b = nI m) ∧ ∃ m, m < 512 ∧ c = nI m := by
  have := of_decide_eq_false h
  exact ⟨i_sub b hp (Classical.byContradiction fun q => this (Or.inl q)), i_sub c hp (Classical.byContradiction fun q => this (Or.inr (Or.inl q)))⟩
theorem hx_vote {M : Mem} {w : Int32} {k l : Nat} (h3 : w = 3) (hk : k < 30) (hl : l < 30) : (if k = l then M 60 l + 1 else M 60 k) = if w = 3 ∧ nI l = nI k then M 60 k + 1 else M 60 k := by
  by_cases c : k = l
  · subst c
    rw [if_pos rfl, if_pos ⟨h3, rfl⟩]
  · rw [if_neg c, if_neg (fun q => c ((nI_eq_iff (by omega) (by omega)).mp q.2).symm)]
def votA (p b : Int32) : Int32 := if 2 * bcv b ≤ bcv p then 0 else 1
theorem votA_bz (p b : Int32) : bz (votA p b) := bz_fi _
theorem i_vote {M : Mem} (H : Inv M) {i n l : Nat} {w a b s : Int32} (hi : i < nn (M 0 5)) (h40 : i < 40) (hn : n < 30) (en : M 317 i = nI n) (hT : okT M w a b s) (h3 : w = 3) (hl : l < 30) (hs : s = nI l) : Inv (telM (mset (telC M i n w a) 60 l (M 60 l + 1)) i n w b s) := by
  have e287 : (mset (telC M i n w a) 60 l (M 60 l + 1)) 287 = M 287 := (mset_ne _ _ _ (by decide)).trans (telC_c M h40 n w a 287 (by decide))
  unfold telM
  rw [e287, H.D.1]
  unfold telC
  unfold Inv
  simp (disch := omega) only [mset_ne, mset_row, rws_ne, upd_s, upd_n]
  have r0 : ∀ M : Mem, ∀ k v, rws (mset M (127 + 4 * i) k v) 128 4 40 = rws M 128 4 40 ∧ rws (mset M (127 + 4 * i) k v) 129 4 40 = rws M 129 4 40 ∧ rws (mset M (127 + 4 * i) k v) 130 4 40 = rws M 130 4 40 := fun M k v => ⟨rws_o4 M 128 40 _ k v (fun q hq => by omega), rws_o4 M 129 40 _ k v (fun q hq => by omega), rws_o4 M 130 40 _ k v (fun q hq => by omega)⟩
  have r1 : ∀ M : Mem, ∀ k v, rws (mset M (127 + 4 * i + 1) k v) 127 4 40 = rws M 127 4 40 ∧ rws (mset M (127 + 4 * i + 1) k v) 129 4 40 = rws M 129 4 40 ∧ rws (mset M (127 + 4 * i + 1) k v) 130 4 40 = rws M 130 4 40 := fun M k v => ⟨rws_o4 M 127 40 _ k v (fun q hq => by omega), rws_o4 M 129 40 _ k v (fun q hq => by omega), rws_o4 M 130 40 _ k v (fun q hq => by omega)⟩
  have r2 : ∀ M : Mem, ∀ k v, rws (mset M (127 + 4 * i + 2) k v) 127 4 40 = rws M 127 4 40 ∧ rws (mset M (127 + 4 * i + 2) k v) 128 4 40 = rws M 128 4 40 ∧ rws (mset M (127 + 4 * i + 2) k v) 130 4 40 = rws M 130 4 40 := fun M k v => ⟨rws_o4 M 127 40 _ k v (fun q hq => by omega), rws_o4 M 128 40 _ k v (fun q hq => by omega), rws_o4 M 130 40 _ k v (fun q hq => by omega)⟩
  have r3 : ∀ M : Mem, ∀ k v, rws (mset M (127 + 4 * i + 3) k v) 127 4 40 = rws M 127 4 40 ∧ rws (mset M (127 + 4 * i + 3) k v) 128 4 40 = rws M 128 4 40 ∧ rws (mset M (127 + 4 * i + 3) k v) 129 4 40 = rws M 129 4 40 := fun M k v => ⟨rws_o4 M 127 40 _ k v (fun q hq => by omega), rws_o4 M 128 40 _ k v (fun q hq => by omega), rws_o4 M 129 40 _ k v (fun q hq => by omega)⟩
  have a0 : ∀ M : Mem, ∀ k v, rws (mset M (127 + 4 * i) k v) 127 4 40 = fun j => if j = i then upd (rws M 127 4 40 i) k v else rws M 127 4 40 j := fun M k v => rws_a4 M 127 _ 40 k v h40 rfl
  have a1 : ∀ M : Mem, ∀ k v, rws (mset M (127 + 4 * i + 1) k v) 128 4 40 = fun j => if j = i then upd (rws M 128 4 40 i) k v else rws M 128 4 40 j := fun M k v => rws_a4 M 128 _ 40 k v h40 (by omega)
  have a2 : ∀ M : Mem, ∀ k v, rws (mset M (127 + 4 * i + 2) k v) 129 4 40 = fun j => if j = i then upd (rws M 129 4 40 i) k v else rws M 129 4 40 j := fun M k v => rws_a4 M 129 _ 40 k v h40 (by omega)
  have a3 : ∀ M : Mem, ∀ k v, rws (mset M (127 + 4 * i + 3) k v) 130 4 40 = fun j => if j = i then upd (rws M 130 4 40 i) k v else rws M 130 4 40 j := fun M k v => rws_a4 M 130 _ 40 k v h40 (by omega)
  simp only [(r0 _ _ _).1, (r0 _ _ _).2.1, (r0 _ _ _).2.2, (r1 _ _ _).1, (r1 _ _ _).2.1, (r1 _ _ _).2.2, (r2 _ _ _).1, (r2 _ _ _).2.1, (r2 _ _ _).2.2, (r3 _ _ _).1, (r3 _ _ _).2.1, (r3 _ _ _).2.2, a0, a1, a2, a3]
  exact ⟨H.R, H.D, H.S, H.P, H.Q, H.W, H.A, H.X, H.B, H.T, m_tell H hi h40 hn en hT, H.V, n_tell H hi hn en (fun k hk => by rw [upd_at, hs]; have hk30 : k < 30 := by { obtain ⟨m, hm, em⟩ := nat_of (n := 30) H.N.2.1 H.N.2.2.1 (by decide); rw [em, nn_nI m (by omega)] at hk; omega }; exact hx_vote h3 hk30 hl), H.G, H.C, H.E, H.H, H.F, H.U, H.L, H.O, H.I, H.J, H.K⟩
def stN (M : Mem) (a : Int32) : Int32 := stM M (nn a) (M 1 0) (M 1 0)
def cvote (M : Mem) (a b c : Int32) : Int32 := if ¬ (0 ≤ a ∧ a ≤ M 0 5 - 1) then -1 else if M 51 5 = 0 ∨ ¬ M 56 (nn (M 51 5) - 1) = M 1 0 ∨ M 311 (nn a) < 2 ∨ ¬ (stN M a = 2 ∨ stN M a = 3) ∨ badV (M 57 (nn (M 51 5) - 1)) b c = true then -3 else if M 317 (nn a) = 30 then -6 else 0
theorem C_vote {M : Mem} (H : Inv M) (a b c : Int32) {K : Int32 → Mem → Prop} (k1 : isR (cvote M a b c) → K (cvote M a b c) (rfC M (cvote M a b c)))
    (k2 : (cvote M a b c) = 0 → K (votA (M 57 (nn (M 51 5) - 1)) b) (mset (telC M (nn a) (nn (M 317 (nn a))) 3 (2 * nI (nn (M 51 5) - 1) + votA (M 57 (nn (M 51 5) - 1)) b)) 60 (nn (M 51 5) - 1) (M 60 (nn (M 51 5) - 1) + 1))) : f_X11_vote a b c M K := by
  simp only [f_X11_vote, f_X11_vote_b74, f_X11_vote_b143, f_X11_vote_b184, f_X11_vote_b126, v_X11_isMatter H.m0 H.m1, v_X2_hasSession H.N.2.1 H.N.2.2.1, v_bc, i_or_and]
  obtain ⟨sn, hsn, esn⟩ := nat_of (n := 30) H.N.2.1 H.N.2.2.1 (by decide)
  unfold cvote at k1 k2
  unfold isR at k1
  by_cases c1 : 0 ≤ a ∧ a ≤ M 0 5 - 1
  · obtain ⟨i, rfl, hi, hi2⟩ := H.mat c1
    have hm := H.mok hi2
    have hmm := H.mm hi2
    have hs := H.sok
    obtain ⟨n, hn, en, en2, enn⟩ := mok_n hm
    obtain ⟨f1, f2, f3, f4, f5, f6, f7⟩ := mok_f hm
    have hv := mok_v hm
    have ht := mok_t hm
    have hin := inB1 c1
    have d0 := H.D.2.1
    have d1 := H.D.2.2.1
    have e30 : (nI n = 30) ↔ n = 30 := nI_eq_iff (b := 30) (by omega) (by omega)
    have es0 : (nI sn = 0) ↔ sn = 0 := nI_eq_iff (b := 0) (by omega) (by omega)
    unfold stN at k1 k2
    rw [esn, nn_nI sn (by omega), nn_nI i (by omega), enn] at k2
    rw [esn, nn_nI sn (by omega), nn_nI i (by omega)] at k1
    rcases (show sn = 0 ∨ ∃ l, sn = l + 1 by cases sn; exact Or.inl rfl; exact Or.inr ⟨_, rfl⟩) with rfl | ⟨l, rfl⟩
    · rw [nI_cl i (by omega), hin, esn, show inB (nI 0 - 1) 0 (nI 0 - 1) = 0 by decide]; clear k2; grind [x3]
    · have hl : vp_in (nI l) 30 := vin_nI (by omega) (by decide)
      rw [nI_cl i (by omega), hin, esn, nI_pred l, show inB (nI l) 0 (nI l) = 1 from inB1 ⟨nI_pos' (by omega), Int32.le_refl _⟩, nI_cl l (by omega)]
      rw [show l + 1 - 1 = l by omega] at k1 k2
      have g1 := p_state hm hs d0 d1 (M 1 0)
      have g2 := t_X5_isFull ht hn en2
      have g3 : n < 30 → ∀ w a K, K (nI (n + 1)) (telC M i n w a) → f_X5_tell (127 + 4 * i) w a M K := fun q w a K h => t_X5_tell hi q en2 w a h
      have g4 : ∀ w a k, telC M i n w a 60 k = M 60 k := fun w a k => by unfold telC; rw [mset_ne _ _ _ (by omega), mset_ne _ _ _ (by omega), mset_ne _ _ _ (by omega), mset_ne _ _ _ (by omega)]
      unfold bi at g2
      generalize hst : stM M i (M 1 0) (M 1 0) = st at *
      have h2 : ((2 : Int32) ≤ M 311 i) ↔ ¬ M 311 i < 2 := by rw [lt_nle, Classical.not_not]
      have hbad : badV (M 57 l) b c = true ↔ (¬ b &&& (M 57 l ^^^ (-1)) = 0 ∨ ¬ c &&& (M 57 l ^^^ (-1)) = 0 ∨ ¬ b &&& c = 0) := by unfold badV; exact decide_eq_true_iff
      unfold votA at k2
      clear hm hmm hs H
      generalize badV (M 57 l) b c = bd at *
      rw [f3]
      grind (splits := 60) (gen := 20) (ematch := 20) [x1, x3, x6]
  · rw [inB0 c1]; clear k2; grind [x1]
theorem M_vote {M : Mem} (H : Inv M) (a b c : Int32) {M' : Mem} (hE : Eqm M M') {K : Int32 → Mem → Prop} (k1 : isR (cvote M a b c) → K (cvote M a b c) (rfM M' (cvote M a b c)))
    (k2 : (cvote M a b c) = 0 → K (votA (M 57 (nn (M 51 5) - 1)) b) (telM M' (nn a) (nn (M 317 (nn a))) 3 (votA (M 57 (nn (M 51 5) - 1)) b) (nI (nn (M 51 5) - 1)))) : f_X12_vote a b c M' K := by
  simp only [f_X12_vote, f_X12_vote_b70, f_X12_vote_b122, f_X12_vote_b166, v_X12_isMatter, v_X12_in]
  have eV : M' 287 52 = M 51 5 := by rw [hE 287 (by decide), H.N.1]
  have eN : M' 287 0 = M 1 0 := by rw [hE 287 (by decide), H.D.1]
  have eO : M' 287 32 = M 0 5 := by rw [hE 287 (by decide), H.M.1]
  have e326 : M' 326 = M 56 := by rw [hE 326 (by decide)]; exact H.N.2.2.2.1
  have e327 : M' 327 = M 57 := by rw [hE 327 (by decide)]; exact H.N.2.2.2.2.1
  have e311 := hE 311 (by decide)
  have e317 := hE 317 (by decide)
  rw [eV, eN, eO, e326, e311]
  obtain ⟨sn, hsn, esn⟩ := nat_of (n := 30) H.N.2.1 H.N.2.2.1 (by decide)
  unfold cvote at k1 k2
  unfold isR at k1
  by_cases c1 : 0 ≤ a ∧ a ≤ M 0 5 - 1
  · obtain ⟨i, rfl, hi, hi2⟩ := H.mat c1
    have hm := H.mok hi2
    have hmm := H.mm hi2
    have hs := H.sok
    obtain ⟨n, hn, en, en2, enn⟩ := mok_n hm
    obtain ⟨f1, f2, f3, f4, f5, f6, f7⟩ := mok_f hm
    have hv := mok_v hm
    have ht := mok_t hm
    have hin := inB1 c1
    have d0 := H.D.2.1
    have d1 := H.D.2.2.1
    have e30 : (nI n = 30) ↔ n = 30 := nI_eq_iff (b := 30) (by omega) (by omega)
    have es0 : (nI sn = 0) ↔ sn = 0 := nI_eq_iff (b := 0) (by omega) (by omega)
    unfold stN at k1 k2
    rw [esn, nn_nI sn (by omega), nn_nI i (by omega), enn] at k2
    rw [esn, nn_nI sn (by omega), nn_nI i (by omega)] at k1
    rcases (show sn = 0 ∨ ∃ l, sn = l + 1 by cases sn; exact Or.inl rfl; exact Or.inr ⟨_, rfl⟩) with rfl | ⟨l, rfl⟩
    · rw [hin, esn]; clear k2; grind [y3]
    · have hl : vp_in (nI l) 30 := vin_nI (by omega) (by decide)
      obtain ⟨z1, z2, z3, z4, z5⟩ := H.N.2.2.2.2.2.2.2.2 l (by rw [esn, nn_nI _ (by omega)]; omega)
      obtain ⟨pn, hpn, epn⟩ := nat_of (n := 511) z3 (by rw [show nI 511 = (511 : Int32) from rfl]; lia) (by decide)
      rw [esn] at eV
      rw [nI_cl i (by omega), hin, esn, nI_pred l, nI_cl l (by omega)]
      rw [show l + 1 - 1 = l by omega] at k1 k2
      have g1 := q_state hmm hE d0 d1 (M 1 0)
      have g3 : n < 30 → ∀ w b s K, K (telM M' i n w b s) → f_X12_tell (nI i) w b s M' K := fun q w b s K h => q_tell hi q en hE w b s K h
      have hbad : badV (M 57 l) b c = true ↔ (¬ b &&& (M 57 l ^^^ (-1)) = 0 ∨ ¬ c &&& (M 57 l ^^^ (-1)) = 0 ∨ ¬ b &&& c = 0) := by unfold badV; exact decide_eq_true_iff
      have hnb : badV (M 57 l) b c = false → 0 ≤ b ∧ 0 ≤ c ∧ ∀ K, K (bcv b) M' → f_X12_ones b M' K := fun q => by rw [epn] at q; obtain ⟨⟨m, hm, em⟩, m2, hm2, em2⟩ := badV_n (by omega) q; rw [em, em2]; exact ⟨nI_pos' (by omega), nI_pos' (by omega), fun K h => q_ones hm M' K h⟩
      have hpo : ∀ K, K (bcv (M 57 l)) M' → f_X12_ones (M 57 l) M' K := fun K h => by rw [epn] at h ⊢; exact q_ones (by omega) M' K h
      have hst2 : inB (stM M i (M 1 0) (M 1 0)) 2 3 = if stM M i (M 1 0) (M 1 0) = 2 ∨ stM M i (M 1 0) (M 1 0) = 3 then 1 else 0 := by unfold inB; grind
      generalize hst : stM M i (M 1 0) (M 1 0) = st at *
      unfold votA at k2
      have hcl : (nI l).toNatClampNeg = l := nI_cl l (by omega)
      have hci : (nI i).toNatClampNeg = i := nI_cl i (by omega)
      have hpr : nI (l + 1) - 1 = nI l := nI_pred l
      clear hm hmm hs H hE epn z1 z2 z3 z4 z5
      generalize badV (M 57 l) b c = bd at *
      generalize hz1 : b &&& (M 57 l ^^^ (-1)) = z1 at *
      generalize hz2 : c &&& (M 57 l ^^^ (-1)) = z2 at *
      generalize hz3 : b &&& c = z3 at *
      grind (splits := 60) (gen := 20) (ematch := 20) [y1, y3, y6]
  · rw [inB0 c1]; clear k2; grind [y1]
theorem vote_eqm {M : Mem} (H : Inv M) {a b c : Int32} (h : cvote M a b c = 0) (w x : Int32) : Eqm M (telC M (nn a) (nn (M 317 (nn a))) w x) := by
  unfold cvote at h
  by_cases c1 : 0 ≤ a ∧ a ≤ M 0 5 - 1
  · obtain ⟨i, rfl, hi, hi2⟩ := H.mat c1
    rw [nn_nI i (by omega)]
    exact Eqm.telC M hi _ _ _
  · rw [if_pos c1] at h
    exact absurd h (by decide)
theorem vote_inv {M : Mem} (H : Inv M) {a b c : Int32} (h : cvote M a b c = 0) : Inv (telM (mset (telC M (nn a) (nn (M 317 (nn a))) 3 (2 * nI (nn (M 51 5) - 1) + votA (M 57 (nn (M 51 5) - 1)) b)) 60 (nn (M 51 5) - 1) (M 60 (nn (M 51 5) - 1) + 1)) (nn a) (nn (M 317 (nn a))) 3 (votA (M 57 (nn (M 51 5) - 1)) b) (nI (nn (M 51 5) - 1))) := by
  unfold cvote at h
  by_cases c1 : 0 ≤ a ∧ a ≤ M 0 5 - 1
  · obtain ⟨i, rfl, hi, hi2⟩ := H.mat c1
    obtain ⟨n, hn, en, en2, enn⟩ := mok_n (H.mok hi2)
    obtain ⟨sn, hsn, esn⟩ := nat_of (n := 30) H.N.2.1 H.N.2.2.1 (by decide)
    have e30 : (nI n = 30) ↔ n = 30 := nI_eq_iff (b := 30) (by omega) (by omega)
    have es0 : (nI sn = 0) ↔ sn = 0 := nI_eq_iff (b := 0) (by omega) (by omega)
    rw [nn_nI i (by omega), en] at h
    rw [nn_nI i (by omega), enn]
    have hs0 : ¬ sn = 0 := by rw [esn] at h; grind
    have hn30 : ¬ n = 30 := by grind
    rw [esn, nn_nI sn (by omega)]
    refine i_vote H hi2 hi (by omega) en ⟨by decide, by decide, fun q => absurd q (by decide), fun q => absurd q (by decide), fun q => absurd q (by decide), fun q => absurd q (by decide), fun _ => ⟨rfl, votA_bz _ _, nI_pos' (by omega), ?_⟩⟩ rfl (by omega) rfl
    rw [esn]
    exact (nI_lt_iff (by omega) (by omega)).mpr (by omega)
  · rw [if_pos c1] at h
    exact absurd h (by decide)
theorem P_vote {M : Mem} (H : Inv M) (a b c : Int32) : f_X11_vote a b c M (fun r M1 => f_X12_vote a b c M1 (fun r' M2 => r' = r ∧ Inv M2)) :=
  C_vote H a b c (fun hz => M_vote H a b c (Eqm.rfC M _) (fun _ => ⟨rfl, i_rf H _⟩) (fun h0 => absurd h0 (nR0 hz)))
    (fun h0 => M_vote H a b c (Eqm.set (vote_eqm H h0 _ _) _ _ (by decide)) (fun hz => absurd h0 (nR0 hz)) (fun _ => ⟨rfl, vote_inv H h0⟩))
