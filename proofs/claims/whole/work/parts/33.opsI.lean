/-! calls on one matter: what class and model find, and answer -/
theorem dnow {M : Mem} (H : Inv M) : M 287 0 = M 1 0 := H.D.1
theorem inB1 {a l g : Int32} (h : l ≤ a ∧ a ≤ g) : inB a l g = 1 := if_pos h
theorem inB0 {a l g : Int32} (h : ¬ (l ≤ a ∧ a ≤ g)) : inB a l g = 0 := if_neg h
theorem mok_f {M : Mem} {i : Nat} (h : mok M i) : M (127 + 4 * i) 6 = M 313 i ∧ M (127 + 4 * i) 5 = M 312 i ∧ M (127 + 4 * i) 7 = M 311 i ∧ M (127 + 4 * i) 11 = M 317 i ∧ M (127 + 4 * i) 2 = M 308 i ∧ M (127 + 4 * i) 3 = M 309 i ∧ M (127 + 4 * i) 4 = M 310 i := by
  obtain ⟨hi, h1, h2, h3, h4, h5, h6, h7, h8, h9, h10, b1⟩ := h
  exact ⟨h6, h5, h4, h10, h1, h2, h3⟩
theorem Eqm.all2 (M : Mem) : ∀ M', Eqm M M' → M' 287 = M 287 ∧ M' 311 = M 311 ∧ M' 312 = M 312 ∧ M' 313 = M 313 ∧ M' 317 = M 317 ∧ M' 326 = M 326 ∧ M' 327 = M 327 := fun M' h => ⟨h _ (by decide), h _ (by decide), h _ (by decide), h _ (by decide), h _ (by decide), h _ (by decide), h _ (by decide)⟩
theorem nR0 {c : Int32} (h : isR c) : ¬ c = 0 := by unfold isR at h; intro q; subst q; revert h; decide
def cwithdraw (M : Mem) (a : Int32) : Int32 := if ¬ (0 ≤ a ∧ a ≤ M 0 5 - 1) then -1 else if wdrM M (nn a) (M 1 0) = true then -3 else if M 317 (nn a) = 30 then -6 else 0
theorem C_withdraw {M : Mem} (H : Inv M) (a : Int32) {K : Int32 → Mem → Prop} (k1 : isR (cwithdraw M a) → K (cwithdraw M a) (rfC M (cwithdraw M a)))
    (k2 : (cwithdraw M a) = 0 → ∀ i n, a = nI i → i < nn (M 0 5) → i < 40 → n < 30 → M 317 i = nI n → K 1 (telC M i n 2 0)) : f_X11_withdraw a M K := by
  simp only [f_X11_withdraw, v_X11_isMatter H.m0 H.m1]
  unfold cwithdraw at k1 k2
  unfold isR at k1
  by_cases c1 : 0 ≤ a ∧ a ≤ M 0 5 - 1
  · obtain ⟨i, rfl, hi, hi2⟩ := H.mat c1
    have hm := H.mok hi2
    have hmm := H.mm hi2
    have hs := H.sok
    obtain ⟨n, hn, en, en2, enn⟩ := mok_n hm
    obtain ⟨f1, f2, f3, f4, f5, f6, f7⟩ := mok_f hm
    have hv := mok_v hm
    have ht := mok_t hm
    have hin := inB1 c1
    have d0 := H.D.2.1
    have d1 := H.D.2.2.1
    have e30 : (nI n = 30) ↔ n = 30 := nI_eq_iff (b := 30) (by omega) (by omega)
    have k3 := fun q hn => k2 q i n rfl hi2 hi hn en
    have g2 := t_X5_isFull ht hn en2
    have g3 : n < 30 → ∀ w a K, K (nI (n + 1)) (telC M i n w a) → f_X5_tell (127 + 4 * i) w a M K := fun q w a K h => t_X5_tell hi q en2 w a h
    unfold bi at g2
    have g1 := p_isW hm (M 1 0)
    unfold bi at g1
    try rw [nn_nI i (by omega)] at k1 k3
    rw [nI_cl i (by omega), hin]
    generalize wdrM M i (M 1 0) = wb at *
    clear k2
    grind (splits := 30) [x1, x3, x6]
  · have hin := inB0 c1
    rw [hin]
    have hv := fun i (q : i < 40) => vin_nI (n := 40) q (by decide)
    clear k2
    grind [x1]
theorem M_withdraw {M : Mem} (H : Inv M) (a : Int32) {M' : Mem} (hE : Eqm M M') {K : Int32 → Mem → Prop} (k1 : isR (cwithdraw M a) → K (cwithdraw M a) (rfM M' (cwithdraw M a)))
    (k2 : (cwithdraw M a) = 0 → ∀ i n, a = nI i → i < nn (M 0 5) → i < 40 → n < 30 → M 317 i = nI n → K 1 (telM M' i n 2 (-1) 0)) : f_X12_withdraw a M' K := by
  have eN := dnow H
  have eO : M 287 32 = M 0 5 := H.M.1
  have Ea := Eqm.all2 M M' hE
  simp only [f_X12_withdraw, v_X12_isMatter]
  rw [Ea.1, eO, eN]
  unfold cwithdraw at k1 k2
  unfold isR at k1
  by_cases c1 : 0 ≤ a ∧ a ≤ M 0 5 - 1
  · obtain ⟨i, rfl, hi, hi2⟩ := H.mat c1
    have hm := H.mok hi2
    have hmm := H.mm hi2
    have hs := H.sok
    obtain ⟨n, hn, en, en2, enn⟩ := mok_n hm
    obtain ⟨f1, f2, f3, f4, f5, f6, f7⟩ := mok_f hm
    have hv := mok_v hm
    have ht := mok_t hm
    have hin := inB1 c1
    have d0 := H.D.2.1
    have d1 := H.D.2.2.1
    have e30 : (nI n = 30) ↔ n = 30 := nI_eq_iff (b := 30) (by omega) (by omega)
    have k3 := fun q hn => k2 q i n rfl hi2 hi hn en
    have g3 : n < 30 → ∀ w b s K, K (telM M' i n w b s) → f_X12_tell (nI i) w b s M' K := fun q w b s K h => q_tell hi q en hE w b s K h
    have g4 : n < 30 → ∀ w b s, telM M' i n w b s 317 i = nI (n + 1) := fun _ w b s => by unfold telM; rw [mset_eq]
    have g1 := q_isW hmm hE (M 1 0)
    unfold bi at g1
    try rw [nn_nI i (by omega)] at k1 k3
    rw [nI_cl i (by omega), hin]
    generalize wdrM M i (M 1 0) = wb at *
    clear k2
    grind (splits := 30) [y1, y3, y6]
  · have hin := inB0 c1
    rw [hin]
    have hv := fun i (q : i < 40) => vin_nI (n := 40) q (by decide)
    clear k2
    grind [y1]
theorem P_withdraw {M : Mem} (H : Inv M) (a : Int32) : f_X11_withdraw a M (fun r M1 => f_X12_withdraw a M1 (fun r' M2 => r' = r ∧ Inv M2)) :=
  C_withdraw H a (fun hz => M_withdraw H a (Eqm.rfC M _) (fun _ => ⟨rfl, i_rf H _⟩) (fun h0 => absurd h0 (nR0 hz)))
    (fun h0 i n ea hi2 hi hn en => M_withdraw H a (Eqm.telC M hi n _ _) (fun hz => absurd h0 (nR0 hz)) (fun _ i' n' ea' hi2' hi' hn' en' => by
      have e1 : i' = i := by rw [ea] at ea'; exact ((nI_eq_iff (by omega) (by omega)).mp ea').symm
      subst e1
      have e2 : n' = n := by rw [en] at en'; exact ((nI_eq_iff (by omega) (by omega)).mp en').symm
      subst e2
      exact ⟨rfl, i_tell H hi2 hi hn en ⟨by decide, by decide, by decide, fun _ => rfl, fun q => absurd q (by decide), fun q => absurd q (by decide), fun q => absurd q (by decide)⟩ (by decide)⟩))
def ccourt (M : Mem) (a : Int32) : Int32 := if ¬ (0 ≤ a ∧ a ≤ M 0 5 - 1) then -1 else if rulM M (nn a) (M 1 0) (M 1 0) < 0 then -3 else if M 317 (nn a) = 30 then -6 else 0
theorem C_court {M : Mem} (H : Inv M) (a : Int32) {K : Int32 → Mem → Prop} (k1 : isR (ccourt M a) → K (ccourt M a) (rfC M (ccourt M a)))
    (k2 : (ccourt M a) = 0 → ∀ i n, a = nI i → i < nn (M 0 5) → i < 40 → n < 30 → M 317 i = nI n → K 1 (telC M i n 5 0)) : f_X11_court a M K := by
  simp only [f_X11_court, v_X11_isMatter H.m0 H.m1]
  unfold ccourt at k1 k2
  unfold isR at k1
  by_cases c1 : 0 ≤ a ∧ a ≤ M 0 5 - 1
  · obtain ⟨i, rfl, hi, hi2⟩ := H.mat c1
    have hm := H.mok hi2
    have hmm := H.mm hi2
    have hs := H.sok
    obtain ⟨n, hn, en, en2, enn⟩ := mok_n hm
    obtain ⟨f1, f2, f3, f4, f5, f6, f7⟩ := mok_f hm
    have hv := mok_v hm
    have ht := mok_t hm
    have hin := inB1 c1
    have d0 := H.D.2.1
    have d1 := H.D.2.2.1
    have e30 : (nI n = 30) ↔ n = 30 := nI_eq_iff (b := 30) (by omega) (by omega)
    have k3 := fun q hn => k2 q i n rfl hi2 hi hn en
    have g2 := t_X5_isFull ht hn en2
    have g3 : n < 30 → ∀ w a K, K (nI (n + 1)) (telC M i n w a) → f_X5_tell (127 + 4 * i) w a M K := fun q w a K h => t_X5_tell hi q en2 w a h
    unfold bi at g2
    have g1 := p_ruling hm (M 1 0) (M 1 0)
    try rw [nn_nI i (by omega)] at k1 k3
    rw [nI_cl i (by omega), hin]
    generalize rulM M i (M 1 0) (M 1 0) = rl at *
    clear k2
    grind (splits := 30) [x1, x3, x6]
  · have hin := inB0 c1
    rw [hin]
    have hv := fun i (q : i < 40) => vin_nI (n := 40) q (by decide)
    clear k2
    grind [x1]
theorem M_court {M : Mem} (H : Inv M) (a : Int32) {M' : Mem} (hE : Eqm M M') {K : Int32 → Mem → Prop} (k1 : isR (ccourt M a) → K (ccourt M a) (rfM M' (ccourt M a)))
    (k2 : (ccourt M a) = 0 → ∀ i n, a = nI i → i < nn (M 0 5) → i < 40 → n < 30 → M 317 i = nI n → K 1 (telM M' i n 5 (-1) 0)) : f_X12_court a M' K := by
  have eN := dnow H
  have eO : M 287 32 = M 0 5 := H.M.1
  have Ea := Eqm.all2 M M' hE
  simp only [f_X12_court, v_X12_isMatter]
  rw [Ea.1, eO, eN]
  unfold ccourt at k1 k2
  unfold isR at k1
  by_cases c1 : 0 ≤ a ∧ a ≤ M 0 5 - 1
  · obtain ⟨i, rfl, hi, hi2⟩ := H.mat c1
    have hm := H.mok hi2
    have hmm := H.mm hi2
    have hs := H.sok
    obtain ⟨n, hn, en, en2, enn⟩ := mok_n hm
    obtain ⟨f1, f2, f3, f4, f5, f6, f7⟩ := mok_f hm
    have hv := mok_v hm
    have ht := mok_t hm
    have hin := inB1 c1
    have d0 := H.D.2.1
    have d1 := H.D.2.2.1
    have e30 : (nI n = 30) ↔ n = 30 := nI_eq_iff (b := 30) (by omega) (by omega)
    have k3 := fun q hn => k2 q i n rfl hi2 hi hn en
    have g3 : n < 30 → ∀ w b s K, K (telM M' i n w b s) → f_X12_tell (nI i) w b s M' K := fun q w b s K h => q_tell hi q en hE w b s K h
    have g4 : n < 30 → ∀ w b s, telM M' i n w b s 317 i = nI (n + 1) := fun _ w b s => by unfold telM; rw [mset_eq]
    have g1 := q_ruling hmm hE (M 1 0) (M 1 0)
    try rw [nn_nI i (by omega)] at k1 k3
    rw [nI_cl i (by omega), hin]
    generalize rulM M i (M 1 0) (M 1 0) = rl at *
    clear k2
    grind (splits := 30) [y1, y3, y6]
  · have hin := inB0 c1
    rw [hin]
    have hv := fun i (q : i < 40) => vin_nI (n := 40) q (by decide)
    clear k2
    grind [y1]
theorem P_court {M : Mem} (H : Inv M) (a : Int32) : f_X11_court a M (fun r M1 => f_X12_court a M1 (fun r' M2 => r' = r ∧ Inv M2)) :=
  C_court H a (fun hz => M_court H a (Eqm.rfC M _) (fun _ => ⟨rfl, i_rf H _⟩) (fun h0 => absurd h0 (nR0 hz)))
    (fun h0 i n ea hi2 hi hn en => M_court H a (Eqm.telC M hi n _ _) (fun hz => absurd h0 (nR0 hz)) (fun _ i' n' ea' hi2' hi' hn' en' => by
      have e1 : i' = i := by rw [ea] at ea'; exact ((nI_eq_iff (by omega) (by omega)).mp ea').symm
      subst e1
      have e2 : n' = n := by rw [en] at en'; exact ((nI_eq_iff (by omega) (by omega)).mp en').symm
      subst e2
      exact ⟨rfl, i_tell H hi2 hi hn en ⟨by decide, by decide, by decide, fun q => absurd q (by decide), fun _ => rfl, fun q => absurd q (by decide), fun q => absurd q (by decide)⟩ (by decide)⟩))
def cpaper (M : Mem) (a b c : Int32) : Int32 := if ¬ (0 ≤ a ∧ a ≤ M 0 5 - 1) ∨ ¬ (0 ≤ b ∧ b ≤ 7) then -1 else if wdrM M (nn a) (M 1 0) = true ∨ (c = 0 ∧ givM M (nn a) b (M 1 0) (M 1 0) < 0) then -3 else if M 317 (nn a) = 30 then -6 else 0
theorem C_paper {M : Mem} (H : Inv M) (a b c : Int32) (hc : bz c) {K : Int32 → Mem → Prop} (k1 : isR (cpaper M a b c) → K (cpaper M a b c) (rfC M (cpaper M a b c)))
    (k2 : (cpaper M a b c) = 0 → ∀ i n, a = nI i → i < nn (M 0 5) → i < 40 → n < 30 → M 317 i = nI n → K (nI (n + 1)) (telC M i n (if c = 0 then 1 else 0) b)) : f_X11_paper a b c M K := by
  simp only [f_X11_paper, f_X11_paper_b18, f_X11_paper_b116, f_X11_paper_b90, v_X11_isMatter H.m0 H.m1]
  unfold cpaper at k1 k2
  unfold isR at k1
  by_cases c1 : 0 ≤ a ∧ a ≤ M 0 5 - 1
  · obtain ⟨i, rfl, hi, hi2⟩ := H.mat c1
    have hm := H.mok hi2
    have hmm := H.mm hi2
    have hs := H.sok
    obtain ⟨n, hn, en, en2, enn⟩ := mok_n hm
    obtain ⟨f1, f2, f3, f4, f5, f6, f7⟩ := mok_f hm
    have hv := mok_v hm
    have ht := mok_t hm
    have hin := inB1 c1
    have d0 := H.D.2.1
    have d1 := H.D.2.2.1
    have e30 : (nI n = 30) ↔ n = 30 := nI_eq_iff (b := 30) (by omega) (by omega)
    have k3 := fun q hn => k2 q i n rfl hi2 hi hn en
    have g2 := t_X5_isFull ht hn en2
    have g3 : n < 30 → ∀ w a K, K (nI (n + 1)) (telC M i n w a) → f_X5_tell (127 + 4 * i) w a M K := fun q w a K h => t_X5_tell hi q en2 w a h
    unfold bi at g2
    have g1 := p_isW hm (M 1 0)
    unfold bi at g1
    have g5 := p_paper hm b (M 1 0) (M 1 0)
    try rw [nn_nI i (by omega)] at k1 k3
    rw [nI_cl i (by omega), hin]
    generalize wdrM M i (M 1 0) = wb at *
    generalize givM M i b (M 1 0) (M 1 0) = gv at *
    clear k2
    grind (splits := 30) [x1, x3, x6]
  · have hin := inB0 c1
    rw [hin]
    have hv := fun i (q : i < 40) => vin_nI (n := 40) q (by decide)
    clear k2
    grind [x1]
theorem M_paper {M : Mem} (H : Inv M) (a b c : Int32) (hc : bz c) {M' : Mem} (hE : Eqm M M') {K : Int32 → Mem → Prop} (k1 : isR (cpaper M a b c) → K (cpaper M a b c) (rfM M' (cpaper M a b c)))
    (k2 : (cpaper M a b c) = 0 → ∀ i n, a = nI i → i < nn (M 0 5) → i < 40 → n < 30 → M 317 i = nI n → K (nI (n + 1)) (telM M' i n (if c = 0 then 1 else 0) b 0)) : f_X12_paper a b c M' K := by
  have eN := dnow H
  have eO : M 287 32 = M 0 5 := H.M.1
  have Ea := Eqm.all2 M M' hE
  simp only [f_X12_paper, f_X12_paper_b18, f_X12_paper_b57, f_X12_paper_b93, f_X12_paper_b64, v_X12_isMatter, v_X12_in]
  rw [Ea.1, eO, eN]
  unfold cpaper at k1 k2
  unfold isR at k1
  by_cases c1 : 0 ≤ a ∧ a ≤ M 0 5 - 1
  · obtain ⟨i, rfl, hi, hi2⟩ := H.mat c1
    have hm := H.mok hi2
    have hmm := H.mm hi2
    have hs := H.sok
    obtain ⟨n, hn, en, en2, enn⟩ := mok_n hm
    obtain ⟨f1, f2, f3, f4, f5, f6, f7⟩ := mok_f hm
    have hv := mok_v hm
    have ht := mok_t hm
    have hin := inB1 c1
    have d0 := H.D.2.1
    have d1 := H.D.2.2.1
    have e30 : (nI n = 30) ↔ n = 30 := nI_eq_iff (b := 30) (by omega) (by omega)
    have k3 := fun q hn => k2 q i n rfl hi2 hi hn en
    have g3 : n < 30 → ∀ w b s K, K (telM M' i n w b s) → f_X12_tell (nI i) w b s M' K := fun q w b s K h => q_tell hi q en hE w b s K h
    have g4 : n < 30 → ∀ w b s, telM M' i n w b s 317 i = nI (n + 1) := fun _ w b s => by unfold telM; rw [mset_eq]
    have g1 := q_isW hmm hE (M 1 0)
    unfold bi at g1
    have g5 := q_given hmm hE b (M 1 0) (M 1 0)
    have g6 : inB b 0 7 = if 0 ≤ b ∧ b ≤ 7 then 1 else 0 := rfl
    try rw [nn_nI i (by omega)] at k1 k3
    rw [nI_cl i (by omega), hin]
    generalize wdrM M i (M 1 0) = wb at *
    generalize givM M i b (M 1 0) (M 1 0) = gv at *
    clear k2
    grind (splits := 30) [y1, y3, y6]
  · have hin := inB0 c1
    rw [hin]
    have hv := fun i (q : i < 40) => vin_nI (n := 40) q (by decide)
    clear k2
    grind [y1]
theorem okT_paper {M : Mem} {a b c : Int32} (h : cpaper M a b c = 0) (hc : bz c) : okT M (if c = 0 then 1 else 0) b b 0 := by
  unfold cpaper at h
  have hb : 0 ≤ b ∧ b ≤ 7 := by grind
  rcases hc with rfl | rfl
  · exact ⟨by decide, by decide, fun _ => ⟨rfl, hb⟩, fun q => absurd q (by decide), fun q => absurd q (by decide), fun q => absurd q (by decide), fun q => absurd q (by decide)⟩
  · exact ⟨by decide, by decide, fun _ => ⟨rfl, hb⟩, fun q => absurd q (by decide), fun q => absurd q (by decide), fun q => absurd q (by decide), fun q => absurd q (by decide)⟩
theorem P_paper {M : Mem} (H : Inv M) (a b c : Int32) (hc : bz c) : f_X11_paper a b c M (fun r M1 => f_X12_paper a b c M1 (fun r' M2 => r' = r ∧ Inv M2)) :=
  C_paper H a b c hc (fun hz => M_paper H a b c hc (Eqm.rfC M _) (fun _ => ⟨rfl, i_rf H _⟩) (fun h0 => absurd h0 (nR0 hz)))
    (fun h0 i n ea hi2 hi hn en => M_paper H a b c hc (Eqm.telC M hi n _ _) (fun hz => absurd h0 (nR0 hz)) (fun _ i' n' ea' hi2' hi' hn' en' => by
      have e1 : i' = i := by rw [ea] at ea'; exact ((nI_eq_iff (by omega) (by omega)).mp ea').symm
      subst e1
      have e2 : n' = n := by rw [en] at en'; exact ((nI_eq_iff (by omega) (by omega)).mp en').symm
      subst e2
      exact ⟨rfl, i_tell H hi2 hi hn en (okT_paper h0 hc) (by rcases hc with rfl | rfl <;> decide)⟩))
def cboard (M : Mem) (a b c d : Int32) : Int32 := if ¬ (0 ≤ a ∧ a ≤ M 0 5 - 1) then -1 else if M 311 (nn a) < 3 ∨ ¬ (stM M (nn a) (M 1 0) (M 1 0) = 5 ∨ stM M (nn a) (M 1 0) (M 1 0) = 7) then -3 else if ¬ 0 ≤ b ∨ ¬ 0 ≤ c then -4 else if ¬ b ≤ 2 ∨ ¬ c ≤ 2 ∨ M 317 (nn a) = 30 then -6 else 0
theorem C_board {M : Mem} (H : Inv M) (a b c d : Int32) (hd : bz d) {K : Int32 → Mem → Prop} (k1 : isR (cboard M a b c d) → K (cboard M a b c d) (rfC M (cboard M a b c d)))
    (k2 : (cboard M a b c d) = 0 → ∀ i n, a = nI i → i < nn (M 0 5) → i < 40 → n < 30 → M 317 i = nI n → K (if b + c + (if d = 0 then 0 else 1) < 3 then 0 else 1) (telC M i n 4 (if b + c + (if d = 0 then 0 else 1) < 3 then 0 else 1))) : f_X11_board a b c d M K := by
  simp only [f_X11_board, f_X11_board_b65, f_X11_board_b141, f_X11_board_b131, f_X11_board_b72, v_X11_isMatter H.m0 H.m1, v_X11_outside, v_X11_worse, v_X11_fullAt]
  unfold cboard at k1 k2
  unfold isR at k1
  by_cases c1 : 0 ≤ a ∧ a ≤ M 0 5 - 1
  · obtain ⟨i, rfl, hi, hi2⟩ := H.mat c1
    have hm := H.mok hi2
    have hmm := H.mm hi2
    have hs := H.sok
    obtain ⟨n, hn, en, en2, enn⟩ := mok_n hm
    obtain ⟨f1, f2, f3, f4, f5, f6, f7⟩ := mok_f hm
    have hv := mok_v hm
    have ht := mok_t hm
    have hin := inB1 c1
    have d0 := H.D.2.1
    have d1 := H.D.2.2.1
    have e30 : (nI n = 30) ↔ n = 30 := nI_eq_iff (b := 30) (by omega) (by omega)
    have k3 := fun q hn => k2 q i n rfl hi2 hi hn en
    have g2 := t_X5_isFull ht hn en2
    have g3 : n < 30 → ∀ w a K, K (nI (n + 1)) (telC M i n w a) → f_X5_tell (127 + 4 * i) w a M K := fun q w a K h => t_X5_tell hi q en2 w a h
    unfold bi at g2
    have g1 := p_state hm hs d0 d1 (M 1 0)
    have l30 : ((30 : Int32) ≤ nI n) ↔ 30 ≤ n := nI_le_iff (a := 30) (by omega) (by omega)
    try rw [nn_nI i (by omega)] at k1 k3
    rw [nI_cl i (by omega), hin]
    generalize stM M i (M 1 0) (M 1 0) = st at *
    clear k2
    grind (splits := 30) [x1, x3, x4, x6, outs, wors, ful]
  · have hin := inB0 c1
    rw [hin]
    have hv := fun i (q : i < 40) => vin_nI (n := 40) q (by decide)
    clear k2
    grind [x1]
theorem M_board {M : Mem} (H : Inv M) (a b c d : Int32) (hd : bz d) {M' : Mem} (hE : Eqm M M') {K : Int32 → Mem → Prop} (k1 : isR (cboard M a b c d) → K (cboard M a b c d) (rfM M' (cboard M a b c d)))
    (k2 : (cboard M a b c d) = 0 → ∀ i n, a = nI i → i < nn (M 0 5) → i < 40 → n < 30 → M 317 i = nI n → K (if b + c + (if d = 0 then 0 else 1) < 3 then 0 else 1) (telM M' i n 4 (if b + c + (if d = 0 then 0 else 1) < 3 then 0 else 1) 0)) : f_X12_board a b c d M' K := by
  have eN := dnow H
  have eO : M 287 32 = M 0 5 := H.M.1
  have Ea := Eqm.all2 M M' hE
  simp only [f_X12_board, f_X12_board_b52, f_X12_board_b67, f_X12_board_b95, f_X12_board_b125, f_X12_board_b115, f_X12_board_b59, v_X12_isMatter]
  rw [Ea.1, eO, eN]
  unfold cboard at k1 k2
  unfold isR at k1
  by_cases c1 : 0 ≤ a ∧ a ≤ M 0 5 - 1
  · obtain ⟨i, rfl, hi, hi2⟩ := H.mat c1
    have hm := H.mok hi2
    have hmm := H.mm hi2
    have hs := H.sok
    obtain ⟨n, hn, en, en2, enn⟩ := mok_n hm
    obtain ⟨f1, f2, f3, f4, f5, f6, f7⟩ := mok_f hm
    have hv := mok_v hm
    have ht := mok_t hm
    have hin := inB1 c1
    have d0 := H.D.2.1
    have d1 := H.D.2.2.1
    have e30 : (nI n = 30) ↔ n = 30 := nI_eq_iff (b := 30) (by omega) (by omega)
    have k3 := fun q hn => k2 q i n rfl hi2 hi hn en
    have g3 : n < 30 → ∀ w b s K, K (telM M' i n w b s) → f_X12_tell (nI i) w b s M' K := fun q w b s K h => q_tell hi q en hE w b s K h
    have g4 : n < 30 → ∀ w b s, telM M' i n w b s 317 i = nI (n + 1) := fun _ w b s => by unfold telM; rw [mset_eq]
    have g1 := q_state hmm hE d0 d1 (M 1 0)
    try rw [nn_nI i (by omega)] at k1 k3
    rw [nI_cl i (by omega), hin]
    generalize stM M i (M 1 0) (M 1 0) = st at *
    clear k2
    grind (splits := 30) [y1, y3, y4, y6]
  · have hin := inB0 c1
    rw [hin]
    have hv := fun i (q : i < 40) => vin_nI (n := 40) q (by decide)
    clear k2
    grind [y1]
theorem P_board {M : Mem} (H : Inv M) (a b c d : Int32) (hd : bz d) : f_X11_board a b c d M (fun r M1 => f_X12_board a b c d M1 (fun r' M2 => r' = r ∧ Inv M2)) :=
  C_board H a b c d hd (fun hz => M_board H a b c d hd (Eqm.rfC M _) (fun _ => ⟨rfl, i_rf H _⟩) (fun h0 => absurd h0 (nR0 hz)))
    (fun h0 i n ea hi2 hi hn en => M_board H a b c d hd (Eqm.telC M hi n _ _) (fun hz => absurd h0 (nR0 hz)) (fun _ i' n' ea' hi2' hi' hn' en' => by
      have e1 : i' = i := by rw [ea] at ea'; exact ((nI_eq_iff (by omega) (by omega)).mp ea').symm
      subst e1
      have e2 : n' = n := by rw [en] at en'; exact ((nI_eq_iff (by omega) (by omega)).mp en').symm
      subst e2
      exact ⟨rfl, i_tell H hi2 hi hn en ⟨by decide, by decide, fun q => absurd q (by decide), fun q => absurd q (by decide), fun q => absurd q (by decide), fun _ => ⟨rfl, bz_fi _⟩, fun q => absurd q (by decide)⟩ (by decide)⟩))
def cstate (M : Mem) (a b c : Int32) : Int32 := if ¬ (0 ≤ a ∧ a ≤ M 0 5 - 1) then -1 else if ¬ 0 ≤ b ∨ ¬ 0 ≤ c then -4 else if b < M 313 (nn a) ∨ c < b ∨ M 1 0 < c then -3 else 0
theorem C_state {M : Mem} (H : Inv M) (a b c : Int32) {K : Int32 → Mem → Prop} (k1 : isR (cstate M a b c) → K (cstate M a b c) (rfC M (cstate M a b c)))
    (k2 : (cstate M a b c) = 0 → ∀ i, a = nI i → i < nn (M 0 5) → i < 40 → K (stM M i b c) M) : f_X11_state a b c M K := by
  simp only [f_X11_state, f_X11_state_b22, f_X11_state_b58, v_X11_isMatter H.m0 H.m1]
  unfold cstate at k1 k2
  unfold isR at k1
  by_cases c1 : 0 ≤ a ∧ a ≤ M 0 5 - 1
  · obtain ⟨i, rfl, hi, hi2⟩ := H.mat c1
    have hm := H.mok hi2
    have hmm := H.mm hi2
    have hs := H.sok
    obtain ⟨n, hn, en, en2, enn⟩ := mok_n hm
    obtain ⟨f1, f2, f3, f4, f5, f6, f7⟩ := mok_f hm
    have hv := mok_v hm
    have ht := mok_t hm
    have hin := inB1 c1
    have d0 := H.D.2.1
    have d1 := H.D.2.2.1
    have e30 : (nI n = 30) ↔ n = 30 := nI_eq_iff (b := 30) (by omega) (by omega)
    have k3 := fun q => k2 q i rfl hi2 hi
    have g1 : 0 ≤ b → b ≤ 1000 → ∀ K, K (stM M i b c) M → f_X5_stateOn (127 + 4 * i) b c M K := fun h0 h1 K h => p_state hm hs h0 h1 c K h
    try rw [nn_nI i (by omega)] at k1 k3
    rw [nI_cl i (by omega), hin]
    generalize stM M i b c = st at *
    clear k2
    grind (splits := 30) [x1, x3, x4, x6]
  · have hin := inB0 c1
    rw [hin]
    have hv := fun i (q : i < 40) => vin_nI (n := 40) q (by decide)
    clear k2
    grind [x1]
theorem M_state {M : Mem} (H : Inv M) (a b c : Int32) {M' : Mem} (hE : Eqm M M') {K : Int32 → Mem → Prop} (k1 : isR (cstate M a b c) → K (cstate M a b c) (rfM M' (cstate M a b c)))
    (k2 : (cstate M a b c) = 0 → ∀ i, a = nI i → i < nn (M 0 5) → i < 40 → K (stM M i b c) M') : f_X12_state a b c M' K := by
  have eN := dnow H
  have eO : M 287 32 = M 0 5 := H.M.1
  have Ea := Eqm.all2 M M' hE
  simp only [f_X12_state, f_X12_state_b22, f_X12_state_b52, v_X12_isMatter]
  rw [Ea.1, eO, eN]
  unfold cstate at k1 k2
  unfold isR at k1
  by_cases c1 : 0 ≤ a ∧ a ≤ M 0 5 - 1
  · obtain ⟨i, rfl, hi, hi2⟩ := H.mat c1
    have hm := H.mok hi2
    have hmm := H.mm hi2
    have hs := H.sok
    obtain ⟨n, hn, en, en2, enn⟩ := mok_n hm
    obtain ⟨f1, f2, f3, f4, f5, f6, f7⟩ := mok_f hm
    have hv := mok_v hm
    have ht := mok_t hm
    have hin := inB1 c1
    have d0 := H.D.2.1
    have d1 := H.D.2.2.1
    have e30 : (nI n = 30) ↔ n = 30 := nI_eq_iff (b := 30) (by omega) (by omega)
    have k3 := fun q => k2 q i rfl hi2 hi
    have g1 : 0 ≤ b → b ≤ 1000 → ∀ K, K (stM M i b c) M' → f_X12_stateOf (nI i) b c M' K := fun h0 h1 K h => q_state hmm hE h0 h1 c K h
    try rw [nn_nI i (by omega)] at k1 k3
    rw [nI_cl i (by omega), hin]
    generalize stM M i b c = st at *
    clear k2
    grind (splits := 30) [y1, y3, y4, y6]
  · have hin := inB0 c1
    rw [hin]
    have hv := fun i (q : i < 40) => vin_nI (n := 40) q (by decide)
    clear k2
    grind [y1]
theorem P_state {M : Mem} (H : Inv M) (a b c : Int32) : f_X11_state a b c M (fun r M1 => f_X12_state a b c M1 (fun r' M2 => r' = r ∧ Inv M2)) :=
  C_state H a b c (fun hz => M_state H a b c (Eqm.rfC M _) (fun _ => ⟨rfl, i_rf H _⟩) (fun h0 => absurd h0 (nR0 hz)))
    (fun h0 i ea hi2 hi => M_state H a b c (Eqm.refl M) (fun hz => absurd h0 (nR0 hz)) (fun _ i' ea' hi2' hi' => by
      have e1 : i' = i := by rw [ea] at ea'; exact ((nI_eq_iff (by omega) (by omega)).mp ea').symm
      subst e1
      exact ⟨rfl, H⟩))
def cmatterOf (M : Mem) (a b : Int32) : Int32 := if ¬ (0 ≤ a ∧ a ≤ M 0 5 - 1) then -1 else if ¬ (0 ≤ b ∧ b ≤ 5) then -2 else 0
theorem C_matterOf {M : Mem} (H : Inv M) (a b : Int32) {K : Int32 → Mem → Prop} (k1 : isR (cmatterOf M a b) → K (cmatterOf M a b) (rfC M (cmatterOf M a b)))
    (k2 : (cmatterOf M a b) = 0 → ∀ i, a = nI i → i < nn (M 0 5) → i < 40 → K (if b = 0 then M 311 i else if b = 1 then M 313 i else if b = 2 then (if whM M i (M 1 0) (M 1 0) < 0 then -9 else whM M i (M 1 0) (M 1 0)) else if b = 3 then bi (letb (M 311 i) (stM M i (M 1 0) (M 1 0))) else if b = 4 then M 317 i else M 312 i) M) : f_X11_matterOf a b M K := by
  simp only [f_X11_matterOf, f_X11_matterOf_b108, v_X11_isMatter H.m0 H.m1]
  unfold cmatterOf at k1 k2
  unfold isR at k1
  by_cases c1 : 0 ≤ a ∧ a ≤ M 0 5 - 1
  · obtain ⟨i, rfl, hi, hi2⟩ := H.mat c1
    have hm := H.mok hi2
    have hmm := H.mm hi2
    have hs := H.sok
    obtain ⟨n, hn, en, en2, enn⟩ := mok_n hm
    obtain ⟨f1, f2, f3, f4, f5, f6, f7⟩ := mok_f hm
    have hv := mok_v hm
    have ht := mok_t hm
    have hin := inB1 c1
    have d0 := H.D.2.1
    have d1 := H.D.2.2.1
    have e30 : (nI n = 30) ↔ n = 30 := nI_eq_iff (b := 30) (by omega) (by omega)
    have k3 := fun q => k2 q i rfl hi2 hi
    have g1 := p_whole hm (M 1 0) (M 1 0)
    have g2 := p_letsOn hm hs d0 d1
    unfold bi at g2 k3
    have g6 : (b.toInt < 0 ∨ 5 < b.toInt) ↔ ¬ (0 ≤ b ∧ b ≤ 5) := ⟨fun q z => by rw [i_le, i_le] at z; have e0 : (0 : Int32).toInt = 0 := rfl; have e1 : (5 : Int32).toInt = 5 := rfl; omega, ix6⟩
    have g7 : (0 ≤ b ∧ b ≤ 5) → b = 0 ∨ b = 1 ∨ b = 2 ∨ b = 3 ∨ b = 4 ∨ b = 5 := i6
    try rw [nn_nI i (by omega)] at k1 k3
    rw [nI_cl i (by omega), hin]
    generalize whM M i (M 1 0) (M 1 0) = wx at *
    generalize letb (M 311 i) (stM M i (M 1 0) (M 1 0)) = lb at *
    clear k2
    grind (splits := 30) [x1, x2]
  · have hin := inB0 c1
    rw [hin]
    have hv := fun i (q : i < 40) => vin_nI (n := 40) q (by decide)
    clear k2
    grind [x1]
theorem M_matterOf {M : Mem} (H : Inv M) (a b : Int32) {M' : Mem} (hE : Eqm M M') {K : Int32 → Mem → Prop} (k1 : isR (cmatterOf M a b) → K (cmatterOf M a b) (rfM M' (cmatterOf M a b)))
    (k2 : (cmatterOf M a b) = 0 → ∀ i, a = nI i → i < nn (M 0 5) → i < 40 → K (if b = 0 then M 311 i else if b = 1 then M 313 i else if b = 2 then (if whM M i (M 1 0) (M 1 0) < 0 then -9 else whM M i (M 1 0) (M 1 0)) else if b = 3 then bi (letb (M 311 i) (stM M i (M 1 0) (M 1 0))) else if b = 4 then M 317 i else M 312 i) M') : f_X12_matterOf a b M' K := by
  have eN := dnow H
  have eO : M 287 32 = M 0 5 := H.M.1
  have Ea := Eqm.all2 M M' hE
  simp only [f_X12_matterOf, f_X12_matterOf_b102, f_X12_matterOf_b120, v_X12_isMatter, v_X12_in]
  rw [Ea.1, eO, eN]
  unfold cmatterOf at k1 k2
  unfold isR at k1
  by_cases c1 : 0 ≤ a ∧ a ≤ M 0 5 - 1
  · obtain ⟨i, rfl, hi, hi2⟩ := H.mat c1
    have hm := H.mok hi2
    have hmm := H.mm hi2
    have hs := H.sok
    obtain ⟨n, hn, en, en2, enn⟩ := mok_n hm
    obtain ⟨f1, f2, f3, f4, f5, f6, f7⟩ := mok_f hm
    have hv := mok_v hm
    have ht := mok_t hm
    have hin := inB1 c1
    have d0 := H.D.2.1
    have d1 := H.D.2.2.1
    have e30 : (nI n = 30) ↔ n = 30 := nI_eq_iff (b := 30) (by omega) (by omega)
    have k3 := fun q => k2 q i rfl hi2 hi
    have g1 := q_whole hmm hE (M 1 0) (M 1 0)
    have g2 := q_lets hmm hE d0 d1
    unfold bi at g2 k3
    have g6 : (b.toInt < 0 ∨ 4 < b.toInt) ↔ ¬ (0 ≤ b ∧ b ≤ 4) := ⟨fun q z => by rw [i_le, i_le] at z; have e0 : (0 : Int32).toInt = 0 := rfl; have e1 : (4 : Int32).toInt = 4 := rfl; omega, ix5⟩
    have g7 : (0 ≤ b ∧ b ≤ 5) → b = 0 ∨ b = 1 ∨ b = 2 ∨ b = 3 ∨ b = 4 ∨ b = 5 := i6
    have g8 : inB b 0 5 = if 0 ≤ b ∧ b ≤ 5 then 1 else 0 := rfl
    rw [eN] at g2
    try rw [nn_nI i (by omega)] at k1 k3
    rw [nI_cl i (by omega), hin]
    generalize whM M i (M 1 0) (M 1 0) = wx at *
    generalize letb (M 311 i) (stM M i (M 1 0) (M 1 0)) = lb at *
    clear k2
    grind (splits := 30) [y1, y2]
  · have hin := inB0 c1
    rw [hin]
    have hv := fun i (q : i < 40) => vin_nI (n := 40) q (by decide)
    clear k2
    grind [y1]
theorem P_matterOf {M : Mem} (H : Inv M) (a b : Int32) : f_X11_matterOf a b M (fun r M1 => f_X12_matterOf a b M1 (fun r' M2 => r' = r ∧ Inv M2)) :=
  C_matterOf H a b (fun hz => M_matterOf H a b (Eqm.rfC M _) (fun _ => ⟨rfl, i_rf H _⟩) (fun h0 => absurd h0 (nR0 hz)))
    (fun h0 i ea hi2 hi => M_matterOf H a b (Eqm.refl M) (fun hz => absurd h0 (nR0 hz)) (fun _ i' ea' hi2' hi' => by
      have e1 : i' = i := by rw [ea] at ea'; exact ((nI_eq_iff (by omega) (by omega)).mp ea').symm
      subst e1
      exact ⟨rfl, H⟩))
