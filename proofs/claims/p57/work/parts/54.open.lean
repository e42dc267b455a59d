/-! open: the facts, what bears, who gives, the kind -/
def Tx (M M1 : Mem) : Prop := ∀ c, c ≠ 45 → c ≠ 46 → c ≠ 48 → c ≠ 49 → c ≠ 50 → M1 c = M c
theorem w_here {M : Mem} (h4 : M 4 0 = 0) (a : Int32) {K : Int32 → Mem → Prop} (h : K 0 M) : f_X9_hereIn a M K := by
  unfold f_X9_hereIn
  refine Lp.one (fun r => ?_)
  unfold f_X9_hereIn_c4
  dsimp only
  rw [h4]
  exact ⟨fun _ => h, fun z => absurd (by decide) z⟩
theorem w_bits {M : Mem} (a : Int32) {K : Int32 → Mem → Prop} (h : ∀ v, K v M) : f_J6_bitCount_0f7a4 a M K := by
  unfold f_J6_bitCount_0f7a4
  exact h _
theorem w_facts {M : Mem} (h4 : M 4 0 = 0) (a b : Int32) {K : Mem → Prop} (h : ∀ M', Tx M M' → K M') : f_X11_tellFacts a b 0 M K := by
  unfold f_X11_tellFacts f_X11_tellFacts_b73
  refine w_here h4 _ (w_here (by rw [mset_ne _ _ _ (by decide)]; exact h4) _ (w_bits _ (fun v => ⟨fun _ => ⟨vin_nI (j := 5) (by decide) (by decide), h _ (fun c _ h2 _ _ _ => ?_)⟩, fun z => absurd rfl z⟩)))
  simp only [mset_ne _ _ _ h2]
theorem w_bear {M : Mem} (hA : AO M) (w d : Int32) {M9 : Mem} (hT : Tx M M9) {K : Int32 → Mem → Prop} (h : ∀ v M', Tx M M' → K v M') : f_X0_bearingOn w d M9 K := by
  obtain ⟨h15, hA⟩ := hA
  unfold f_X0_bearingOn
  refine Lp.up (fun j a => ∃ v M1, a = (w, d, v, nI j, M1) ∧ Tx M M1) 4 (fun j a r hj ha hr => ?_) (j := 0) (by omega) ⟨0, M9, rfl, hT⟩
  obtain ⟨v, M1, rfl, g1⟩ := ha
  unfold f_X0_bearingOn_c5 f_X0_bearingOn_b83
  dsimp only
  rw [g1 15 (by decide) (by decide) (by decide) (by decide) (by decide), h15, nI_le_iff (by omega) (by omega), nI_cl j (by omega), nI_1, Nat.one_mul]
  refine ⟨fun _ => h v M1 g1, fun c => ?_⟩
  have hv25 : vp_in (nI j) 25 := vin_nI (by omega) (by decide)
  have hv24 : vp_in (nI j) 24 := vin_nI (by omega) (by decide)
  have nx : ∀ v' M2, Tx M M2 → r (w, d, v', nI (j + 1), M2) := fun v' M2 hM => hr (by omega) _ ⟨v', M2, rfl, hM⟩
  refine ⟨hv25, fun _ => nx _ _ g1, fun _ => ⟨hv24, fun _ => nx _ _ g1, fun _ => ⟨hv24, fun _ => nx _ _ g1, fun _ => ⟨hv25, hv25, ?_⟩⟩⟩⟩
  obtain ⟨e42, eT⟩ := hA j (by omega)
  rw [g1 42 (by decide) (by decide) (by decide) (by decide) (by decide), e42]
  have hok : okR (txT M1 (17 + j)) 6 := okT (a := j) (by omega) (fun q hq => by rw [g1 (17 + j) (by omega) (by omega) (by omega) (by omega) (by omega)]; exact eT q hq)
  refine c_holds (n := 6) (by omega) (by omega) (by decide) hok (F := fun k => M1 46 k) (fun _ _ => rfl) (fun M2 hM => ?_)
  have gT : Tx M M2 := fun c d1 d2 d3 d4 d5 => (hM c d1 d3 d4 d5).trans (g1 c d1 d2 d3 d4 d5)
  exact ⟨fun _ => nx _ _ gT, fun _ => nx _ _ gT⟩
theorem w_giver {M : Mem} (h15 : M 15 0 = nI 4) (b : Int32) {K : Int32 → Mem → Prop} (h : ∀ g, (g = -9 ∨ ∃ i, i < 4 ∧ g = nI i) → K g M) : f_X0_giverAmong b M K := by
  unfold f_X0_giverAmong
  refine Lp.up (fun j a => ∃ g, a = (b, g, nI j, M) ∧ (g = -9 ∨ ∃ i, i < 4 ∧ g = nI i)) 4 (fun j a r hj ha hr => ?_) (j := 0) (by omega) ⟨-9, rfl, Or.inl rfl⟩
  obtain ⟨g, rfl, hg⟩ := ha
  unfold f_X0_giverAmong_c5 f_X0_giverAmong_b43 f_X0_giverAmong_b45
  dsimp only
  rw [h15, nI_le_iff (by omega) (by omega), nI_1]
  refine ⟨fun _ => h g hg, fun c => ?_⟩
  have nx : ∀ g', (g' = -9 ∨ ∃ i, i < 4 ∧ g' = nI i) → r (b, g', nI (j + 1), M) := fun g' hg' => hr (by omega) _ ⟨g', rfl, hg'⟩
  have hj : nI j = -9 ∨ ∃ i, i < 4 ∧ nI j = nI i := Or.inr ⟨j, by omega, rfl⟩
  refine ⟨fun _ => nx g hg, fun _ => ⟨fun _ => nx _ hj, fun c2 => ⟨vin_nI (by omega) (by decide), ?_, fun _ => nx g hg, fun _ => nx _ hj⟩⟩⟩
  rcases hg with q | ⟨i, hi, rfl⟩
  · exact absurd q c2
  · exact vin_nI (by omega) (by decide)
theorem w_kind {M : Mem} (hA : AO M) {g : Int32} (hg : g = -9 ∨ ∃ i, i < 4 ∧ g = nI i) {K : Int32 → Mem → Prop} (h : ∀ k, k < 5 → K (nI k) M) : f_X0_kindOf g M K := by
  obtain ⟨h15, hA⟩ := hA
  unfold f_X0_kindOf f_X0_kindOf_b12 f_X0_kindOf_b27
  rcases hg with rfl | ⟨i, hi, rfl⟩
  · exact ⟨fun _ => h 0 (by decide), fun z => absurd (by decide) z⟩
  · rw [h15, nI_lt_iff (by omega) (by omega), nI_cl i (by omega), Nat.one_mul, (hA i hi).2 1 (by decide)]
    have e : TB i 1 - 48 = nI (i + 1) := by
      rcases (show i = 0 ∨ i = 1 ∨ i = 2 ∨ i = 3 by omega) with rfl | rfl | rfl | rfl <;> decide
    rw [e]
    exact ⟨fun z => absurd z (nI_n9 i (by omega)), fun _ => ⟨fun _ => ⟨vin_nI (by omega) (by decide), h (i + 1) (by omega)⟩, fun z => absurd hi z⟩⟩
/-- a matter opened -/
def OP (M M' : Mem) (m : Nat) : Prop := (∀ c, c ≠ 0 → c ≠ 45 → c ≠ 46 → c ≠ 48 → c ≠ 49 → c ≠ 50 → c ≠ 127 + 4 * m → M' c = M c) ∧ M' 0 = upd (M 0) 5 (nI (m + 1)) ∧ M' (127 + 4 * m) 6 = M 1 0 ∧ M' (127 + 4 * m) 11 = M (127 + 4 * m) 11
set_option maxHeartbeats 1000000 in
theorem w_open {M : Mem} (hA : AO M) (h4 : M 4 0 = 0) {m : Nat} (hm : m < 40) (e5 : M 0 5 = nI m) {w s u : Nat} (hw : w < 8) (hs : 1 ≤ s) (hs2 : s ≤ 63) (hu : u ≤ 9999) {K : Int32 → Mem → Prop} (h : ∀ M', OP M M' m → K (nI m) M') : f_X11_open (nI w) (nI s) (nI u) 0 M K := by
  unfold f_X11_open f_X11_open_b152
  have hb : inB (nI w) 0 7 = 1 := if_pos ⟨nI_pos' (by omega), (nI_le_iff (b := 7) (by omega) (by decide)).mpr (by omega)⟩
  have ht : wtop (nI s) (nI u) = 0 := wtop_0.mpr ⟨⟨(nI_le_iff (a := 1) (by decide) (by omega)).mpr hs, (nI_le_iff (b := 63) (by omega) (by decide)).mpr hs2⟩, nI_pos' (by omega), (nI_le_iff (b := 9999) (by omega) (by decide)).mpr hu⟩
  have hf : ful (nI m) 40 = 0 := ful_0.mpr (by rw [show (40 : Int32) = nI 40 from rfl, nI_le_iff (by omega) (by omega)]; omega)
  rw [v_X11_isWhat, hb, v_X11_wrongTopic, ht, v_X11_fullAt, e5, hf, v_X11_worse, show wors 0 0 = 0 from rfl]
  refine ⟨fun _ => ⟨fun _ => ?_, fun z => absurd rfl z⟩, fun z => absurd z (by decide)⟩
  refine w_facts h4 _ _ (fun M1 t1 => w_bear hA _ _ t1 (fun v M2 t2 => ?_))
  have hA2 : AO M2 := by
    refine ⟨by rw [t2 15 (by decide) (by decide) (by decide) (by decide) (by decide)]; exact hA.1, fun i hi => ?_⟩
    rw [t2 42 (by decide) (by decide) (by decide) (by decide) (by decide), t2 (17 + i) (by omega) (by omega) (by omega) (by omega) (by omega)]
    exact hA.2 i hi
  refine w_giver hA2.1 v (fun g hg => w_kind hA2 hg (fun k hk => ?_))
  have e0 : M2 0 = M 0 := t2 0 (by decide) (by decide) (by decide) (by decide) (by decide)
  have e1 : M2 1 = M 1 := t2 1 (by decide) (by decide) (by decide) (by decide) (by decide)
  have et : M2 (127 + 4 * m) = M (127 + 4 * m) := t2 _ (by omega) (by omega) (by omega) (by omega) (by omega)
  have hv40 : vp_in (nI m) 40 := vin_nI hm (by decide)
  have hv5 : vp_in (nI k) 5 := vin_nI hk (by decide)
  unfold f_X5_begin f_X5_takeTerms
  have n0 : ∀ a b c d e, mset (mset (mset (mset (mset M2 (127 + 4 * m) 2 a) (127 + 4 * m) 3 b) (127 + 4 * m) 4 c) (127 + 4 * m) 5 d) (127 + 4 * m) 6 e 0 = M 0 := fun a b c d e => by
    simp only [mset_ne _ _ _ (show (0 : Nat) ≠ 127 + 4 * m by omega)]; exact e0
  have n1 : ∀ a b c d, mset (mset (mset (mset M2 (127 + 4 * m) 2 a) (127 + 4 * m) 3 b) (127 + 4 * m) 4 c) (127 + 4 * m) 5 d 1 = M 1 := fun a b c d => by
    simp only [mset_ne _ _ _ (show (1 : Nat) ≠ 127 + 4 * m by omega)]; exact e1
  simp only [e0, e5, nI_cl m (show m < 2147483648 by omega), n0, n1]
  have fin : ∀ a b c d e p q r s0, K (nI m) (mset (mset (mset (mset (mset (mset (mset (mset (mset (mset M2 (127 + 4 * m) 2 a) (127 + 4 * m) 3 b) (127 + 4 * m) 4 c) (127 + 4 * m) 5 d) (127 + 4 * m) 6 (M 1 0)) (127 + 4 * m) 7 p) (127 + 4 * m) 8 q) (127 + 4 * m) 9 r) (127 + 4 * m) 10 s0) 0 5 e) ∨ ¬ e = nI (m + 1) := fun a b c d e p q r s0 => by
    by_cases he : e = nI (m + 1)
    · subst he
      refine Or.inl (h _ ⟨fun x x0 x1 x2 x3 x4 x5 x6 => ?_, ?_, ?_, ?_⟩)
      · simp only [mset_ne _ _ _ x6, mset_ne _ _ _ x0]
        exact t2 x x1 x2 x3 x4 x5
      · rw [mset_row]
        simp only [mset_ne _ _ _ (show (0 : Nat) ≠ 127 + 4 * m by omega)]
        rw [e0]
      · rw [mset_ne _ _ _ (by omega)]
        simp [mset_at]
      · rw [mset_ne _ _ _ (by omega)]
        simp [mset_at, et]
    · exact Or.inr he
  have b0 : ∀ a b c d p q r s0, mset (mset (mset (mset (mset (mset (mset (mset (mset M2 (127 + 4 * m) 2 a) (127 + 4 * m) 3 b) (127 + 4 * m) 4 c) (127 + 4 * m) 5 d) (127 + 4 * m) 6 (M 1 0)) (127 + 4 * m) 7 p) (127 + 4 * m) 8 q) (127 + 4 * m) 9 r) (127 + 4 * m) 10 s0 0 = M 0 := fun a b c d p q r s0 => by
    simp only [mset_ne _ _ _ (show (0 : Nat) ≠ 127 + 4 * m by omega)]; exact e0
  simp only [b0, e5, nI_1, nI_pred]
  have hM : isMat (127 + 4 * m) := isM hm
  refine ⟨hv40, hM, hv40, hv5, hv5, hv5, fun _ => ⟨hM, hM, bz0, ?_⟩, fun _ => ⟨hM, hM, bz1, ?_⟩⟩
  · exact (fin _ _ _ _ _ _ _ _ _).resolve_right (fun z => z rfl)
  · exact (fin _ _ _ _ _ _ _ _ _).resolve_right (fun z => z rfl)
