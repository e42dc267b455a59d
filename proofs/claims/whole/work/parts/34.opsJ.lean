/-! seats, sessions, agreements: the loops -/
def bcv (a1 : Int32) : Int32 := ((((((((a1 - ((a1.toUInt32 >>> ((1 : Int32).toUInt32 &&& Int32.toUInt32 31)).toInt32 &&& (1431655765 : Int32))) &&& (858993459 : Int32)) + (((a1 - ((a1.toUInt32 >>> ((1 : Int32).toUInt32 &&& Int32.toUInt32 31)).toInt32 &&& (1431655765 : Int32))).toUInt32 >>> ((2 : Int32).toUInt32 &&& Int32.toUInt32 31)).toInt32 &&& (858993459 : Int32))) + ((((a1 - ((a1.toUInt32 >>> ((1 : Int32).toUInt32 &&& Int32.toUInt32 31)).toInt32 &&& (1431655765 : Int32))) &&& (858993459 : Int32)) + (((a1 - ((a1.toUInt32 >>> ((1 : Int32).toUInt32 &&& Int32.toUInt32 31)).toInt32 &&& (1431655765 : Int32))).toUInt32 >>> ((2 : Int32).toUInt32 &&& Int32.toUInt32 31)).toInt32 &&& (858993459 : Int32))).toUInt32 >>> ((4 : Int32).toUInt32 &&& Int32.toUInt32 31)).toInt32) &&& (252645135 : Int32)) + ((((((a1 - ((a1.toUInt32 >>> ((1 : Int32).toUInt32 &&& Int32.toUInt32 31)).toInt32 &&& (1431655765 : Int32))) &&& (858993459 : Int32)) + (((a1 - ((a1.toUInt32 >>> ((1 : Int32).toUInt32 &&& Int32.toUInt32 31)).toInt32 &&& (1431655765 : Int32))).toUInt32 >>> ((2 : Int32).toUInt32 &&& Int32.toUInt32 31)).toInt32 &&& (858993459 : Int32))) + ((((a1 - ((a1.toUInt32 >>> ((1 : Int32).toUInt32 &&& Int32.toUInt32 31)).toInt32 &&& (1431655765 : Int32))) &&& (858993459 : Int32)) + (((a1 - ((a1.toUInt32 >>> ((1 : Int32).toUInt32 &&& Int32.toUInt32 31)).toInt32 &&& (1431655765 : Int32))).toUInt32 >>> ((2 : Int32).toUInt32 &&& Int32.toUInt32 31)).toInt32 &&& (858993459 : Int32))).toUInt32 >>> ((4 : Int32).toUInt32 &&& Int32.toUInt32 31)).toInt32) &&& (252645135 : Int32)).toUInt32 >>> ((8 : Int32).toUInt32 &&& Int32.toUInt32 31)).toInt32) + (((((((a1 - ((a1.toUInt32 >>> ((1 : Int32).toUInt32 &&& Int32.toUInt32 31)).toInt32 &&& (1431655765 : Int32))) &&& (858993459 : Int32)) + (((a1 - ((a1.toUInt32 >>> ((1 : Int32).toUInt32 &&& Int32.toUInt32 31)).toInt32 &&& (1431655765 : Int32))).toUInt32 >>> ((2 : Int32).toUInt32 &&& Int32.toUInt32 31)).toInt32 &&& (858993459 : Int32))) + ((((a1 - ((a1.toUInt32 >>> ((1 : Int32).toUInt32 &&& Int32.toUInt32 31)).toInt32 &&& (1431655765 : Int32))) &&& (858993459 : Int32)) + (((a1 - ((a1.toUInt32 >>> ((1 : Int32).toUInt32 &&& Int32.toUInt32 31)).toInt32 &&& (1431655765 : Int32))).toUInt32 >>> ((2 : Int32).toUInt32 &&& Int32.toUInt32 31)).toInt32 &&& (858993459 : Int32))).toUInt32 >>> ((4 : Int32).toUInt32 &&& Int32.toUInt32 31)).toInt32) &&& (252645135 : Int32)) + ((((((a1 - ((a1.toUInt32 >>> ((1 : Int32).toUInt32 &&& Int32.toUInt32 31)).toInt32 &&& (1431655765 : Int32))) &&& (858993459 : Int32)) + (((a1 - ((a1.toUInt32 >>> ((1 : Int32).toUInt32 &&& Int32.toUInt32 31)).toInt32 &&& (1431655765 : Int32))).toUInt32 >>> ((2 : Int32).toUInt32 &&& Int32.toUInt32 31)).toInt32 &&& (858993459 : Int32))) + ((((a1 - ((a1.toUInt32 >>> ((1 : Int32).toUInt32 &&& Int32.toUInt32 31)).toInt32 &&& (1431655765 : Int32))) &&& (858993459 : Int32)) + (((a1 - ((a1.toUInt32 >>> ((1 : Int32).toUInt32 &&& Int32.toUInt32 31)).toInt32 &&& (1431655765 : Int32))).toUInt32 >>> ((2 : Int32).toUInt32 &&& Int32.toUInt32 31)).toInt32 &&& (858993459 : Int32))).toUInt32 >>> ((4 : Int32).toUInt32 &&& Int32.toUInt32 31)).toInt32) &&& (252645135 : Int32)).toUInt32 >>> ((8 : Int32).toUInt32 &&& Int32.toUInt32 31)).toInt32).toUInt32 >>> ((16 : Int32).toUInt32 &&& Int32.toUInt32 31)).toInt32) &&& (63 : Int32))
theorem v_bc (x : Int32) (M : Mem) (K : Int32 → Mem → Prop) : f_J6_bitCount_0f7a4 x M K ↔ K (bcv x) M := Iff.rfl
def pop : Nat → Nat → Nat
  | 0, _ => 0
  | k + 1, n => n % 2 + pop k (n / 2)
theorem bc512 : ∀ n : Fin 512, bcv (nI n.val) = nI (pop 10 n.val) := by decide +kernel
theorem bc_n {n : Nat} (h : n < 512) : bcv (nI n) = nI (pop 10 n) := bc512 ⟨n, h⟩
theorem pop0 : ∀ k, pop k 0 = 0
  | 0 => rfl
  | k + 1 => by show 0 % 2 + pop k (0 / 2) = 0; rw [show 0 / 2 = 0 from rfl, pop0 k]
theorem t_ones {M : Mem} {K : Int32 → Mem → Prop} {n : Nat} (hn : n < 512) (h : K (nI (pop 10 n)) M) : f_X12_ones (nI n) M K := by
  unfold f_X12_ones
  refine Lp.up (fun j a => ∃ s m, s + pop (10 - j) m = pop 10 n ∧ m < 2 ^ (10 - j) ∧ a = (nI s, nI m, M)) 10 (fun j a r hj ha hr => ?_) (j := 0) (by omega) ⟨0, n, Nat.zero_add (pop 10 n), by omega, rfl⟩
  obtain ⟨s, m, e, hm, rfl⟩ := ha
  unfold f_X12_ones_c4
  dsimp only
  have hm2 : 2 ^ (10 - j) ≤ 2 ^ 10 := Nat.pow_le_pow_right (by decide) (by omega)
  have hle : (nI m ≤ 0) ↔ m ≤ 0 := nI_le_iff (b := 0) (by omega) (by omega)
  rw [hle]
  refine ⟨fun c => ?_, fun c => ?_⟩
  · rw [show m = 0 by omega, pop0, Nat.add_zero] at e
    rw [e]; exact h
  · have hj10 : j < 10 := by
      rcases Nat.lt_or_ge j 10 with q | q
      · exact q
      · rw [show 10 - j = 0 by omega] at hm; omega
    have d := pk_div (a := m) (d := 2) (by omega) (by omega) (by omega)
    have q := pk_rem (a := m) (d := 2) (by omega) (by omega) (by omega)
    refine hr hj10 _ ⟨s + m % 2, m / 2, ?_, ?_, ?_⟩
    · rw [← e, show 10 - j = (10 - (j + 1)) + 1 by omega]
      show _ = s + (m % 2 + pop (10 - (j + 1)) (m / 2))
      omega
    · rw [show 10 - j = (10 - (j + 1)) + 1 by omega, Nat.pow_succ] at hm
      omega
    · rw [← nI_add, show nI m - nI m / 2 * 2 = nI (m % 2) from q, show nI m / 2 = nI (m / 2) from d]
theorem t_sitE {M : Mem} {K : Int32 → Mem → Prop} {n s : Nat} (hn : n ≤ 9) (hs : s < 9) (e : M 51 1 = nI n) (b : Int32) (h : K (bi (exB (fun q => decide (¬ q = s ∧ M 54 q = b)) n)) M) : f_X2_sitsElsewhere b (nI s) M K := by
  unfold f_X2_sitsElsewhere
  refine Lp.up (fun q a => exB (fun q => decide (¬ q = s ∧ M 54 q = b)) q = false ∧ a = (b, nI s, nI q, M)) n (fun q a r hq ha hr => ?_) (j := 0) (by omega) ⟨rfl, rfl⟩
  obtain ⟨hx, rfl⟩ := ha
  unfold f_X2_sitsElsewhere_c2 f_X2_sitsElsewhere_b27
  dsimp only
  rw [e, nI_le_iff (by omega) (by omega), nI_cl q (by omega), nI_1, nI_eq_iff (by omega) (by omega)]
  refine ⟨fun c => ?_, fun c => ?_⟩
  · rw [show n = q by omega, hx] at h; exact h
  · have hv : vp_in (nI q) 9 := vin_nI (by omega) (by decide)
    by_cases c2 : ¬ q = s ∧ M 54 q = b
    · rw [exB_hit (q := q) (by omega) (by simpa using c2)] at h
      have h' : K 1 M := h
      grind
    · have hr2 := hr (by omega) _ ⟨by show (exB _ q || _) = false; rw [hx]; simpa using c2, rfl⟩
      grind
/-- any member of a session is not here -/
def absB (M : Mem) (b : Int32) (n : Nat) : Bool := exB (fun q => decide ((b >>> (nI q &&& 31)) &&& 1 = 1 ∧ ¬ (0 ≤ M 54 q ∧ M 54 q ≤ M 4 0 - 1 ∧ ¬ M 6 (nn (M 54 q)) = 0))) n
theorem t_canB {M : Mem} (H : Inv M) {K : Int32 → Mem → Prop} {n : Nat} (hn : n ≤ 9) (e : M 51 1 = nI n) {b : Int32} (hb : 0 ≤ b) (h : K (bi (decide (b.toInt < 2 ^ n) && !absB M b n)) M) : f_X11_canBePresent b M K := by
  unfold f_X11_canBePresent
  have p0 := H.P.2.1
  have p1 := H.P.2.2.1
  have hsr : (b >>> (nI n &&& 31)) = 0 ↔ b.toInt < 2 ^ n := by
    have e0 : (0 : Int32).toInt = 0 := rfl
    have h0 := i_le.mp hb
    rw [i_eq, shr_ti b n (by omega), e0]
    have hp : (0 : Int) < 2 ^ n := Int.pow_pos (by decide)
    rw [e0] at h0
    constructor
    · intro h
      have := Int.lt_mul_ediv_self_add (x := b.toInt) hp
      rw [h] at this
      omega
    · intro h
      exact Int.ediv_eq_zero_of_lt h0 h
  rw [e, hsr]
  refine ⟨fun c0 => ?_, fun c0 => by rw [decide_eq_false c0] at h; exact h⟩
  rw [decide_eq_true c0, Bool.true_and] at h
  refine Lp.up (fun q a => absB M b q = false ∧ a = (b, nI q, M)) n (fun q a r hq ha hr => ?_) (j := 0) (by omega) ⟨rfl, rfl⟩
  obtain ⟨hx, rfl⟩ := ha
  unfold f_X11_canBePresent_c16 f_X11_canBePresent_b69 f_X11_canBePresent_b71
  dsimp only
  rw [e, nI_le_iff (by omega) (by omega), nI_cl q (by omega), nI_1]
  simp only [v_X9_has p0 p1]
  refine ⟨fun c => ?_, fun c => ?_⟩
  · rw [show n = q by omega, hx] at h; exact h
  · have hv : vp_in (nI q) 9 := vin_nI (by omega) (by decide)
    have hv2 : 0 ≤ M 54 q → M 54 q ≤ M 4 0 - 1 → vp_in (M 54 q) 24 := fun x y => vinH p0 ⟨x, y⟩ (tiLe p1 (by rfl))
    have hin : inB (M 54 q) 0 (M 4 0 - 1) = if 0 ≤ M 54 q ∧ M 54 q ≤ M 4 0 - 1 then 1 else 0 := rfl
    by_cases c2 : (b >>> (nI q &&& 31)) &&& 1 = 1 ∧ ¬ (0 ≤ M 54 q ∧ M 54 q ≤ M 4 0 - 1 ∧ ¬ M 6 (nn (M 54 q)) = 0)
    · have hx2 : absB M b n = true := exB_hit (q := q) (by omega) (decide_eq_true c2)
      rw [hx2] at h
      have h' : K 0 M := h
      unfold nn at c2
      rw [hin]
      grind
    · have hr2 := hr (by omega) _ ⟨by show (exB _ q || _) = false; rw [show exB _ q = false from hx]; exact decide_eq_false c2, rfl⟩
      unfold nn at c2
      rw [hin]
      grind
theorem t_allS {M : Mem} (H : Inv M) {K : Int32 → Mem → Prop} {n : Nat} (hn : n ≤ 9) (e : M 51 1 = nI n) {b : Int32} (hb : 0 ≤ b) {M' : Mem} (hE : Eqm M M') (h : K (bi (decide (b.toInt < 2 ^ n) && !absB M b n)) M') : f_X12_allSit b M' K := by
  unfold f_X12_allSit f_X12_allSit_b15
  obtain ⟨v1, v2, v3, v4, v5, v6, v7, v8, v9⟩ := H.V
  obtain ⟨q1, p0, p1, q4, q5, q6, q7, q8, q9, q10, q11, q12⟩ := H.P
  obtain ⟨pn, hpn, epn⟩ := nat_of (n := 24) p0 p1 (by decide)
  rw [hE 287 (by decide), v1, e]
  have hpw : 2 ^ n ≤ 2 ^ 9 := Nat.pow_le_pow_right (by decide) hn
  have hsl : ((1 : Int32) <<< (nI n &&& 31)) = nI (2 ^ n) := by
    have : ∀ n : Fin 10, ((1 : Int32) <<< (nI n.val &&& 31)) = nI (2 ^ n.val) := by decide
    exact this ⟨n, by omega⟩
  have hlt : (nI (2 ^ n) ≤ b) ↔ ¬ b.toInt < 2 ^ n := by
    rw [i_le, nI_ti _ (by omega), Int.natCast_pow]
    exact Int.not_lt.symm
  rw [hsl, hlt]
  have key : ∀ d : Bool, K (bi (d && !absB M b n)) M' → Lp (fun (r18 : Int32 × Int32 × Int32 × Mem → Prop) a => f_X12_allSit_c18 K r18 a.1 a.2.1 a.2.2.1 a.2.2.2) (b, bi d, 0, M') := by
    intro d hd
    refine Lp.up (fun q a => a = (b, bi (d && !absB M b q), nI q, M')) n (fun q a r hq ha hr => ?_) (j := 0) (by omega) (by show _ = (b, bi (d && !false), nI 0, M'); simp; rfl)
    subst ha
    unfold f_X12_allSit_c18 f_X12_allSit_b61 f_X12_allSit_b65 f_X12_allSit_b66
    dsimp only
    rw [hE 287 (by decide), v1, e, nI_le_iff (by omega) (by omega), nI_cl q (by omega), nI_1, hE 324 (by decide), hE 294 (by decide), v6]
    refine ⟨fun c => ⟨bi_bz _, by rw [show q = n by omega]; exact hd⟩, fun c => ?_⟩
    have hv : vp_in (nI q) 9 := vin_nI (by omega) (by decide)
    have hmem := v9 q (by rw [e, nn_nI n (by omega)]; omega)
    have hr2 := hr (by omega) _ rfl
    have hst : absB M b (q + 1) = (absB M b q || decide ((b >>> (nI q &&& 31)) &&& 1 = 1 ∧ ¬ (0 ≤ M 54 q ∧ M 54 q ≤ M 4 0 - 1 ∧ ¬ M 6 (nn (M 54 q)) = 0))) := rfl
    rw [hst] at hr2
    have hl1 : 0 ≤ M 54 q → M 54 q < M 4 0 → M 54 q ≤ M 4 0 - 1 := fun x y => by rw [i_le, i_sub1 p0]; rw [i_lt] at y; omega
    have h6 : 0 ≤ M 54 q → M 54 q < M 4 0 → vp_in (M 54 q) 24 ∧ M 6 (nn (M 54 q)) = if M 294 (nn (M 54 q)) = 0 then 1 else 0 := fun x y => by
      obtain ⟨u, hu, eu⟩ := natL (a := M 54 q) epn (by omega) ⟨x, hl1 x y⟩
      refine ⟨by rw [eu]; exact vin_nI (by omega) (by decide), q8 _ ?_⟩
      rw [eu, epn, nn_nI u (by omega), nn_nI pn (by omega)]; exact hu
    have ha1 := and1 (b >>> (nI q &&& 31))
    have hneg : M 54 q = -9 → ¬ 0 ≤ M 54 q := fun z => by rw [z]; decide
    have h01 : ¬ (1 : Int32) = 0 := by decide
    unfold nn at h6 hr2
    clear hr hd h hst v9 q8 q12
    cases hab : absB M b q <;> cases d <;> rw [hab] at hr2 <;> simp only [bi, Bool.false_and, Bool.true_and, Bool.not_false, Bool.not_true, Bool.true_or, Bool.false_or] at hr2 ⊢ <;> grind
  refine ⟨fun c => ?_, fun c => ?_⟩
  · rw [decide_eq_false c] at h; exact key false h
  · rw [decide_eq_true (Classical.not_not.mp c)] at h; exact key true h
theorem t_isOf {M : Mem} {K : Int32 → Mem → Prop} {n : Nat} (hn : n ≤ 30) (e : M 62 0 = nI n) (b : Int32) (h : K (bi (exB (fun q => decide (M 63 q = b)) n)) M) : f_X1_isOf b M K := by
  unfold f_X1_isOf
  refine Lp.up (fun q a => exB (fun q => decide (M 63 q = b)) q = false ∧ a = (b, nI q, M)) n (fun q a r hq ha hr => ?_) (j := 0) (by omega) ⟨rfl, rfl⟩
  obtain ⟨hx, rfl⟩ := ha
  unfold f_X1_isOf_c2
  dsimp only
  rw [e, nI_le_iff (by omega) (by omega), nI_cl q (by omega), nI_1]
  refine ⟨fun c => ?_, fun c => ?_⟩
  · rw [show n = q by omega, hx] at h; exact h
  · have hv : vp_in (nI q) 30 := vin_nI (by omega) (by decide)
    by_cases c2 : M 63 q = b
    · rw [exB_hit (q := q) (by omega) (by simpa using c2)] at h
      have h' : K 1 M := h
      grind
    · have hr2 := hr (by omega) _ ⟨by show (exB _ q || _) = false; rw [hx]; simpa using c2, rfl⟩
      grind
/-- whether an agreement holds -/
def hldB (M : Mem) (q : Nat) : Bool := letb 3 (stM M (nn (M 63 q)) (M 67 q) (M 1 0))
theorem Inv.agr {M : Mem} (H : Inv M) {q : Nat} (hq : q < nn (M 62 0)) : ∃ i, M 63 q = nI i ∧ i < 40 ∧ i < nn (M 0 5) ∧ M 311 i = 3 ∧ 0 ≤ M 67 q ∧ M 67 q ≤ 1000 ∧ q < 30 := by
  obtain ⟨g1, g2, g3, g4, g5, g6, g7, g8, g9, g10, g11, g12⟩ := H.G
  obtain ⟨a, ha, ea⟩ := nat_of (n := 30) g2 g3 (by decide)
  obtain ⟨z1, z2, z3, z4, z5, z6, z7, z8, z9, z10, z11, z12⟩ := g12 q hq
  have hN := H.D.2.2.1
  obtain ⟨i, ei, hi, hi2⟩ := H.mat (a := M 63 q) ⟨z1, by rw [i_le, i_sub1 H.m0]; rw [i_lt] at z2; omega⟩
  rw [ei, nn_nI i (by omega)] at z3
  rw [ea, nn_nI a (by omega)] at hq
  exact ⟨i, ei, hi, hi2, z3, z11, Int32.le_trans z12 hN, by omega⟩
theorem p_holds {M : Mem} (H : Inv M) {q : Nat} (hq : q < nn (M 62 0)) (K : Int32 → Mem → Prop) (h : K (bi (hldB M q)) M) : f_X11_holds (nI q) M K := by
  obtain ⟨i, ei, hi, hi2, e3, j0, j1, hq30⟩ := H.agr hq
  have hm := H.mok hi2
  obtain ⟨k0, k1, ek⟩ := mok_kd hm
  unfold f_X11_holds f_X11_holds_b59 f_X11_holds_b60
  simp only [v_X11_isMatter H.m0 H.m1]
  rw [nI_cl q (by omega), ei, nI_cl i (by omega)]
  have hin : inB (nI i) 0 (M 0 5 - 1) = 1 := by
    obtain ⟨o, ho, eo⟩ := nat_of (n := 40) H.m0 H.m1 (by decide)
    rw [eo, nn_nI o (by omega)] at hi2
    refine inB1 ⟨nI_pos' (by omega), ?_⟩
    rw [i_le, i_sub1 H.m0, eo, nI_ti i (by omega), nI_ti o (by omega)]
    omega
  rw [hin]
  have hvi : vp_in (nI i) 40 := vin_nI hi (by decide)
  have hvq : vp_in (nI q) 30 := vin_nI hq30 (by decide)
  refine ⟨hvq, fun c => absurd c (by decide), fun _ => ⟨hvi, hvi, hvq, p_state hm H.sok j0 j1 _ _ (t_X5_lets (mok_t hm) (by rw [ek]; exact k0) (by rw [ek]; exact k1) _ ?_)⟩⟩
  rw [ek, e3]
  unfold hldB at h
  rw [ei, nn_nI i (by omega)] at h
  generalize letb 3 (stM M i (M 67 q) (M 1 0)) = z at *
  have z0 := bz0
  have z1 := bz1
  cases z <;> simp only [bi] at h ⊢ <;> grind
theorem q_holds {M : Mem} (H : Inv M) {q : Nat} (hq : q < nn (M 62 0)) {M' : Mem} (hE : Eqm M M') (K : Int32 → Mem → Prop) (h : K (bi (hldB M q)) M') : f_X12_holdsNow (nI q) M' K := by
  obtain ⟨i, ei, hi, hi2, e3, j0, j1, hq30⟩ := H.agr hq
  unfold f_X12_holdsNow f_X12_agrees f_X12_agrees_b28 f_X12_agrees_b33
  have hvq : vp_in (nI q) 30 := vin_nI hq30 (by decide)
  rw [nI_cl q (by omega), hE 330 (by decide), hE 334 (by decide), hE 287 (by decide), H.D.1, show M 330 = M 63 from H.G.2.2.2.1, show M 334 = M 67 from H.G.2.2.2.2.2.2.2.1, ei]
  refine ⟨hvq, hvq, q_state (H.mm hi2) hE j0 j1 _ _ ?_⟩
  unfold hldB at h
  rw [ei, nn_nI i (by omega)] at h
  generalize stM M i (M 67 q) (M 1 0) = z at *
  unfold letb bi at h
  have z0 := bz0
  have z1 := bz1
  grind
