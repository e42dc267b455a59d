/-! times, points, who goes: the calls -/
def tmC (M : Mem) (p : Nat) (d : Int32) : Int32 := tmV (fun k => M 358 (12 * p + k)) (fun k => M 359 (12 * p + k)) d (nn (M 98 p))
theorem stuF {M : Mem} (H : Inv M) {p : Nat} (hp : p < 5) : ∃ n, n ≤ 12 ∧ M 98 p = nI n ∧ nn (M 98 p) = n ∧ (∀ k, k < n → M (100 + p) k = M 359 (12 * p + k) ∧ M (106 + p) k = M 358 (12 * p + k)) ∧ (∀ k, k < n → 1 ≤ M 359 (12 * p + k) ∧ M 359 (12 * p + k) ≤ 999) := by
  obtain ⟨u1, u2, u3⟩ := H.U
  obtain ⟨n, hn, en⟩ := nat_of (n := 12) (u2 p).1 (u2 p).2 (by decide)
  have e := u3 p hp
  rw [rws_in M 100 1 5 hp, rws_in M 106 1 5 hp, Nat.one_mul, en, nn_nI n (by omega)] at e
  refine ⟨n, hn, en, by rw [en, nn_nI n (by omega)], fun k hk => ⟨(e k hk).1, (e k hk).2.1⟩, fun k hk => ?_⟩
  obtain ⟨a, -, b, c⟩ := e k hk
  rw [a] at b c
  exact ⟨b, c⟩
theorem tmC_r {M : Mem} (H : Inv M) {p : Nat} (hp : p < 5) (d : Int32) : tmC M p d = -9 ∨ (0 ≤ tmC M p d ∧ tmC M p d ≤ 20000) := by
  obtain ⟨n, hn, en, enn, h1, h2⟩ := stuF H hp
  unfold tmC
  rw [enn]
  exact tmV_r hn h2
theorem p_time {M : Mem} (H : Inv M) {p : Nat} (hp : p < 5) (d : Int32) (K : Int32 → Mem → Prop) (h : K (tmC M p d) M) : f_X10_timeOn (nI p) d M K := by
  obtain ⟨n, hn, en, enn, h1, h2⟩ := stuF H hp
  unfold tmC at h
  rw [enn] at h
  refine t_timeOn hp hn en (fun k hk => by rw [(h1 k hk).1]; exact h2 k hk) d K ?_
  unfold tmV at h ⊢
  rw [st4_cong d 1000 n (fun k hk => ⟨(h1 k hk).2, (h1 k hk).1⟩)]
  exact h
theorem q_time {M : Mem} (H : Inv M) {p : Nat} (hp : p < 5) {M' : Mem} (hE : Eqm M M') (d : Int32) (K : Int32 → Mem → Prop) (h : K (tmC M p d) M') : f_X12_timeOf (nI p) d M' K := by
  obtain ⟨n, hn, en, enn, h1, h2⟩ := stuF H hp
  unfold tmC at h
  rw [enn] at h
  refine t_timeM hp hn (by rw [hE 357 (by decide), show M 357 = M 98 from H.U.1]; exact en) (fun k hk => by rw [hE 359 (by decide)]; exact h2 k hk) d K ?_
  rw [hE 358 (by decide), hE 359 (by decide)]
  exact h
theorem pce {a : Int32} (h : 0 ≤ a ∧ a ≤ 4) : ∃ p, a = nI p ∧ p < 5 := by
  obtain ⟨p, hp, e⟩ := nat_of (n := 4) h.1 h.2 (by decide)
  exact ⟨p, e, by omega⟩
def chV (v b : Int32) : Int32 := if v = -9 then 0 else if 10 * (if v ≤ b then b - v else v - b) ≤ b then 0 else 1
theorem chV_c {v b : Int32} (hv : v = -9 ∨ (0 ≤ v ∧ v ≤ 20000)) (hb : 1 ≤ b ∧ b ≤ 999) : (if 0 ≤ v - b then v - b else 0 - (v - b)) = (if v ≤ b then b - v else v - b) := by
  by_cases h1 : v ≤ b
  · rw [if_pos h1]
    by_cases h2 : 0 ≤ v - b
    · rw [if_pos h2]
      have : v = b := by rcases hv with rfl | hv <;> lia
      subst this; rfl
    · rw [if_neg h2]; lia
  · rw [if_neg h1, if_pos (by rcases hv with rfl | hv <;> lia)]
def ctime (M : Mem) (a b : Int32) : Int32 := if ¬ (0 ≤ a ∧ a ≤ 4) then -1 else if ¬ 0 ≤ b then -4 else if ¬ b ≤ 1000 then -6 else 0
theorem C_time {M : Mem} (H : Inv M) (a b : Int32) {K : Int32 → Mem → Prop} (k1 : isR (ctime M a b) → K (ctime M a b) (rfC M (ctime M a b)))
    (k2 : (ctime M a b) = 0 → K (tmC M (nn a) b) M) : f_X11_time a b M K := by
  simp only [f_X11_time, f_X11_time_b9, v_X11_outside]
  unfold ctime at k1 k2
  unfold isR at k1
  by_cases c1 : 0 ≤ a ∧ a ≤ 4
  · obtain ⟨p, rfl, hp⟩ := pce c1
    have g1 := p_time H hp b
    rw [nn_nI p (by omega)] at k2
    have h5 : nI p < 5 := by have := c1.2; lia
    generalize tmC M p b = t at *
    clear H
    grind [x1, x4, x6, outs]
  · clear k2; have h5 : ¬ 0 ≤ a ∨ ¬ a < 5 := by { by_cases q : 0 ≤ a; exact Or.inr (fun z => c1 ⟨q, by lia⟩); exact Or.inl q }; grind [x1]
theorem M_time {M : Mem} (H : Inv M) (a b : Int32) {M' : Mem} (hE : Eqm M M') {K : Int32 → Mem → Prop} (k1 : isR (ctime M a b) → K (ctime M a b) (rfM M' (ctime M a b)))
    (k2 : (ctime M a b) = 0 → K (tmC M (nn a) b) M') : f_X12_time a b M' K := by
  simp only [f_X12_time, f_X12_time_b48, v_X12_isPiece]
  unfold ctime at k1 k2
  unfold isR at k1
  have e2 : ∀ x l g : Int32, inB x l g = if l ≤ x ∧ x ≤ g then 1 else 0 := fun _ _ _ => rfl
  rw [e2]
  by_cases c1 : 0 ≤ a ∧ a ≤ 4
  · obtain ⟨p, rfl, hp⟩ := pce c1
    have g1 := q_time H hp hE b
    rw [nn_nI p (by omega)] at k2
    generalize tmC M p b = t at *
    clear H hE
    grind [y1, y4, y6]
  · clear k2; grind [y1]
theorem P_time {M : Mem} (H : Inv M) (a b : Int32) : f_X11_time a b M (fun r M1 => f_X12_time a b M1 (fun r' M2 => r' = r ∧ Inv M2)) :=
  C_time H a b (fun hz => M_time H a b (Eqm.rfC M _) (fun _ => ⟨rfl, i_rf H _⟩) (fun h0 => absurd h0 (nR0 hz)))
    (fun h0 => M_time H a b (Eqm.refl M) (fun hz => absurd h0 (nR0 hz)) (fun _ => ⟨rfl, H⟩))
def cchanged (M : Mem) (a b c : Int32) : Int32 := if ¬ (0 ≤ a ∧ a ≤ 4) then -1 else if ¬ 1 ≤ b ∨ ¬ 0 ≤ c then -4 else if ¬ b ≤ 999 ∨ ¬ c ≤ 1000 then -6 else 0
theorem C_changed {M : Mem} (H : Inv M) (a b c : Int32) {K : Int32 → Mem → Prop} (k1 : isR (cchanged M a b c) → K (cchanged M a b c) (rfC M (cchanged M a b c)))
    (k2 : (cchanged M a b c) = 0 → K (chV (tmC M (nn a) c) b) M) : f_X11_changed a b c M K := by
  simp only [f_X11_changed, f_X11_changed_b9, f_X11_changed_b84, f_X11_changed_b85, v_X11_outside, v_X11_worse]
  unfold cchanged at k1 k2
  unfold isR at k1
  by_cases c1 : 0 ≤ a ∧ a ≤ 4
  · obtain ⟨p, rfl, hp⟩ := pce c1
    have g1 := p_time H hp c
    have g2 := fun q => chV_c (b := b) (tmC_r H hp c) q
    rw [nn_nI p (by omega)] at k2
    have h5 : nI p < 5 := by have := c1.2; lia
    unfold chV at k2
    generalize tmC M p c = t at *
    clear H
    grind (splits := 40) [x1, x4, x6, outs, wors]
  · clear k2; have h5 : ¬ 0 ≤ a ∨ ¬ a < 5 := by { by_cases q : 0 ≤ a; exact Or.inr (fun z => c1 ⟨q, by lia⟩); exact Or.inl q }; grind [x1]
theorem M_changed {M : Mem} (H : Inv M) (a b c : Int32) {M' : Mem} (hE : Eqm M M') {K : Int32 → Mem → Prop} (k1 : isR (cchanged M a b c) → K (cchanged M a b c) (rfM M' (cchanged M a b c)))
    (k2 : (cchanged M a b c) = 0 → K (chV (tmC M (nn a) c) b) M') : f_X12_changed a b c M' K := by
  simp only [f_X12_changed, f_X12_changed_b22, f_X12_changed_b43, f_X12_changed_b75, f_X12_changed_b95, f_X12_changed_b96, v_X12_isPiece]
  unfold cchanged at k1 k2
  unfold isR at k1
  have e2 : ∀ x l g : Int32, inB x l g = if l ≤ x ∧ x ≤ g then 1 else 0 := fun _ _ _ => rfl
  rw [e2]
  by_cases c1 : 0 ≤ a ∧ a ≤ 4
  · obtain ⟨p, rfl, hp⟩ := pce c1
    have g1 := q_time H hp hE c
    have g2 := tmC_r H hp c
    rw [nn_nI p (by omega)] at k2
    unfold chV at k2
    generalize tmC M p c = t at *
    have g3 : t = -9 → t < 0 := fun z => by rw [z]; decide
    clear H hE
    grind (splits := 40) [y1, y4, y6]
  · clear k2; grind [y1]
theorem P_changed {M : Mem} (H : Inv M) (a b c : Int32) : f_X11_changed a b c M (fun r M1 => f_X12_changed a b c M1 (fun r' M2 => r' = r ∧ Inv M2)) :=
  C_changed H a b c (fun hz => M_changed H a b c (Eqm.rfC M _) (fun _ => ⟨rfl, i_rf H _⟩) (fun h0 => absurd h0 (nR0 hz)))
    (fun h0 => M_changed H a b c (Eqm.refl M) (fun hz => absurd h0 (nR0 hz)) (fun _ => ⟨rfl, H⟩))
/-- POINTS -/
def pvv (M : Mem) (p : Nat) : Int32 := (((((M 1 0 - M 7 p) / 365) * M 14 0 + ((M 1 0 - M 8 p) / 365) * M 14 1) + M 293 (2 * p) * M 14 2) + M 293 (2 * p + 1) * M 14 3)
theorem lstF {M : Mem} (H : Inv M) {p : Nat} (hp : p < nn (M 4 0)) : (M 4 11 = -9 → M 9 p = M 293 (2 * p) ∧ M 10 p = M 293 (2 * p + 1)) ∧ (¬ M 4 11 = -9 → M 11 p = M 293 (2 * p) ∧ M 12 p = M 293 (2 * p + 1)) := by
  obtain ⟨q1, q2, q3, q4, q5, q6⟩ := H.Q
  obtain ⟨n, hn, en⟩ := nat_of (n := 24) H.P.2.1 H.P.2.2.1 (by decide)
  rw [en, nn_nI n (by omega)] at hp q3 q6
  rcases q6 with ⟨a, b, c⟩ | ⟨a, b, c, d⟩
  · refine ⟨fun _ => ⟨?_, ?_⟩, fun z => absurd b z⟩
    · rw [(q3 p hp).1, c _ (by omega)]
    · rw [(q3 p hp).2, c _ (by omega)]
  · refine ⟨fun z => ?_, fun _ => d p hp⟩
    rw [c] at z
    rw [z] at a
    exact absurd a (by decide)
theorem v_pts {M : Mem} (H : Inv M) {p : Nat} (hp24 : p < 24) (hp : p < nn (M 4 0)) (K : Int32 → Mem → Prop) (h : K (pvv M p) M) : f_X9_pointsOf (nI p) (M 1 0) M K := by
  have hv : vp_in (nI p) 24 := vin_nI hp24 (by decide)
  obtain ⟨l1, l2⟩ := lstF H hp
  unfold pvv at h
  simp only [f_X9_pointsOf, f_X9_pointsOf_b14, f_X9_pointsOf_b73, f_X9_pointsOf_b100]
  rw [nI_cl p (by omega)]
  clear H
  grind
theorem q_pts {M : Mem} (H : Inv M) {p : Nat} (hp24 : p < 24) {M' : Mem} (hE : Eqm M M') (K : Int32 → Mem → Prop) (h : K (pvv M p) M') : f_X12_pointsOf (nI p) M' K := by
  have hv : vp_in (nI p) 24 := vin_nI hp24 (by decide)
  have hv1 : vp_in (nI (2 * p)) 48 := vin_nI (by omega) (by decide)
  have hv2 : vp_in (nI (2 * p + 1)) 48 := vin_nI (by omega) (by decide)
  have e : (2 : Int32) * nI p = nI (2 * p) := pk_mul 2 p
  unfold f_X12_pointsOf
  rw [e, nI_1, nI_cl p (by omega), nI_cl (2 * p) (by omega), nI_cl (2 * p + 1) (by omega), hE 360 (by decide), hE 287 (by decide), hE 290 (by decide), hE 291 (by decide), hE 293 (by decide), show M 360 = M 14 from H.Q.1, H.D.1, show M 290 = M 7 from H.P.2.2.2.2.1, show M 291 = M 8 from H.P.2.2.2.2.2.1]
  refine ⟨hv, hv, hv1, hv2, ?_⟩
  unfold pvv at h
  rw [Int32.mul_comm (M 14 0), Int32.mul_comm (M 14 1), Int32.mul_comm (M 14 2), Int32.mul_comm (M 14 3)]
  exact h
theorem yrs {d b : Int32} {m : Nat} (h0 : 0 ≤ d) (h1 : d ≤ 1000) (b0 : -25000 ≤ b) (b1 : b ≤ d) : ∃ u, u ≤ 72 ∧ (d - b) / 365 = nI u := by
  obtain ⟨v, hv, ev⟩ := nat_of (x := d - b) (n := 26000) (by lia) (by rw [show nI 26000 = (26000 : Int32) from rfl]; lia) (by decide)
  exact ⟨v / 365, by omega, by rw [ev]; exact pk_div (a := v) (d := 365) (by omega) (by omega) (by omega)⟩
theorem pvv_b {M : Mem} (H : Inv M) {p : Nat} (hp : p < nn (M 4 0)) : ∃ n, n ≤ 20000 ∧ pvv M p = nI n := by
  obtain ⟨d0, d1⟩ := H.D.2
  obtain ⟨q1, q2, q3, q4, q5, q6⟩ := H.Q
  obtain ⟨p1, p2, p3, p4, p5, p6, p7, p8, p9, p10, p11, p12, p13⟩ := H.P
  obtain ⟨b0, b1⟩ := p12 p hp
  obtain ⟨c0, c1⟩ := p13 p hp
  obtain ⟨u, hu, eu⟩ := yrs (m := 0) d0 d1.1 b0 (by have := d0; lia)
  obtain ⟨w, hw, ew⟩ := yrs (m := 0) d0 d1.1 (show -25000 ≤ M 8 p by lia) c1
  obtain ⟨w0, h0, e0⟩ := nat_of (n := 9) (q2 0).1 (q2 0).2 (by decide)
  obtain ⟨w1, h1, e1⟩ := nat_of (n := 9) (q2 1).1 (q2 1).2 (by decide)
  obtain ⟨w2, h2, e2⟩ := nat_of (n := 9) (q2 2).1 (q2 2).2 (by decide)
  obtain ⟨w3, h3, e3⟩ := nat_of (n := 9) (q2 3).1 (q2 3).2 (by decide)
  obtain ⟨k0, g0, f0⟩ := nat_of (n := 100) (q5 (2 * p)).1 (q5 (2 * p)).2 (by decide)
  obtain ⟨k1, g1, f1⟩ := nat_of (n := 100) (q5 (2 * p + 1)).1 (q5 (2 * p + 1)).2 (by decide)
  have m0 := Nat.mul_le_mul hu h0
  have m1 := Nat.mul_le_mul hw h1
  have m2 := Nat.mul_le_mul g0 h2
  have m3 := Nat.mul_le_mul g1 h3
  refine ⟨u * w0 + w * w1 + k0 * w2 + k1 * w3, by omega, ?_⟩
  unfold pvv
  rw [eu, ew, e0, e1, e2, e3, f0, f1, pk_mul, pk_mul, pk_mul, pk_mul, nI_add, nI_add, nI_add]
def gaB (M : Mem) (a b : Nat) : Bool := decide (pvv M a < pvv M b ∨ (pvv M a = pvv M b ∧ (M 8 b < M 8 a ∨ (M 8 a = M 8 b ∧ b < a))))
theorem p_ga {M : Mem} (H : Inv M) {a b : Nat} (ha24 : a < 24) (ha : a < nn (M 4 0)) (hb24 : b < 24) (hb : b < nn (M 4 0)) (K : Int32 → Mem → Prop) (h : K (bi (gaB M a b)) M) : f_X9_goesAhead (nI a) (nI b) (M 1 0) M K := by
  have hva : vp_in (nI a) 24 := vin_nI ha24 (by decide)
  have hvb : vp_in (nI b) 24 := vin_nI hb24 (by decide)
  have z0 := bz0
  have z1 := bz1
  obtain ⟨u, hu, eu⟩ := pvv_b H ha
  obtain ⟨w, hw, ew⟩ := pvv_b H hb
  have l1 : (nI u - nI w = 0) ↔ u = w := by
    constructor
    · intro z
      have : nI u = nI w := by lia
      exact (nI_eq_iff (by omega) (by omega)).mp this
    · intro z; rw [z]; lia
  have l2 : (0 ≤ nI u - nI w) ↔ w ≤ u := by
    rw [i_le, pk_sub_toInt (by omega) (by omega)]
    have e0 : (0 : Int32).toInt = 0 := rfl
    omega
  unfold f_X9_goesAhead
  refine v_pts H ha24 ha _ (v_pts H hb24 hb _ ?_)
  simp only [f_X9_goesAhead_b30, f_X9_goesAhead_b79]
  unfold gaB bi at h
  rw [nI_cl a (by omega), nI_cl b (by omega), eu, ew, l1, l2, nI_le_iff (by omega) (by omega)]
  rw [eu, ew] at h
  have l3 : (nI u < nI w) ↔ u < w := nI_lt_iff (by omega) (by omega)
  have l4 : (nI u = nI w) ↔ u = w := nI_eq_iff (by omega) (by omega)
  simp only [l3, l4, decide_eq_true_eq] at h
  clear H
  grind
theorem q_ga {M : Mem} (H : Inv M) {a b : Nat} (ha24 : a < 24) (hb24 : b < 24) {M' : Mem} (hE : Eqm M M') (K : Int32 → Mem → Prop) (h : K (bi (gaB M a b)) M') : f_X12_goesAhead (nI a) (nI b) M' K := by
  have hva : vp_in (nI a) 24 := vin_nI ha24 (by decide)
  have hvb : vp_in (nI b) 24 := vin_nI hb24 (by decide)
  have z0 := bz0
  have z1 := bz1
  unfold f_X12_goesAhead
  refine q_pts H ha24 hE _ (q_pts H hb24 hE _ ?_)
  rw [nI_cl a (by omega), nI_cl b (by omega), hE 291 (by decide), show M 291 = M 8 from H.P.2.2.2.2.2.1, nI_le_iff (by omega) (by omega)]
  refine ⟨fun c => ?_, fun c => q_pts H ha24 hE _ (q_pts H hb24 hE _ ?_)⟩
  · simp only [f_X12_goesAhead_b80]
    unfold gaB bi at h
    simp only [decide_eq_true_eq] at h
    clear H
    grind
  · simp only [f_X12_goesAhead_b31]
    unfold gaB bi at h
    simp only [decide_eq_true_eq] at h
    clear H
    grind
/-- who goes ahead of p in a shop -/
def ahB (M : Mem) (s : Int32) (p o : Nat) : Bool := decide (¬ o = p ∧ ¬ M 6 o = 0 ∧ M 5 o = s ∧ gaB M o p = true)
theorem t_cntA {M : Mem} (H : Inv M) {p n : Nat} (hn : n ≤ 24) (e : M 4 0 = nI n) (hp : p < n) (K : Int32 → Mem → Prop) (h : K (nI (cntB (ahB M (M 5 p) p) n)) M) : f_X9_countAhead (nI p) (M 1 0) M K := by
  have hvp : vp_in (nI p) 24 := vin_nI (by omega) (by decide)
  unfold f_X9_countAhead
  refine Lp.up (fun q a => a = (nI p, M 1 0, nI (cntB (ahB M (M 5 p) p) q), nI q, M)) n (fun q a r hq ha hr => ?_) (j := 0) (by omega) rfl
  subst ha
  simp only [f_X9_countAhead_c5, f_X9_countAhead_b60]
  rw [e, nI_le_iff (by omega) (by omega), nI_cl q (by omega), nI_cl p (by omega), nI_eq_iff (by omega) (by omega)]
  refine ⟨fun c => by rw [show q = n by omega]; exact h, fun c => ?_⟩
  have hv : vp_in (nI q) 24 := vin_nI (by omega) (by decide)
  have g := p_ga H (show q < 24 by omega) (by rw [e, nn_nI n (by omega)]; omega) (show p < 24 by omega) (by rw [e, nn_nI n (by omega)]; exact hp)
  have hr2 := hr (by omega) _ rfl
  have hs : nI (cntB (ahB M (M 5 p) p) (q + 1)) = if ahB M (M 5 p) p q = true then nI (cntB (ahB M (M 5 p) p) q) + 1 else nI (cntB (ahB M (M 5 p) p) q) := by
    split
    · exact cnt_s1 (by assumption)
    · exact cnt_s0 (by simpa using (by assumption : ¬ ahB M (M 5 p) p q = true))
  rw [hs] at hr2
  have hx : ahB M (M 5 p) p q = true ↔ (¬ q = p ∧ ¬ M 6 q = 0 ∧ M 5 q = M 5 p ∧ gaB M q p = true) := by unfold ahB; exact decide_eq_true_iff
  rw [nI_1]
  unfold bi at g
  generalize ahB M (M 5 p) p q = x at *
  generalize gaB M q p = y at *
  clear H h hs hr
  grind
def fsN (P : Nat → Bool) : Nat → Nat → Int32
  | 0, _ => -9
  | k + 1, q => if P q = true then nI q else fsN P k (q + 1)
def goP (M : Mem) (s b i : Int32) (p : Nat) : Bool := decide (¬ M 6 p = 0 ∧ M 5 p = s ∧ nI (cntB (ahB M s p) (nn (M 4 0))) = i ∧ i < b)
theorem fsN_no {P : Nat → Bool} (h : ∀ q, P q = false) : ∀ k q, fsN P k q = -9
  | 0, _ => rfl
  | k + 1, q => by
    unfold fsN
    rw [h q]
    exact fsN_no h k (q + 1)
theorem t_goA {M : Mem} (H : Inv M) {n : Nat} (hn : n ≤ 24) (e : M 4 0 = nI n) (s b i : Int32) (hib : i < b) (K : Int32 → Mem → Prop) (h : K (fsN (goP M s b i) n 0) M) : f_X9_goingAt s i (M 1 0) M K := by
  unfold f_X9_goingAt
  refine Lp.up (fun q a => K (fsN (goP M s b i) (n - q) q) M ∧ a = (s, i, M 1 0, nI q, M)) n (fun q a r hq ha hr => ?_) (j := 0) (by omega) ⟨h, rfl⟩
  obtain ⟨hk, rfl⟩ := ha
  simp only [f_X9_goingAt_c3, f_X9_goingAt_b47]
  rw [e, nI_le_iff (by omega) (by omega), nI_cl q (by omega)]
  refine ⟨fun c => by rw [show n - q = 0 by omega] at hk; exact hk, fun c => ?_⟩
  have hv : vp_in (nI q) 24 := vin_nI (by omega) (by decide)
  have g := t_cntA H hn e (show q < n by omega)
  rw [show n - q = (n - (q + 1)) + 1 by omega] at hk
  unfold fsN at hk
  have hr2 := fun z => hr (by omega) (s, i, M 1 0, nI (q + 1), M) ⟨z, rfl⟩
  have hx : goP M s b i q = true ↔ (¬ M 6 q = 0 ∧ M 5 q = s ∧ nI (cntB (ahB M s q) n) = i ∧ i < b) := by unfold goP; rw [e, nn_nI n (by omega)]; exact decide_eq_true_iff
  rw [nI_1]
  generalize goP M s b i q = x at *
  clear H h hr
  grind
theorem t_goM {M : Mem} (H : Inv M) {n : Nat} (hn : n ≤ 24) (e : M 4 0 = nI n) (s b i : Int32) {M' : Mem} (hE : Eqm M M') (K : Int32 → Mem → Prop) (h : K (fsN (goP M s b i) n 0) M') :
    Lp (fun (r40 : Int32 × Int32 × Int32 × Int32 × Mem → Prop) a => f_X12_goes_c40 K r40 a.1 a.2.1 a.2.2.1 a.2.2.2.1 a.2.2.2.2) (s, b, i, 0, M') := by
  refine Lp.up (fun q a => K (fsN (goP M s b i) (n - q) q) M' ∧ a = (s, b, i, nI q, M')) n (fun q a r hq ha hr => ?_) (j := 0) (by omega) ⟨h, rfl⟩
  obtain ⟨hk, rfl⟩ := ha
  simp only [f_X12_goes_c40]
  rw [hE 287 (by decide), H.P.1, e, nI_le_iff (by omega) (by omega)]
  refine ⟨fun c => by rw [show n - q = 0 by omega] at hk; exact hk, fun c => ?_⟩
  have hvq : vp_in (nI q) 24 := vin_nI (by omega) (by decide)
  have h6 : ∀ j, j < n → (M 6 j = if M 294 j = 0 then 1 else 0) := fun j hj => H.P.2.2.2.2.2.2.2.1 j (by rw [e, nn_nI n (by omega)]; exact hj)
  rw [show n - q = (n - (q + 1)) + 1 by omega] at hk
  unfold fsN at hk
  have hr2 := fun z => hr (by omega) (s, b, i, nI (q + 1), M') ⟨z, rfl⟩
  have hx : goP M s b i q = true ↔ (¬ M 6 q = 0 ∧ M 5 q = s ∧ nI (cntB (ahB M s q) n) = i ∧ i < b) := by unfold goP; rw [e, nn_nI n (by omega)]; exact decide_eq_true_iff
  have h6q := h6 q (by omega)
  have e5 : M' 289 = M 5 := by rw [hE 289 (by decide)]; exact H.P.2.2.2.1
  have e94 : M' 294 = M 294 := hE 294 (by decide)
  have eP : M' 287 2 = nI n := by rw [hE 287 (by decide), H.P.1, e]
  refine Lp.up (fun u a => a = (s, b, i, nI q, nI (cntB (ahB M s q) u), nI u, M')) n (fun u a r2 hu ha2 hr3 => ?_) (j := 0) (by omega) rfl
  subst ha2
  simp only [f_X12_goes_c55, f_X12_goes_b109, f_X12_goes_b110, f_X12_goes_b154]
  rw [eP, nI_le_iff (by omega) (by omega), nI_cl q (by omega), nI_cl u (by omega), nI_eq_iff (by omega) (by omega), e5, e94]
  refine ⟨fun c2 => ?_, fun c2 => ?_⟩
  · rw [show u = n by omega, nI_1]
    have hlt : ¬ b ≤ i ↔ i < b := lt_nle.symm
    generalize goP M s b i q = x at *
    clear H h hr hr3 h6
    grind
  · have hvu : vp_in (nI u) 24 := vin_nI (by omega) (by decide)
    have g := q_ga H (show u < 24 by omega) (show q < 24 by omega) hE
    have hr4 := hr3 (by omega) _ rfl
    have h6u := h6 u (by omega)
    have hs : nI (cntB (ahB M s q) (u + 1)) = if ahB M s q u = true then nI (cntB (ahB M s q) u) + 1 else nI (cntB (ahB M s q) u) := by
      split
      · exact cnt_s1 (by assumption)
      · exact cnt_s0 (by simpa using (by assumption : ¬ ahB M s q u = true))
    rw [hs] at hr4
    have hx2 : ahB M s q u = true ↔ (¬ u = q ∧ ¬ M 6 u = 0 ∧ M 5 u = s ∧ gaB M u q = true) := by unfold ahB; exact decide_eq_true_iff
    rw [nI_1, add0]
    unfold bi at g
    generalize ahB M s q u = x at *
    generalize gaB M u q = y at *
    clear H h hs hr hr3 hx hk h6
    grind
def cpoints (M : Mem) (a : Int32) : Int32 := if ¬ (0 ≤ a ∧ a ≤ M 4 0 - 1) then -1 else 0
theorem C_points {M : Mem} (H : Inv M) (a : Int32) {K : Int32 → Mem → Prop} (k1 : isR (cpoints M a) → K (cpoints M a) (rfC M (cpoints M a)))
    (k2 : (cpoints M a) = 0 → K (pvv M (nn a)) M) : f_X11_points a M K := by
  simp only [f_X11_points, v_X9_has H.P.2.1 H.P.2.2.1]
  unfold cpoints at k1 k2
  unfold isR at k1
  have e2 : ∀ x l g : Int32, inB x l g = if l ≤ x ∧ x ≤ g then 1 else 0 := fun _ _ _ => rfl
  rw [e2]
  by_cases c1 : 0 ≤ a ∧ a ≤ M 4 0 - 1
  · obtain ⟨p, rfl, hp, hp2⟩ := H.peo c1
    have g1 := v_pts H hp hp2
    rw [nn_nI p (by omega)] at k2
    generalize pvv M p = x at *
    clear H
    grind
  · clear k2; grind [x1]
theorem M_points {M : Mem} (H : Inv M) (a : Int32) {M' : Mem} (hE : Eqm M M') {K : Int32 → Mem → Prop} (k1 : isR (cpoints M a) → K (cpoints M a) (rfM M' (cpoints M a)))
    (k2 : (cpoints M a) = 0 → K (pvv M (nn a)) M') : f_X12_points a M' K := by
  simp only [f_X12_points, f_X12_points_b21, v_X12_isPerson]
  rw [hE 287 (by decide), H.P.1]
  unfold cpoints at k1 k2
  unfold isR at k1
  have e2 : ∀ x l g : Int32, inB x l g = if l ≤ x ∧ x ≤ g then 1 else 0 := fun _ _ _ => rfl
  rw [e2]
  by_cases c1 : 0 ≤ a ∧ a ≤ M 4 0 - 1
  · obtain ⟨p, rfl, hp, hp2⟩ := H.peo c1
    have g1 := q_pts H hp hE
    rw [nn_nI p (by omega)] at k2
    generalize pvv M p = x at *
    clear H hE
    grind
  · clear k2; grind [y1]
theorem P_points {M : Mem} (H : Inv M) (a : Int32) : f_X11_points a M (fun r M1 => f_X12_points a M1 (fun r' M2 => r' = r ∧ Inv M2)) :=
  C_points H a (fun hz => M_points H a (Eqm.rfC M _) (fun _ => ⟨rfl, i_rf H _⟩) (fun h0 => absurd h0 (nR0 hz)))
    (fun h0 => M_points H a (Eqm.refl M) (fun hz => absurd h0 (nR0 hz)) (fun _ => ⟨rfl, H⟩))
def cgoes (M : Mem) (a b c : Int32) : Int32 := if ¬ (0 ≤ a ∧ a ≤ 5) then -1 else if ¬ 0 ≤ b then -4 else if ¬ b ≤ 24 then -6 else 0
theorem C_goes {M : Mem} (H : Inv M) (a b c : Int32) {K : Int32 → Mem → Prop} (k1 : isR (cgoes M a b c) → K (cgoes M a b c) (rfC M (cgoes M a b c)))
    (k2 : (cgoes M a b c) = 0 → K (fsN (goP M a b c) (nn (M 4 0)) 0) M) : f_X11_goes a b c M K := by
  obtain ⟨n, hn, en⟩ := nat_of (n := 24) H.P.2.1 H.P.2.2.1 (by decide)
  simp only [f_X11_goes, f_X11_goes_b43, f_X11_goes_b64, v_X11_isShop, v_X11_outside]
  unfold cgoes at k1 k2
  unfold isR at k1
  have e2 : ∀ x l g : Int32, inB x l g = if l ≤ x ∧ x ≤ g then 1 else 0 := fun _ _ _ => rfl
  rw [e2]
  rw [en, nn_nI n (by omega)] at k2
  have g1 := fun q => t_goA H hn en a b c q
  have g2 : ¬ (0 ≤ c ∧ c < b) → fsN (goP M a b c) n 0 = -9 := fun q => fsN_no (fun p => by
    unfold goP
    refine decide_eq_false (fun z => q ⟨?_, z.2.2.2⟩)
    rw [← z.2.2.1]
    exact nI_pos' (by have := cntB_le (ahB M a p) (nn (M 4 0)); rw [en, nn_nI n (by omega)] at this ⊢; omega)) n 0
  generalize fsN (goP M a b c) n 0 = x at *
  clear H
  grind [x1, x4, x6, outs]
theorem M_goes {M : Mem} (H : Inv M) (a b c : Int32) {M' : Mem} (hE : Eqm M M') {K : Int32 → Mem → Prop} (k1 : isR (cgoes M a b c) → K (cgoes M a b c) (rfM M' (cgoes M a b c)))
    (k2 : (cgoes M a b c) = 0 → K (fsN (goP M a b c) (nn (M 4 0)) 0) M') : f_X12_goes a b c M' K := by
  obtain ⟨n, hn, en⟩ := nat_of (n := 24) H.P.2.1 H.P.2.2.1 (by decide)
  simp only [f_X12_goes, v_X12_isShop]
  unfold cgoes at k1 k2
  unfold isR at k1
  have e2 : ∀ x l g : Int32, inB x l g = if l ≤ x ∧ x ≤ g then 1 else 0 := fun _ _ _ => rfl
  rw [e2]
  rw [en, nn_nI n (by omega)] at k2
  have g1 := t_goM H hn en a b c hE K
  generalize fsN (goP M a b c) n 0 = x at *
  generalize Lp (fun (r40 : Int32 × Int32 × Int32 × Int32 × Mem → Prop) a => f_X12_goes_c40 K r40 a.1 a.2.1 a.2.2.1 a.2.2.2.1 a.2.2.2.2) (a, b, c, 0, M') = LL at *
  clear H hE
  grind [y1, y4, y6]
theorem P_goes {M : Mem} (H : Inv M) (a b c : Int32) : f_X11_goes a b c M (fun r M1 => f_X12_goes a b c M1 (fun r' M2 => r' = r ∧ Inv M2)) :=
  C_goes H a b c (fun hz => M_goes H a b c (Eqm.rfC M _) (fun _ => ⟨rfl, i_rf H _⟩) (fun h0 => absurd h0 (nR0 hz)))
    (fun h0 => M_goes H a b c (Eqm.refl M) (fun hz => absurd h0 (nR0 hz)) (fun _ => ⟨rfl, H⟩))
