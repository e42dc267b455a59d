/-! THE LAW's pure part: what its calls do to a memory. First: cells of the script, texts, acts, terms -/
theorem v_cell {L : Nat} {xs : Nat → Int32} (hL : L ≤ 260) {k : Nat} (hk : k < 1000) {M : Mem} {K : Int32 → Mem → Prop} (h : ∀ v, K v M) : f_L_cell L xs (nI k) M K := by
  unfold f_L_cell f_L_cell_b18
  refine ⟨fun _ => h _, fun c => ⟨vin_nI ?_ (by omega), h _⟩⟩
  rw [nI_le_iff (by omega) (by omega)] at c
  omega
/-- the bytes of text a -/
def TB (a : Nat) (q : Nat) : Int32 := match q with
  | 0 => 65 + nI a
  | 1 => 49 + nI a
  | 2 => 58
  | 3 => 109
  | 4 => 62
  | _ => 52
def accT (a : Nat) : Nat → Int64
  | 0 => 0
  | j + 1 => (accT a j <<< ((8 : Int32).toInt64 &&& 63)) ||| (TB a (5 - j)).toInt64
theorem acc_b : ∀ a : Fin 4, ∀ q : Fin 6, vp_nar .byte ((accT a.val 6 >>> (((8 : Int32) * nI q.val).toInt64 &&& 63)).toInt32.toInt8.toInt32) = TB a.val q.val := by decide +kernel
theorem acc_b' {a q : Nat} (ha : a < 4) (hq : q < 6) : vp_nar .byte ((accT a 6 >>> (((8 : Int32) * nI q).toInt64 &&& 63)).toInt32.toInt8.toInt32) = TB a q := acc_b ⟨a, ha⟩ ⟨q, hq⟩
theorem TB_ok : ∀ a, a < 4 → (rle (sgn (TB a) 6) 61 3 [fmZ]).2.1 = false := by decide +kernel
theorem TB_r : ∀ a, a < 4 → 65 ≤ TB a 0 ∧ TB a 0 ≤ 72 ∧ 48 ≤ TB a 1 ∧ TB a 1 ≤ 52 := by decide +kernel
theorem TB_255 : ∀ a : Fin 4, ∀ q : Fin 6, TB a.val q.val &&& 255 = TB a.val q.val := by decide +kernel
theorem okT {a : Nat} (ha : a < 4) {M : Mem} {tx : Nat} (h : ∀ q, q < 6 → M tx q = TB a q) : okR (txT M tx) 6 := by
  refine okR_eq (t := TB a) (fun q hq => ?_) ?_
  · show _ = M tx q &&& 255
    rw [h q hq]
    exact (TB_255 ⟨a, ha⟩ ⟨q, hq⟩).symm
  · obtain ⟨h1, h2, h3, h4⟩ := TB_r a ha
    have h5 := TB_ok a ha
    unfold okR
    exact ⟨by decide, h1, h2, h3, h4, rfl, h5⟩
/-- a text of six bytes comes behind an empty one -/
theorem w_feed6 {a : Nat} (ha : a < 4) {M : Mem} (hs : M 15 0 = nI a) (hl : M 42 a = 0) {K : Int32 → Mem → Prop}
    (h : ∀ M' : Mem, (∀ c, c ≠ 17 + a → c ≠ 42 → M' c = M c) → M' 42 = upd (M 42) a 6 → (∀ q, q < 6 → M' (17 + a) q = TB a q) → K 6 M') : f_X11_feed 6 (accT a 6) M K := by
  unfold f_X11_feed f_X0_fed
  have hv : vp_in (nI a) 25 := vin_nI (by omega) (by decide)
  have hna : (nI a).toNatClampNeg = a := nI_cl a (by omega)
  rw [hs, hna, hl]
  refine ⟨fun _ => ⟨fun z => absurd z (by decide), fun _ => ⟨hv, fun _ => ?_, fun z => absurd (by decide) z⟩⟩, fun z => absurd (by decide) z⟩
  unfold f_X0_feedText
  refine Lp.up (fun j x => ∃ M' : Mem, x = (6, accT a 6, nI j, M') ∧ (∀ c, c ≠ 17 + a → c ≠ 42 → M' c = M c) ∧ M' 42 = upd (M 42) a (nI j) ∧ ∀ q, q < j → M' (17 + a) q = TB a q) 6 (fun j x r hj hx hr => ?_) (j := 0) (by omega) ⟨M, rfl, fun _ _ _ => rfl, ?_, fun q hq => absurd hq (by omega)⟩
  · obtain ⟨M', rfl, g1, g2, g3⟩ := hx
    have e15 : M' 15 0 = nI a := by rw [g1 15 (by omega) (by decide)]; exact hs
    have e42 : M' 42 a = nI j := by rw [g2, upd_s]
    unfold f_X0_feedText_c3 f_X0_feedText_b77
    dsimp only
    have l6 : ((6 : Int32) ≤ nI j) ↔ 6 ≤ j := nI_le_iff (a := 6) (by decide) (by omega)
    have l8 : ((8 : Int32) ≤ nI j) ↔ 8 ≤ j := nI_le_iff (a := 8) (by decide) (by omega)
    have l60 : ((60 : Int32) ≤ nI j) ↔ 60 ≤ j := nI_le_iff (a := 60) (by decide) (by omega)
    have m15 : ∀ v, mset M' (17 + 1 * a) j v 15 = M' 15 := fun v => mset_ne _ _ _ (by omega)
    have m42 : ∀ v, mset M' (17 + 1 * a) j v 42 = M' 42 := fun v => mset_ne _ _ _ (by omega)
    simp only [e15, hna, e42, m15, m42, nI_cl j (show j < 2147483648 by omega), l6, l8, l60, nI_1]
    refine ⟨fun c => ⟨hv, ?_⟩, fun c => ⟨fun c2 => absurd c2 (by omega), fun _ => ⟨hv, fun c3 => absurd c3 (by omega), fun _ => ⟨hv, hv, vin_nI (by omega) (by decide), hv, hv, ?_⟩⟩⟩⟩
    · have e : j = 6 := by omega
      subst e
      exact h M' g1 g2 g3
    · refine hr (by omega) _ ⟨_, rfl, fun c h1 h2 => ?_, ?_, fun q hq => ?_⟩
      · rw [mset_ne _ _ _ h2, mset_ne _ _ _ (by omega)]
        exact g1 c h1 h2
      · rw [mset_row, m42, g2]
        funext i
        simp only [upd_at]
        split <;> rfl
      · rw [mset_ne _ _ _ (by omega)]
        by_cases e : q = j
        · subst e
          rw [Nat.one_mul, mset_eq]
          exact acc_b' ha (by omega)
        · rw [Nat.one_mul, mset_nk _ _ _ e]
          exact g3 q (by omega)
  · funext i
    rw [upd_at]
    split
    · subst_vars; exact hl
    · rfl
set_option maxHeartbeats 1000000 in
/-- the law's own feed -/
theorem w_feed {a tx : Nat} (ha : a < 4) {M : Mem} (hb : ∀ q, q < 6 → M tx q = TB a q) (hs : M 15 0 = nI a) (hl : M 42 a = 0) {K : Int32 → Mem → Prop}
    (h : ∀ M' : Mem, (∀ c, c ≠ 17 + a → c ≠ 42 → M' c = M c) → M' 42 = upd (M 42) a 6 → (∀ q, q < 6 → M' (17 + a) q = TB a q) → K 6 M') : f_L_feed tx 6 M K := by
  unfold f_L_feed
  refine Lp.up (fun j x => (j = 0 ∧ x = (6, 0, 0, M)) ∨ (j = 1 ∧ ∃ M' : Mem, K 6 M' ∧ x = (6, 6, 8, M'))) 1 (fun j x r hj hx hr => ?_) (j := 0) (by omega) (Or.inl ⟨rfl, rfl⟩)
  unfold f_L_feed_c5
  rcases hx with ⟨rfl, rfl⟩ | ⟨rfl, M', hK, rfl⟩ <;> dsimp only
  · refine ⟨fun z => absurd z (by decide), fun _ => ⟨fun z => absurd z (by decide), fun _ => ?_⟩⟩
    unfold f_L_feed_b32
    refine Lp.up (fun i y => y = ((6 : Int32), (0 : Int32), accT a i, (6 : Int32), nI (6 - i) - 1, M)) 6 (fun i y r' hi hy hr' => ?_) (j := 0) (by omega) rfl
    subst hy
    unfold f_L_feed_c40
    dsimp only
    by_cases e : i = 6
    · subst e
      refine ⟨fun _ => w_feed6 ha hs hl (fun M' g1 g2 g3 => ?_), fun z => absurd (by decide) z⟩
      exact hr (by omega) _ (Or.inr ⟨rfl, M', h M' g1 g2 g3, rfl⟩)
    · obtain ⟨k, hk⟩ : ∃ k, 6 - i = k + 1 := ⟨5 - i, by omega⟩
      rw [hk, nI_pred k]
      refine ⟨fun z => absurd z (by rw [lt_nle]; exact fun y => y (nI_pos' (by omega))), fun _ => ?_⟩
      rw [show (0 : Int32) + nI k = nI k from by rw [show (0 : Int32) = nI 0 from rfl, nI_add, Nat.zero_add], nI_cl k (by omega), hb k (by omega)]
      refine ⟨vin_nI (by omega) (by decide), hr' (by omega) _ ?_⟩
      rw [show 6 - (i + 1) = k by omega, x_m1]
      show _ = (6, 0, (accT a i <<< ((8 : Int32).toInt64 &&& 63)) ||| (TB a (5 - i)).toInt64, 6, nI k - 1, M)
      rw [show 5 - i = k by omega]
  · exact ⟨fun _ => hK, fun z => absurd (by decide) z⟩
/-- the text is taken as act a -/
theorem w_act {a : Nat} (ha : a < 4) {M : Mem} (hd : M 1 0 = 0) (hs : M 15 0 = nI a) (hl : M 42 a = 6) (hb : ∀ q, q < 6 → M (17 + a) q = TB a q) {K : Int32 → Mem → Prop}
    (h : ∀ M' : Mem, (∀ c, c ≠ 15 → c ≠ 42 → c ≠ 43 → c ≠ 44 → c ≠ 45 → c ≠ 48 → c ≠ 49 → c ≠ 50 → M' c = M c) → M' 15 = upd (M 15) 0 (nI (a + 1)) → M' 42 = upd (M 42) (a + 1) 0 → K (nI a) M') : f_X11_act 0 M K := by
  unfold f_X11_act
  have hv : vp_in (nI a) 25 := vin_nI (by omega) (by decide)
  have hna : (nI a).toNatClampNeg = a := nI_cl a (by omega)
  have hf : ful (nI a) 24 = 0 := ful_0.mpr (by rw [show (24 : Int32) = nI 24 from rfl, nI_le_iff (by omega) (by omega)]; omega)
  rw [v_X11_outside, hd, v_X11_fullAt, v_X11_worse, hs, hf, show outs 0 0 1000 = 0 from rfl, show wors 0 0 = 0 from rfl]
  refine ⟨fun _ => ?_, fun z => absurd rfl z⟩
  unfold f_X0_faultOfText
  rw [hs, hna, hl, Nat.one_mul]
  refine ⟨hv, hv, c_faultOf (n := 6) (by omega) (by omega) (by decide) (fun M5 g1 _ => ?_)⟩
  rw [(okR_flt (by decide)).mp (okT ha hb)]
  have e15 : M5 15 0 = nI a := by rw [g1 15 (by decide) (by decide) (by decide) (by decide)]; exact hs
  refine ⟨fun _ => ?_, fun z => absurd rfl z⟩
  unfold f_X0_takeText
  rw [e15, hna, nI_1, nI_cl (a + 1) (by omega), nI_pred]
  refine ⟨fun _ => ⟨vin_nI (by omega) (by decide), vin_nI (by omega) (by decide), vin_nI (by omega) (by decide), h _ (fun c c1 c2 c3 c4 c5 c6 c7 c8 => ?_) ?_ ?_⟩, fun z => absurd ((nI_lt_iff (b := 24) (by omega) (by omega)).mpr (by omega)) z⟩
  · rw [mset_ne _ _ _ c2, mset_ne _ _ _ c1, mset_ne _ _ _ c4, mset_ne _ _ _ c3, g1 c c5 c6 c7 c8]
  · rw [mset_ne _ _ _ (by decide), mset_row, mset_ne _ _ _ (by decide), mset_ne _ _ _ (by decide), g1 15 (by decide) (by decide) (by decide) (by decide)]
  · rw [mset_row, mset_ne _ _ _ (by decide), mset_ne _ _ _ (by decide), mset_ne _ _ _ (by decide), g1 42 (by decide) (by decide) (by decide) (by decide)]
/-- a term is told -/
theorem w_term {k w : Nat} (hk : k < 5) (hw : w < 2) {M : Mem} {v : Int32} (h0 : 0 ≤ v) (h1 : v ≤ 30) {K : Int32 → Mem → Prop} (h : K (M (119 + k) w) (mset M (119 + k) w v)) : f_X11_term (nI k) (nI w) v M K := by
  unfold f_X11_term
  have e5 : ((5 : Int32) ≤ nI k) ↔ 5 ≤ k := nI_le_iff (a := 5) (by decide) (by omega)
  have e2 : (nI w ≤ (2 : Int32)) ↔ w ≤ 2 := nI_le_iff (b := 2) (by omega) (by decide)
  have p1 : ¬ nI k < 0 := by rw [lt_nle]; exact fun y => y (nI_pos' (by omega))
  have p2 : ¬ nI w < 0 := by rw [lt_nle]; exact fun y => y (nI_pos' (by omega))
  have ho : outs v 0 (sv 0 w) = 0 := outs_0.mpr ⟨h0, by
    rcases (show w = 0 ∨ w = 1 by omega) with rfl | rfl
    · exact Int32.le_trans h1 (by decide)
    · exact h1⟩
  rw [e5, e2, nI_cl w (by omega), nI_cl k (by omega), v_X11_outside, ho, Nat.one_mul]
  have hv5 : vp_in (nI k) 5 := vin_nI hk (by decide)
  have hv3 : vp_in (nI w) 3 := vin_nI (by omega) (by decide)
  exact ⟨fun z => absurd z p1, fun _ => ⟨fun z => absurd z (by omega), fun _ => ⟨fun z => absurd z p2, fun _ => ⟨fun _ => ⟨hv3, fun _ => ⟨hv5, hv3, hv5, hv3, h⟩, fun z => absurd rfl z⟩, fun z => absurd (by omega) z⟩⟩⟩⟩
