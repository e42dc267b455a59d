/-! feed -/
theorem b255 : ∀ i, i < 32 → (255#32).getLsbD i = decide (i < 8) := by decide
theorem b255w : ∀ i, i < 32 → (255#64).getLsbD i = decide (i < 8) := by decide
theorem byt_v (y : Int64) : by8 (vp_nar .byte y.toInt32.toInt8.toInt32) = (y &&& 255).toInt32 := by
  unfold by8
  rw [vp_nar_byte]
  apply Int32.toBitVec_inj.mp
  apply BitVec.eq_of_getLsbD_eq
  intro i hi
  simp only [Int32.toBitVec_and, Int8.toBitVec_toInt32, Int32.toBitVec_toInt8, Int64.toBitVec_toInt32, Int64.toBitVec_and, BitVec.getLsbD_and, BitVec.getLsbD_setWidth, BitVec.getLsbD_signExtend]
  rw [show (255 : Int32).toBitVec = 255#32 from rfl, show (255 : Int64).toBitVec = 255#64 from rfl, b255 i hi, b255w i hi]
  have h64 : i < 64 := by omega
  by_cases c : i < 8
  · simp [c, hi, h64]
  · simp [c, h64]
theorem byt_r (x : Int32) : -128 ≤ vp_nar .byte x ∧ vp_nar .byte x ≤ 127 := by
  rw [vp_nar_byte]
  have h1 := Int8.le_toInt x.toInt8
  have h2 := Int8.toInt_le x.toInt8
  rw [i_le, i_le, Int8.toInt_toInt32]
  have e1 : (-128 : Int32).toInt = -128 := rfl
  have e2 : (127 : Int32).toInt = 127 := rfl
  have e3 : Int8.maxValue.toInt = 127 := rfl
  have e4 : Int8.minValue.toInt = -128 := rfl
  omega
def fdC (M : Mem) (nb sz : Nat) (g : Nat → Int32) (j : Nat) : Mem := mset (mput M (17 + nb) (fun k => if sz ≤ k ∧ k < sz + j then g (k - sz) else M (17 + nb) k)) 42 nb (nI (sz + j))
def fdM (M : Mem) (sz : Nat) (g : Nat → Int32) (j : Nat) : Mem := mset (mput M 296 (fun k => if sz ≤ k ∧ k < sz + j then g (k - sz) else M 296 k)) 287 11 (nI (sz + j))
theorem fdC_0 {M : Mem} {nb sz : Nat} (h : M 42 nb = nI sz) (g : Nat → Int32) : fdC M nb sz g 0 = M := by
  unfold fdC
  rw [show (fun k => if sz ≤ k ∧ k < sz + 0 then g (k - sz) else M (17 + nb) k) = M (17 + nb) from funext fun k => if_neg (by omega), mput_id]
  exact mset_same h
theorem fdM_0 {M : Mem} {sz : Nat} (h : M 287 11 = nI sz) (g : Nat → Int32) : fdM M sz g 0 = M := by
  unfold fdM
  rw [show (fun k => if sz ≤ k ∧ k < sz + 0 then g (k - sz) else M 296 k) = M 296 from funext fun k => if_neg (by omega), mput_id]
  exact mset_same h
theorem fdC_s (M : Mem) {nb : Nat} (hn : nb < 25) (sz : Nat) (g : Nat → Int32) (j : Nat) : mset (mset (fdC M nb sz g j) (17 + nb) (sz + j) (g j)) 42 nb (nI (sz + j) + 1) = fdC M nb sz g (j + 1) := by
  unfold fdC
  rw [nI_1]
  funext c k
  by_cases h1 : c = 42
  · subst h1
    rw [mset_row, mset_row, mset_ne _ _ _ (by omega), mset_row, mput_n _ _ (by omega), mput_n _ _ (by omega)]
    simp only [upd_at]
    split <;> rfl
  · rw [mset_ne _ _ _ h1, mset_ne _ _ _ h1]
    by_cases h2 : c = 17 + nb
    · subst h2
      rw [mset_row, mset_ne _ _ _ (by omega), mput_s, mput_s, upd_at]
      by_cases h3 : k = sz + j
      · subst h3; rw [if_pos rfl, if_pos (by omega), show sz + j - sz = j by omega]
      · rw [if_neg h3]
        by_cases h4 : sz ≤ k ∧ k < sz + j
        · rw [if_pos h4, if_pos (by omega)]
        · rw [if_neg h4, if_neg (by omega)]
    · rw [mset_ne _ _ _ h2, mset_ne _ _ _ h1, mput_n _ _ h2, mput_n _ _ h2]
theorem fdM_s (M : Mem) (sz : Nat) (g : Nat → Int32) (j : Nat) : mset (mset (fdM M sz g j) 296 (sz + j) (g j)) 287 11 (nI (sz + j) + 1) = fdM M sz g (j + 1) := by
  unfold fdM
  rw [nI_1]
  funext c k
  by_cases h1 : c = 287
  · subst h1
    rw [mset_row, mset_row, mset_ne _ _ _ (by decide), mset_row, mput_n _ _ (by decide), mput_n _ _ (by decide)]
    simp only [upd_at]
    split <;> rfl
  · rw [mset_ne _ _ _ h1, mset_ne _ _ _ h1]
    by_cases h2 : c = 296
    · subst h2
      rw [mset_row, mset_ne _ _ _ (by decide), mput_s, mput_s, upd_at]
      by_cases h3 : k = sz + j
      · subst h3; rw [if_pos rfl, if_pos (by omega), show sz + j - sz = j by omega]
      · rw [if_neg h3]
        by_cases h4 : sz ≤ k ∧ k < sz + j
        · rw [if_pos h4, if_pos (by omega)]
        · rw [if_neg h4, if_neg (by omega)]
    · rw [mset_ne _ _ _ h2, mset_ne _ _ _ h1, mput_n _ _ h2, mput_n _ _ h2]
def fbC (x : Int64) (j : Nat) : Int32 := vp_nar .byte ((x >>> (((8 : Int32) * nI j).toInt64 &&& 63)).toInt32.toInt8.toInt32)
def fbM (x : Int64) (j : Nat) : Int32 := ((x >>> (((8 : Int32) * nI j).toInt64 &&& 63)) &&& (255 : Int64)).toInt32
theorem C_fed {M : Mem} {nb sz m : Nat} (hn : nb ≤ 24) (en : M 15 0 = nI nb) (es : M 42 nb = nI sz) (hm : m ≤ 8) (hs : sz + m ≤ 60) (x : Int64) {K : Int32 → Mem → Prop} (hK : K (nI (sz + m)) (fdC M nb sz (fbC x) m)) : f_X0_feedText (nI m) x M K := by
  unfold f_X0_feedText
  refine Lp.up (fun j a => a = (nI m, x, nI j, fdC M nb sz (fbC x) j)) m (fun j a r hj ha hr => ?_) (j := 0) (by omega) (by rw [fdC_0 es]; rfl)
  subst ha
  unfold f_X0_feedText_c3 f_X0_feedText_b77
  dsimp only
  have e15 : ∀ j, fdC M nb sz (fbC x) j 15 0 = nI nb := fun j => by unfold fdC; rw [mset_ne _ _ _ (by decide), mput_n _ _ (by omega)]; exact en
  have e42 : fdC M nb sz (fbC x) j 42 nb = nI (sz + j) := by unfold fdC; rw [mset_eq]
  have l1 : (nI m ≤ nI j) ↔ m ≤ j := nI_le_iff (by omega) (by omega)
  have l2 : ((8 : Int32) ≤ nI j) ↔ 8 ≤ j := nI_le_iff (a := 8) (by omega) (by omega)
  have l3 : ((60 : Int32) ≤ nI (sz + j)) ↔ 60 ≤ sz + j := nI_le_iff (a := 60) (by omega) (by omega)
  have hv : vp_in (nI nb) 25 := vin_nI (by omega) (by decide)
  rw [e15, nI_cl nb (by omega), e42, l1, l2, l3, nI_cl (sz + j) (by omega), Nat.one_mul]
  have e15' : mset (fdC M nb sz (fbC x) j) (17 + nb) (sz + j) (fbC x j) 15 0 = nI nb := by rw [mset_ne _ _ _ (by omega)]; exact e15 j
  have e42' : mset (fdC M nb sz (fbC x) j) (17 + nb) (sz + j) (fbC x j) 42 nb = nI (sz + j) := by rw [mset_ne _ _ _ (by omega)]; exact e42
  have out : m ≤ j → vp_in (nI nb) 25 ∧ K (nI (sz + j)) (fdC M nb sz (fbC x) j) := fun c => by
    rw [show m = j by omega] at hK; exact ⟨hv, hK⟩
  refine ⟨out, fun c => ⟨fun c2 => absurd c2 (by omega), fun _ => ⟨hv, fun c2 => absurd c2 (by omega), fun _ => ?_⟩⟩⟩
  change vp_in (nI nb) 25 ∧ vp_in (nI nb) 25 ∧ vp_in (nI (sz + j)) 60 ∧ vp_in (mset (fdC M nb sz (fbC x) j) (17 + nb) (sz + j) (fbC x j) 15 0) 25 ∧ vp_in (mset (fdC M nb sz (fbC x) j) (17 + nb) (sz + j) (fbC x j) 15 0) 25 ∧ r (nI m, x, nI j + 1, mset (mset (fdC M nb sz (fbC x) j) (17 + nb) (sz + j) (fbC x j)) 42 (mset (fdC M nb sz (fbC x) j) (17 + nb) (sz + j) (fbC x j) 15 0).toNatClampNeg (mset (fdC M nb sz (fbC x) j) (17 + nb) (sz + j) (fbC x j) 42 (mset (fdC M nb sz (fbC x) j) (17 + nb) (sz + j) (fbC x j) 15 0).toNatClampNeg + 1))
  rw [e15', nI_cl nb (by omega), e42', fdC_s M (by omega), nI_1]
  exact ⟨hv, hv, vin_nI (by omega) (by decide), hv, hv, hr (by omega) _ rfl⟩
theorem M_fed {M : Mem} {sz m : Nat} (es : M 287 11 = nI sz) (hm : m ≤ 8) (hs : sz + m ≤ 60) (x : Int64) {K : Int32 → Mem → Prop} (hK : K (nI (sz + m)) (fdM M sz (fbM x) m)) : Lp (fun (r39 : Int32 × Int64 × Int32 × Mem → Prop) a => f_X12_feed_c39 K r39 a.1 a.2.1 a.2.2.1 a.2.2.2) (nI m, x, (0 : Int32), M) := by
  refine Lp.up (fun j a => a = (nI m, x, nI j, fdM M sz (fbM x) j)) m (fun j a r hj ha hr => ?_) (j := 0) (by omega) (by rw [fdM_0 es]; rfl)
  subst ha
  unfold f_X12_feed_c39
  dsimp only
  have e11 : fdM M sz (fbM x) j 287 11 = nI (sz + j) := by unfold fdM; rw [mset_eq]
  have l1 : (nI m ≤ nI j) ↔ m ≤ j := nI_le_iff (by omega) (by omega)
  rw [l1, e11, nI_cl (sz + j) (by omega)]
  refine ⟨fun c => by rw [show m = j by omega] at hK; exact hK, fun c => ⟨vin_nI (by omega) (by decide), ?_⟩⟩
  change r (nI m, x, nI j + 1, mset (mset (fdM M sz (fbM x) j) 296 (sz + j) (fbM x j)) 287 11 (nI (sz + j) + 1))
  rw [fdM_s, nI_1]
  exact hr (by omega) _ rfl
theorem i_feed {M : Mem} (H : Inv M) {nb sz m : Nat} (hn : nb ≤ 24) (en : M 15 0 = nI nb) (es : M 42 nb = nI sz) (hm : m ≤ 8) (hs : sz + m ≤ 60) (x : Int64) : Inv (fdM (fdC M nb sz (fbC x) m) sz (fbM x) m) := by
  unfold fdM fdC
  unfold Inv
  simp (disch := omega) only [mset_ne, mset_row, rws_ne, upd_s, upd_n, mput_n, mput_s, rws_put]
  refine ⟨H.R, H.D, H.S, H.P, H.Q, H.W, ?_, H.X, ?_, H.T, H.M, H.V, H.N, H.G, H.C, H.E, H.H, H.F, H.U, H.L, H.O, H.I, H.J, H.K⟩
  · have h := H.A
    have er : ∀ j, j ≤ nb → ∀ k, rws (mput M (17 + nb) (fun k => if sz ≤ k ∧ k < sz + m then fbC x (k - sz) else M (17 + nb) k)) 17 1 25 j k = if j = nb then (if sz ≤ k ∧ k < sz + m then fbC x (k - sz) else rws M 17 1 25 nb k) else rws M 17 1 25 j k := fun j hj k => by
      rw [rws_in _ _ _ _ (by omega), rws_in _ _ _ _ (show nb < 25 by omega), rws_in _ _ _ _ (show j < 25 by omega), Nat.one_mul, Nat.one_mul]
      by_cases c : j = nb
      · subst c; rw [if_pos rfl, mput_s]
      · rw [if_neg c, mput_n _ _ (by omega)]
    unfold gActs at h ⊢
    rw [en, nn_nI nb (by omega)] at h ⊢
    obtain ⟨a1, a2, a3, a4, a5, a6, a7, a8, a9, a10, a11⟩ := h
    rw [es, nn_nI sz (by omega)] at a10
    refine ⟨a1, a2, a3, a4, a5, fun j hj => ?_, fun j hj => ?_, ?_, fun j hj k hk => ?_, fun k hk => ?_, fun j hj => ?_⟩
    · rw [upd_at]
      split
      · exact ⟨nI_pos' (by omega), (nI_le_iff (b := 60) (by omega) (by omega)).mpr hs⟩
      · exact a6 j hj
    · rw [upd_n _ _ (by omega)]; exact a7 j hj
    · rw [upd_s]
    · rw [upd_n _ _ (by omega)] at hk
      rw [er j (by omega), if_neg (by omega)]
      exact a9 j hj k hk
    · rw [upd_s, nn_nI _ (by omega)] at hk
      rw [er nb (by omega), if_pos rfl]
      dsimp only
      by_cases c : sz ≤ k ∧ k < sz + m
      · rw [if_pos c, if_pos c]; exact (byt_v _).symm
      · rw [if_neg c, if_neg c]; exact a10 k (by omega)
    · rw [upd_n _ _ (by omega)]; exact a11 j hj
  · have h := H.B
    unfold gByt at h ⊢
    intro j k
    by_cases hj : j < 25
    · have := h j k
      rw [rws_in _ _ _ _ hj] at this ⊢
      by_cases c : 17 + 1 * j = 17 + nb
      · rw [c] at this ⊢
        rw [mput_s]
        split
        · exact byt_r _
        · exact this
      · rw [mput_n _ _ c]; exact this
    · have := h j k
      unfold rws at this ⊢
      rw [if_neg hj] at this ⊢
      exact this
theorem P_feed {M : Mem} (H : Inv M) (a : Int32) (x : Int64) : f_X11_feed a x M (fun r M1 => f_X12_feed a x M1 (fun r' M2 => r' = r ∧ Inv M2)) := by
  have hA := H.A
  unfold gActs at hA
  obtain ⟨a1, a2, a3, a4, a5, a6, a7, a8, -⟩ := hA
  obtain ⟨nb, hn, en⟩ := nat_of (n := 24) a2 a3 (by decide)
  rw [en, nn_nI nb (by omega)] at a6 a8
  obtain ⟨sz, hsz, es⟩ := nat_of (n := 60) (a6 nb (Nat.le_refl _)).1 (a6 nb (Nat.le_refl _)).2 (by decide)
  rw [es] at a8
  have e287 : ∀ c, rfC M c 287 = M 287 := fun c => rfC_c M c 287 (by decide)
  unfold f_X11_feed f_X11_feed_b32 f_X12_feed f_X12_feed_b29 f_X0_fed
  simp only [x4, x6, y4, y6, e287, a8, en, nI_cl nb (show nb < 2147483648 by omega), es]
  have hv : vp_in (nI nb) 25 := vin_nI (by omega) (by decide)
  refine ⟨fun c1 => ⟨fun c2 => ⟨fun _ => ⟨fun _ => ⟨trivial, i_rf H _⟩, fun z => absurd c2 z⟩, fun z => absurd c1 z⟩, fun c2 => ⟨hv, fun c3 => ?_, fun c3 => ⟨fun _ => ⟨fun z => absurd z c2, fun _ => ⟨fun z => absurd z c3, fun _ => ⟨trivial, i_rf H _⟩⟩⟩, fun z => absurd c1 z⟩⟩⟩, fun c1 => ⟨fun z => absurd z c1, fun _ => ⟨trivial, i_rf H _⟩⟩⟩
  have h8 : a ≤ nI 8 := by rw [lt_nle, Classical.not_not] at c2; exact c2
  obtain ⟨m, hm, rfl⟩ := nat_of (n := 8) (Int32.le_trans (by decide) c1) h8 (by decide)
  have hs : sz + m ≤ 60 := by
    rw [nI_add] at c3
    exact (nI_le_iff (b := 60) (by omega) (by omega)).mp c3
  refine C_fed hn en es hm hs x ?_
  have e11 : fdC M nb sz (fbC x) m 287 11 = nI sz := by unfold fdC; rw [mset_ne _ _ _ (by decide), mput_n _ _ (by omega)]; exact a8
  rw [e11]
  exact ⟨fun _ => ⟨fun z => absurd z c2, fun _ => ⟨fun _ => M_fed e11 hm hs x ⟨rfl, i_feed H hn en es hm hs x⟩, fun z => absurd c3 z⟩⟩, fun z => absurd c1 z⟩
