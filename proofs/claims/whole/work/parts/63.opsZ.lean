/-! deed -/
def kdO (M : Mem) (G : Option Nat) : Int32 := match G with
  | none => 0
  | some g => M 297 (60 * g + 1) - 48
def gvB (M : Mem) (w s m f : Int32) : Option Nat := gvO (brB M w (FK M s m f)) (M 43) (nn (M 15 0))
theorem gvB_lt {M : Mem} (H : Inv M) {w s m f : Int32} {g : Nat} (h : gvB M w s m f = some g) : g < nn (M 15 0) ∧ g < 24 := by
  obtain ⟨nb, hn, en, -⟩ := H.act
  have := (gvO_lt h).1
  rw [en, nn_nI nb (by omega)] at this ⊢
  omega
theorem t_kindOf {M : Mem} (H : Inv M) {M1 : Mem} (hT : Tx M M1) {o : Option Nat} (ho : ∀ g, o = some g → g < nn (M 15 0)) {K : Int32 → Mem → Prop} (hK : K (kdO M o) M1) : f_X0_kindOf (opI (-9) o) M1 K := by
  obtain ⟨nb, hn, en, -, hact⟩ := H.act
  unfold f_X0_kindOf f_X0_kindOf_b12 f_X0_kindOf_b27
  rw [hT 15 (by decide) (by decide) (by decide) (by decide) (by decide), en]
  cases o with
  | none => exact ⟨fun _ => hK, fun z => absurd (show (-9 : Int32) < 0 by decide) z⟩
  | some g =>
    have hg := ho g rfl
    rw [en, nn_nI nb (by omega)] at hg
    obtain ⟨sz, -, -, -, -, -, -, h1⟩ := hact g hg
    have hc : (opI (-9) (some g)).toNatClampNeg = g := nI_cl g (by omega)
    have hl : (opI (-9) (some g) < nI nb) ↔ g < nb := nI_lt_iff (by omega) (by omega)
    rw [hc, hl, Nat.one_mul, hT (17 + g) (by omega) (by omega) (by omega) (by omega) (by omega), h1]
    exact ⟨fun z => absurd z (by rw [lt_nle]; exact fun y => y (nI_pos' (by omega))), fun _ => ⟨fun _ => ⟨vin_nI (j := g) (by omega) (by decide), hK⟩, fun z => absurd hg z⟩⟩
theorem t_gB {M : Mem} (H : Inv M) (w s m f : Int32) {K : Int32 → Mem → Prop} (hK : ∀ M', Tx M M' → K (opI (-9) (gvB M w s m f)) M') : f_X11_tellFacts s m f M (fun M9 => f_X0_bearingOn w (M9 1 0) M9 (fun v M10 => f_X0_giverAmong v M10 K)) := by
  obtain ⟨nb, hn, en, -⟩ := H.act
  refine t_facts H s m f (fun M9 k9 f9 => ?_)
  rw [k9 1 (by decide)]
  refine t_bear H w (FK M s m f) (fun c _ c2 _ _ _ => k9 c c2) f9 (fun v M' hT hv => ?_)
  have hh := hK M' hT
  unfold gvB at hh
  rw [en, nn_nI nb (by omega)] at hv hh
  exact t_giver hn en hT hv hh
theorem Fr.tx {M M' : Mem} (h : Tx M M') : Fr M M' := fun c k q => by
  unfold Sc at q
  rw [h c (by omega) (by omega) (by omega) (by omega) (by omega)]
theorem Fr.txM {M M' : Mem} (h : TxM M M') : Fr M M' := fun c k q => by
  unfold Sc at q
  by_cases c1 : c = 287
  · subst c1; exact h.2 k (by omega)
  · rw [h.1 c c1 (by omega) (by omega) (by omega) (by omega)]
theorem kdO_r {M : Mem} (H : Inv M) {o : Option Nat} (ho : ∀ g, o = some g → g < nn (M 15 0)) : 0 ≤ kdO M o ∧ kdO M o ≤ 4 := by
  obtain ⟨nb, hn, en, -, hact⟩ := H.act
  cases o with
  | none => exact ⟨(by decide : (0 : Int32) ≤ 0), (by decide : (0 : Int32) ≤ 4)⟩
  | some g =>
    have hg := ho g rfl
    rw [en, nn_nI nb (by omega)] at hg
    obtain ⟨sz, -, -, -, hok, -, -, -⟩ := hact g hg
    obtain ⟨-, -, -, b1, b2, -⟩ := hok
    dsimp only at b1 b2
    have l1 := i_le.mp b1
    have l2 := i_le.mp b2
    show 0 ≤ M 297 (60 * g + 1) - 48 ∧ M 297 (60 * g + 1) - 48 ≤ 4
    generalize M 297 (60 * g + 1) = x at *
    have e0 : (48 : Int32).toInt = 48 := rfl
    have e1 : (52 : Int32).toInt = 52 := rfl
    have es : (x - 48).toInt = x.toInt - 48 := by
      rw [Int32.toInt_sub, e0]
      refine Int.bmod_eq_of_le ?_ ?_ <;> omega
    rw [i_le, i_le, es, show (0 : Int32).toInt = 0 from rfl, show (4 : Int32).toInt = 4 from rfl]
    omega
theorem q_kindIn {M : Mem} {M2 : Mem} (h : M2 297 = M 297) {g : Nat} (hg : g < 24) {K : Int32 → Mem → Prop} (hK : K (kdO M (some g)) M2) : f_X12_kindIn (nI g) M2 K := by
  unfold f_X12_kindIn
  have e : (60 : Int32) * nI g + 1 = nI (60 * g + 1) := by rw [show (60 : Int32) * nI g = nI (60 * g) from pk_mul 60 g, nI_1]
  rw [e, nI_cl _ (by omega), h]
  exact ⟨vin_nI (by omega) (by decide), hK⟩
theorem i_deed {M : Mem} (H : Inv M) {n : Nat} {a c d kd x : Int32} (hn : n < 60) (en : M 72 0 = nI n) (ha : a = -1 ∨ ∃ i, a = nI i ∧ i < nn (M 0 5)) (hc : 1 ≤ c ∧ c ≤ 63) (hd : 0 ≤ d ∧ d ≤ 9999) (hx : x = if 0 < kd then 1 else 0) :
    Inv (mset (mset (mset (mset (mset (mset (mset (mset (mset (mset (mset (mset M 73 n a) 74 n (M 1 0)) 75 n c) 76 n d) 77 n x) 72 0 (nI (n + 1))) 339 n a) 340 n (M 1 0)) 341 n c) 342 n d) 343 n kd) 287 67 (nI (n + 1))) := by
  unfold Inv
  simp (disch := omega) only [mset_ne, mset_row, rws_ne, upd_s, upd_n, mput_n, mput_s, rws_put]
  refine ⟨H.R, H.D, H.S, H.P, H.Q, H.W, H.A, H.X, H.B, H.T, H.M, H.V, H.N, H.G, H.C, ?_, H.H, H.F, H.U, H.L, H.O, H.I, H.J, H.K⟩
  have h := H.E
  unfold gDeed at h ⊢
  obtain ⟨a1, a2, a3, a4, a5, a6, a7, a8, a9⟩ := h
  rw [en, nn_nI n (by omega)] at a9
  refine ⟨rfl, nI_pos' (by omega), (nI_le_iff (b := 60) (by omega) (by omega)).mpr (by omega), by rw [a4], by rw [a5], by rw [a6], by rw [a7], fun k => ?_, fun k hk => ?_⟩
  · rw [upd_at]
    split
    · rw [hx]; exact bz_if _
    · exact a8 k
  · rw [nn_nI (n + 1) (by omega)] at hk
    simp only [upd_at]
    by_cases q : k = n
    · simp only [if_pos q]
      have ho := H.M.2.1
      refine ⟨hx, ?_, ?_, fun h0 => ?_, H.D.2.1, Int32.le_refl _, hc.1, hc.2, hd.1, hd.2⟩
      · rcases ha with rfl | ⟨i, rfl, hi⟩
        · exact Int32.le_refl _
        · exact Int32.le_trans (by decide) (nI_pos' (by have := H.mok hi; have := H.M.2.2.1; obtain ⟨o, ho2, eo⟩ := nat_of (n := 40) H.M.2.1 H.M.2.2.1 (by decide); rw [eo, nn_nI o (by omega)] at hi; omega))
      · rcases ha with rfl | ⟨i, rfl, hi⟩
        · exact Int32.lt_of_lt_of_le (by decide) ho
        · obtain ⟨o, ho2, eo⟩ := nat_of (n := 40) H.M.2.1 H.M.2.2.1 (by decide)
          rw [eo, nn_nI o (by omega)] at hi
          rw [eo]
          exact (nI_lt_iff (by omega) (by omega)).mpr hi
      · rcases ha with rfl | ⟨i, rfl, hi⟩
        · exact absurd h0 (by decide)
        · obtain ⟨o, ho2, eo⟩ := nat_of (n := 40) H.M.2.1 H.M.2.2.1 (by decide)
          have hi' := hi
          rw [eo, nn_nI o (by omega)] at hi'
          rw [nn_nI i (by omega)]
          have hM := H.M
          unfold gMat mrow at hM
          grind
    · simp only [if_neg q]
      exact a9 k (by omega)
