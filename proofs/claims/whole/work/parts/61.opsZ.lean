/-! what bears on a what: the class's loop -/
theorem by8F : ∀ m : Fin 256, by8 (nI m.val - 128) ≤ 127 → nI m.val - 128 = by8 (nI m.val - 128) := by decide +kernel
theorem by8_id {x : Int32} (h0 : -128 ≤ x) (h1 : x ≤ 127) (h : by8 x ≤ 127) : x = by8 x := by
  have e : ∃ m : Fin 256, x = nI m.val - 128 := by
    have l0 : (-128 : Int32).toInt = -128 := rfl
    have l1 : (127 : Int32).toInt = 127 := rfl
    have g0 := i_le.mp h0
    have g1 := i_le.mp h1
    have hs : (x + 128).toInt = x.toInt + 128 := by
      rw [Int32.toInt_add, show (128 : Int32).toInt = 128 from rfl]
      refine Int.bmod_eq_of_le ?_ ?_ <;> omega
    obtain ⟨m, hm, em⟩ := nat_of (x := x + 128) (n := 255) (by rw [i_le, hs, show (0 : Int32).toInt = 0 from rfl]; omega) (by rw [i_le, hs, nI_ti 255 (by decide)]; omega) (by decide)
    exact ⟨⟨m, by omega⟩, by rw [← em, Int32.add_sub_cancel]⟩
  obtain ⟨m, rfl⟩ := e
  exact by8F m h
theorem btO (x : Int32) (k b : Nat) (hk : k ≤ 31) (hb : b ≤ 31) : bt (x ||| ((1 : Int32) <<< (nI k &&& 31))) b = (if b = k then true else bt x b) := by
  unfold bt
  rw [Int32.toBitVec_or, shlB k hk, BitVec.getLsbD_or, BitVec.getLsbD_shiftLeft, BitVec.getLsbD_one]
  by_cases c : b = k
  · subst c
    simp [show b < 32 by omega]
  · rw [if_neg c]
    have : ¬ (¬ b < k ∧ b - k = 0) := by omega
    by_cases c2 : b < k
    · simp [c2]
    · have : ¬ b - k = 0 := by omega
      simp [this]
def brB (M : Mem) (w : Int32) (F : FT) (j : Nat) : Bool := decide (M 297 (60 * j) - 65 = w) && decide (¬ M 1 0 < M 43 j) && decide (¬ M 44 j ≤ M 1 0) && valR (fun k => M 297 (60 * j + k)) (nn (M 42 j)) F
theorem valR_eq {t t' : Nat → Int32} {n : Nat} (h : ∀ q, q < n → t q = t' q) (F : FT) : valR t n F = valR t' n F := by
  unfold valR
  rw [sgn_eq h]
theorem Inv.act {M : Mem} (H : Inv M) : ∃ nb, nb ≤ 24 ∧ M 15 0 = nI nb ∧ M 287 12 = nI nb ∧ ∀ j, j < nb → ∃ sz, sz ≤ 60 ∧ M 42 j = nI sz ∧ M 298 j = nI sz ∧ okR (fun k => M 297 (60 * j + k)) sz ∧ (∀ q, q < sz → M 297 (60 * j + q) = txT M (17 + j) q) ∧ M (17 + j) 0 = M 297 (60 * j) ∧ M (17 + j) 1 = M 297 (60 * j + 1) := by
  have hA := H.A
  unfold gActs at hA
  obtain ⟨a1, a2, a3, a4, a5, a6, a7, a8, a9, a10, a11⟩ := hA
  obtain ⟨nb, hn, en⟩ := nat_of (n := 24) a2 a3 (by decide)
  rw [en] at a1
  rw [en, nn_nI nb (by omega)] at a6 a7 a9 a11
  refine ⟨nb, hn, en, a1, fun j hj => ?_⟩
  obtain ⟨sz, hsz, es⟩ := nat_of (n := 60) (a6 j (by omega)).1 (a6 j (by omega)).2 (by decide)
  have h9 := a9 j hj
  have h11 := a11 j hj
  rw [es, nn_nI sz (by omega)] at h9 h11
  have hB := H.B j
  rw [rws_in _ _ _ _ (by omega), Nat.one_mul] at h9 hB
  obtain ⟨o3, o4, o5, o6, o7, -⟩ := h11
  refine ⟨sz, hsz, es, (a7 j hj).trans es, a11 j hj |> fun z => by rw [es, nn_nI sz (by omega)] at z; exact z, fun q hq => h9 q hq, ?_, ?_⟩
  · have e := h9 0 (by omega)
    rw [Nat.add_zero] at e
    have b8 : by8 (M (17 + j) 0) ≤ 127 := by rw [← e]; exact Int32.le_trans o5 (by decide)
    rw [e]
    exact by8_id (hB 0).1 (hB 0).2 b8
  · have e := h9 1 (by omega)
    have b8 : by8 (M (17 + j) 1) ≤ 127 := by rw [← e]; exact Int32.le_trans o7 (by decide)
    rw [e]
    exact by8_id (hB 1).1 (hB 1).2 b8
def Tx (M M1 : Mem) : Prop := ∀ c, c ≠ 45 → c ≠ 46 → c ≠ 48 → c ≠ 49 → c ≠ 50 → M1 c = M c
theorem t_bear {M : Mem} (H : Inv M) (w : Int32) (F : FT) {M9 : Mem} (hT : Tx M M9) (hF : ∀ k, k < 6 → M9 46 k = F k) {K : Int32 → Mem → Prop} (hK : ∀ v M', Tx M M' → (∀ j, j < nn (M 15 0) → bt v j = brB M w F j) → K v M') : f_X0_bearingOn w (M 1 0) M9 K := by
  obtain ⟨nb, hn, en, -, hact⟩ := H.act
  rw [en, nn_nI nb (by omega)] at hK
  unfold f_X0_bearingOn
  refine Lp.up (fun j a => ∃ v M1, a = (w, M 1 0, v, nI j, M1) ∧ Tx M M1 ∧ (∀ k, k < 6 → M1 46 k = F k) ∧ ∀ i, i < 24 → bt v i = (decide (i < j) && brB M w F i)) nb (fun j a r hj ha hr => ?_) (j := 0) (by omega) ⟨0, M9, rfl, hT, hF, fun i hi => ?_⟩
  · obtain ⟨v, M1, rfl, g1, g2, g3⟩ := ha
    simp only [f_X0_bearingOn_c5, f_X0_bearingOn_b83]
    rw [g1 15 (by decide) (by decide) (by decide) (by decide) (by decide), en, nI_le_iff (by omega) (by omega), nI_cl j (by omega), nI_1, Nat.one_mul]
    refine ⟨fun c => ?_, fun c => ?_⟩
    · refine hK v M1 g1 (fun i hi => ?_)
      rw [g3 i (by omega), decide_eq_true (show i < j by omega), Bool.true_and]
    · have hjn : j < nb := by omega
      obtain ⟨sz, hsz, es, -, hok, htx, h0, -⟩ := hact j hjn
      have hv25 : vp_in (nI j) 25 := vin_nI (by omega) (by decide)
      have hv24 : vp_in (nI j) 24 := vin_nI (by omega) (by decide)
      rw [g1 (17 + j) (by omega) (by omega) (by omega) (by omega) (by omega), g1 43 (by decide) (by decide) (by decide) (by decide) (by decide), g1 44 (by decide) (by decide) (by decide) (by decide) (by decide), g1 42 (by decide) (by decide) (by decide) (by decide) (by decide), h0, es]
      have hbr : brB M w F j = (decide (M 297 (60 * j) - 65 = w) && decide (¬ M 1 0 < M 43 j) && decide (¬ M 44 j ≤ M 1 0) && valR (txT M1 (17 + j)) sz F) := by
        unfold brB
        rw [es, nn_nI sz (by omega)]
        rw [valR_eq (t' := txT M1 (17 + j)) (fun q hq => by rw [htx q hq]; unfold txT; rw [g1 (17 + j) (by omega) (by omega) (by omega) (by omega) (by omega)])]
      have skip : brB M w F j = false → r (w, M 1 0, v, nI (j + 1), M1) := fun hb => by
        refine hr hjn _ ⟨v, M1, rfl, g1, g2, fun i hi => ?_⟩
        rw [g3 i hi]
        by_cases q : i = j
        · subst q; simp [hb]
        · have : (i < j + 1) ↔ i < j := by omega
          simp [this]
      refine ⟨hv25, fun c1 => skip (by rw [hbr, decide_eq_false c1]; rfl), fun c1 => ⟨hv24, fun c2 => skip (by rw [hbr, decide_eq_false (p := ¬ M 1 0 < M 43 j) (fun z => z c2)]; simp), fun c2 => ⟨hv24, fun c3 => skip (by rw [hbr, decide_eq_false (p := ¬ M 44 j ≤ M 1 0) (fun z => z c3)]; simp), fun c3 => ⟨hv25, hv25, ?_⟩⟩⟩⟩
      rw [decide_eq_true c1, decide_eq_true c2, decide_eq_true c3] at hbr
      simp only [Bool.true_and] at hbr
      have hok2 : okR (txT M1 (17 + j)) sz := okR_eq (fun q hq => by rw [htx q hq]; unfold txT; rw [g1 (17 + j) (by omega) (by omega) (by omega) (by omega) (by omega)]) hok
      refine c_holds (by omega) (by omega) hsz hok2 (F := F) g2 (fun M' hM' => ?_)
      have gT : Tx M M' := fun c d1 d2 d3 d4 d5 => (hM' c d1 d3 d4 d5).trans (g1 c d1 d2 d3 d4 d5)
      have gF : ∀ k, k < 6 → M' 46 k = F k := fun k hk => by rw [hM' 46 (by decide) (by decide) (by decide) (by decide)]; exact g2 k hk
      rw [← hbr]
      cases hb : brB M w F j with
      | false =>
        refine ⟨fun _ => hr hjn _ ⟨v, M', rfl, gT, gF, fun i hi => ?_⟩, fun z => absurd rfl z⟩
        rw [g3 i hi]
        by_cases q : i = j
        · subst q; simp [hb]
        · have : (i < j + 1) ↔ i < j := by omega
          simp [this]
      | true =>
        refine ⟨fun z => absurd z (by decide), fun _ => hr hjn _ ⟨_, M', rfl, gT, gF, fun i hi => ?_⟩⟩
        rw [btO v j i (by omega) (by omega), g3 i hi]
        by_cases q : i = j
        · subst q; simp [hb]
        · have : (i < j + 1) ↔ i < j := by omega
          simp [this, q]
  · have : bt 0 i = false := by unfold bt; simp
    rw [this]; simp
