/-! the giver: both sides -/
def gvO (B : Nat → Bool) (x : Nat → Int32) : Nat → Option Nat
  | 0 => none
  | n + 1 => if B n = true then (match gvO B x n with
    | none => some n
    | some g => if x n < x g then some g else some n) else gvO B x n
def opI (d : Int32) (o : Option Nat) : Int32 := match o with
  | none => d
  | some g => nI g
theorem gvO_lt {B : Nat → Bool} {x : Nat → Int32} : ∀ {n g : Nat}, gvO B x n = some g → g < n ∧ B g = true
  | n + 1, g, h => by
    unfold gvO at h
    split at h
    · rename_i hb
      split at h
      · cases h; exact ⟨Nat.lt_succ_self _, hb⟩
      · rename_i g' e
        have := gvO_lt e
        split at h
        · cases h; exact ⟨by omega, this.2⟩
        · cases h; exact ⟨Nat.lt_succ_self _, hb⟩
    · have := gvO_lt h; exact ⟨by omega, this.2⟩
theorem t_giver {M : Mem} {nb : Nat} (hn : nb ≤ 24) (en : M 15 0 = nI nb) {M1 : Mem} (hT : Tx M M1) {B : Nat → Bool} {v : Int32} (hv : ∀ j, j < nb → bt v j = B j) {K : Int32 → Mem → Prop} (hK : K (opI (-9) (gvO B (M 43) nb)) M1) : f_X0_giverAmong v M1 K := by
  unfold f_X0_giverAmong
  refine Lp.up (fun j a => a = (v, opI (-9) (gvO B (M 43) j), nI j, M1)) nb (fun j a r hj ha hr => ?_) (j := 0) (by omega) rfl
  subst ha
  simp only [f_X0_giverAmong_c5, f_X0_giverAmong_b43, f_X0_giverAmong_b45]
  rw [hT 15 (by decide) (by decide) (by decide) (by decide) (by decide), en, nI_le_iff (by omega) (by omega), hT 43 (by decide) (by decide) (by decide) (by decide) (by decide), nI_1, nI_cl j (by omega)]
  refine ⟨fun c => by rw [show nb = j by omega] at hK; exact hK, fun c => ?_⟩
  have hjn : j < nb := by omega
  have e1 := btS v j (by omega)
  rw [hv j hjn] at e1
  rw [e1]
  have hvi : vp_in (nI j) 24 := vin_nI (by omega) (by decide)
  refine ⟨fun c1 => hr hjn _ ?_, fun c1 => ⟨fun c2 => hr hjn _ ?_, fun c2 => ?_⟩⟩
  · rw [gvO, if_neg c1]
  · cases hg : gvO B (M 43) j with
    | none => rw [gvO, if_pos c1, hg]; rfl
    | some g => rw [hg] at c2; exact absurd c2 (n9 g (by have := (gvO_lt hg).1; omega))
  · cases hg : gvO B (M 43) j with
    | none => rw [hg] at c2; exact absurd rfl c2
    | some g =>
      have hgl := (gvO_lt hg).1
      refine ⟨hvi, vin_nI (j := g) (by omega) (by decide), ?_⟩
      rw [show (opI (-9) (some g)).toNatClampNeg = g from nI_cl g (by omega)]
      refine ⟨fun c3 => hr hjn _ ?_, fun c3 => hr hjn _ ?_⟩
      · rw [gvO, if_pos c1, hg]; dsimp only; rw [if_pos c3]
      · rw [gvO, if_pos c1, hg]; dsimp only; rw [if_neg c3]; rfl
def TxM (M' M1 : Mem) : Prop := (∀ c, c ≠ 287 → c ≠ 301 → c ≠ 302 → c ≠ 303 → c ≠ 304 → M1 c = M' c) ∧ ∀ k, ¬ (17 ≤ k ∧ k ≤ 27) → M1 287 k = M' 287 k
theorem q_giver {M : Mem} (H : Inv M) {s : Nat} (hs : s < 512) (w m f : Int32) {M' : Mem} (hE : Eqm M M') {K : Int32 → Mem → Prop}
    (hK : ∀ M2, TxM M' M2 → (∀ j, j < nn (M 15 0) → M2 304 j = bi (brB M w (FK M (nI s) m f) j)) → K (opI (-1) (gvO (brB M w (FK M (nI s) m f)) (M 43) (nn (M 15 0)))) M2) : f_X12_givingAct w (nI s) m f M' K := by
  obtain ⟨nb, hn, en, en2, hact⟩ := H.act
  rw [en, nn_nI nb (by omega)] at hK
  unfold f_X12_givingAct
  refine q_facts H hs m f hE (fun M9 k9 f9 => ?_)
  generalize hFF : FK M (nI s) m f = F at *
  have a4 : M 299 = M 43 := by have h := H.A; unfold gActs at h; exact h.2.2.2.1
  have a5 : M 300 = M 44 := by have h := H.A; unfold gActs at h; exact h.2.2.2.2.1
  refine Lp.up (fun j a => ∃ M1, a = (w, opI (-1) (gvO (brB M w F) (M 43) j), nI j, M1) ∧ TxM M' M1 ∧ (∀ k, k < 6 → M1 301 k = F k) ∧ ∀ i, i < j → M1 304 i = bi (brB M w F i)) nb (fun j a r hj ha hr => ?_) (j := 0) (by omega) ⟨M9, rfl, ⟨fun c c1 c2 c3 c4 c5 => k9 c c2, fun k _ => by rw [k9 287 (by decide)]⟩, f9, fun i hi => absurd hi (Nat.not_lt_zero i)⟩
  obtain ⟨M1, rfl, g1, g2, g3⟩ := ha
  simp only [f_X12_givingAct_c14, f_X12_givingAct_b154, f_X12_givingAct_b159, f_X12_givingAct_b161, f_X12_givingAct_b163]
  have e : ∀ c, 287 < c → c ≠ 301 → c ≠ 302 → c ≠ 303 → c ≠ 304 → M1 c = M c := fun c c0 c2 c3 c4 c5 => (g1.1 c (by omega) c2 c3 c4 c5).trans (hE c (by omega))
  have e87 : ∀ k, ¬ (17 ≤ k ∧ k ≤ 27) → M1 287 k = M 287 k := fun k hk => by rw [g1.2 k hk, hE 287 (by decide)]
  have e60 : (60 : Int32) * nI j = nI (60 * j) := pk_mul 60 j
  rw [e87 12 (by omega), e87 0 (by omega), en2, H.D.1, nI_le_iff (by omega) (by omega), e60, nI_cl j (by omega), nI_cl (60 * j) (by omega), e 297 (by decide) (by decide) (by decide) (by decide) (by decide), e 299 (by decide) (by decide) (by decide) (by decide) (by decide), e 300 (by decide) (by decide) (by decide) (by decide) (by decide), e 298 (by decide) (by decide) (by decide) (by decide) (by decide), nI_1, a4, a5]
  refine ⟨fun c => ?_, fun c => ?_⟩
  · rw [show nb = j by omega] at hK
    exact hK M1 g1 g3
  · have hjn : j < nb := by omega
    obtain ⟨sz, hsz, es, es2, hok, htx, h0, -⟩ := hact j hjn
    have hvi : vp_in (nI j) 24 := vin_nI (by omega) (by decide)
    have hok2 : okR (txT M (17 + j)) sz := okR_eq (fun q hq => htx q hq) hok
    have hbr : brB M w F j = (decide (M 297 (60 * j) - 65 = w) && decide (¬ M 1 0 < M 43 j) && decide (¬ M 44 j ≤ M 1 0) && valR (txT M (17 + j)) sz F) := by
      unfold brB
      rw [es, nn_nI sz (by omega), valR_eq (t' := txT M (17 + j)) (fun q hq => htx q hq)]
    have skip : brB M w F j = false → r (w, opI (-1) (gvO (brB M w F) (M 43) j), nI (j + 1), mset M1 304 j 0) := fun hb => by
      refine hr hjn _ ⟨mset M1 304 j 0, ?_, ⟨fun c c1 c2 c3 c4 c5 => (mset_ne _ _ _ c5).trans (g1.1 c c1 c2 c3 c4 c5), fun k hk => by rw [mset_ne _ _ _ (by decide)]; exact g1.2 k hk⟩, fun k hk => by rw [mset_ne _ _ _ (by decide)]; exact g2 k hk, fun i hi => ?_⟩
      · rw [gvO, if_neg (by rw [hb]; exact Bool.false_ne_true)]
      · rw [mset_row, upd_at]
        by_cases q : i = j
        · rw [if_pos q, q, hb]; rfl
        · rw [if_neg q]; exact g3 i (by omega)
    refine ⟨hvi, vin_nI (by omega) (by decide), fun c1 => skip (by rw [hbr, decide_eq_false c1]; rfl), fun c1 => ⟨hvi, fun c2 => skip (by rw [hbr, decide_eq_false (p := ¬ M 1 0 < M 43 j) (fun z => z c2)]; simp), fun c2 => ⟨hvi, fun c3 => skip (by rw [hbr, decide_eq_false (p := ¬ M 44 j ≤ M 1 0) (fun z => z c3)]; simp), fun c3 => ⟨hvi, ?_⟩⟩⟩⟩
    rw [decide_eq_true c1, decide_eq_true c2, decide_eq_true c3] at hbr
    simp only [Bool.true_and] at hbr
    rw [es2]
    generalize hM0 : (mset (mset (mset (mset (mset (mset M1 304 j 0) 287 17 1) 287 18 (nI (60 * j))) 287 19 (nI sz)) 287 20 3) 287 21 0) = M0
    have o1 : ∀ c, c ≠ 287 → c ≠ 304 → M0 c = M1 c := fun c c1 c2 => by subst hM0; simp (disch := omega) only [mset_ne]
    have o2 : ∀ k, M0 287 k = if k = 21 then 0 else if k = 20 then 3 else if k = 19 then nI sz else if k = 18 then nI (60 * j) else if k = 17 then 1 else M1 287 k := fun k => by
      subst hM0
      simp only [mset_row, upd_at]
      rw [mset_ne _ _ _ (by decide)]
    have o3 : M0 304 = upd (M1 304) j 0 := by subst hM0; simp (disch := omega) only [mset_ne, mset_row]
    have hMT : MTx M0 sz (txT M (17 + j)) F := by
      refine ⟨hsz, by rw [o2]; rfl, fun q => a255 _, fun q hq => Or.inr ⟨by rw [o2]; exact (show ¬ (1 : Int32) = 0 by decide), 60 * j, by rw [o2]; rfl, by omega, ?_⟩, fun k hk => ?_⟩
      · rw [o1 297 (by decide) (by decide), e 297 (by decide) (by decide) (by decide) (by decide) (by decide)]; exact htx q hq
      · rw [o1 301 (by decide) (by decide)]; exact g2 k hk
    refine m_rule hMT (p := 3) (by rw [o2]; rfl) (by rw [o2]; rfl) hok2.1 (by omega) (fun v M2 hR => ?_)
    obtain ⟨hv, hMF, -, -, ⟨b1, -⟩ | ⟨-, -, ev⟩⟩ := hR
    · have := hok2.2.2.2.2.2.2
      rw [b1] at this; cases this
    have ev2 : v = bi (brB M w F j) := by rw [hbr, ev]; rfl
    subst ev2
    have n1 : ∀ c, c ≠ 287 → c ≠ 301 → c ≠ 302 → c ≠ 303 → c ≠ 304 → M2 c = M1 c := fun c c1 c2 c3 c4 c5 => (hMF.1 c c1 c3 c4).trans (o1 c c1 c5)
    have gT : TxM M' (mset M2 304 j (bi (brB M w F j))) := ⟨fun c c1 c2 c3 c4 c5 => (mset_ne _ _ _ c5).trans ((n1 c c1 c2 c3 c4 c5).trans (g1.1 c c1 c2 c3 c4 c5)), fun k hk => by
      rw [mset_ne _ _ _ (by decide), hMF.2 k (by omega) (by omega) (by omega) (by omega) (by omega), o2]
      rw [if_neg (by omega), if_neg (by omega), if_neg (by omega), if_neg (by omega), if_neg (by omega)]
      exact g1.2 k hk⟩
    have gF : ∀ k, k < 6 → mset M2 304 j (bi (brB M w F j)) 301 k = F k := fun k hk => by
      rw [mset_ne _ _ _ (by decide), hMF.1 301 (by decide) (by decide) (by decide), o1 301 (by decide) (by decide)]; exact g2 k hk
    have g4 : ∀ i, i < j + 1 → mset M2 304 j (bi (brB M w F j)) 304 i = bi (brB M w F i) := fun i hi => by
      rw [mset_row, upd_at]
      by_cases q : i = j
      · rw [if_pos q, q]
      · rw [if_neg q, hMF.1 304 (by decide) (by decide) (by decide), o3, upd_n _ _ q]; exact g3 i (by omega)
    have n99 : M2 299 = M 43 := by rw [n1 299 (by decide) (by decide) (by decide) (by decide) (by decide), e 299 (by decide) (by decide) (by decide) (by decide) (by decide), a4]
    rw [mset_eq, n99]
    have next : ∀ g, g = opI (-1) (gvO (brB M w F) (M 43) (j + 1)) → r (w, g, nI (j + 1), mset M2 304 j (bi (brB M w F j))) := fun g eg => by
      subst eg
      exact hr hjn _ ⟨_, rfl, gT, gF, g4⟩
    refine ⟨hvi, bi_bz _, hvi, fun c4 => next _ ?_, fun c4 => ⟨fun c5 => next _ ?_, fun c5 => ?_⟩⟩
    · rw [gvO, if_neg (by rw [bi_0.mp c4]; exact Bool.false_ne_true)]
    · have hb : brB M w F j = true := by cases h : brB M w F j <;> first | rfl | exact absurd (by rw [h]; rfl) c4
      cases hg : gvO (brB M w F) (M 43) j with
      | none => rw [gvO, if_pos hb, hg]; rfl
      | some g => rw [hg] at c5; exact absurd c5 (by rw [lt_nle]; exact fun z => z (nI_pos' (by have := (gvO_lt hg).1; omega)))
    · have hb : brB M w F j = true := by cases h : brB M w F j <;> first | rfl | exact absurd (by rw [h]; rfl) c4
      cases hg : gvO (brB M w F) (M 43) j with
      | none => rw [hg] at c5; exact absurd (by decide) c5
      | some g =>
        have hgl := (gvO_lt hg).1
        rw [show (opI (-1) (some g)).toNatClampNeg = g from nI_cl g (by omega)]
        refine ⟨hvi, vin_nI (j := g) (by omega) (by decide), fun c6 => next _ ?_, fun c6 => next _ ?_⟩
        · rw [gvO, if_pos hb, hg]; dsimp only; rw [if_pos c6]
        · rw [gvO, if_pos hb, hg]; dsimp only; rw [if_neg c6]; rfl
