/-! act -/
theorem sgn_eq {t t' : Nat → Int32} {n : Nat} (h : ∀ q, q < n → t q = t' q) : sgn t n = sgn t' n := by
  funext p
  unfold sgn
  by_cases c : p < n
  · rw [if_pos c, if_pos c, h p c]
  · rw [if_neg c, if_neg c]
theorem okR_eq {t t' : Nat → Int32} {n : Nat} (h : ∀ q, q < n → t q = t' q) (hk : okR t n) : okR t' n := by
  obtain ⟨h1, h2⟩ := hk
  rw [h 0 (by omega), h 1 (by omega), h 2 (by omega), sgn_eq h] at h2
  exact ⟨h1, h2⟩
theorem Fr.cset {M M' : Mem} (h : Fr M M') (c k : Nat) (v : Int32) : Fr (mset M c k v) (mset M' c k v) := fun c' k' q => by
  rw [mset_at, mset_at, h c' k' q]
theorem Fr.cput {M M' : Mem} (h : Fr M M') (c : Nat) (f : Nat → Int32) : Fr (mput M c f) (mput M' c f) := fun c' k' q => by
  rw [mput_at, mput_at]
  split
  · rfl
  · exact h c' k' q
theorem Fr.rfr {M M' : Mem} (h : RFr M M') : Fr M M' := fun c k q => by
  have : ¬ c = 45 ∧ ¬ c = 48 ∧ ¬ c = 49 ∧ ¬ c = 50 := by unfold Sc at q; omega
  rw [h c this.1 this.2.1 this.2.2.1 this.2.2.2]
theorem Fr.mf {M M' : Mem} (h : MF M M') : Fr M M' := fun c k q => by
  unfold Sc at q
  by_cases c1 : c = 287
  · subst c1
    exact h.2 k (by omega) (by omega) (by omega) (by omega) (by omega)
  · rw [h.1 c c1 (by omega) (by omega)]
def cpA (M : Mem) (nb sz : Nat) : Nat → Int32 := fun k => if 60 * nb ≤ k ∧ k < 60 * nb + sz then M 296 (k - 60 * nb) else M 297 k
theorem s_copy {M : Mem} {nb sz : Nat} {a : Int32} (hn : nb < 24) (hs : sz ≤ 60) (e19 : M 287 19 = nI sz) (e12 : M 287 12 = nI nb) {K : Int32 → Mem → Prop}
    (hK : K (nI nb + 1 - 1) (mset (mset (mset (mset (mput M 297 (cpA M nb sz)) 298 nb (nI sz)) 299 nb a) 300 nb 1000000) 287 12 (nI nb + 1))) : Lp (fun (r149 : Int32 × Int32 × Mem → Prop) a => f_X12_act_c149 K r149 a.1 a.2.1 a.2.2) (a, 0, M) := by
  refine Lp.up (fun j b => b = (a, nI j, mput M 297 (cpA M nb j))) sz (fun j b r hj hb hr => ?_) (j := 0) (by omega) ?_
  · subst hb
    unfold f_X12_act_c149
    dsimp only
    have e60 : (60 : Int32) * nI nb = nI (60 * nb) := pk_mul 60 nb
    rw [mput_n (c' := 287) _ _ (by decide), e19, e12, e60, nI_add, mput_n (c' := 296) _ _ (by decide), nI_cl j (by omega), nI_cl (60 * nb + j) (by omega), nI_cl nb (by omega), nI_le_iff (by omega) (by omega)]
    have hv : vp_in (nI nb) 24 := vin_nI hn (by decide)
    refine ⟨fun c => ⟨hv, hv, hv, ?_⟩, fun c => ⟨vin_nI (by omega) (by decide), vin_nI (by omega) (by decide), ?_⟩⟩
    · rw [show sz = j by omega] at hK ⊢
      exact hK
    · rw [nI_1]
      refine hr (by omega) _ (congrArg (fun X => (a, nI (j + 1), X)) ?_)
      rw [mset_put, mput_put, mput_s]
      refine congrArg (mput M 297) (funext fun k => ?_)
      rw [upd_at]
      unfold cpA
      by_cases h3 : k = 60 * nb + j
      · subst h3; rw [if_pos rfl, if_pos (by omega), show 60 * nb + j - 60 * nb = j by omega]
      · rw [if_neg h3]
        by_cases h4 : 60 * nb ≤ k ∧ k < 60 * nb + j
        · rw [if_pos h4, if_pos (by omega)]
        · rw [if_neg h4, if_neg (by omega)]
  · refine congrArg (fun X => (a, nI 0, X)) ?_
    rw [show cpA M nb 0 = M 297 from funext fun k => if_neg (by omega), mput_id]
theorem nI20 {p : Nat} : (-20 : Int32) - nI p = -20 - nI p := rfl
/-- the model's act, past its refusals -/
theorem m_act {M M1 : Mem} {nb sz : Nat} {a : Int32} {t : Nat → Int32} (hE : ∀ c, 287 ≤ c → M1 c = M c) (hn : nb < 24) (hs : sz ≤ 60) (e11 : M 287 11 = nI sz) (e12 : M 287 12 = nI nb) (ht : ∀ q, q < sz → M 296 q = t q) (htn : ∀ q, ¬ t q = -1) {K : Int32 → Mem → Prop}
    (hb : ∀ p, fltO (sgn t sz) = some p → ∀ M2, Fr (mset M1 287 11 0) M2 → K (-20 - nI p) M2)
    (hg : fltO (sgn t sz) = none → ∀ M2, Fr (mset (mset (mset (mset (mput (mset M1 287 11 0) 297 (cpA M nb sz)) 298 nb (nI sz)) 299 nb a) 300 nb 1000000) 287 12 (nI nb + 1)) M2 → K (nI nb + 1 - 1) M2) :
    f_X12_byteHere (mset (mset (mset (mset (mset M1 287 17 0) 287 19 (M1 287 11)) 287 11 0) 287 21 0) 287 20 0) (fun v16 M16 =>
          f_X12_in v16 (65 : Int32) (72 : Int32) M16 (fun v17 M17 =>
            ((¬ v17 = 0) →
              f_X12_byteHere (mset M17 287 20 (1 : Int32)) (fun v19 M19 =>
                f_X12_in v19 (48 : Int32) (52 : Int32) M19 (fun v20 M20 =>
                  ((¬ v20 = 0) →
                    f_X12_byteHere (mset M20 287 20 (2 : Int32)) (fun v22 M22 =>
                      ((v22 = (58 : Int32)) →
                        f_X12_readRule (mset M22 287 20 (3 : Int32)) (fun v24 M24 =>
                          (((M24 287 21) = 0) →
                            Lp (fun (r149 : Int32 × Int32 × Mem → Prop) a => f_X12_act_c149 K r149 a.1 a.2.1 a.2.2) (a, (0 : Int32), M24)) ∧
                          ((¬ (M24 287 21) = 0) →
                            K ((-20 : Int32) - (M24 287 20)) M24))) ∧
                      ((¬ v22 = (58 : Int32)) →
                        K (-22 : Int32) M22))) ∧
                  ((v20 = 0) →
                    K (-21 : Int32) M20)))) ∧
            ((v17 = 0) →
              K (-20 : Int32) M17))) := by
  rw [hE 287 (by decide), e11]
  generalize hMm : mset (mset (mset (mset (mset M1 287 17 0) 287 19 (nI sz)) 287 11 0) 287 21 0) 287 20 0 = Mm
  have hFm : Fr (mset M1 287 11 0) Mm := fun c k q => by
    subst hMm
    unfold Sc at q
    by_cases c1 : c = 287
    · subst c1
      simp only [mset_row, upd_at]
      grind
    · simp (disch := omega) only [mset_ne]
  have em : ∀ k, Mm 287 k = if k = 20 then 0 else if k = 21 then 0 else if k = 11 then 0 else if k = 19 then nI sz else if k = 17 then 0 else M 287 k := fun k => by
    subst hMm
    simp only [mset_row, upd_at, hE 287 (by decide)]
  have eo : ∀ c, c ≠ 287 → Mm c = M1 c := fun c hc => by
    subst hMm
    simp (disch := omega) only [mset_ne]
  have hT : MTx Mm sz t (fun k => Mm 301 k) := by
    refine ⟨hs, by rw [em]; rfl, htn, fun q hq => Or.inl ⟨by rw [em]; rfl, ?_⟩, fun _ _ => rfl⟩
    rw [eo 296 (by decide), hE 296 (by decide)]; exact ht q hq
  have hA : ∀ p, p ≤ sz → MA Mm sz (mset Mm 287 20 (nI p)) p false := fun p hp => by
    refine ⟨fun c hc => mset_ne _ _ _ hc, fun k k1 k2 => ?_, mset_eq _ _ _ _, ?_, hp⟩
    · rw [mset_row, upd_n _ _ k1]
    · rw [mset_row, upd_n _ _ (by decide), em]; rfl
  have hA0 : MA Mm sz Mm 0 false := ⟨fun _ _ => rfl, fun _ _ _ => rfl, by rw [em]; rfl, by rw [em]; rfl, by omega⟩
  have hFp : ∀ p, Fr (mset M1 287 11 0) (mset Mm 287 20 (nI p)) := fun p => hFm.set _ (by unfold Sc; omega)
  unfold fltO at hb hg
  refine m_byte hT hA0 (m_in _ _ _ _ _ ?_)
  by_cases c1 : 65 ≤ sgn t sz 0 ∧ sgn t sz 0 ≤ 72
  · rw [decide_eq_true c1]
    rw [if_neg (Classical.not_not.mpr c1)] at hb hg
    have h1 : 0 < sz := sg_lt (t := t) (n := sz) (p := 0) (fun z => by rw [z] at c1; exact absurd c1.1 (by decide))
    refine ⟨fun _ => m_byte hT (hA 1 h1) (m_in _ _ _ _ _ ?_), fun z => absurd z (by decide)⟩
    by_cases c2 : 48 ≤ sgn t sz 1 ∧ sgn t sz 1 ≤ 52
    · rw [decide_eq_true c2]
      rw [if_neg (Classical.not_not.mpr c2)] at hb hg
      have h2 : 1 < sz := sg_lt (t := t) (n := sz) (p := 1) (fun z => by rw [z] at c2; exact absurd c2.1 (by decide))
      have e12' : mset (mset Mm 287 20 (nI 1)) 287 20 2 = mset Mm 287 20 (nI 2) := by
        funext c k; simp only [mset_at]; split <;> rfl
      refine ⟨fun _ => ?_, fun z => absurd z (by decide)⟩
      rw [e12']
      refine m_byte hT (hA 2 h2) ⟨fun c3 => ?_, fun c3 => ?_⟩
      · rw [if_neg (Classical.not_not.mpr (by rw [c3]; decide))] at hb hg
        have h3 : 2 < sz := sg_lt (t := t) (n := sz) (p := 2) (fun z => by rw [z] at c3; exact absurd c3 (by decide))
        have e13 : mset (mset Mm 287 20 (nI 2)) 287 20 3 = mset Mm 287 20 (nI 3) := by
          funext c k; simp only [mset_at]; split <;> rfl
        rw [e13]
        have hT3 : MTx (mset Mm 287 20 (nI 3)) sz t (fun k => Mm 301 k) := by
          obtain ⟨t1, t2, t3, t4, t5⟩ := hT
          refine ⟨t1, ?_, t3, ?_, ?_⟩
          · rw [mset_row, upd_n _ _ (by decide)]; exact t2
          · rw [mset_row, upd_n _ _ (by decide), upd_n _ _ (by decide), mset_ne _ _ _ (by decide), mset_ne _ _ _ (by decide)]; exact t4
          · rw [mset_ne _ _ _ (by decide)]; exact t5
        refine m_rule hT3 (p := 3) (mset_eq _ _ _ _) (by rw [mset_row, upd_n _ _ (by decide), em]; rfl) h3 (by omega) (fun v M24 hR => ?_)
        obtain ⟨hv, hMF, r20, rn, ⟨b1, b2⟩ | ⟨g1, g2, -⟩⟩ := hR
        · rw [if_pos b1] at hb
          rw [b2, r20]
          exact ⟨fun z => absurd z (by decide), fun _ => hb _ rfl M24 ((hFp 3).trans (Fr.mf hMF))⟩
        · rw [if_neg (by rw [g1]; exact Bool.false_ne_true)] at hg
          have k24 : ∀ k, k ≠ 20 → k ≠ 21 → k ≠ 22 → k ≠ 25 → k ≠ 27 → M24 287 k = Mm 287 k := fun k k1 k2 k3 k4 k5 => by
            rw [hMF.2 k k1 k2 k3 k4 k5, mset_row, upd_n _ _ k1]
          have hcp : cpA M24 nb sz = cpA M nb sz := by
            unfold cpA
            rw [hMF.1 296 (by decide) (by decide) (by decide), hMF.1 297 (by decide) (by decide) (by decide), mset_ne _ _ _ (by decide), mset_ne _ _ _ (by decide), eo 296 (by decide), eo 297 (by decide), hE 296 (by decide), hE 297 (by decide)]
          refine ⟨fun _ => s_copy hn hs (by rw [k24 19 (by decide) (by decide) (by decide) (by decide) (by decide), em]; rfl) (by rw [k24 12 (by decide) (by decide) (by decide) (by decide) (by decide), em]; exact e12) ?_, fun z => absurd g2 z⟩
          rw [hcp]
          exact hg rfl _ (((((((hFp 3).trans (Fr.mf hMF)).cput 297 _).cset 298 nb _).cset 299 nb a).cset 300 nb _).cset 287 12 _)
      · have c3' : ¬ (58 ≤ sgn t sz 2 ∧ sgn t sz 2 ≤ 58) := fun z => c3 (Int32.le_antisymm z.2 z.1)
        rw [if_pos c3'] at hb
        exact hb 2 rfl _ (hFp 2)
    · rw [decide_eq_false c2]
      rw [if_pos c2] at hb
      exact ⟨fun z => absurd rfl z, fun _ => hb 1 rfl _ (hFp 1)⟩
  · rw [decide_eq_false c1]
    rw [if_pos c1] at hb
    exact ⟨fun z => absurd rfl z, fun _ => hb 0 rfl _ hFm⟩
theorem i_drop {M : Mem} (H : Inv M) {nb : Nat} (hn : nb ≤ 24) (en : M 15 0 = nI nb) : Inv (mset (mset M 42 nb 0) 287 11 0) := by
  unfold Inv
  simp (disch := omega) only [mset_ne, mset_row, rws_ne, upd_s, upd_n, mput_n, mput_s, rws_put]
  refine ⟨H.R, H.D, H.S, H.P, H.Q, H.W, ?_, H.X, H.B, H.T, H.M, H.V, H.N, H.G, H.C, H.E, H.H, H.F, H.U, H.L, H.O, H.I, H.J, H.K⟩
  have h := H.A
  unfold gActs at h ⊢
  rw [en, nn_nI nb (by omega)] at h ⊢
  obtain ⟨a1, a2, a3, a4, a5, a6, a7, a8, a9, a10, a11⟩ := h
  refine ⟨a1, a2, a3, a4, a5, fun j hj => ?_, fun j hj => ?_, ?_, fun j hj k hk => ?_, fun k hk => ?_, fun j hj => ?_⟩
  · rw [upd_at]
    split
    · decide
    · exact a6 j hj
  · rw [upd_n _ _ (by omega)]; exact a7 j hj
  · rw [upd_s]
  · rw [upd_n _ _ (by omega)] at hk; exact a9 j hj k hk
  · rw [upd_s] at hk; exact absurd hk (Nat.not_lt_zero k)
  · rw [upd_n _ _ (by omega)]; exact a11 j hj
theorem i_act {M : Mem} (H : Inv M) {nb sz : Nat} {a : Int32} (hn : nb < 24) (hs : sz ≤ 60) (en : M 15 0 = nI nb) (es : M 42 nb = nI sz) (hok : okR (M 296) sz) :
    Inv (mset (mset (mset (mset (mput (mset (mset (mset (mset (mset M 43 nb a) 44 nb 1000000) 15 0 (nI (nb + 1))) 42 (nb + 1) 0) 287 11 0) 297 (cpA M nb sz)) 298 nb (nI sz)) 299 nb a) 300 nb 1000000) 287 12 (nI (nb + 1))) := by
  unfold Inv
  simp (disch := omega) only [mset_ne, mset_row, rws_ne, upd_s, upd_n, mput_n, mput_s, rws_put]
  refine ⟨H.R, H.D, H.S, H.P, H.Q, H.W, ?_, ?_, H.B, H.T, H.M, H.V, H.N, H.G, H.C, H.E, H.H, H.F, H.U, H.L, H.O, H.I, H.J, H.K⟩
  · have h := H.A
    unfold gActs at h ⊢
    rw [en, nn_nI nb (by omega)] at h
    rw [nn_nI (nb + 1) (by omega)]
    obtain ⟨a1, a2, a3, a4, a5, a6, a7, a8, a9, a10, a11⟩ := h
    refine ⟨rfl, nI_pos' (by omega), (nI_le_iff (b := 24) (by omega) (by omega)).mpr (by omega), by rw [a4], by rw [a5], fun j hj => ?_, fun j hj => ?_, ?_, fun j hj k hk => ?_, fun k hk => ?_, fun j hj => ?_⟩
    · rw [upd_at]
      split
      · decide
      · exact a6 j (by omega)
    · rw [upd_n (M 42) _ (by omega), upd_at]
      split
      · rename_i c; rw [c, es]
      · exact a7 j (by omega)
    · rw [upd_s]
    · rw [upd_n _ _ (by omega)] at hk
      unfold cpA
      by_cases c : j = nb
      · subst c
        rw [es, nn_nI sz (by omega)] at hk
        rw [if_pos (by omega), show 60 * j + k - 60 * j = k by omega]
        exact a10 k (by rw [es, nn_nI sz (by omega)]; exact hk)
      · have h60 : nn (M 42 j) ≤ 60 := by
          obtain ⟨w, hw, ew⟩ := nat_of (n := 60) (a6 j (by omega)).1 (a6 j (by omega)).2 (by decide)
          rw [ew, nn_nI w (by omega)]; exact hw
        rw [if_neg (by omega)]
        exact a9 j (by omega) k hk
    · rw [upd_s] at hk; exact absurd hk (Nat.not_lt_zero k)
    · rw [upd_n _ _ (by omega)]
      by_cases c : j = nb
      · subst c
        rw [es, nn_nI sz (by omega)]
        refine okR_eq (fun q hq => ?_) hok
        unfold cpA
        rw [if_pos (by omega), show 60 * j + q - 60 * j = q by omega]
      · have h60 : nn (M 42 j) ≤ 60 := by
          obtain ⟨w, hw, ew⟩ := nat_of (n := 60) (a6 j (by omega)).1 (a6 j (by omega)).2 (by decide)
          rw [ew, nn_nI w (by omega)]; exact hw
        refine okR_eq (fun q hq => ?_) (a11 j (by omega))
        unfold cpA
        rw [if_neg (by omega)]
  · have h := H.X
    unfold gStr at h ⊢
    rw [en, nn_nI nb (by omega)] at h
    rw [nn_nI (nb + 1) (by omega)]
    intro j hj
    rw [upd_at]
    split
    · decide
    · exact h j (by omega)
theorem P_act {M : Mem} (H : Inv M) (a : Int32) : f_X11_act a M (fun r M1 => f_X12_act a M1 (fun r' M2 => r' = r ∧ Inv M2)) := by
  have hA := H.A
  unfold gActs at hA
  obtain ⟨a1, a2, a3, a4, a5, a6, a7, a8, a9, a10, -⟩ := hA
  obtain ⟨nb, hn, en⟩ := nat_of (n := 24) a2 a3 (by decide)
  rw [en] at a1
  rw [en, nn_nI nb (by omega)] at a6 a8 a10
  obtain ⟨sz, hsz, es⟩ := nat_of (n := 60) (a6 nb (Nat.le_refl _)).1 (a6 nb (Nat.le_refl _)).2 (by decide)
  rw [es] at a8 a10
  rw [nn_nI sz (by omega)] at a10
  have e287 : ∀ c, rfC M c 287 = M 287 := fun c => rfC_c M c 287 (by decide)
  have hD := H.D.1
  unfold f_X11_act f_X0_faultOfText f_X0_takeText f_X0_dropText
  rw [v_X11_outside, v_X11_fullAt, v_X11_worse]
  have e24 : (nI nb = 24) ↔ nb = 24 := nI_eq_iff (b := 24) (by omega) (by omega)
  have l24 : ((24 : Int32) ≤ nI nb) ↔ nb = 24 := (nI_le_iff (a := 24) (by omega) (by omega)).trans ⟨fun h => by omega, fun h => by omega⟩
  have hwr := wors_r (outs_r a (M 1 0) 1000) (ful_r (M 15 0) 24)
  have hw0 := wors_0 (outs_r a (M 1 0) 1000) (ful_r (M 15 0) 24)
  refine ⟨fun hz => ?_, fun hz => ?_⟩
  · obtain ⟨o1, o2⟩ := hw0.mp hz
    have o1 := outs_0.mp o1
    have hlt : nb < 24 := by
      unfold ful at o2
      rw [en] at o2
      by_cases c : nb = 24
      · rw [if_pos (l24.mpr c)] at o2; exact absurd o2 (by decide)
      · omega
    have hv : vp_in (nI nb) 25 := vin_nI (by omega) (by decide)
    have htx : ∀ q, q < sz → M 296 q = txT M (17 + nb) q := fun q hq => by
      rw [a10 q hq, rws_in _ _ _ _ (by omega), Nat.one_mul]; rfl
    have hgo : ∀ (M1 : Mem) {K : Int32 → Mem → Prop}, (∀ c, 287 ≤ c → M1 c = M c) → (∀ p, fltO (sgn (txT M (17 + nb)) sz) = some p → ∀ M2, Fr (mset M1 287 11 0) M2 → K (-20 - nI p) M2) → (fltO (sgn (txT M (17 + nb)) sz) = none → ∀ M2, Fr (mset (mset (mset (mset (mput (mset M1 287 11 0) 297 (cpA M nb sz)) 298 nb (nI sz)) 299 nb a) 300 nb 1000000) 287 12 (nI nb + 1)) M2 → K (nI nb + 1 - 1) M2) → f_X12_act a M1 K := fun M1 K hE hb hg => by
      unfold f_X12_act f_X12_act_b31
      rw [show M1 287 0 = M 1 0 by rw [hE 287 (by decide)]; exact hD, show M1 287 12 = nI nb by rw [hE 287 (by decide)]; exact a1, e24]
      refine ⟨fun _ => ⟨fun z => absurd o1.2 (lt_nle.mp z), fun _ => ⟨fun _ => ?_, fun z => absurd z (by omega)⟩⟩, fun z => absurd o1.1 z⟩
      exact m_act hE hlt hsz a8 a1 htx (fun q => a255 _) hb hg
    rw [en, nI_cl nb (by omega), es, Nat.one_mul]
    refine ⟨hv, hv, c_faultOf (by omega) (by omega) hsz (fun M5 hM5 h60 => ?_)⟩
    have hF5 := Fr.rfr hM5
    have e15 : M5 15 0 = nI nb := by rw [hF5 15 0 (by unfold Sc; omega)]; exact en
    have hE5 : ∀ c, 287 ≤ c → M5 c = M c := fun c hc => hM5 c (by omega) (by omega) (by omega) (by omega)
    cases hf : fltO (sgn (txT M (17 + nb)) sz) with
    | none =>
      refine ⟨fun _ => ?_, fun z => absurd rfl z⟩
      rw [e15, nI_cl nb (by omega), nI_1, nI_cl (nb + 1) (by omega)]
      have l24' : (nI nb < 24) ↔ nb < 24 := nI_lt_iff (b := 24) (by omega) (by omega)
      rw [l24']
      refine ⟨fun _ => ⟨vin_nI hlt (by decide), vin_nI hlt (by decide), vin_nI (by omega) (by decide), ?_⟩, fun z => absurd hlt z⟩
      refine hgo _ (fun c hc => ?_) (fun p hp => by rw [hf] at hp; cases hp) (fun _ M2 hF2 => ⟨by rw [nI_1], ?_⟩)
      · simp (disch := omega) only [mset_ne]; exact hE5 c hc
      · have hok : okR (M 296) sz := by
          have h3 : 3 ≤ sz := by
            have hf' := hf
            unfold fltO at hf'
            split at hf'
            · cases hf'
            · split at hf'
              · cases hf'
              · split at hf'
                · cases hf'
                · rename_i c3
                  have c3 := Classical.not_not.mp c3
                  have := sg_lt (t := txT M (17 + nb)) (n := sz) (p := 2) (fun z => by rw [z] at c3; exact absurd c3.1 (by decide))
                  omega
          exact okR_eq (fun q hq => (htx q hq).symm) ((okR_flt h3).mpr hf)
        refine Inv.fr (Fr.trans ?_ hF2) (i_act (a := a) H hlt hsz en es hok)
        rw [nI_1]
        exact (((((((((hF5.cset 43 nb a).cset 44 nb 1000000).cset 15 0 _).cset 42 (nb + 1) 0).cset 287 11 0).cput 297 _).cset 298 nb _).cset 299 nb a).cset 300 nb _).cset 287 12 _
    | some p =>
      have hp := h60 p hf
      refine ⟨fun z => absurd z (n9 p (by omega)), fun _ => ?_⟩
      rw [e15, nI_cl nb (by omega)]
      refine ⟨hv, ?_⟩
      refine hgo _ (fun c hc => ?_) (fun p' hp' M2 hF2 => ?_) (fun hp' => by rw [hf] at hp'; cases hp')
      · simp (disch := omega) only [mset_ne]; exact hE5 c hc
      · rw [hf] at hp'
        cases hp'
        exact ⟨rfl, Inv.fr (Fr.trans ((hF5.cset 42 nb 0).cset 287 11 0) hF2) (i_drop H hn en)⟩
  · have hR : isR (wors (outs a (M 1 0) 1000) (ful (M 15 0) 24)) := by
      unfold isR
      rcases hwr with q | q | q
      · exact absurd q hz
      · exact Or.inr (Or.inr (Or.inr (Or.inl q)))
      · exact Or.inr (Or.inr (Or.inr (Or.inr (Or.inr q))))
    rw [w_X11_refuse hR]
    unfold f_X12_act f_X12_act_b31
    dsimp only
    rw [e287, hD, a1, y6, y4, e24]
    rw [en] at hR hz ⊢
    have e4 : ¬ M 1 0 ≤ a → wors (outs a (M 1 0) 1000) (ful (nI nb) 24) = -4 := fun c => by
      unfold wors; exact if_pos (Or.inl (outs_4.mpr c))
    have e6 : M 1 0 ≤ a → wors (outs a (M 1 0) 1000) (ful (nI nb) 24) = -6 := fun c => by
      rw [en] at hwr
      rcases hwr with q | q | q
      · exact absurd q hz
      · unfold wors at q
        split at q
        · rename_i w
          rcases w with w | w
          · exact absurd c (outs_4.mp w)
          · unfold ful at w; split at w <;> exact absurd w (by decide)
        · rename_i w
          split at q
          · exact absurd (Or.inr q) w
          · exact absurd (Or.inl q) w
      · exact q
    refine ⟨fun c => ?_, fun c => ?_⟩
    · rw [e6 c]
      refine ⟨fun _ => ⟨rfl, i_rf H _⟩, fun c2 => ⟨fun c3 => ?_, fun _ => ⟨rfl, i_rf H _⟩⟩⟩
      exfalso
      have hf0 : ful (M 15 0) 24 = 0 := by
        unfold ful
        rw [en, if_neg (fun z => c3 (l24.mp z))]
      have := hw0.mpr ⟨outs_0.mpr ⟨c, by rw [lt_nle, Classical.not_not] at c2; exact c2⟩, hf0⟩
      rw [en] at this
      exact hz this
    · rw [e4 c]
      exact ⟨rfl, i_rf H _⟩
