/-! SHIFTS, the model: what it finds -/
def Bs (M M' : Mem) : Prop := M' 82 = M 82 ∧ M' 5 = M 5 ∧ M' 6 = M 6 ∧ M' 13 = M 13 ∧ M' 4 0 = M 4 0 ∧ M' 124 = M 124
theorem Bs.refl (M : Mem) : Bs M M := ⟨rfl, rfl, rfl, rfl, rfl, rfl⟩
theorem Bs.trans {M M' M'' : Mem} (h : Bs M M') (h' : Bs M' M'') : Bs M M'' := by
  obtain ⟨a1, a2, a3, a4, a5, a6⟩ := h
  obtain ⟨b1, b2, b3, b4, b5, b6⟩ := h'
  exact ⟨b1.trans a1, b2.trans a2, b3.trans a3, b4.trans a4, b5.trans a5, b6.trans a6⟩
theorem Bs.tfr {M M' : Mem} (h : TFr M M') : Bs M M' :=
  ⟨funext fun k => h 82 k (by omega) (by omega), funext fun k => h 5 k (by omega) (by omega), funext fun k => h 6 k (by omega) (by omega), funext fun k => h 13 k (by omega) (by omega), h 4 0 (by omega) (by omega), funext fun k => h 124 k (by omega) (by omega)⟩
theorem Bs.rRe {M M' : Mem} (h : Bs M M') (s r : Nat) : rR M' s r = rR M s r := by
  obtain ⟨a1, a2, a3, a4, a5, a6⟩ := h
  unfold rR
  rw [a1, a2, a3, a4, a5, a6]
def tmM (M : Mem) (s : Nat) : List Nat := tmL (M 5) (M 6) (nI s) (nn (M 4 0))
theorem Bs.tm {M M' : Mem} (h : Bs M M') (s : Nat) : tmM M' s = tmM M s := by
  obtain ⟨a1, a2, a3, a4, a5, a6⟩ := h
  unfold tmM
  rw [a2, a3, a5]
/-- the model's roster cells -/
def MFr (M M' : Mem) : Prop := ∀ c k, ¬ (349 ≤ c ∧ c ≤ 356) → ¬ (c = 287 ∧ (k = 80 ∨ k = 86 ∨ k = 89 ∨ k = 90 ∨ k = 91)) → M' c k = M c k
theorem Bs.mfr {M M' : Mem} (h : MFr M M') : Bs M M' :=
  ⟨funext fun k => h 82 k (by omega) (by omega), funext fun k => h 5 k (by omega) (by omega), funext fun k => h 6 k (by omega) (by omega), funext fun k => h 13 k (by omega) (by omega), h 4 0 (by omega) (by omega), funext fun k => h 124 k (by omega) (by omega)⟩
theorem i_rosM {M M' : Mem} (H : Inv M) (hF : MFr M M') (hK : gRoM (M' 287 89) (M' 287 90) (M' 287 91) (M 4 0) (M' 352) (M 124) (M 82) (M 5) (M 6) (M 13)) : Inv M' := by
  have h0 : Inv (mput (mset (mset (mset M 287 89 (M' 287 89)) 287 90 (M' 287 90)) 287 91 (M' 287 91)) 352 (M' 352)) := by
    unfold Inv
    simp (disch := omega) only [mset_ne, mset_row, rws_ne, upd_s, upd_n, mput_n, mput_s, rws_put]
    exact ⟨H.R, H.D, H.S, H.P, H.Q, H.W, H.A, H.X, H.B, H.T, H.M, H.V, H.N, H.G, H.C, H.E, H.H, H.F, H.U, H.L, H.O, H.I, H.J, hK⟩
  refine Inv.fr (fun c k hs => ?_) h0
  unfold Sc at hs
  simp only [mput_at]
  by_cases e1 : c = 352
  · subst e1; rw [if_pos rfl]
  · rw [if_neg e1]
    simp only [mset_at]
    by_cases d1 : c = 287 ∧ k = 91
    · rw [if_pos d1, d1.1, d1.2]
    · by_cases d2 : c = 287 ∧ k = 90
      · rw [if_neg d1, if_pos d2, d2.1, d2.2]
      · by_cases d3 : c = 287 ∧ k = 89
        · rw [if_neg d1, if_neg d2, if_pos d3, d3.1, d3.2]
        · rw [if_neg d1, if_neg d2, if_neg d3]
          exact hF c k (by omega) (by omega)
theorem Inv.lef {M : Mem} (H : Inv M) : ∀ j, j < nn (M 4 0) → (M 6 j = 0 ↔ ¬ M 294 j = 0) := fun j hj => by
  obtain ⟨q1, p0, p1, q4, q5, q6, q7, q8, q9, q10, q11, q12⟩ := H.P
  rw [q8 j hj]
  by_cases c : M 294 j = 0
  · rw [if_pos c]; exact ⟨fun z => absurd z (by decide), fun z => absurd c z⟩
  · rw [if_neg c]; exact ⟨fun _ => c, fun _ => rfl⟩
theorem M_four {M : Mem} (H : Inv M) (s : Nat) {K : Mem → Prop} (h : ∀ M', MFr M M' → (∀ c k, c ≠ 349 → ¬ (c = 287 ∧ k = 80) → M' c k = M c k) → Inv M' → M' 287 80 = nI (tmM M s).length → (∀ i, i < (tmM M s).length → M' 349 i = nI ((tmM M s).getD i 0)) → K M') : f_X12_findFour (nI s) M K := by
  obtain ⟨pn1, pn2⟩ := H.pn
  refine t_four (x5 := M 5) (x6 := M 6) (n := nn (M 4 0)) (s := s) pn2 (H.P.1.trans pn1) H.P.2.2.2.1 H.lef (fun M' f1 f2 f3 => ?_)
  have hF : MFr M M' := fun c k d1 d2 => f1 c k (by omega) (by omega)
  refine h M' hF f1 (Inv.fr (fun c k hs => ?_) H) f2 f3
  unfold Sc at hs
  exact f1 c k (by omega) (by omega)
theorem M_fs {M : Mem} (H : Inv M) {s r : Nat} (hs : s < 6) (hr : r < 8) {K : Int32 → Mem → Prop} (h : ∀ v M2, MFr M M2 → Inv M2 → roR (rR M s r) (-1) v (M2 352) → (∀ i, i < (tmM M s).length → M2 349 i = nI ((tmM M s).getD i 0)) → K v M2) : f_X12_findShifts (nI s) (nI r) M K := by
  obtain ⟨pn1, pn2⟩ := H.pn
  obtain ⟨mo1, mo2⟩ := H.mos
  have hned := H.ned
  have hfresh : f_X12_findShifts_b26 K (nI s) (nI r) M := by
    have hfin : ∀ v M1, MFr M M1 → roR (rR M s r) (-1) v (M1 352) → (∀ i, i < (tmM M s).length → M1 349 i = nI ((tmM M s).getD i 0)) → K v (mset (mset (mset M1 287 91 v) 287 89 (nI s)) 287 90 (nI r)) := by
      intro v M1 hF hro h4
      have hx : ∀ c k, ¬ (c = 287 ∧ (k = 89 ∨ k = 90 ∨ k = 91)) → mset (mset (mset M1 287 91 v) 287 89 (nI s)) 287 90 (nI r) c k = M1 c k := fun c k hc => by rw [mset_at, if_neg (by omega), mset_at, if_neg (by omega), mset_at, if_neg (by omega)]
      have hF' : MFr M (mset (mset (mset M1 287 91 v) 287 89 (nI s)) 287 90 (nI r)) := fun c k d1 d2 => by rw [hx c k (by omega)]; exact hF c k d1 d2
      have e352 : mset (mset (mset M1 287 91 v) 287 89 (nI s)) 287 90 (nI r) 352 = M1 352 := funext fun k => hx 352 k (by omega)
      refine h v _ hF' (i_rosM H hF' (Or.inr ⟨s, r, nn (M 124 4), hs, hr, mo2, ?_, mset_eq _ _ _ _, mo1, ?_⟩)) (by rw [e352]; exact hro) (fun i hi => by rw [hx 349 i (by omega)]; exact h4 i hi)
      · rw [mset_nk _ _ _ (by decide), mset_eq]
      · rw [mset_nk _ _ _ (by decide), mset_nk _ _ _ (by decide), mset_eq, e352]
        exact hro
    unfold f_X12_findShifts_b26 f_X12_seekShifts
    refine M_four H s (fun M1 hF1 hf1 hI1 f2 f3 => ?_)
    have hle := tmL_le (M 5) (M 6) (nI s) (nn (M 4 0))
    have htm : tmL (M 5) (M 6) (nI s) (nn (M 4 0)) = tmM M s := rfl
    rw [htm] at hle
    rw [f2, lq_4 (by omega)]
    refine ⟨fun c => ?_, fun c => ?_⟩
    · have h4 : (tmM M s).length = 4 := by omega
      rw [h4] at f3
      have hlt : ∀ i, i < 4 → (tmM M s).getD i 0 < 24 := fun i hi => by
        have := tmL_lt (M 5) (M 6) (nI s) _ _ (getD_mem (l := tmM M s) (a := i) (by omega))
        omega
      have e347 : M1 347 = M 82 := by
        have : M1 347 = M 347 := funext fun k => hF1 347 k (by omega) (by omega)
        rw [this]; exact H.F.1
      refine q_list (nd := fun s => nn (M 82 s)) (fun q _ => by rw [e347]; exact (hned q).1) (fun q _ => (hned q).2) (fun M2 g1 g2 => ?_)
      have hcl : ∀ a, a < (cods (fun s => nn (M 82 s))).length → (cods (fun s => nn (M 82 s))).getD a 0 < 256 := fun a ha => cods_lt (getD_mem ha)
      have hlen := cods24 (nd := fun s => nn (M 82 s)) (fun q _ => (hned q).2)
      generalize hM3 : mset (mset (mset M2 355 0 (-1)) 351 0 0) 356 0 0 = M3
      have h3 : ∀ c k, c ≠ 355 → c ≠ 351 → c ≠ 356 → M3 c k = M2 c k := fun c k d1 d2 d3 => by rw [← hM3, mset_ne _ _ _ d3, mset_ne _ _ _ d2, mset_ne _ _ _ d1]
      have hSH : SHM r (nn (M 124 4)) (wsh (M 13) (tmM M s)) (cods (fun s => nn (M 82 s))) M3 := by
        refine ⟨hr, mo2, hlen, hcl, ?_, ?_, fun d c => wsh_le _ _ _ _, fun M' d c K' k1 k2 hd hc hK => ?_⟩
        · rw [h3 325 4 (by decide) (by decide) (by decide), g1 325 4 (by decide) (by decide) (by decide), hF1 325 4 (by omega) (by omega), H.S.1]; exact mo1
        · refine ⟨(h3 287 86 (by decide) (by decide) (by decide)).trans g2.1, fun a ha => ?_⟩
          rw [h3 353 a (by decide) (by decide) (by decide), h3 354 a (by decide) (by decide) (by decide)]
          exact g2.2 a ha
        · refine q_brk (x13 := M 13) (tm := tmM M s) hd hc (fun i hi => ⟨?_, hlt i hi⟩) (fun p hp b hb => ?_) hK
          · rw [k1, h3 349 i (by decide) (by decide) (by decide), g1 349 i (by decide) (by decide) (by omega)]
            exact f3 i hi
          · rw [k2, h3 348 _ (by decide) (by decide) (by decide), g1 348 _ (by decide) (by decide) (by omega), hF1 348 _ (by omega) (by omega)]
            exact H.W p hp b hb
      have hrR : rR M s r = rS r (nn (M 124 4)) (wsh (M 13) (tmM M s)) (cods (fun s => nn (M 82 s))) 4 [] 0 none := by
        unfold rR rosS
        rw [htm, if_pos h4]
      refine m_rs hSH 3 [] rfl (fun c hc => absurd hc (List.not_mem_nil)) (fun _ => 0) (fun _ => 0) (fun _ => 0) none M3 (-1) (by omega) rfl ⟨fun _ _ _ _ _ _ _ => rfl, rfl, fun k hk => absurd hk (Nat.not_lt_zero _), fun k hk => ?_, fun k hk => ?_, fun k hk => absurd hk (Nat.not_lt_zero _)⟩ ?_ (fun M4 v hG => ?_)
      · have hk0 : k = 0 := Nat.le_zero.mp hk
        subst hk0
        rw [← hM3, mset_ne _ _ _ (by decide), mset_eq]; rfl
      · have hk0 : k = 0 := Nat.le_zero.mp hk
        subst hk0
        rw [← hM3, mset_eq]; rfl
      · rw [← hM3, mset_ne _ _ _ (by decide), mset_ne _ _ _ (by decide)]; exact mset_eq _ _ _ _
      · obtain ⟨v1, v2, v3, v4, v5, v6⟩ := hG
        rw [← hrR] at v2
        refine Lp.one (fun r45 => ?_)
        show f_X12_seekShifts_c45 _ r45 (nI r) v (nI 0 + -1) M4
        unfold f_X12_seekShifts_c45
        refine ⟨fun _ => hfin v M4 (fun c k d1 d2 => ?_) ?_ (fun i hi => ?_), fun z => absurd (by decide) z⟩
        · rw [v1 c k (by omega) (by omega) (by omega) (by omega) (by omega), h3 c k (by omega) (by omega) (by omega), g1 c k (by omega) (by omega) (by omega)]
          exact hF1 c k d1 d2
        · cases hR : rR M s r with
          | none => rw [hR] at v2; exact v2
          | some x =>
            obtain ⟨b, p⟩ := x
            rw [hR] at v2
            exact ⟨v2.1, v2.2.2⟩
        · rw [v1 349 i (by decide) (by decide) (by decide) (by decide) (by decide), h3 349 i (by decide) (by decide) (by decide), g1 349 i (by decide) (by decide) (by omega)]
          exact f3 i (by omega)
    · have hrR : rR M s r = none := by
        unfold rR rosS
        rw [htm, if_neg (by omega)]
      refine hfin (-1) M1 hF1 ?_ f3
      rw [hrR]
      rfl
  unfold f_X12_findShifts
  refine ⟨fun _ => hfresh, fun c1 => ⟨fun _ => hfresh, fun c2 => ?_⟩⟩
  refine M_four H s (fun M1 hF1 hf1 hI1 f2 f3 => ?_)
  have e91 : M1 287 91 = M 287 91 := hf1 287 91 (by decide) (by decide)
  rw [e91]
  refine h _ M1 hF1 hI1 ?_ f3
  have e352 : M1 352 = M 352 := funext fun k => hf1 352 k (by decide) (by omega)
  rw [e352]
  rcases H.K with z | ⟨s', r', m', b1, b2, b3, b4, b5, b6, b7⟩
  · rw [z] at c1
    have := nI_pos' (n := s) (by omega)
    rw [← c1] at this
    exact absurd this (by decide)
  · have es : s' = s := by rw [b4] at c1; exact (nI_eq_iff (by omega) (by omega)).mp c1
    have er : r' = r := by rw [b5] at c2; exact (nI_eq_iff (by omega) (by omega)).mp c2
    have em : m' = nn (M 124 4) := by rw [b6, nn_nI m' (by omega)]
    subst es er em
    exact b7
