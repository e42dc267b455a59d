/-! deeds and counts: the calls -/
def ntl (M : Mem) (i x : Nat) : Bool := !letb (M 311 i) (stM M i (nI x) (M 1 0))
theorem ahd_le {M : Mem} {i : Nat} (hm : mok M i) (j : Int32) : ahd M i j ≤ 30 := by
  obtain ⟨n, hn, en, en2, enn⟩ := mok_n hm
  have := cntB_le (fun q => decide (¬ M 319 (30 * i + q) ≤ j)) (nn (M 317 i))
  unfold ahd
  omega
theorem t_fnl {M : Mem} (H : Inv M) {i : Nat} (hi2 : i < nn (M 0 5)) {u t' : Nat} (hu : u ≤ 1000) (ht' : t' ≤ 1000) {K : Int32 → Mem → Prop} (h : K (fsD (-9) (ntl M i) (t' + 1 - u) u) M) : f_X5_firstNotLetting (127 + 4 * i) (nI u) (nI t') M K := by
  have hm := H.mok hi2
  have hs := H.sok
  have ht := mok_t hm
  obtain ⟨b5, b6, e7⟩ := mok_kd hm
  unfold f_X5_firstNotLetting
  refine ⟨ht, Lp.up (fun τ a => ∃ j, a = (127 + 4 * i, nI t', nI j, nI τ, M) ∧ j ≤ 1000000 ∧ K (fsD (-9) (ntl M i) (t' + 1 - j) j) M ∧ (t' < j ∨ mea M i (nI j) (M 1 0) + τ ≤ 61)) 62 (fun τ a r hτ ha hr => ?_) (j := 0) (by omega) ⟨u, rfl, by omega, h, Or.inr ?_⟩⟩
  · obtain ⟨j, rfl, hj, hk, hme⟩ := ha
    simp only [f_X5_firstNotLetting_c5]
    have l62 : ((62 : Int32) < nI τ) ↔ 62 < τ := nI_lt_iff (a := 62) (by omega) (by omega)
    rw [l62, nI_le_iff (by omega) (by omega)]
    refine ⟨ht, fun z => absurd z (by omega), fun _ => ⟨fun c => ?_, fun c => ?_⟩⟩
    · have hme2 := hme.resolve_left (by omega)
      have hj1 : j ≤ 1000 := by omega
      refine t_X5_stateOn hm hs hj1 _ (t_X5_lets ht (by rw [e7]; exact b5) (by rw [e7]; exact b6) _ ?_)
      rw [e7]
      cases hl : letb (M 311 i) (stM M i (nI j) (M 1 0))
      · refine ⟨fun z => absurd rfl z, fun _ => ?_⟩
        rw [show t' + 1 - j = (t' - j) + 1 by omega] at hk
        unfold fsD at hk
        rw [if_pos (by unfold ntl; rw [hl]; rfl)] at hk
        exact hk
      · refine ⟨fun _ => t_nxt H hi2 hj1 ?_, fun z => absurd z (by decide)⟩
        obtain ⟨y, ey, y1, y2, y3, y4⟩ := nxt_r hm hs hj1 (M 1 0)
        rw [ey, nI_1]
        refine hr (by omega) _ ⟨y, rfl, y2, ?_, ?_⟩
        · have hf : ∀ x, j ≤ x → x < y → x ≤ 1000 → ntl M i x = false := fun x x1 x2 x3 => by
            unfold ntl
            rw [y3 x x1 x2 x3, hl]; rfl
          rcases Nat.lt_or_ge (t' + 1) y with c2 | c2
          · have := fsD_skip (-9) (ntl M i) (t' + 1 - j) 0 j (fun x x1 x2 => hf x x1 (by omega) (by omega))
            rw [Nat.add_zero] at this
            rw [this] at hk
            rw [show t' + 1 - y = 0 by omega]
            exact hk
          · have := fsD_skip (-9) (ntl M i) (y - j) (t' + 1 - y) j (fun x x1 x2 => hf x x1 (by omega) (by omega))
            rw [show y - j + (t' + 1 - y) = t' + 1 - j by omega, show j + (y - j) = y by omega] at this
            rw [this] at hk
            exact hk
        · rcases Nat.lt_or_ge t' y with c2 | c2
          · exact Or.inl c2
          · have := y4 (by omega)
            exact Or.inr (by omega)
    · rw [show t' + 1 - j = 0 by omega] at hk
      exact hk
  · have := ahd_le hm (nI u)
    unfold mea
    split <;> omega
theorem t_vsL {M : Mem} (H : Inv M) {i : Nat} (hi2 : i < nn (M 0 5)) {M' : Mem} (hE : Eqm M M') {u t' : Nat} (ht' : t' ≤ 1000) (hut : u ≤ t' + 1) {K : Int32 → Mem → Prop} (h : K (fsD (-9) (ntl M i) (t' + 1 - u) u) M') :
    Lp (fun (r104 : Int32 × Int32 × Int32 × Mem → Prop) a => f_X12_voidSince_c104 K r104 a.1 a.2.1 a.2.2.1 a.2.2.2) (nI i, nI t', nI u, M') := by
  have hmm := H.mm hi2
  refine Lp.up (fun j a => K (fsD (-9) (ntl M i) (t' + 1 - j) j) M' ∧ a = (nI i, nI t', nI j, M')) (t' + 1) (fun j a r hj ha hr => ?_) (j := u) hut ⟨h, rfl⟩
  obtain ⟨hk, rfl⟩ := ha
  simp only [f_X12_voidSince_c104]
  rw [nI_lt_iff (by omega) (by omega), nI_1]
  refine ⟨fun c => by rw [show t' + 1 - j = 0 by omega] at hk; exact hk, fun c => ?_⟩
  refine q_lets hmm hE (nI_pos' (by omega)) ((nI_le_iff (b := 1000) (by omega) (by omega)).mpr (by omega)) _ ?_
  rw [H.D.1]
  rw [show t' + 1 - j = (t' - j) + 1 by omega] at hk
  unfold fsD at hk
  cases hl : letb (M 311 i) (stM M i (nI j) (M 1 0))
  · rw [if_pos (by unfold ntl; rw [hl]; rfl)] at hk
    exact ⟨fun z => absurd rfl z, fun _ => hk⟩
  · rw [if_neg (by unfold ntl; rw [hl]; decide)] at hk
    exact ⟨fun _ => hr (by omega) _ ⟨by rw [show t' + 1 - (j + 1) = t' - j by omega]; exact hk, rfl⟩, fun z => absurd z (by decide)⟩
def vdM (M : Mem) (q : Nat) : Int32 := if M 73 q < 0 then (if M 77 q = 0 then -9 else M 74 q) else if ¬ M 75 q &&& (M 309 (nn (M 73 q)) ^^^ (-1)) = 0 ∨ ¬ M 76 q ≤ M 310 (nn (M 73 q)) then M 74 q else fsD (-9) (ntl M (nn (M 73 q))) (nn (if M 311 (nn (M 73 q)) = 4 then M 1 0 else M 74 q) + 1 - nn (M 74 q)) (nn (M 74 q))
theorem Inv.dee {M : Mem} (H : Inv M) {q : Nat} (hq : q < nn (M 72 0)) : q < 60 ∧ (M 73 q < 0 ∨ ∃ i, M 73 q = nI i ∧ i < 40 ∧ i < nn (M 0 5)) ∧ (∃ u, u ≤ 1000 ∧ M 74 q = nI u ∧ nI u ≤ M 1 0) ∧ (M 77 q = if 0 < M 343 q then 1 else 0) := by
  obtain ⟨g1, g2, g3, g4, g5, g6, g7, g8, g9⟩ := H.E
  obtain ⟨a, ha, ea⟩ := nat_of (n := 60) g2 g3 (by decide)
  obtain ⟨z1, z2, z3, z4, z5, z6, z7, z8, z9, z10⟩ := g9 q hq
  rw [ea, nn_nI a (by omega)] at hq
  refine ⟨by omega, ?_, ?_, z1⟩
  · by_cases c : M 73 q < 0
    · exact Or.inl c
    · rw [lt_nle, Classical.not_not] at c
      obtain ⟨i, ei, hi, hi2⟩ := H.mat (a := M 73 q) ⟨c, by rw [i_le, i_sub1 H.m0]; rw [i_lt] at z3; omega⟩
      exact Or.inr ⟨i, ei, hi, hi2⟩
  · obtain ⟨u, hu, eu⟩ := nat_of (n := 1000) z5 (Int32.le_trans z6 H.D.2.2.1) (by decide)
    exact ⟨u, hu, eu, by rw [← eu]; exact z6⟩
theorem vd_to {M : Mem} (H : Inv M) (i : Nat) {u : Nat} (hu : u ≤ 1000) (hn : nI u ≤ M 1 0) : ∃ t', t' ≤ 1000 ∧ u ≤ t' ∧ (if M 311 i = 4 then M 1 0 else nI u) = nI t' := by
  obtain ⟨t, ht, et⟩ := nat_of (n := 1000) H.D.2.1 H.D.2.2.1 (by decide)
  split
  · refine ⟨t, ht, ?_, et⟩
    rw [et] at hn
    exact (nI_le_iff (by omega) (by omega)).mp hn
  · exact ⟨u, hu, Nat.le_refl _, rfl⟩
theorem p_vd {M : Mem} (H : Inv M) {q : Nat} (hq : q < nn (M 72 0)) {K : Int32 → Mem → Prop} (h : K (vdM M q) M) : f_X11_voidSince (nI q) M K := by
  obtain ⟨hq60, hmt, ⟨u, hu, eu, hun⟩, e77⟩ := H.dee hq
  have hvq : vp_in (nI q) 60 := vin_nI hq60 (by decide)
  simp only [f_X11_voidSince, f_X11_voidSince_b44, f_X11_voidSince_b95, f_X11_voidSince_b118, v_X11_isMatter H.m0 H.m1]
  rw [nI_cl q (by omega)]
  unfold vdM at h
  rcases hmt with c | ⟨i, ei, hi, hi2⟩
  · have hin : inB (M 73 q) 0 (M 0 5 - 1) = 0 := inB0 (fun z => by have := z.1; rw [lt_nle] at c; exact c this)
    rw [hin]
    rw [if_pos c] at h
    refine ⟨hvq, hvq, fun z => absurd rfl z, fun _ => ⟨hvq, fun c2 => ?_, fun c2 => ?_⟩⟩
    · rw [if_pos c2] at h; exact h
    · rw [if_neg c2] at h; exact h
  · obtain ⟨f1, f2, f3, f4, f5, f6, f7⟩ := mok_f (H.mok hi2)
    have hin : inB (nI i) 0 (M 0 5 - 1) = 1 := by
      obtain ⟨o, ho, eo⟩ := nat_of (n := 40) H.m0 H.m1 (by decide)
      rw [eo, nn_nI o (by omega)] at hi2
      refine inB1 ⟨nI_pos' (by omega), ?_⟩
      rw [i_le, i_sub1 H.m0, eo, nI_ti i (by omega), nI_ti o (by omega)]
      omega
    have hvi : vp_in (nI i) 40 := vin_nI hi (by decide)
    have hn0 : ¬ nI i < 0 := by rw [lt_nle]; exact fun z => z (nI_pos' (by omega))
    have ht := mok_t (H.mok hi2)
    obtain ⟨t', h1, h2, e⟩ := vd_to H i hu hun
    have g := fun K h => t_fnl H hi2 hu h1 (K := K) h
    rw [ei, nn_nI i (by omega), if_neg hn0, eu, e, nn_nI u (by omega), nn_nI t' (by omega)] at h
    rw [ei, hin, nI_cl i (by omega), f6, f7, f3, eu]
    generalize fsD (-9) (ntl M i) (t' + 1 - u) u = x at *
    generalize M 75 q &&& (M 309 i ^^^ (-1)) = y at *
    clear H
    grind
theorem q_vd {M : Mem} (H : Inv M) {q : Nat} (hq : q < nn (M 72 0)) {M' : Mem} (hE : Eqm M M') {K : Int32 → Mem → Prop} (h : K (vdM M q) M') : f_X12_voidSince (nI q) M' K := by
  obtain ⟨hq60, hmt, ⟨u, hu, eu, hun⟩, e77⟩ := H.dee hq
  obtain ⟨g1, g2, g3, g4, g5, g6, g7, -⟩ := H.E
  have hvq : vp_in (nI q) 60 := vin_nI hq60 (by decide)
  simp only [f_X12_voidSince, f_X12_voidSince_b31, f_X12_voidSince_b65, f_X12_voidSince_b95]
  rw [nI_cl q (by omega), hE 339 (by decide), g4, hE 340 (by decide), g5, hE 341 (by decide), g6, hE 342 (by decide), g7, hE 343 (by decide), hE 309 (by decide), hE 310 (by decide), hE 311 (by decide), hE 287 (by decide), H.D.1]
  unfold vdM at h
  rcases hmt with c | ⟨i, ei, hi, hi2⟩
  · have c' : ¬ 0 ≤ M 73 q := lt_nle.mp c
    rw [if_pos c, e77] at h
    have hle : (M 343 q ≤ 0) ↔ ¬ 0 < M 343 q := by rw [lt_nle, Classical.not_not]
    have h10 : ¬ (1 : Int32) = 0 := by decide
    clear H
    grind
  · have hvi : vp_in (nI i) 40 := vin_nI hi (by decide)
    have hn0 : ¬ nI i < 0 := by rw [lt_nle]; exact fun z => z (nI_pos' (by omega))
    have hp0 : 0 ≤ nI i := nI_pos' (by omega)
    obtain ⟨t', h1, h2, e⟩ := vd_to H i hu hun
    have g := fun (h : K (fsD (-9) (ntl M i) (t' + 1 - u) u) M') => t_vsL H hi2 hE h1 (by omega) h
    rw [ei, nn_nI i (by omega), if_neg hn0, eu, e, nn_nI u (by omega), nn_nI t' (by omega)] at h
    rw [ei, nI_cl i (by omega), eu]
    generalize fsD (-9) (ntl M i) (t' + 1 - u) u = x at *
    generalize M 75 q &&& (M 309 i ^^^ (-1)) = y at *
    by_cases c4 : M 311 i = 4
    · rw [if_pos c4] at e
      rw [e]
      generalize Lp (fun (r104 : Int32 × Int32 × Int32 × Mem → Prop) a => f_X12_voidSince_c104 K r104 a.1 a.2.1 a.2.2.1 a.2.2.2) (nI i, nI t', nI u, M') = LL at *
      clear H hE
      grind
    · rw [if_neg c4] at e
      rw [← e] at g
      generalize Lp (fun (r104 : Int32 × Int32 × Int32 × Mem → Prop) a => f_X12_voidSince_c104 K r104 a.1 a.2.1 a.2.2.1 a.2.2.2) (nI i, nI u, nI u, M') = LL at *
      clear H hE
      grind
theorem vdM_r {M : Mem} (H : Inv M) {q : Nat} (hq : q < nn (M 72 0)) : vdM M q = -9 ∨ 0 ≤ vdM M q := by
  obtain ⟨hq60, hmt, ⟨u, hu, eu, hun⟩, e77⟩ := H.dee hq
  have hp : 0 ≤ M 74 q := by rw [eu]; exact nI_pos' (by omega)
  unfold vdM
  split
  · split
    · exact Or.inl rfl
    · exact Or.inr hp
  · split
    · exact Or.inr hp
    · rcases hmt with c | ⟨i, ei, hi, hi2⟩
      · contradiction
      · obtain ⟨t', h1, h2, e⟩ := vd_to H i hu hun
        rw [ei, nn_nI i (by omega), eu, e, nn_nI u (by omega), nn_nI t' (by omega)]
        rcases fsD_spec (-9) (ntl M i) (t' + 1 - u) u with ⟨e1, -⟩ | ⟨s, h3, h4, e1, -⟩
        · exact Or.inl e1
        · exact Or.inr (by rw [e1]; exact nI_pos' (by omega))
def huS (M : Mem) (x d : Int32) : Nat → Int32
  | 0 => 0
  | q + 1 => if M 78 q = x ∧ ¬ M 80 q < d then huS M x d q + M 79 q else huS M x d q
theorem p_hu {M : Mem} (H : Inv M) (x d : Int32) (K : Int32 → Mem → Prop) (h : K (huS M x d (nn (M 72 6))) M) : f_X4_hungSince x d M K := by
  obtain ⟨n, hn, e⟩ := nat_of (n := 100) H.H.2.1 H.H.2.2.1 (by decide)
  rw [e, nn_nI n (by omega)] at h
  unfold f_X4_hungSince
  refine Lp.up (fun q a => a = (x, d, huS M x d q, nI q, M)) n (fun q a r hq ha hr => ?_) (j := 0) (by omega) rfl
  subst ha
  simp only [f_X4_hungSince_c5, f_X4_hungSince_b46]
  rw [e, nI_le_iff (by omega) (by omega), nI_cl q (by omega), nI_1]
  refine ⟨fun c => by rw [show q = n by omega]; exact h, fun c => ?_⟩
  have hv : vp_in (nI q) 100 := vin_nI (by omega) (by decide)
  have hr2 := hr (by omega) _ rfl
  unfold huS at hr2
  clear H h
  grind
theorem q_hu {M : Mem} (H : Inv M) (x d : Int32) {M' : Mem} (hE : Eqm M M') (K : Int32 → Mem → Prop) (h : K (huS M x d (nn (M 72 6))) M') : f_X12_hung x d M' K := by
  obtain ⟨g1, g2, g3, g4, g5, g6⟩ := H.H
  obtain ⟨n, hn, e⟩ := nat_of (n := 100) g2 g3 (by decide)
  rw [e, nn_nI n (by omega)] at h
  unfold f_X12_hung
  refine Lp.up (fun q a => a = (x, d, huS M x d q, nI q, M')) n (fun q a r hq ha hr => ?_) (j := 0) (by omega) rfl
  subst ha
  simp only [f_X12_hung_c5, f_X12_hung_b47, f_X12_hung_b48]
  rw [hE 287 (by decide), g1, e, nI_le_iff (by omega) (by omega), nI_cl q (by omega), nI_1, hE 344 (by decide), g4, hE 345 (by decide), g5, hE 346 (by decide), g6, add0]
  refine ⟨fun c => by rw [show q = n by omega]; exact h, fun c => ?_⟩
  have hv : vp_in (nI q) 100 := vin_nI (by omega) (by decide)
  have hr2 := hr (by omega) _ rfl
  unfold huS at hr2
  clear H h hE
  grind
theorem Inv.deN {M : Mem} (H : Inv M) {a : Int32} (h : 0 ≤ a ∧ a ≤ M 72 0 - 1) : ∃ i, a = nI i ∧ i < 60 ∧ i < nn (M 72 0) := by
  obtain ⟨n, hn, en⟩ := nat_of (n := 60) H.E.2.1 H.E.2.2.1 (by decide)
  obtain ⟨i, hi, ei⟩ := natL en (by omega) h
  exact ⟨i, ei, by omega, by rw [en, nn_nI n (by omega)]; exact hi⟩
theorem xf1 (M : Mem) (K : Int32 → Mem → Prop) : f_X11_refuseFar (-1) M K ↔ K (farv (-1)) (rfC M (-1)) := v_X11_refuseFar (by decide) M K
theorem xf2 (M : Mem) (K : Int32 → Mem → Prop) : f_X11_refuseFar (-2) M K ↔ K (farv (-2)) (rfC M (-2)) := v_X11_refuseFar (by decide) M K
theorem yf1 (M : Mem) (K : Int32 → Mem → Prop) : f_X12_refuseFar (-1) M K ↔ K (farv (-1)) (rfM M (-1)) := v_X12_refuseFar (by decide) M K
theorem yf2 (M : Mem) (K : Int32 → Mem → Prop) : f_X12_refuseFar (-2) M K ↔ K (farv (-2)) (rfM M (-2)) := v_X12_refuseFar (by decide) M K
def deV (M : Mem) (q : Nat) (b : Int32) : Int32 := if b = 0 then M 73 q else if b = 1 then M 74 q else if b = 2 then vdM M q else if b = 3 then huS M (nI q) 0 (nn (M 72 6)) else if vdM M q = -9 then 0 else huS M (nI q) (vdM M q) (nn (M 72 6))
def cdeedOf (M : Mem) (a b : Int32) : Int32 := if ¬ (0 ≤ a ∧ a ≤ M 72 0 - 1) then -1 else if ¬ (0 ≤ b ∧ b ≤ 4) then -2 else 0
theorem C_deedOf {M : Mem} (H : Inv M) (a b : Int32) {K : Int32 → Mem → Prop} (k1 : isR (cdeedOf M a b) → K (farv (cdeedOf M a b)) (rfC M (cdeedOf M a b))) (k2 : cdeedOf M a b = 0 → K (deV M (nn a) b) M) : f_X11_deedOf a b M K := by
  simp only [f_X11_deedOf, f_X11_deedOf_b113, v_X4_has H.E.2.1 H.E.2.2.1]
  unfold cdeedOf at k1 k2
  unfold isR at k1
  have e2 : ∀ x l g : Int32, inB x l g = if l ≤ x ∧ x ≤ g then 1 else 0 := fun _ _ _ => rfl
  rw [e2]
  have g6 : (b.toInt < 0 ∨ 4 < b.toInt) ↔ ¬ (0 ≤ b ∧ b ≤ 4) := ⟨fun q z => by rw [i_le, i_le] at z; have e0 : (0 : Int32).toInt = 0 := rfl; have e1 : (4 : Int32).toInt = 4 := rfl; omega, ix5⟩
  have g7 : (0 ≤ b ∧ b ≤ 4) → b = 0 ∨ b = 1 ∨ b = 2 ∨ b = 3 ∨ b = 4 := i5
  by_cases c1 : 0 ≤ a ∧ a ≤ M 72 0 - 1
  · obtain ⟨q, rfl, hq, hq2⟩ := H.deN c1
    have g1 := fun K h => p_vd H hq2 (K := K) h
    have g2 := p_hu H (nI q)
    have hv : vp_in (nI q) 60 := vin_nI hq (by decide)
    rw [nn_nI q (by omega)] at k2
    rw [nI_cl q (by omega)]
    unfold deV at k2
    generalize vdM M q = vd at *
    clear H
    grind (splits := 40) [xf1, xf2]
  · clear k2
    grind [xf1]
theorem M_deedOf {M : Mem} (H : Inv M) (a b : Int32) {M' : Mem} (hE : Eqm M M') {K : Int32 → Mem → Prop} (k1 : isR (cdeedOf M a b) → K (farv (cdeedOf M a b)) (rfM M' (cdeedOf M a b))) (k2 : cdeedOf M a b = 0 → K (deV M (nn a) b) M') : f_X12_deedOf a b M' K := by
  simp only [f_X12_deedOf, f_X12_deedOf_b100, v_X12_isDeed, v_X12_in]
  rw [hE 287 (by decide), H.E.1]
  unfold cdeedOf at k1 k2
  unfold isR at k1
  have e2 : ∀ x l g : Int32, inB x l g = if l ≤ x ∧ x ≤ g then 1 else 0 := fun _ _ _ => rfl
  simp only [e2]
  have g7 : (0 ≤ b ∧ b ≤ 4) → b = 0 ∨ b = 1 ∨ b = 2 ∨ b = 3 ∨ b = 4 := i5
  by_cases c1 : 0 ≤ a ∧ a ≤ M 72 0 - 1
  · obtain ⟨q, rfl, hq, hq2⟩ := H.deN c1
    have g1 := fun K h => q_vd H hq2 hE (K := K) h
    have g2 := fun d K h => q_hu H (nI q) d hE K h
    have hr := vdM_r H hq2
    have hv : vp_in (nI q) 60 := vin_nI hq (by decide)
    have eA : ∀ k, M' 339 k = M 73 k := fun k => by rw [hE 339 (by decide)]; exact congrFun H.E.2.2.2.1 k
    have eB : ∀ k, M' 340 k = M 74 k := fun k => by rw [hE 340 (by decide)]; exact congrFun H.E.2.2.2.2.1 k
    have hcl : (nI q).toNatClampNeg = q := nI_cl q (by omega)
    rw [nn_nI q (by omega)] at k2
    unfold deV at k2
    have h9 : vdM M q = -9 → ¬ 0 ≤ vdM M q := fun z => by rw [z]; decide
    generalize vdM M q = vd at *
    clear H hE
    grind (splits := 40) [yf1, yf2]
  · clear k2
    grind [yf1]
theorem P_deedOf {M : Mem} (H : Inv M) (a b : Int32) : f_X11_deedOf a b M (fun r M1 => f_X12_deedOf a b M1 (fun r' M2 => r' = r ∧ Inv M2)) :=
  C_deedOf H a b (fun hz => M_deedOf H a b (Eqm.rfC M _) (fun _ => ⟨rfl, i_rf H _⟩) (fun h0 => absurd h0 (nR0 hz)))
    (fun h0 => M_deedOf H a b (Eqm.refl M) (fun hz => absurd h0 (nR0 hz)) (fun _ => ⟨rfl, H⟩))
/-! counts -/
def hrB (M : Mem) (s : Int32) (p : Nat) : Bool := decide (¬ M 6 p = 0 ∧ (s >>> (M 5 p &&& 31)) &&& 1 = 1)
def hreB (M : Mem) (p : Nat) : Bool := decide (¬ M 6 p = 0)
def vdB (M : Mem) (q : Nat) : Bool := decide (¬ vdM M q = -9)
theorem hreB_t (M : Mem) (p : Nat) : hreB M p = true ↔ ¬ M 6 p = 0 := by unfold hreB; exact decide_eq_true_iff
theorem vdB_t (M : Mem) (p : Nat) : vdB M p = true ↔ ¬ vdM M p = -9 := by unfold vdB; exact decide_eq_true_iff
theorem cnt_st (p : Nat → Bool) (n : Nat) : nI (cntB p (n + 1)) = if p n = true then nI (cntB p n) + 1 else nI (cntB p n) := by
  split
  · exact cnt_s1 (by assumption)
  · exact cnt_s0 (by simpa using (by assumption : ¬ p n = true))
theorem t_here {M : Mem} {n : Nat} (hn : n ≤ 24) (e : M 4 0 = nI n) (s : Int32) (K : Int32 → Mem → Prop) (h : K (nI (cntB (hrB M s) n)) M) : f_X9_hereIn s M K := by
  unfold f_X9_hereIn
  refine Lp.up (fun q a => a = (s, nI (cntB (hrB M s) q), nI q, M)) n (fun q a r hq ha hr => ?_) (j := 0) (by omega) rfl
  subst ha
  simp only [f_X9_hereIn_c4, f_X9_hereIn_b38]
  rw [e, nI_le_iff (by omega) (by omega), nI_cl q (by omega)]
  refine ⟨fun c => by rw [show q = n by omega]; exact h, fun c => ?_⟩
  have hv : vp_in (nI q) 24 := vin_nI (by omega) (by decide)
  have hr2 := hr (by omega) _ rfl
  rw [cnt_st] at hr2
  have hx : hrB M s q = true ↔ (¬ M 6 q = 0 ∧ (s >>> (M 5 q &&& 31)) &&& 1 = 1) := by unfold hrB; exact decide_eq_true_iff
  rw [nI_1]
  generalize hrB M s q = x at *
  clear h hr
  grind
theorem all63 : ∀ s : Fin 6, ((63 : Int32) >>> (nI s.val &&& 31)) &&& 1 = 1 := by decide
theorem hr63 {M : Mem} (H : Inv M) (p : Nat) : hrB M 63 p = hreB M p := by
  obtain ⟨s, hs, es⟩ := nat_of (n := 5) (H.P.2.2.2.2.2.2.1 p).1 (H.P.2.2.2.2.2.2.1 p).2 (by decide)
  have := all63 ⟨s, by omega⟩
  unfold hrB hreB
  rw [es]
  simp only at this
  simp [this]
theorem t_cH {M : Mem} (H : Inv M) {n : Nat} (hn : n ≤ 30) (e : M 62 0 = nI n) (K : Int32 → Mem → Prop) (h : K (nI (cntB (hldB M) n)) M) : f_X11_countHolding M K := by
  unfold f_X11_countHolding
  refine Lp.up (fun q a => a = (nI (cntB (hldB M) q), nI q, M)) n (fun q a r hq ha hr => ?_) (j := 0) (by omega) rfl
  subst ha
  simp only [f_X11_countHolding_c4, f_X11_countHolding_b26]
  rw [e, nI_le_iff (by omega) (by omega)]
  refine ⟨fun c => by rw [show q = n by omega]; exact h, fun c => ?_⟩
  have g := p_holds H (q := q) (by rw [e, nn_nI n (by omega)]; omega)
  have hr2 := hr (by omega) _ rfl
  rw [cnt_st] at hr2
  rw [nI_1]
  unfold bi at g
  generalize hldB M q = x at *
  clear H h hr
  grind
theorem t_cV {M : Mem} (H : Inv M) {n : Nat} (hn : n ≤ 60) (e : M 72 0 = nI n) (K : Int32 → Mem → Prop) (h : K (nI (cntB (vdB M) n)) M) : f_X11_countVoid M K := by
  unfold f_X11_countVoid
  refine Lp.up (fun q a => a = (nI (cntB (vdB M) q), nI q, M)) n (fun q a r hq ha hr => ?_) (j := 0) (by omega) rfl
  subst ha
  simp only [f_X11_countVoid_c4, f_X11_countVoid_b28]
  rw [e, nI_le_iff (by omega) (by omega)]
  refine ⟨fun c => by rw [show q = n by omega]; exact h, fun c => ?_⟩
  have g := fun K h => p_vd H (q := q) (by rw [e, nn_nI n (by omega)]; omega) (K := K) h
  have hr2 := hr (by omega) _ rfl
  rw [cnt_st] at hr2
  simp only [vdB_t] at hr2
  rw [nI_1 q]
  generalize vdM M q = x at *
  clear H h hr
  grind
def cntV (M : Mem) (b : Int32) : Int32 := if b = 0 then M 1 0 else if b = 1 then nI (cntB (hreB M) (nn (M 4 0))) else if b = 2 then M 15 0 else if b = 3 then M 0 5 else if b = 4 then M 51 1 else if b = 5 then M 51 5 else if b = 6 then nI (cntB (hldB M) (nn (M 62 0))) else if b = 7 then M 72 0 else if b = 8 then nI (cntB (vdB M) (nn (M 72 0))) else if b = 9 then M 42 (nn (M 15 0)) else if b = 10 then M 0 14 else if 11 ≤ b ∧ b ≤ 16 then M 126 (nn (b - 10)) else -9
theorem ix11 {a : Int32} : (a.toInt < 0 ∨ 10 < a.toInt) ↔ ¬ (0 ≤ a ∧ a ≤ 10) := by
  rw [i_le, i_le]
  have e0 : (0 : Int32).toInt = 0 := rfl
  have e1 : (10 : Int32).toInt = 10 := rfl
  omega
theorem C_count {M : Mem} (H : Inv M) (b : Int32) {K : Int32 → Mem → Prop} (k2 : K (cntV M b) M) : f_X11_count b M K := by
  obtain ⟨n, hn, en⟩ := nat_of (n := 24) H.P.2.1 H.P.2.2.1 (by decide)
  obtain ⟨ag, hag, eag⟩ := nat_of (n := 30) H.G.2.1 H.G.2.2.1 (by decide)
  obtain ⟨dn, hdn, edn⟩ := nat_of (n := 60) H.E.2.1 H.E.2.2.1 (by decide)
  obtain ⟨ac, hac, eac⟩ := nat_of (n := 24) H.A.2.1 H.A.2.2.1 (by decide)
  have g1 := t_here hn en 63
  have g2 := t_cH H hag eag
  have g3 := t_cV H hdn edn
  rw [cntB_cong (fun p _ => hr63 H p)] at g1
  have hv : vp_in (M 15 0) 25 := by rw [eac]; exact vin_nI (by omega) (by decide)
  have hv2 : 11 ≤ b → b ≤ 16 → vp_in (b - 10) 7 := fun x y => vin_of (by lia) (by
    have : b - 10 ≤ 6 := by lia
    have := i_le.mp this
    have e6 : (6 : Int32).toInt = 6 := rfl
    omega)
  simp only [f_X11_count, f_X11_count_b22, f_X0_fed, ix11]
  unfold cntV at k2
  rw [en, nn_nI n (by omega), eag, nn_nI ag (by omega), edn, nn_nI dn (by omega)] at k2
  rw [edn]
  unfold nn at k2
  have g7 : (0 ≤ b ∧ b ≤ 10) → b = 0 ∨ b = 1 ∨ b = 2 ∨ b = 3 ∨ b = 4 ∨ b = 5 ∨ b = 6 ∨ b = 7 ∨ b = 8 ∨ b = 9 ∨ b = 10 := fun q => by lia
  clear H en eag edn eac
  by_cases c : 0 ≤ b ∧ b ≤ 10
  · rcases g7 c with q | q | q | q | q | q | q | q | q | q | q <;> subst q <;> simp [-decide_not] at k2 ⊢ <;> first | exact k2 | exact ⟨hv, k2⟩ | exact g1 _ k2 | exact g2 _ k2 | exact g3 _ k2
  · clear g7 g1 g2 g3
    have hne : ¬ b = 0 ∧ ¬ b = 1 ∧ ¬ b = 2 ∧ ¬ b = 3 ∧ ¬ b = 4 ∧ ¬ b = 5 ∧ ¬ b = 6 ∧ ¬ b = 7 ∧ ¬ b = 8 ∧ ¬ b = 9 ∧ ¬ b = 10 := by refine ⟨?_, ?_, ?_, ?_, ?_, ?_, ?_, ?_, ?_, ?_, ?_⟩ <;> (intro q; subst q; exact c (by decide))
    obtain ⟨n0, n1, n2, n3, n4, n5, n6, n7, n8, n9, n10⟩ := hne
    simp only [n0, n1, n2, n3, n4, n5, n6, n7, n8, n9, n10, if_false, false_implies, and_true, c, not_false_eq_true, true_implies] at k2 ⊢
    grind
theorem t_cP {M : Mem} (H : Inv M) {M' : Mem} (hE : Eqm M M') {n : Nat} (hn : n ≤ 24) (e : M 4 0 = nI n) (K : Int32 → Mem → Prop) (h : K (nI (cntB (hreB M) n)) M') : Lp (fun (r67 : Int32 × Int32 × Mem → Prop) a => f_X12_count_c67 K r67 a.1 a.2.1 a.2.2) (0, 0, M') := by
  refine Lp.up (fun q a => a = (nI (cntB (hreB M) q), nI q, M')) n (fun q a r hq ha hr => ?_) (j := 0) (by omega) rfl
  subst ha
  simp only [f_X12_count_c67, f_X12_count_b90]
  rw [hE 287 (by decide), H.P.1, e, nI_le_iff (by omega) (by omega), nI_cl q (by omega), hE 294 (by decide), add0]
  refine ⟨fun c => by rw [show q = n by omega]; exact h, fun c => ?_⟩
  have hv : vp_in (nI q) 24 := vin_nI (by omega) (by decide)
  have h6 := H.P.2.2.2.2.2.2.2.1 q (by rw [e, nn_nI n (by omega)]; omega)
  have hr2 := hr (by omega) _ rfl
  rw [cnt_st] at hr2
  simp only [hreB_t] at hr2
  rw [nI_1 q]
  clear H hE h hr
  grind
theorem t_cHM {M : Mem} (H : Inv M) {M' : Mem} (hE : Eqm M M') {n : Nat} (hn : n ≤ 30) (e : M 62 0 = nI n) (K : Int32 → Mem → Prop) (h : K (nI (cntB (hldB M) n)) M') : Lp (fun (r122 : Int32 × Int32 × Mem → Prop) a => f_X12_count_c122 K r122 a.1 a.2.1 a.2.2) (0, 0, M') := by
  refine Lp.up (fun q a => a = (nI (cntB (hldB M) q), nI q, M')) n (fun q a r hq ha hr => ?_) (j := 0) (by omega) rfl
  subst ha
  simp only [f_X12_count_c122, f_X12_count_b144]
  rw [hE 287 (by decide), H.G.1, e, nI_le_iff (by omega) (by omega), add0]
  refine ⟨fun c => by rw [show q = n by omega]; exact h, fun c => ?_⟩
  have g := q_holds H (q := q) (by rw [e, nn_nI n (by omega)]; omega) hE
  have hr2 := hr (by omega) _ rfl
  rw [cnt_st] at hr2
  rw [nI_1]
  unfold bi at g
  generalize hldB M q = x at *
  clear H hE h hr
  grind
theorem t_cVM {M : Mem} (H : Inv M) {M' : Mem} (hE : Eqm M M') {n : Nat} (hn : n ≤ 60) (e : M 72 0 = nI n) (K : Int32 → Mem → Prop) (h : K (nI (cntB (vdB M) n)) M') : Lp (fun (r161 : Int32 × Int32 × Mem → Prop) a => f_X12_count_c161 K r161 a.1 a.2.1 a.2.2) (0, 0, M') := by
  refine Lp.up (fun q a => a = (nI (cntB (vdB M) q), nI q, M')) n (fun q a r hq ha hr => ?_) (j := 0) (by omega) rfl
  subst ha
  simp only [f_X12_count_c161, f_X12_count_b183]
  rw [hE 287 (by decide), H.E.1, e, nI_le_iff (by omega) (by omega), add0]
  refine ⟨fun c => by rw [show q = n by omega]; exact h, fun c => ?_⟩
  have hqn : q < nn (M 72 0) := by rw [e, nn_nI n (by omega)]; omega
  have g := fun K h => q_vd H hqn hE (K := K) h
  have hrg := vdM_r H hqn
  have h9 : vdM M q = -9 → vdM M q < 0 := fun z => by rw [z]; decide
  have hr2 := hr (by omega) _ rfl
  rw [cnt_st] at hr2
  simp only [vdB_t] at hr2
  rw [nI_1 q]
  generalize vdM M q = x at *
  clear H hE h hr
  grind
theorem M_count {M : Mem} (H : Inv M) (b : Int32) {M' : Mem} (hE : Eqm M M') {K : Int32 → Mem → Prop} (k2 : K (cntV M b) M') : f_X12_count b M' K := by
  obtain ⟨n, hn, en⟩ := nat_of (n := 24) H.P.2.1 H.P.2.2.1 (by decide)
  obtain ⟨ag, hag, eag⟩ := nat_of (n := 30) H.G.2.1 H.G.2.2.1 (by decide)
  obtain ⟨dn, hdn, edn⟩ := nat_of (n := 60) H.E.2.1 H.E.2.2.1 (by decide)
  have g1 := t_cP H hE hn en
  have g2 := t_cHM H hE hag eag
  have g3 := t_cVM H hE hdn edn
  have hv2 : 11 ≤ b → b ≤ 16 → vp_in (b - 10) 7 := fun x y => vin_of (by lia) (by
    have : b - 10 ≤ 6 := by lia
    have := i_le.mp this
    have e6 : (6 : Int32).toInt = 6 := rfl
    omega)
  simp only [f_X12_count, f_X12_count_b228, v_X12_in, ix11]
  rw [hE 287 (by decide), H.D.1, H.A.1, H.M.1, H.V.1, H.N.1, H.E.1, H.O.1, hE 295 (by decide), show M 295 = M 126 from H.R, show M 287 11 = M 42 (nn (M 15 0)) from H.A.2.2.2.2.2.2.2.1]
  unfold cntV at k2
  rw [en, nn_nI n (by omega), eag, nn_nI ag (by omega), edn, nn_nI dn (by omega)] at k2
  rw [edn]
  have e2 : inB b 11 16 = if 11 ≤ b ∧ b ≤ 16 then 1 else 0 := rfl
  have g7 : (0 ≤ b ∧ b ≤ 10) → b = 0 ∨ b = 1 ∨ b = 2 ∨ b = 3 ∨ b = 4 ∨ b = 5 ∨ b = 6 ∨ b = 7 ∨ b = 8 ∨ b = 9 ∨ b = 10 := fun q => by lia
  clear H hE en eag edn
  by_cases c : 0 ≤ b ∧ b ≤ 10
  · rcases g7 c with q | q | q | q | q | q | q | q | q | q | q <;> subst q <;> simp [-decide_not] at k2 ⊢ <;> first | exact k2 | exact g1 _ k2 | exact g2 _ k2 | exact g3 _ k2
  · clear g7 g1 g2 g3
    have hne : ¬ b = 0 ∧ ¬ b = 1 ∧ ¬ b = 2 ∧ ¬ b = 3 ∧ ¬ b = 4 ∧ ¬ b = 5 ∧ ¬ b = 6 ∧ ¬ b = 7 ∧ ¬ b = 8 ∧ ¬ b = 9 ∧ ¬ b = 10 := by refine ⟨?_, ?_, ?_, ?_, ?_, ?_, ?_, ?_, ?_, ?_, ?_⟩ <;> (intro q; subst q; exact c (by decide))
    obtain ⟨n0, n1, n2, n3, n4, n5, n6, n7, n8, n9, n10⟩ := hne
    simp only [n0, n1, n2, n3, n4, n5, n6, n7, n8, n9, n10, if_false, false_implies, and_true, c, not_false_eq_true, true_implies] at k2 ⊢
    unfold nn at k2
    grind
theorem P_count {M : Mem} (H : Inv M) (b : Int32) : f_X11_count b M (fun r M1 => f_X12_count b M1 (fun r' M2 => r' = r ∧ Inv M2)) :=
  C_count H b (M_count H b (Eqm.refl M) ⟨rfl, H⟩)
