/-! SHIFTS, the class: what each way breaks on each day -/
theorem m3s (d s : Nat) : (3 : Int32) * nI d + nI s = nI (3 * d + s) := by rw [show (3 : Int32) = nI 3 from rfl, pk_mul, nI_add]
theorem wsh_le (x13 : Nat → Int32) (tm : List Nat) (d c : Nat) : wsh x13 tm d c ≤ 4 := s4_le _ 1 (fun i => by show (if _ then 1 else 0) ≤ 1; split <;> omega)
def wsF (x13 : Nat → Int32) (tm : List Nat) (d c i : Nat) : Nat := if shN c i < 3 ∧ bt (x13 (tm.getD i 0)) (3 * d + shN c i) = true then 1 else 0
theorem t_broken {tm : List Nat} {d c : Nat} (hd : d < 4) (hc : c < 256) {M : Mem} (e83 : ∀ i, i < 4 → M 83 i = nI (tm.getD i 0) ∧ tm.getD i 0 < 24) {K : Int32 → Mem → Prop} (h : K (nI (wsh (M 13) tm d c)) M) : f_X8_brokenOn (nI d) (nI c) M K := by
  have hw : wsh (M 13) tm d c = sK (wsF (M 13) tm d c) 4 := (sK4 _).symm
  unfold f_X8_brokenOn
  refine Lp.up (fun i a => a = (nI d, nI c, nI (sK (wsF (M 13) tm d c) i), nI i, M)) 4 (fun i a r hi ha hr => ?_) (j := 0) (by omega) rfl
  subst ha
  unfold f_X8_brokenOn_c6 f_X8_brokenOn_b49 f_X8_brokenOn_b50
  dsimp only
  rw [lq_4 (by omega)]
  refine ⟨fun c4 => ?_, fun c4 => ?_⟩
  · rw [show i = 4 by omega, ← hw]
    exact h
  · have hs := shN_lt c i
    have hr2 := hr (by omega) _ rfl
    have hst : sK (wsF (M 13) tm d c) (i + 1) = sK (wsF (M 13) tm d c) i + wsF (M 13) tm d c i := rfl
    rw [hst] at hr2
    have z0 : ∀ x : Int32, x + 0 = x := fun x => Int32.add_zero x
    rw [sh_in hc (by omega), nI_1]
    refine ⟨fun e3 => ?_, fun n3 => ⟨vin_nI (by omega) (by decide), ?_⟩⟩
    · rw [show (3 : Int32) = nI 3 from rfl, nI_eq_iff (by omega) (by omega)] at e3
      have : wsF (M 13) tm d c i = 0 := if_neg (fun z => by omega)
      rw [this] at hr2
      rw [z0]; exact hr2
    · rw [show (3 : Int32) = nI 3 from rfl, nI_eq_iff (by omega) (by omega)] at n3
      obtain ⟨q1, q2⟩ := e83 i (by omega)
      unfold f_X9_wishesAgainst f_X9_wishesAgainst_b23
      rw [nI_cl i (by omega), q1, nI_cl _ (by omega), m3s, btS _ _ (by omega)]
      refine ⟨vin_nI q2 (by decide), fun n => ⟨bz0, fun _ => ?_, fun z => absurd rfl z⟩, fun b => ⟨bz1, fun z => absurd z (by decide), fun _ => ?_⟩⟩
      · have : wsF (M 13) tm d c i = 0 := if_neg (fun z => n z.2)
        rw [this] at hr2
        rw [z0]; exact hr2
      · have : wsF (M 13) tm d c i = 1 := if_pos ⟨by omega, b⟩
        rw [this] at hr2
        rw [nI_1]; exact hr2
def LsB (cs : List Nat) (w : Nat → Nat → Nat) (la : Nat → Nat) (M : Mem) : Prop :=
  (∀ d a, d < 4 → a < cs.length → M (88 + d) a = nI (w d (cs.getD a 0))) ∧ (∀ d, d < 5 → M 92 d = nI (la d)) ∧ la 4 = 0 ∧ (∀ d, d < 5 → la d ≤ 4 * (4 - d)) ∧ ∀ d a, d < 4 → a < cs.length → la d ≤ w d (cs.getD a 0) + la (d + 1)
theorem LsC.fr {cs : List Nat} {M M' : Mem} (h : LsC cs M) (f : ∀ c k, ¬ (88 ≤ c ∧ c ≤ 92) → M' c k = M c k) : LsC cs M' := by
  refine ⟨(f 81 4 (by decide)).trans h.1, fun a ha => ?_⟩
  rw [f 84 a (by omega), f 85 a (by omega), f 86 a (by omega)]
  exact h.2 a ha
theorem t_count {tm : List Nat} {cs : List Nat} (hlen : cs.length ≤ 24) (hcs : ∀ a, a < cs.length → cs.getD a 0 < 256) {M : Mem} (hL : LsC cs M) (e83 : ∀ i, i < 4 → M 83 i = nI (tm.getD i 0) ∧ tm.getD i 0 < 24) {K : Mem → Prop}
    (h : ∀ M', (∀ c k, ¬ (88 ≤ c ∧ c ≤ 92) → M' c k = M c k) → (∃ la, LsB cs (wsh (M 13) tm) la M') → K M') : f_X8_countBroken M K := by
  generalize hw : wsh (M 13) tm = w at h
  have hw4 : ∀ d c, w d c ≤ 4 := fun d c => by rw [← hw]; exact wsh_le _ _ _ _
  unfold f_X8_countBroken
  refine Lp.dn (fun q a => ∃ (la : Nat → Nat) (M' : Mem), a = (nI q + -1, M') ∧ q ≤ 4 ∧ (∀ c k, ¬ (88 ≤ c ∧ c ≤ 92) → M' c k = M c k) ∧ (∀ d a, q ≤ d → d < 4 → a < cs.length → M' (88 + d) a = nI (w d (cs.getD a 0))) ∧ (∀ d, q ≤ d → d < 5 → M' 92 d = nI (la d)) ∧ la 4 = 0 ∧ (∀ d, q ≤ d → d < 5 → la d ≤ 4 * (4 - d)) ∧
    ∀ d a, q ≤ d → d < 4 → a < cs.length → la d ≤ w d (cs.getD a 0) + la (d + 1)) (fun q a r hI hr => ?_) (q := 4) ⟨fun _ => 0, _, rfl, by omega, fun c k hc => by rw [mset_ne _ _ _ (by omega)], fun d a h1 h2 => absurd h1 (by omega), fun d h1 h2 => by rw [show d = 4 by omega, mset_eq]; rfl, rfl, fun d h1 h2 => Nat.zero_le _, fun d a h1 h2 => absurd h1 (by omega)⟩
  obtain ⟨la, M', rfl, hq, f1, f2, f3, f4, f5, f6⟩ := hI
  unfold f_X8_countBroken_c9
  dsimp only
  by_cases q0 : q = 0
  · subst q0
    exact ⟨fun _ => h M' f1 ⟨la, fun d a h1 h2 => f2 d a (by omega) h1 h2, fun d h1 => f3 d (by omega) h1, f4, fun d h1 => f5 d (by omega) h1, fun d a h1 h2 => f6 d a (by omega) h1 h2⟩, fun z => absurd (by decide) z⟩
  · obtain ⟨d, rfl⟩ : ∃ d, q = d + 1 := ⟨q - 1, by omega⟩
    have ed : nI (d + 1) + -1 = nI d := by rw [x_m1, nI_s1 (by omega) (by omega), Nat.add_sub_cancel]
    rw [ed]
    refine ⟨fun z => absurd z (nI_pos (by omega)), fun _ => ?_⟩
    refine Lp.up (fun a x => ∃ (ls : Nat) (M2 : Mem), x = (nI d, nI ls, nI a, M2) ∧ ls ≤ 4 ∧ (∀ c k, c ≠ 88 + d → M2 c k = M' c k) ∧ ∀ b, b < a → M2 (88 + d) b = nI (w d (cs.getD b 0)) ∧ ls ≤ w d (cs.getD b 0)) cs.length (fun a x r' ha hx hr' => ?_) (j := 0) (by omega) ⟨4, M', rfl, by omega, fun _ _ _ => rfl, fun b hb => absurd hb (by omega)⟩
    obtain ⟨ls, M2, rfl, g0, g1, g2⟩ := hx
    have hL2 : LsC cs M2 := by
      refine LsC.fr hL (fun c k hc => ?_)
      rw [g1 c k (by omega)]
      exact f1 c k hc
    show f_X8_countBroken_c18 r K r' (nI d) (nI ls) (nI a) M2
    unfold f_X8_countBroken_c18
    rw [hL2.1, nI_le_iff (by omega) (by omega)]
    refine ⟨fun c => ?_, fun c => ⟨vin_nI (by omega) (by decide), vin_nI (by omega) (by decide), ?_⟩⟩
    · rw [nI_1, nI_cl d (by omega), nI_cl (d + 1) (by omega)]
      refine ⟨vin_nI (by omega) (by decide), vin_nI (by omega) (by decide), ?_⟩
      have e92 : M2 92 (d + 1) = nI (la (d + 1)) := by rw [g1 92 _ (by omega)]; exact f3 (d + 1) (by omega) (by omega)
      have hla := f5 (d + 1) (by omega) (by omega)
      rw [e92, nI_add]
      refine hr d rfl _ ⟨updN la d (la (d + 1) + ls), _, rfl, by omega, fun c k hc => ?_, fun d' a' h1 h2 h3 => ?_, fun d' h1 h2 => ?_, ?_, fun d' h1 h2 => ?_, fun d' a' h1 h2 h3 => ?_⟩
      · rw [mset_ne _ _ _ (by omega), g1 c k (by omega)]; exact f1 c k hc
      · rw [mset_ne _ _ _ (by omega)]
        by_cases e : d' = d
        · subst e; exact (g2 a' (by omega)).1
        · rw [g1 _ _ (by omega)]; exact f2 d' a' (by omega) h2 h3
      · rw [mset_row, upd_at]
        by_cases e : d' = d
        · subst e; rw [if_pos rfl, updN_s]
        · rw [if_neg e, updN_n _ _ e, g1 92 _ (by omega)]; exact f3 d' (by omega) h2
      · rw [updN_n _ _ (by omega)]; exact f4
      · by_cases e : d' = d
        · subst e; rw [updN_s]; omega
        · rw [updN_n _ _ e]; exact f5 d' (by omega) h2
      · rw [updN_n la _ (show d' + 1 ≠ d by omega)]
        by_cases e : d' = d
        · subst e; rw [updN_s]; have := (g2 a' (by omega)).2; omega
        · rw [updN_n _ _ e]; exact f6 d' a' (by omega) h2 h3
    · have hla := hL2.2 a (by omega)
      rw [nI_cl d (by omega), nI_cl a (by omega), hla.1]
      have e13 : M2 13 = M 13 := by funext k; rw [g1 13 k (by omega)]; exact f1 13 k (by omega)
      refine t_broken (tm := tm) (by omega) (hcs a (by omega)) (fun i hi => ?_) ?_
      · rw [g1 83 i (by omega), f1 83 i (by omega)]; exact e83 i hi
      · rw [e13, hw, Nat.one_mul, mset_eq, nI_1]
        have h4 := hw4 d (cs.getD a 0)
        refine ⟨vin_nI (by omega) (by decide), vin_nI (by omega) (by decide), vin_nI (by omega) (by decide), ?_⟩
        rw [if_nI (by omega) (by omega)]
        have hput : ∀ ls', ls' ≤ 4 → ls' ≤ ls → ls' ≤ w d (cs.getD a 0) → r' (nI d, nI ls', nI (a + 1), mset M2 (88 + d) a (nI (w d (cs.getD a 0)))) := by
          intro ls' l1 l2 l3
          refine hr' (by omega) _ ⟨ls', _, rfl, l1, fun c k hc => ?_, fun b hb => ?_⟩
          · rw [mset_ne _ _ _ hc]; exact g1 c k hc
          · rw [mset_row, upd_at]
            by_cases e : b = a
            · subst e; rw [if_pos rfl]; exact ⟨rfl, l3⟩
            · rw [if_neg e]
              obtain ⟨u1, u2⟩ := g2 b (by omega)
              exact ⟨u1, by omega⟩
        by_cases q : w d (cs.getD a 0) < ls
        · rw [if_pos q]; exact hput _ h4 (by omega) (Nat.le_refl _)
        · rw [if_neg q]; exact hput _ g0 (Nat.le_refl _) (by omega)
theorem t_none {cs : List Nat} (hlen : cs.length ≤ 24) {M : Mem} (hL : LsC cs M) {K : Mem → Prop}
    (h : ∀ M', (∀ c k, ¬ (88 ≤ c ∧ c ≤ 92) → M' c k = M c k) → LsB cs (fun _ _ => 0) (fun _ => 0) M' → K M') : f_X8_countNoneBroken M K := by
  unfold f_X8_countNoneBroken
  refine Lp.up (fun d x => ∃ M', x = (nI d, M') ∧ (∀ c k, ¬ (88 ≤ c ∧ c ≤ 92) → M' c k = M c k) ∧ (∀ d' a, d' < d → a < cs.length → M' (88 + d') a = 0) ∧ ∀ d', d' < d → M' 92 d' = 0) 4 (fun d x r hd hx hr => ?_) (j := 0) (by omega) ⟨M, rfl, fun _ _ _ => rfl, fun d' a hd => absurd hd (by omega), fun d' hd => absurd hd (by omega)⟩
  obtain ⟨M', rfl, f1, f2, f3⟩ := hx
  unfold f_X8_countNoneBroken_c2
  dsimp only
  rw [lq_4 (by omega)]
  refine ⟨fun c => ?_, fun c => ⟨vin_nI (by omega) (by decide), ?_⟩⟩
  · have e4 : d = 4 := by omega
    subst e4
    refine h _ (fun c k hc => ?_) ⟨fun d a h1 h2 => ?_, fun d h1 => ?_, rfl, fun _ _ => Nat.zero_le _, fun _ _ _ _ => Nat.zero_le _⟩
    · rw [mset_ne _ _ _ (by omega)]; exact f1 c k hc
    · rw [mset_ne _ _ _ (by omega)]; exact f2 d a h1 h2
    · rw [mset_row, upd_at]
      by_cases e : d = 4
      · rw [if_pos e]; rfl
      · rw [if_neg e]; exact f3 d (by omega)
  · rw [nI_cl d (by omega)]
    refine Lp.up (fun a x => ∃ M2, x = (nI d, nI a, M2) ∧ (∀ c k, c ≠ 88 + d → M2 c k = mset M' 92 d 0 c k) ∧ ∀ b, b < a → M2 (88 + d) b = 0) cs.length (fun a x r' ha hx hr' => ?_) (j := 0) (by omega) ⟨_, rfl, fun _ _ _ => rfl, fun b hb => absurd hb (by omega)⟩
    obtain ⟨M2, rfl, g1, g2⟩ := hx
    have e4 : M2 81 4 = nI cs.length := by
      rw [g1 81 4 (by omega), mset_ne _ _ _ (by decide), f1 81 4 (by decide)]
      exact hL.1
    unfold f_X8_countNoneBroken_c16
    dsimp only
    rw [e4, nI_le_iff (by omega) (by omega), nI_1, nI_1, nI_cl d (by omega), nI_cl a (by omega), Nat.one_mul]
    refine ⟨fun c => hr (by omega) _ ⟨M2, rfl, fun c k hc => ?_, fun d' a' h1 h2 => ?_, fun d' h1 => ?_⟩, fun c => ⟨vin_nI (by omega) (by decide), vin_nI (by omega) (by decide), hr' (by omega) _ ⟨_, rfl, fun c k hc => ?_, fun b hb => ?_⟩⟩⟩
    · rw [g1 c k (by omega), mset_ne _ _ _ (by omega)]; exact f1 c k hc
    · by_cases e : d' = d
      · subst e; exact g2 a' (by omega)
      · rw [g1 _ _ (by omega), mset_ne _ _ _ (by omega)]; exact f2 d' a' (by omega) h2
    · rw [g1 92 _ (by omega), mset_row, upd_at]
      by_cases e : d' = d
      · rw [if_pos e]
      · rw [if_neg e]; exact f3 d' (by omega)
    · rw [mset_ne _ _ _ hc]; exact g1 c k hc
    · rw [mset_row, upd_at]
      by_cases e : b = a
      · rw [if_pos e]
      · rw [if_neg e]; exact g2 b (by omega)
