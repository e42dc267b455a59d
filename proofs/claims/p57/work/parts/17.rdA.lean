/-! THE READER OF TEXTS (the class's): what each method makes of a state -/
def txT (M0 : Mem) (tx : Nat) : Nat → Int32 := fun q => M0 tx q &&& 255
def lvC (a b c : Nat → Int32) (F : FT) : List Fm → Prop
  | [] => True
  | (_, _, y, z, k) :: r => a r.length = bi (y F) ∧ b r.length = bi (z F) ∧ c r.length = nI k ∧ lvC a b c F r
theorem lvC_cong {a b c a' b' c' : Nat → Int32} {F : FT} : ∀ {l : List Fm}, (∀ k, k < l.length → a k = a' k ∧ b k = b' k ∧ c k = c' k) → lvC a b c F l → lvC a' b' c' F l
  | [], _, _ => trivial
  | (o, q, y, z, n) :: r, h, ⟨h1, h2, h3, h4⟩ => by
    obtain ⟨e1, e2, e3⟩ := h r.length (by simp)
    exact ⟨by rw [← e1]; exact h1, by rw [← e2]; exact h2, by rw [← e3]; exact h3, lvC_cong (fun k hk => h k (by simp; omega)) h4⟩
def RFr (M0 M : Mem) : Prop := ∀ c, c ≠ 45 → c ≠ 48 → c ≠ 49 → c ≠ 50 → M c = M0 c
def GoS (M0 : Mem) (tx n : Nat) (M : Mem) (p : Nat) (l : List Fm) (F : FT) : Prop :=
  RFr M0 M ∧ M 45 1 = nI tx ∧ M 45 2 = nI n ∧ M 45 3 = nI p ∧ M 45 4 = -9 ∧ M 45 5 = nI (dpt l) ∧ M 45 6 = nI (l.length - 1) ∧ lvC (M 48) (M 49) (M 50) F l ∧ p ≤ n ∧ 1 ≤ l.length ∧ dpt l ≤ 5
def BaS (M0 M : Mem) (p : Nat) : Prop := RFr M0 M ∧ M 45 4 = nI p ∧ p ≤ 60 ∧ ∃ L, L ≤ 5 ∧ M 45 6 = nI L
/-- what stays the same in a reading: the text, its length, the facts -/
def RdH (M0 : Mem) (tx n : Nat) (F : FT) : Prop := 17 ≤ tx ∧ tx ≤ 41 ∧ n ≤ 60 ∧ ∀ k, k < 6 → M0 46 k = F k
theorem arB_tx {tx : Nat} (h : 17 ≤ tx) (h2 : tx ≤ 41) : arB tx 60 := by
  have : ∀ j : Fin 25, shp (17 + j.val) = (3, 60, []) := by decide
  obtain ⟨j, rfl⟩ : ∃ j, tx = 17 + j := ⟨tx - 17, by omega⟩
  exact ⟨by unfold NC; omega, this ⟨j, by omega⟩⟩
theorem len_dpt (l : List Fm) : l.length - 1 ≤ dpt l := by unfold dpt; omega
theorem sg_lt {t : Nat → Int32} {n p : Nat} (h : ¬ sgn t n p = -1) : p < n := by
  rcases Nat.lt_or_ge p n with c | c
  · exact c
  · exact absurd (if_neg (by omega)) h
theorem n9 (p : Nat) (h : p < 2147483648) : ¬ nI p = -9 := fun z => absurd (z ▸ nI_pos' h) (by decide)
theorem gd_sign {M0 : Mem} {tx n : Nat} {F : FT} (hH : RdH M0 tx n F) {M : Mem} {p : Nat} {l : List Fm} (hG : GoS M0 tx n M p l F) {K : Int32 → Mem → Prop} (h : K (sgn (txT M0 tx) n p) M) : f_X7_sign M K := by
  obtain ⟨g1, g2, g3, g4, g5, g6, g7, g8, g9, g10, g11⟩ := hG
  obtain ⟨h1, h2, h3, h4⟩ := hH
  unfold f_X7_sign f_X7_sign_b20 f_X7_sign_b37
  rw [g5, g4, g3, g2, nI_lt_iff (by omega) (by omega), nI_cl tx (by omega), nI_cl p (by omega), g1 tx (by omega) (by omega) (by omega) (by omega)]
  unfold sgn txT at h
  refine ⟨fun z => absurd rfl z, fun _ => ⟨fun c => ⟨arB_tx h1 h2, vin_nI (by omega) (by decide), ?_⟩, fun c => ?_⟩⟩
  · rw [if_pos c] at h; exact h
  · rw [if_neg c] at h; exact h
theorem bd_sign {M0 M : Mem} {p : Nat} (hB : BaS M0 M p) {K : Int32 → Mem → Prop} (h : K (-1) M) : f_X7_sign M K := by
  obtain ⟨b1, b2, b3, b4⟩ := hB
  unfold f_X7_sign f_X7_sign_b20 f_X7_sign_b37
  rw [b2]
  exact ⟨fun _ => h, fun z => absurd z (n9 p (by omega))⟩
theorem gd_fail {M0 : Mem} {tx n : Nat} {F : FT} (hH : RdH M0 tx n F) {M : Mem} {p : Nat} {l : List Fm} (hG : GoS M0 tx n M p l F) {K : Mem → Prop} (h : ∀ M', BaS M0 M' p → K M') : f_X7_fail M K := by
  obtain ⟨g1, g2, g3, g4, g5, g6, g7, g8, g9, g10, g11⟩ := hG
  obtain ⟨h1, h2, h3, h4⟩ := hH
  unfold f_X7_fail
  rw [g5, g4]
  refine ⟨fun z => absurd rfl z, fun _ => h _ ⟨fun c c1 c2 c3 c4 => (mset_ne _ _ _ c1).trans (g1 c c1 c2 c3 c4), by rw [mset_eq], by omega, l.length - 1, by have := len_dpt l; omega, ?_⟩⟩
  rw [mset_row, upd_n _ _ (by decide), g7]
theorem bd_fail {M0 M : Mem} {p : Nat} (hB : BaS M0 M p) {K : Mem → Prop} (h : K M) : f_X7_fail M K := by
  obtain ⟨b1, b2, b3, b4⟩ := hB
  unfold f_X7_fail
  rw [b2]
  exact ⟨fun _ => h, fun z => absurd z (n9 p (by omega))⟩
/-- one byte further -/
theorem GoS.adv {M0 : Mem} {tx n : Nat} {F : FT} {M : Mem} {p : Nat} {l : List Fm} (hG : GoS M0 tx n M p l F) (hp : p < n) : GoS M0 tx n (mset M 45 3 (M 45 3 + 1)) (p + 1) l F := by
  obtain ⟨g1, g2, g3, g4, g5, g6, g7, g8, g9, g10, g11⟩ := hG
  refine ⟨fun c c1 c2 c3 c4 => (mset_ne _ _ _ c1).trans (g1 c c1 c2 c3 c4), ?_, ?_, ?_, ?_, ?_, ?_, ?_, hp, g10, g11⟩
  · rw [mset_row, upd_n _ _ (by decide), g2]
  · rw [mset_row, upd_n _ _ (by decide), g3]
  · rw [mset_eq, g4, nI_1]
  · rw [mset_row, upd_n _ _ (by decide), g5]
  · rw [mset_row, upd_n _ _ (by decide), g6]
  · rw [mset_row, upd_n _ _ (by decide), g7]
  · rw [mset_ne _ _ _ (by decide), mset_ne _ _ _ (by decide), mset_ne _ _ _ (by decide)]; exact g8
theorem fc_v (c : Int32) (M : Mem) (K : Int32 → Mem → Prop) : f_X7_factOf c M K ↔ K (match fcN c with | some f => nI f | none => -9) M := by
  unfold f_X7_factOf fcN
  by_cases c1 : c = 99
  · subst c1; simp; rfl
  · by_cases c2 : c = 109
    · subst c2; simp; rfl
    · by_cases c3 : c = 110
      · subst c3; simp; rfl
      · by_cases c4 : c = 115
        · subst c4; simp; rfl
        · by_cases c5 : c = 117
          · subst c5; simp; rfl
          · by_cases c6 : c = 119
            · subst c6; simp; rfl
            · simp [c1, c2, c3, c4, c5, c6]
theorem fc_lt {c : Int32} {f : Nat} (h : fcN c = some f) : f < 6 ∧ ¬ isDg c = true := by
  unfold fcN at h
  unfold isDg
  split at h
  · cases h; rename_i e; subst e; decide
  · split at h
    · cases h; rename_i e; subst e; decide
    · split at h
      · cases h; rename_i e; subst e; decide
      · split at h
        · cases h; rename_i e; subst e; decide
        · split at h
          · cases h; rename_i e; subst e; decide
          · split at h
            · cases h; rename_i e; subst e; decide
            · cases h
theorem dg_t (c : Int32) : isDg c = true ↔ ¬ c < 48 ∧ c ≤ 57 := by
  unfold isDg
  rw [decide_eq_true_eq, lt_nle, Classical.not_not]
theorem gd_unit {M0 : Mem} {tx n : Nat} {F : FT} (hH : RdH M0 tx n F) {M : Mem} {p : Nat} {l : List Fm} (hG : GoS M0 tx n M p l F) {K : Int32 → Mem → Prop}
    (hb : (unt (sgn (txT M0 tx) n) p).2.1 = true → ∀ v M', BaS M0 M' (unt (sgn (txT M0 tx) n) p).1 → K v M')
    (hg : (unt (sgn (txT M0 tx) n) p).2.1 = false → ∀ M', GoS M0 tx n M' (unt (sgn (txT M0 tx) n) p).1 l F → K ((unt (sgn (txT M0 tx) n) p).2.2 F) M') : f_X7_unit M K := by
  have hn := hH.2.2.1
  unfold f_X7_unit
  refine gd_sign hH hG ?_
  unfold unt at hb hg
  generalize hsg : sgn (txT M0 tx) n = sg at *
  have pfact : (¬ isDg (sg p) = true) → f_X7_unit_b17 K (sg p) M := by
    intro hd
    unfold f_X7_unit_b17 f_X7_unit_b35
    rw [fc_v]
    cases hf : fcN (sg p) with
    | none =>
      rw [hf] at hb
      simp only [if_neg hd] at hb
      exact ⟨fun _ => gd_fail hH hG (fun M' hB => hb trivial 0 M' hB), fun z => absurd (by decide) z⟩
    | some f =>
      obtain ⟨hf6, -⟩ := fc_lt hf
      rw [hf] at hg
      simp only at hg
      have hpn : p < n := sg_lt (t := txT M0 tx) (n := n) (p := p) (fun z => by rw [hsg] at z; rw [z] at hf; cases hf)
      have hlt : nI f < nI 6 := (nI_lt_iff (by omega) (by omega)).mpr hf6
      refine ⟨fun z => absurd z (by rw [lt_nle]; exact fun y => y (nI_pos' (by omega))), fun _ => ⟨fun _ => ⟨vin_nI hf6 (by decide), ?_⟩, fun z => absurd hlt z⟩⟩
      have := hg trivial _ (hG.adv hpn)
      rw [nI_cl f (by omega), hG.1 46 (by decide) (by decide) (by decide) (by decide), hH.2.2.2 f hf6]
      exact this
  refine ⟨fun c => pfact (fun z => ((dg_t _).mp z).1 c), fun c => ⟨fun c2 => ?_, fun c2 => pfact (fun z => c2 ((dg_t _).mp z).2)⟩⟩
  have hd : isDg (sg p) = true := (dg_t _).mpr ⟨c, c2⟩
  have hfn : fcN (sg p) = none := by
    cases hf : fcN (sg p) with
    | none => rfl
    | some f => exact absurd hd (fc_lt hf).2
  rw [hfn] at hg
  simp only [if_pos hd] at hg
  generalize hD : dgN sg 4 p 0 = D at hg
  refine Lp.up (fun j a => ∃ q v M', GoS M0 tx n M' q l F ∧ dgN sg (4 - j) q v = D ∧ a = (sg q, v, nI j, M')) 4 (fun j a r hj ha hr => ?_) (j := 0) (by omega) ⟨p, 0, M, hG, hD, rfl⟩
  obtain ⟨q, v, M', hG', e, rfl⟩ := ha
  unfold f_X7_unit_c62 f_X7_unit_b110
  dsimp only
  have l4 : ((4 : Int32) ≤ nI j) ↔ 4 ≤ j := nI_le_iff (a := 4) (by omega) (by omega)
  rw [l4]
  refine ⟨fun c3 => ?_, fun c3 => ?_⟩
  · rw [show 4 - j = 0 by omega] at e
    unfold dgN at e
    rw [← e] at hg
    exact hg trivial M' hG'
  · rw [show 4 - j = (4 - (j + 1)) + 1 by omega] at e
    unfold dgN at e
    have nodig : ¬ isDg (sg q) = true → K v M' := fun z => by
      rw [if_neg z] at e
      rw [← e] at hg
      exact hg trivial M' hG'
    refine ⟨fun c4 => nodig (fun z => ((dg_t _).mp z).1 c4), fun c4 => ⟨fun c5 => nodig (fun z => by have := ((dg_t _).mp z).2; rw [lt_nle] at c5; exact c5 this), fun c5 => ?_⟩⟩
    have hd2 : isDg (sg q) = true := (dg_t _).mpr ⟨c4, by rw [lt_nle, Classical.not_not] at c5; exact c5⟩
    rw [if_pos hd2] at e
    have hqn : q < n := sg_lt (t := txT M0 tx) (n := n) (p := q) (fun z => by rw [hsg] at z; rw [z] at hd2; exact absurd hd2 (by decide))
    refine gd_sign hH (hG'.adv hqn) ?_
    rw [hsg, nI_1]
    exact hr (by omega) _ ⟨q + 1, _, _, hG'.adv hqn, e, rfl⟩
theorem bd_unit {M0 M : Mem} {p : Nat} (hB : BaS M0 M p) {K : Int32 → Mem → Prop} (h : ∀ v, K v M) : f_X7_unit M K := by
  unfold f_X7_unit f_X7_unit_b17 f_X7_unit_b35
  refine bd_sign hB ⟨fun _ => ?_, fun z => absurd (by decide) z⟩
  rw [fc_v]
  exact ⟨fun _ => bd_fail hB (h 0), fun z => absurd (by decide) z⟩
theorem op_t (c : Int32) : isOp c = true ↔ (c = 43 ∨ c = 45 ∨ c = 42) := by unfold isOp; exact decide_eq_true_iff
