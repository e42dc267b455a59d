/-! elections -/
/-- the next winner by votes v and seats won w, of the first s shops -/
def nwS (v w : Nat → Nat) : Nat → Option Nat
  | 0 => none
  | s + 1 => match nwS v w s with
    | none => if 0 < v s then some s else none
    | some b => if 0 < v s ∧ v b * (w s + 1) < v s * (w b + 1) then some s else some b
theorem nwS_lt (v w : Nat → Nat) : ∀ s b, nwS v w s = some b → b < s ∧ 0 < v b
  | 0, b, h => by cases h
  | s + 1, b, h => by
    have ih := nwS_lt v w s
    unfold nwS at h
    cases hx : nwS v w s with
    | none =>
      rw [hx] at h
      simp only at h
      split at h
      · cases h; exact ⟨by omega, by assumption⟩
      · cases h
    | some b' =>
      rw [hx] at h
      have := ih b' hx
      simp only at h
      split at h
      · rename_i hc; cases h; exact ⟨by omega, hc.1⟩
      · cases h; exact ⟨by omega, this.2⟩
theorem nwS_none (v w : Nat → Nat) : ∀ s, nwS v w s = none ↔ ∀ t, t < s → v t = 0
  | 0 => by simp [nwS]
  | s + 1 => by
    have ih := nwS_none v w s
    unfold nwS
    constructor
    · intro h t ht
      cases hx : nwS v w s with
      | none =>
        rw [hx] at h
        simp only at h
        rcases Nat.lt_or_ge t s with q | q
        · exact ih.mp hx t q
        · rw [show t = s by omega]
          split at h
          · cases h
          · omega
      | some b =>
        rw [hx] at h
        simp only at h
        split at h <;> cases h
    · intro h
      rw [ih.mpr (fun t ht => h t (by omega))]
      simp only
      rw [if_neg (by have := h s (by omega); omega)]
def wnK (v : Nat → Nat) : Nat → Nat → Nat
  | 0 => fun _ => 0
  | k + 1 => match nwS v (wnK v k) 6 with
    | none => wnK v k
    | some s => fun t => if t = s then wnK v k t + 1 else wnK v k t
theorem wnK_le (v : Nat → Nat) : ∀ k t, wnK v k t ≤ k
  | 0, t => Nat.le_refl _
  | k + 1, t => by
    have ih := wnK_le v k t
    unfold wnK
    cases hx : nwS v (wnK v k) 6 with
    | none => simp only; omega
    | some s => simp only; split <;> omega
def winI (o : Option Nat) : Int32 := match o with
  | none => -9
  | some b => nI b
theorem mulI {a b c d : Nat} (ha : a ≤ 999) (hb : b ≤ 10) (hc : c ≤ 999) (hd : d ≤ 10) : (nI a * nI b ≤ nI c * nI d) ↔ a * b ≤ c * d := by
  have h1 := Nat.mul_le_mul ha hb
  have h2 := Nat.mul_le_mul hc hd
  rw [pk_mul, pk_mul]
  exact nI_le_iff (by omega) (by omega)
theorem t_nextW {M : Mem} {v w : Nat → Nat} (hv : ∀ s, s < 6 → M 52 s = nI (v s) ∧ v s ≤ 999) (hw : ∀ s, s < 6 → M 55 s = nI (w s) ∧ w s ≤ 9) (K : Int32 → Mem → Prop) (h : K (winI (nwS v w 6)) M) : f_X2_nextWinner M K := by
  unfold f_X2_nextWinner
  refine Lp.up (fun q a => a = (winI (nwS v w q), nI q, M)) 6 (fun q a r hq ha hr => ?_) (j := 0) (by omega) rfl
  subst ha
  simp only [f_X2_nextWinner_c5, f_X2_nextWinner_b57, f_X2_nextWinner_b59]
  have h6 : ((6 : Int32) ≤ nI q) ↔ 6 ≤ q := nI_le_iff (a := 6) (by omega) (by omega)
  rw [h6, nI_cl q (by omega), nI_1]
  refine ⟨fun c => by rw [show q = 6 by omega]; exact h, fun c => ?_⟩
  have hvq : vp_in (nI q) 6 := vin_nI (by omega) (by decide)
  obtain ⟨ev, lv⟩ := hv q (by omega)
  obtain ⟨ew, lw⟩ := hw q (by omega)
  have hr2 := hr (by omega) _ rfl
  have hz : (nI (v q) ≤ 0) ↔ ¬ 0 < v q := by
    have := nI_le_iff (a := v q) (b := 0) (by omega) (by omega)
    rw [show (0 : Int32) = nI 0 from rfl, this]; omega
  rw [ev, hz]
  cases hx : nwS v w q with
  | none =>
    unfold nwS at hr2
    rw [hx] at hr2
    simp only at hr2
    simp only [winI]
    by_cases c2 : 0 < v q
    · rw [if_pos c2] at hr2
      exact ⟨hvq, fun z => absurd c2 z, fun _ => ⟨fun _ => hr2, fun z => absurd (by decide) z⟩⟩
    · rw [if_neg c2] at hr2
      exact ⟨hvq, fun _ => hr2, fun z => absurd c2 z⟩
  | some b =>
    obtain ⟨hb, -⟩ := nwS_lt v w q b hx
    obtain ⟨evb, lvb⟩ := hv b (by omega)
    obtain ⟨ewb, lwb⟩ := hw b (by omega)
    have hvb : vp_in (nI b) 6 := vin_nI (by omega) (by decide)
    have hn0 : ¬ nI b < 0 := by rw [lt_nle]; exact fun z => z (nI_pos' (by omega))
    unfold nwS at hr2
    rw [hx] at hr2
    simp only at hr2
    simp only [winI]
    rw [nI_cl b (by omega), evb, ewb, ew, nI_1, nI_1, mulI lv (by omega) lvb (by omega)]
    refine ⟨hvq, fun c2 => ?_, fun c2 => ⟨fun z => absurd z hn0, fun _ => ⟨hvq, hvb, hvb, hvq, fun c3 => ?_, fun c3 => ?_⟩⟩⟩
    · rw [if_neg (fun z => c2 z.1)] at hr2; exact hr2
    · rw [if_neg (fun z => absurd c3 (by omega))] at hr2; exact hr2
    · rw [if_pos ⟨Classical.not_not.mp c2, by omega⟩] at hr2; exact hr2
def vtN (M : Mem) (s : Nat) : Nat := nn (M 52 s)
def anyV (M : Mem) : Bool := (nwS (vtN M) (fun _ => 0) 6).isSome
theorem anyV_f (M : Mem) : anyV M = false ↔ ∀ t, t < 6 → vtN M t = 0 := by
  rw [← nwS_none (vtN M) (fun _ => 0) 6]
  unfold anyV
  cases nwS (vtN M) (fun _ => 0) 6 <;> simp
theorem vtB {M : Mem} (H : Inv M) (s : Nat) : M 52 s = nI (vtN M s) ∧ vtN M s ≤ 999 := by
  obtain ⟨n, hn, en⟩ := nat_of (n := 999) (H.V.2.2.2.2.2.2.1 s).1 (H.V.2.2.2.2.2.2.1 s).2 (by decide)
  unfold vtN
  rw [en, nn_nI n (by omega)]
  exact ⟨rfl, hn⟩
def seaR (M : Mem) (k : Nat) : Nat → Int32 := fun i => if i < k then winI (nwS (vtN M) (wnK (vtN M) i) 6) else M 53 i
def memR (M : Mem) (k : Nat) : Nat → Int32 := fun i => if i < k then -9 else M 54 i
def elN (M : Mem) (n : Nat) : Nat := if anyV M = true then n else 0
/-- the class's memory with k seats filled -/
def El (M Mk : Mem) (k : Nat) : Prop := (∀ c, c ≠ 51 → c ≠ 53 → c ≠ 54 → c ≠ 55 → Mk c = M c) ∧ Mk 51 = upd (M 51) 1 (nI k) ∧ Mk 53 = seaR M k ∧ Mk 54 = memR M k
theorem seaR_s (M : Mem) (k : Nat) (x : Int32) (h : x = winI (nwS (vtN M) (wnK (vtN M) k) 6)) : upd (seaR M k) k x = seaR M (k + 1) := by
  funext j
  rw [upd_at]
  unfold seaR
  by_cases c : j = k
  · rw [if_pos c, if_pos (by omega), c, h]
  · rw [if_neg c]
    by_cases c2 : j < k
    · rw [if_pos c2, if_pos (by omega)]
    · rw [if_neg c2, if_neg (by omega)]
theorem memR_s (M : Mem) (k : Nat) : upd (memR M k) k (-9) = memR M (k + 1) := by
  funext j
  rw [upd_at]
  unfold memR
  by_cases c : j = k
  · rw [if_pos c, if_pos (by omega)]
  · rw [if_neg c]
    by_cases c2 : j < k
    · rw [if_pos c2, if_pos (by omega)]
    · rw [if_neg c2, if_neg (by omega)]
theorem t_fill {M : Mem} (H : Inv M) {n : Nat} (h1 : 1 ≤ n) (h9 : n ≤ 9) (K : Int32 → Mem → Prop) (h : ∀ Mk, El M Mk (elN M n) → K (nI (elN M n)) Mk) : f_X2_fillSeats (nI n) M K := by
  unfold f_X2_fillSeats
  refine Lp.up (fun q a => ∃ Mk, (∀ c, c ≠ 51 → c ≠ 55 → Mk c = M c) ∧ Mk 51 = upd (M 51) 1 0 ∧ (∀ s, s < q → Mk 55 s = 0) ∧ a = (nI n, nI q, Mk)) 6 (fun q a r hq ha hr => ?_) (j := 0) (by omega) ⟨_, fun c c1 c2 => mset_ne _ _ _ c1, mset_row _ _ _ _, fun s hs => absurd hs (by omega), rfl⟩
  obtain ⟨Mk, b1, b2, b3, rfl⟩ := ha
  unfold f_X2_fillSeats_c7
  dsimp only
  have h6 : ((6 : Int32) ≤ nI q) ↔ 6 ≤ q := nI_le_iff (a := 6) (by omega) (by omega)
  rw [h6, nI_cl q (by omega), nI_1]
  refine ⟨fun c => ?_, fun c => ⟨vin_nI (by omega) (by decide), hr (by omega) _ ⟨_, fun c' d1 d2 => (mset_ne _ _ _ d2).trans (b1 c' d1 d2), (mset_ne _ _ _ (by decide)).trans b2, fun s hs => ?_, rfl⟩⟩⟩
  · have hq6 : q = 6 := by omega
    subst hq6
    refine Lp.up (fun k a => ∃ Mk, El M Mk k ∧ (anyV M = true ∨ k = 0) ∧ (∀ s, s < 6 → Mk 55 s = nI (wnK (vtN M) k s)) ∧ a = (nI n, nI k, Mk)) n (fun k a r2 hk ha2 hr2 => ?_) (j := 0) (by omega) ⟨Mk, ⟨fun c' d1 d2 d3 d4 => b1 c' d1 d4, b2, ?_, ?_⟩, Or.inr rfl, fun s hs => b3 s hs, rfl⟩
    · obtain ⟨Mk, ⟨e1, e2, e3, e4⟩, e5, e6, rfl⟩ := ha2
      simp only [f_X2_fillSeats_c28, f_X2_fillSeats_b91]
      have l9 : ((9 : Int32) ≤ nI k) ↔ 9 ≤ k := nI_le_iff (a := 9) (by omega) (by omega)
      have e51 : Mk 51 1 = nI k := by rw [e2, upd_s]
      rw [l9, nI_le_iff (by omega) (by omega)]
      have hk0 : anyV M = true → elN M n = n := fun z => by unfold elN; rw [if_pos z]
      refine ⟨fun c2 => ?_, fun c2 => ⟨fun c3 => absurd c3 (by omega), fun _ => ?_⟩⟩
      · have hkn : k = n := by omega
        subst hkn
        have := h Mk (by rw [hk0 (e5.resolve_right (by omega))]; exact ⟨e1, e2, e3, e4⟩)
        rw [hk0 (e5.resolve_right (by omega))] at this
        rw [e51]; exact this
      · refine t_nextW (v := vtN M) (w := wnK (vtN M) k) (fun s hs => by rw [e1 52 (by decide) (by decide) (by decide) (by decide)]; exact vtB H s) (fun s hs => ⟨e6 s hs, by have := wnK_le (vtN M) k s; omega⟩) _ ?_
        cases hx : nwS (vtN M) (wnK (vtN M) k) 6 with
        | none =>
          simp only [winI]
          have hno := (nwS_none _ _ _).mp hx
          have ha : anyV M = false := (anyV_f M).mpr hno
          have hk : k = 0 := e5.resolve_left (by rw [ha]; decide)
          subst hk
          have he : elN M n = 0 := by unfold elN; rw [ha]; rfl
          have := h Mk (by rw [he]; exact ⟨e1, e2, e3, e4⟩)
          rw [he] at this
          refine ⟨fun z => absurd z (by decide), fun _ => ?_⟩
          rw [e51]; exact this
        | some b =>
          obtain ⟨hb, hvb⟩ := nwS_lt _ _ _ b hx
          have ha : anyV M = true := Classical.byContradiction fun hz => by have := (anyV_f M).mp (by simpa using hz) b hb; omega
          simp only [winI]
          have hvb6 : vp_in (nI b) 6 := vin_nI hb (by decide)
          have hvk : vp_in (nI k) 9 := vin_nI (by omega) (by decide)
          rw [nI_1 k]
          refine ⟨fun _ => ⟨hvb6, hvb6, hvk, hvk, hr2 (by omega) _ ⟨_, ⟨fun c' d1 d2 d3 d4 => ?_, ?_, ?_, ?_⟩, Or.inl ha, fun s hs => ?_, rfl⟩⟩, fun z => absurd (nI_pos' (by omega)) z⟩
          · rw [mset_ne _ _ _ d1, mset_ne _ _ _ d3, mset_ne _ _ _ d2, mset_ne _ _ _ d4]
            exact e1 c' d1 d2 d3 d4
          · rw [mset_row, mset_ne _ _ _ (by decide), mset_ne _ _ _ (by decide), mset_ne _ _ _ (by decide), e2]
            funext j
            simp only [upd_at]
            split <;> rfl
          · rw [mset_ne _ _ _ (by decide), mset_ne _ _ _ (by decide), mset_row, mset_ne _ _ _ (by decide), e3, nI_cl k (by omega)]
            exact seaR_s M k _ (by rw [hx]; rfl)
          · rw [mset_ne _ _ _ (by decide), mset_row, mset_ne _ _ _ (by decide), mset_ne _ _ _ (by decide), e4, nI_cl k (by omega)]
            exact memR_s M k
          · rw [mset_ne _ _ _ (by decide), mset_ne _ _ _ (by decide), mset_ne _ _ _ (by decide), mset_row, nI_cl b (by omega), upd_at, e6 b hb, e6 s hs]
            show _ = nI (wnK (vtN M) (k + 1) s)
            rw [wnK, hx]
            simp only
            by_cases c4 : s = b
            · rw [if_pos c4, if_pos c4, c4, nI_1]
            · rw [if_neg c4, if_neg c4]
    · rw [b1 53 (by decide) (by decide)]
      funext j
      unfold seaR
      rw [if_neg (by omega)]
    · rw [b1 54 (by decide) (by decide)]
      funext j
      unfold memR
      rw [if_neg (by omega)]
  · rw [mset_at]
    by_cases c4 : s = q
    · rw [if_pos ⟨rfl, c4⟩]
    · rw [if_neg (fun z => c4 z.2)]
      exact b3 s (by omega)

theorem cnt_wn (v : Nat → Nat) {s : Nat} (hs : s < 6) : ∀ k, cntB (fun i => decide (winI (nwS v (wnK v i) 6) = nI s)) k = wnK v k s
  | 0 => rfl
  | k + 1 => by
    show cntB (fun i => decide (winI (nwS v (wnK v i) 6) = nI s)) k + (if decide (winI (nwS v (wnK v k) 6) = nI s) = true then 1 else 0) = wnK v (k + 1) s
    rw [cnt_wn v hs k]
    have e : wnK v (k + 1) s = (match nwS v (wnK v k) 6 with
      | none => wnK v k
      | some s => fun t => if t = s then wnK v k t + 1 else wnK v k t) s := rfl
    rw [e]
    generalize wnK v k = w
    cases hx : nwS v w 6 with
    | none =>
      have : ¬ winI none = nI s := fun z => absurd (show (-9 : Int32) = nI s from z) (fun z => absurd (z ▸ nI_pos' (n := s) (by omega)) (by decide))
      rw [if_neg (by rw [decide_eq_true_eq]; exact this)]; rfl
    | some b =>
      obtain ⟨hb, -⟩ := nwS_lt _ _ _ b hx
      show _ = if s = b then w s + 1 else w s
      by_cases c : s = b
      · rw [if_pos c, if_pos (by rw [decide_eq_true_eq, c]; rfl)]
      · have : ¬ winI (some b) = nI s := fun z => c ((nI_eq_iff (by omega) (by omega)).mp (show nI b = nI s from z)).symm
        rw [if_neg c, if_neg (by rw [decide_eq_true_eq]; exact this)]; rfl
def winM (o : Option Nat) : Int32 := match o with
  | none => -1
  | some b => nI b
def hasM (w : Nat → Nat) (o : Option Nat) : Int32 := match o with
  | none => 0
  | some b => nI (1 + w b)
def ElM (M M' Mk : Mem) (k : Nat) : Prop := (∀ c, c ≠ 287 → c ≠ 323 → c ≠ 324 → Mk c = M' c) ∧ Mk 287 = upd (M' 287) 48 (nI k) ∧ Mk 323 = seaR M k ∧ Mk 324 = memR M k
theorem exB_all {p : Nat → Bool} : ∀ {n}, exB p n = false → ∀ q, q < n → p q = false
  | 0, _, q, hq => absurd hq (by omega)
  | n + 1, h, q, hq => by
    have h' : (exB p n || p n) = false := h
    rw [Bool.or_eq_false_iff] at h'
    rcases Nat.lt_or_ge q n with c | c
    · exact exB_all h'.1 q c
    · rw [show q = n by omega]; exact h'.2
theorem t_elM {M : Mem} (H : Inv M) {M' : Mem} (hE : Eqm M M') {n : Nat} (h1 : 1 ≤ n) (h9 : n ≤ 9) (K : Int32 → Mem → Prop) (h : ∀ Mk, ElM M M' Mk (elN M n) → K (nI (elN M n)) Mk) :
    Lp (fun (r34 : Int32 × Int32 × Int32 × Mem → Prop) a => f_X12_elect_c34 K r34 a.1 a.2.1 a.2.2.1 a.2.2.2) (nI n, 0, 0, mset M' 287 48 0) := by
  have e322 : M' 322 = M 52 := by rw [hE 322 (by decide)]; exact H.V.2.2.2.1
  have e323 : M' 323 = M 53 := by rw [hE 323 (by decide)]; exact H.V.2.2.2.2.1
  have e324 : M' 324 = M 54 := by rw [hE 324 (by decide)]; exact H.V.2.2.2.2.2.1
  refine Lp.up (fun q a => a = (nI n, bi (exB (fun t => decide (0 < vtN M t)) q), nI q, mset M' 287 48 0)) 6 (fun q a r hq ha hr => ?_) (j := 0) (by omega) rfl
  subst ha
  simp only [f_X12_elect_c34, f_X12_elect_b53, f_X12_elect_b58]
  have h6 : ((6 : Int32) ≤ nI q) ↔ 6 ≤ q := nI_le_iff (a := 6) (by omega) (by omega)
  rw [h6, nI_cl q (by omega), mset_ne M' 48 0 (show 322 ≠ 287 by decide), e322]
  refine ⟨fun c => ?_, fun c => ?_⟩
  · have hx : exB (fun t => decide (0 < vtN M t)) q = anyV M := by
      rw [show q = 6 by omega]
      cases hz : anyV M
      · cases hy : exB (fun t => decide (0 < vtN M t)) 6
        · rfl
        · have hall := (anyV_f M).mp hz
          have : exB (fun t => decide (0 < vtN M t)) 6 = exB (fun _ => false) 6 := exB_cong (fun t ht => decide_eq_false (by have := hall t ht; omega))
          rw [this] at hy
          exact absurd hy (by decide)
      · cases hy : exB (fun t => decide (0 < vtN M t)) 6
        · have hall := exB_all hy
          have := (anyV_f M).mpr (fun t ht => by have := of_decide_eq_false (hall t ht); omega)
          rw [this] at hz; exact absurd hz (by decide)
        · rfl
    rw [hx]
    refine Lp.up (fun k a => ∃ Mk, ElM M M' Mk k ∧ (anyV M = true ∨ k = 0) ∧ a = (nI n, bi (anyV M), Mk)) n (fun k a r2 hk ha2 hr2 => ?_) (j := 0) (by omega) ⟨_, ⟨fun c' d1 d2 d3 => mset_ne _ _ _ d1, mset_row _ _ _ _, ?_, ?_⟩, Or.inr rfl, rfl⟩
    · obtain ⟨Mk, ⟨e1, e2, e3, e4⟩, e5, rfl⟩ := ha2
      simp only [f_X12_elect_c65, f_X12_elect_b244]
      have e48 : Mk 287 48 = nI k := by rw [e2, upd_s]
      rw [e48, nI_le_iff (by omega) (by omega)]
      cases ha : anyV M
      · have hk : k = 0 := e5.resolve_left (by rw [ha]; decide)
        subst hk
        have he : elN M n = 0 := by unfold elN; rw [ha]; rfl
        have := h Mk (by rw [he]; exact ⟨e1, e2, e3, e4⟩)
        rw [he] at this
        exact ⟨fun _ => this, fun z => absurd rfl z⟩
      · have hn : elN M n = n := by unfold elN; rw [ha]; rfl
        rw [hn] at h
        refine ⟨fun z => absurd z (by decide), fun _ => ⟨fun c2 => ?_, fun c2 => ?_⟩⟩
        · have hkn : k = n := by omega
          subst hkn
          exact h Mk ⟨e1, e2, e3, e4⟩
        · refine Lp.up (fun s a => a = (nI n, bi true, winM (nwS (vtN M) (wnK (vtN M) k) s), hasM (wnK (vtN M) k) (nwS (vtN M) (wnK (vtN M) k) s), nI s, Mk)) 6 (fun s a r3 hs ha3 hr3 => ?_) (j := 0) (by omega) rfl
          subst ha3
          simp only [f_X12_elect_c85]
          have h6s : ((6 : Int32) ≤ nI s) ↔ 6 ≤ s := nI_le_iff (a := 6) (by omega) (by omega)
          rw [h6s, e48]
          have hvk : vp_in (nI k) 9 := vin_nI (by omega) (by decide)
          refine ⟨fun c3 => ?_, fun c3 => ?_⟩
          · rw [show s = 6 by omega]
            cases hw : nwS (vtN M) (wnK (vtN M) k) 6 with
            | none =>
              have := (anyV_f M).mpr ((nwS_none _ _ _).mp hw)
              rw [this] at ha; exact absurd ha (by decide)
            | some b =>
              simp only [winM]
              rw [nI_cl k (by omega), nI_1 k]
              refine ⟨hvk, hvk, hr2 (by omega) _ ⟨_, ⟨fun c' d1 d2 d3 => ?_, ?_, ?_, ?_⟩, Or.inl ha, by rw [ha]⟩⟩
              · rw [mset_ne _ _ _ d1, mset_ne _ _ _ d3, mset_ne _ _ _ d2]
                exact e1 c' d1 d2 d3
              · rw [mset_row, mset_ne _ _ _ (by decide), mset_ne _ _ _ (by decide), e2]
                funext j
                simp only [upd_at]
                split <;> rfl
              · rw [mset_ne _ _ _ (by decide), mset_ne _ _ _ (by decide), mset_row, e3]
                exact seaR_s M k _ (by rw [hw]; rfl)
              · rw [mset_ne _ _ _ (by decide), mset_row, mset_ne _ _ _ (by decide), e4]
                exact memR_s M k
          · have hvs : vp_in (nI s) 6 := vin_nI (by omega) (by decide)
            have hr4 := hr3 (by omega) _ rfl
            refine Lp.up (fun i a => a = (nI n, bi true, winM (nwS (vtN M) (wnK (vtN M) k) s), hasM (wnK (vtN M) k) (nwS (vtN M) (wnK (vtN M) k) s), nI s, nI (1 + cntB (fun i => decide (winI (nwS (vtN M) (wnK (vtN M) i) 6) = nI s)) i), nI i, Mk)) k (fun i a r5 hi ha5 hr5 => ?_) (j := 0) (by omega) rfl
            subst ha5
            simp only [f_X12_elect_c98, f_X12_elect_b126, f_X12_elect_b171, f_X12_elect_b175, f_X12_elect_b176, f_X12_elect_b190, f_X12_elect_b203]
            rw [e48, nI_le_iff (by omega) (by omega), nI_cl i (by omega), nI_cl s (by omega), e1 322 (by decide) (by decide) (by decide), e322, e3]
            have hvi : i < k → vp_in (nI i) 9 := fun z => vin_nI (by omega) (by decide)
            refine ⟨fun c4 => ?_, fun c4 => ?_⟩
            · rw [show i = k by omega, cnt_wn (vtN M) (show s < 6 by omega) k]
              obtain ⟨ev, lv⟩ := vtB H s
              have lw := wnK_le (vtN M) k
              have hz : (nI (vtN M s) ≤ 0) ↔ ¬ 0 < vtN M s := by
                have := nI_le_iff (a := vtN M s) (b := 0) (by omega) (by omega)
                rw [show (0 : Int32) = nI 0 from rfl, this]; omega
              rw [ev, hz, nI_1]
              unfold nwS at hr4
              cases hw : nwS (vtN M) (wnK (vtN M) k) s with
              | none =>
                rw [hw] at hr4
                simp only [winM, hasM] at hr4 ⊢
                refine ⟨hvs, fun c5 => ⟨fun _ => ⟨fun _ => ?_, fun z => absurd trivial z⟩, fun z => absurd trivial z⟩, fun c5 => ⟨fun _ => ⟨fun z => absurd z (by decide), fun _ => ⟨fun z => absurd z (by decide), fun _ => ?_⟩⟩, fun z => absurd (by decide) z⟩⟩
                · rw [if_neg c5] at hr4; exact hr4
                · rw [if_pos (Classical.not_not.mp c5)] at hr4; exact hr4
              | some b =>
                obtain ⟨hb, -⟩ := nwS_lt _ _ _ b hw
                obtain ⟨evb, lvb⟩ := vtB H b
                have hvb : vp_in (nI b) 6 := vin_nI (by omega) (by decide)
                have hn0 : ¬ nI b < 0 := by rw [lt_nle]; exact fun z => z (nI_pos' (by omega))
                rw [hw] at hr4
                simp only [winM, hasM] at hr4 ⊢
                have l1 := lw b
                have l2 := lw s
                rw [nI_cl b (by omega), evb, mulI lv (by omega) lvb (by omega)]
                refine ⟨hvs, fun c5 => ⟨fun _ => ⟨fun _ => ?_, fun z => absurd trivial z⟩, fun z => absurd trivial z⟩, fun c5 => ⟨fun z => absurd z hn0, fun _ => ⟨hvs, hvb, fun c6 => ⟨fun _ => ⟨fun _ => ?_, fun z => absurd trivial z⟩, fun z => absurd trivial z⟩, fun c6 => ⟨fun z => absurd z (by decide), fun _ => ⟨fun z => absurd z (by decide), fun _ => ?_⟩⟩⟩⟩⟩
                · rw [if_neg (fun z => c5 z.1)] at hr4; exact hr4
                · rw [if_neg (fun z => by rw [Nat.add_comm 1, Nat.add_comm 1] at c6; omega)] at hr4; exact hr4
                · rw [if_pos ⟨Classical.not_not.mp c5, by rw [Nat.add_comm 1, Nat.add_comm 1] at c6; omega⟩] at hr4; exact hr4
            · have hr6 := hr5 (by omega) _ rfl
              have hsr : seaR M k i = winI (nwS (vtN M) (wnK (vtN M) i) 6) := if_pos (by omega)
              rw [hsr, nI_1 i, add0]
              have hcs : cntB (fun i => decide (winI (nwS (vtN M) (wnK (vtN M) i) 6) = nI s)) (i + 1) = cntB (fun i => decide (winI (nwS (vtN M) (wnK (vtN M) i) 6) = nI s)) i + (if decide (winI (nwS (vtN M) (wnK (vtN M) i) 6) = nI s) = true then 1 else 0) := rfl
              rw [hcs] at hr6
              refine ⟨hvi (by omega), fun c5 => ?_, fun c5 => ?_⟩
              · rw [if_neg (by simpa using c5), Nat.add_zero] at hr6; exact hr6
              · rw [if_pos (by simpa using c5), ← Nat.add_assoc] at hr6
                rw [nI_1]; exact hr6
    · rw [mset_ne _ _ _ (by decide), e323]
      funext j
      unfold seaR
      rw [if_neg (by omega)]
    · rw [mset_ne _ _ _ (by decide), e324]
      funext j
      unfold memR
      rw [if_neg (by omega)]
  · have hvq : vp_in (nI q) 6 := vin_nI (by omega) (by decide)
    have hr2 := hr (by omega) _ rfl
    rw [show exB (fun t => decide (0 < vtN M t)) (q + 1) = (exB (fun t => decide (0 < vtN M t)) q || decide (0 < vtN M q)) from rfl] at hr2
    obtain ⟨ev, lv⟩ := vtB H q
    have hz : (nI (vtN M q) ≤ 0) ↔ ¬ 0 < vtN M q := by
      have := nI_le_iff (a := vtN M q) (b := 0) (by omega) (by omega)
      rw [show (0 : Int32) = nI 0 from rfl, this]; omega
    rw [ev, hz, nI_1]
    clear h
    cases hx : exB (fun t => decide (0 < vtN M t)) q <;> rw [hx] at hr2 <;> simp only [bi] at hr2 ⊢ <;> grind
