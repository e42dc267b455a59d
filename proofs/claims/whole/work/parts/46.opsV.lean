/-! deeds: since when they are void. The class goes from turn to turn, the model day by day -/
def fsD (z : Int32) (P : Nat → Bool) : Nat → Nat → Int32
  | 0, _ => z
  | k + 1, q => if P q = true then nI q else fsD z P k (q + 1)
theorem fsD_skip (z : Int32) (P : Nat → Bool) : ∀ d k q, (∀ j, q ≤ j → j < q + d → P j = false) → fsD z P (d + k) q = fsD z P k (q + d)
  | 0, k, q, _ => by rw [Nat.zero_add, Nat.add_zero]
  | d + 1, k, q, h => by
    rw [show d + 1 + k = (d + k) + 1 by omega]
    unfold fsD
    rw [h q (by omega) (by omega)]
    simp only [Bool.false_eq_true, if_false]
    rw [fsD_skip z P d k (q + 1) (fun j h1 h2 => h j (by omega) (by omega)), show q + 1 + d = q + (d + 1) by omega]
    cases k with
    | zero => rfl
    | succ k => rfl
theorem fsD_spec (z : Int32) (P : Nat → Bool) : ∀ k q, (fsD z P k q = z ∧ ∀ j, q ≤ j → j < q + k → P j = false) ∨ ∃ j, q ≤ j ∧ j < q + k ∧ fsD z P k q = nI j ∧ P j = true ∧ ∀ i, q ≤ i → i < j → P i = false
  | 0, q => Or.inl ⟨rfl, fun j h1 h2 => absurd h2 (by omega)⟩
  | k + 1, q => by
    unfold fsD
    by_cases c : P q = true
    · rw [if_pos c]
      exact Or.inr ⟨q, by omega, by omega, rfl, c, fun i h1 h2 => absurd h2 (by omega)⟩
    · rw [if_neg c]
      rcases fsD_spec z P k (q + 1) with ⟨e, h⟩ | ⟨j, h1, h2, e, hp, h⟩
      · refine Or.inl ⟨e, fun j h1 h2 => ?_⟩
        by_cases c2 : j = q
        · rw [c2]; simpa using c
        · exact h j (by omega) (by omega)
      · refine Or.inr ⟨j, by omega, by omega, e, hp, fun i h3 h4 => ?_⟩
        by_cases c2 : i = q
        · rw [c2]; simpa using c
        · exact h i (by omega) h4
/-! what hangs on a day's place among the tellings -/
theorem rul_j {W D O : Nat → Int32} {j j' : Int32} (k : Int32) : ∀ {n}, (∀ q, q < n → (D q ≤ j ↔ D q ≤ j')) → rul W D O j k n = rul W D O j' k n
  | 0, _ => rfl
  | n + 1, h => by
    have ih := rul_j k (W := W) (O := O) (n := n) (fun q hq => h q (by omega))
    have h1 := h n (by omega)
    unfold rul
    grind
theorem ans_j {W D O S V : Nat → Int32} {j j' : Int32} (k : Int32) : ∀ {n}, (∀ q, q < n → (D q ≤ j ↔ D q ≤ j')) → ans W D O S V j k n = ans W D O S V j' k n
  | 0, _ => rfl
  | n + 1, h => by
    have ih := ans_j k (W := W) (O := O) (S := S) (V := V) (n := n) (fun q hq => h q (by omega))
    have h1 := h n (by omega)
    unfold ans
    grind
theorem giv_j {W D O : Nat → Int32} {j j' : Int32} (p k : Int32) : ∀ {n}, (∀ q, q < n → (D q ≤ j ↔ D q ≤ j')) → giv W D O p j k n = giv W D O p j' k n
  | 0, _ => rfl
  | n + 1, h => by
    have ih := giv_j p k (W := W) (O := O) (n := n) (fun q hq => h q (by omega))
    have h1 := h n (by omega)
    unfold giv
    grind
theorem wh_j {W D O : Nat → Int32} (nd d0 : Int32) {j j' : Int32} (k : Int32) {n} (h : ∀ q, q < n → (D q ≤ j ↔ D q ≤ j')) : ∀ p, wh W D O nd d0 j k n p = wh W D O nd d0 j' k n p
  | 0 => rfl
  | p + 1 => by
    have ih := wh_j (W := W) (O := O) nd d0 k h p
    unfold wh
    rw [ih, giv_j (nI p) k h]
def same (M : Mem) (i : Nat) (j j' : Int32) : Prop := ∀ q, q < nn (M 317 i) → (M 319 (30 * i + q) ≤ j ↔ M 319 (30 * i + q) ≤ j')
theorem whM_j {M : Mem} {i : Nat} {j j' : Int32} (h : same M i j j') (k : Int32) : whM M i j k = whM M i j' k := wh_j _ _ _ h 8
def byd (M : Mem) (i w d : Nat) : Bool := decide (¬ nI (wd (M 288) d - wd (M 288) w) ≤ M 315 i)
theorem stM_j {M : Mem} {i : Nat} {u v : Nat} (hu : u ≤ 1000) (hv : v ≤ 1000) (k : Int32) (h : same M i (nI u) (nI v)) (hb : ¬ whM M i (nI u) k < 0 → byd M i (nn (whM M i (nI u) k)) u = byd M i (nn (whM M i (nI u) k)) v) : stM M i (nI u) k = stM M i (nI v) k := by
  have e1 : wdrM M i (nI u) = wdrM M i (nI v) := by
    unfold wdrM
    refine exB_cong (fun q hq => ?_)
    have := h q hq
    by_cases c : M 318 (30 * i + q) = 2 <;> simp [c, this]
  have e2 : rulM M i (nI u) k = rulM M i (nI v) k := rul_j k h
  have e3 : ansM M i (nI u) k = ansM M i (nI v) k := ans_j k h
  have e4 := whM_j h k
  unfold stM stt
  rw [e1, e2, e3, ← e4]
  rw [nn_nI u (by omega), nn_nI v (by omega)]
  by_cases hw : whM M i (nI u) k < 0
  · simp only [if_pos hw]
  replace hb := hb hw
  unfold byd at hb
  have hb2 : (nI (wd (M 288) u - wd (M 288) (nn (whM M i (nI u) k))) ≤ M 315 i) ↔ (nI (wd (M 288) v - wd (M 288) (nn (whM M i (nI u) k))) ≤ M 315 i) := by
    by_cases c : nI (wd (M 288) u - wd (M 288) (nn (whM M i (nI u) k))) ≤ M 315 i <;> by_cases c2 : nI (wd (M 288) v - wd (M 288) (nn (whM M i (nI u) k))) ≤ M 315 i <;> simp [c, c2] at hb ⊢
  simp only [hb2]
/-- the end of silence -/
def sil (M : Mem) (i : Nat) (j k : Int32) : Int32 := if whM M i j k < 0 then 1000000 else fsD 1000000 (byd M i (nn (whM M i j k))) (1000 - nn (whM M i j k)) (nn (whM M i j k) + 1)
def nt1 (D : Nat → Int32) (j : Int32) : Nat → Int32
  | 0 => 1000000
  | q + 1 => if D q ≤ j then nt1 D j q else if D q < nt1 D j q then D q else nt1 D j q
def nxt (M : Mem) (i : Nat) (j k : Int32) : Int32 := if sil M i j k ≤ j then nt1 (fun q => M 319 (30 * i + q)) j (nn (M 317 i)) else if sil M i j k < nt1 (fun q => M 319 (30 * i + q)) j (nn (M 317 i)) then sil M i j k else nt1 (fun q => M 319 (30 * i + q)) j (nn (M 317 i))
theorem nt1_r {D : Nat → Int32} {u : Nat} (hu : u ≤ 1000) : ∀ n, (∀ q, q < n → 0 ≤ D q ∧ D q ≤ 1000) → (∃ v, nt1 D (nI u) n = nI v ∧ u < v ∧ v ≤ 1000000 ∧ (∀ q, q < n → D q ≤ nI u ∨ nI v ≤ D q) ∧ (v = 1000000 ∨ ∃ q, q < n ∧ D q = nI v))
  | 0, _ => ⟨1000000, rfl, by omega, by omega, fun q hq => absurd hq (by omega), Or.inl rfl⟩
  | n + 1, h => by
    obtain ⟨v, ev, h1, h2, h3, h4⟩ := nt1_r hu n (fun q hq => h q (by omega))
    obtain ⟨d, hd, ed⟩ := nat_of (n := 1000) (h n (by omega)).1 (h n (by omega)).2 (by decide)
    unfold nt1
    rw [ev, ed]
    have l1 : (nI d ≤ nI u) ↔ d ≤ u := nI_le_iff (by omega) (by omega)
    have l2 : (nI d < nI v) ↔ d < v := nI_lt_iff (by omega) (by omega)
    by_cases c : d ≤ u
    · rw [if_pos (l1.mpr c)]
      refine ⟨v, rfl, h1, h2, fun q hq => ?_, h4.imp_right (fun ⟨q, a, b⟩ => ⟨q, by omega, b⟩)⟩
      by_cases cq : q = n
      · rw [cq, ed]; exact Or.inl (l1.mpr c)
      · exact h3 q (by omega)
    · rw [if_neg (fun z => c (l1.mp z))]
      by_cases c2 : d < v
      · rw [if_pos (l2.mpr c2)]
        refine ⟨d, rfl, by omega, by omega, fun q hq => ?_, Or.inr ⟨n, by omega, ed⟩⟩
        by_cases cq : q = n
        · rw [cq, ed]; exact Or.inr (Int32.le_refl _)
        · refine (h3 q (by omega)).imp_right (fun z => Int32.le_trans ?_ z)
          exact (nI_le_iff (by omega) (by omega)).mpr (by omega)
      · rw [if_neg (fun z => c2 (l2.mp z))]
        refine ⟨v, rfl, h1, h2, fun q hq => ?_, h4.imp_right (fun ⟨q, a, b⟩ => ⟨q, by omega, b⟩)⟩
        by_cases cq : q = n
        · rw [cq, ed]; exact Or.inr ((nI_le_iff (by omega) (by omega)).mpr (by omega))
        · exact h3 q (by omega)
theorem byd_mono {M : Mem} {i w d d' : Nat} (h : d ≤ d') (hd : d' ≤ 1000) (hb : byd M i w d = true) : byd M i w d' = true := by
  unfold byd at hb ⊢
  have h1 := of_decide_eq_true hb
  refine decide_eq_true (fun z => h1 (Int32.le_trans ?_ z))
  have h2 := wd_mono (M 288) h
  have h3 := wd_le (M 288) d'
  exact (nI_le_iff (by omega) (by omega)).mpr (by omega)
theorem byd_0 {M : Mem} {i w d : Nat} (h : d ≤ w) (h0 : 0 ≤ M 315 i) : byd M i w d = false := by
  unfold byd
  have h2 := wd_mono (M 288) h
  refine decide_eq_false (fun z => z ?_)
  rw [show wd (M 288) d - wd (M 288) w = 0 by omega]
  exact h0
/-- what the turn of silence is -/
theorem sil_r {M : Mem} {i : Nat} (hm : mok M i) (hs : sok M) {u : Nat} (hu : u ≤ 1000) (k : Int32) : (whM M i (nI u) k < 0 ∧ sil M i (nI u) k = 1000000) ∨ ∃ w, w ≤ 1000 ∧ whM M i (nI u) k = nI w ∧ ((sil M i (nI u) k = 1000000 ∧ ∀ d, d ≤ 1000 → byd M i w d = false) ∨ ∃ s, s ≤ 1000 ∧ sil M i (nI u) k = nI s ∧ byd M i w s = true ∧ ∀ d, d < s → byd M i w d = false) := by
  have hmm := mmo_of hm hs
  obtain ⟨hi, ⟨n, hn, en⟩, b9, b10, b7, b8, hq⟩ := hmm
  have h315 : 0 ≤ M 315 i := by
    obtain ⟨-, h1, h2, h3, h4, h5, h6, h7, h8, h9, h10, q1, q2, q3, q4, q5, q6, q7, q8, q9, q10, q11, q12, q13, q14, q15⟩ := hm
    exact q13
  have hw1 : whM M i (nI u) k = -1 ∨ 0 ≤ whM M i (nI u) k := wh_r _ _ _ _ _ _ _ _ b9 8
  have hw2 : whM M i (nI u) k ≤ 1000 := wh_le _ _ _ _ _ _ _ _ (by decide) b10 (fun q hqn => (hq q hqn).1) 8
  rcases hw1 with e | e
  · left
    unfold sil
    rw [e]
    exact ⟨by decide, rfl⟩
  · right
    obtain ⟨w, hw, ew⟩ := nat_of (n := 1000) e hw2 (by decide)
    refine ⟨w, hw, ew, ?_⟩
    unfold sil
    rw [ew, if_neg (by rw [lt_nle]; exact fun z => z (nI_pos' (by omega))), nn_nI w (by omega)]
    rcases fsD_spec 1000000 (byd M i w) (1000 - w) (w + 1) with ⟨e1, h1⟩ | ⟨s, h1, h2, e1, h3, h4⟩
    · left
      refine ⟨e1, fun d hd => ?_⟩
      rcases Nat.lt_or_ge w d with c | c
      · exact h1 d (by omega) (by omega)
      · exact byd_0 c h315
    · right
      refine ⟨s, by omega, e1, h3, fun d hd => ?_⟩
      rcases Nat.lt_or_ge w d with c | c
      · exact h4 d (by omega) hd
      · exact byd_0 c h315
theorem tel_r {M : Mem} {i : Nat} (hm : mok M i) (hs : sok M) : ∀ q, q < nn (M 317 i) → 0 ≤ M 319 (30 * i + q) ∧ M 319 (30 * i + q) ≤ 1000 := fun q hq => by
  obtain ⟨-, -, h1, -⟩ := mok_q hm q hq
  exact ⟨h1, ((mmo_of hm hs).2.2.2.2.2.2 q hq).1⟩
/-- how many tellings lie ahead -/
def ahd (M : Mem) (i : Nat) (j : Int32) : Nat := cntB (fun q => decide (¬ M 319 (30 * i + q) ≤ j)) (nn (M 317 i))
def mea (M : Mem) (i : Nat) (j k : Int32) : Nat := 2 * ahd M i j + (if sil M i j k ≤ j then 0 else 1)
theorem cntB_mono {p q : Nat → Bool} : ∀ {n}, (∀ k, k < n → p k = true → q k = true) → cntB p n ≤ cntB q n
  | 0, _ => Nat.le_refl _
  | n + 1, h => by
    have ih := cntB_mono (n := n) (fun k hk => h k (by omega))
    have h1 := h n (by omega)
    show cntB p n + _ ≤ cntB q n + _
    cases hp : p n
    · simp only [Bool.false_eq_true, if_false]; split <;> omega
    · rw [h1 hp]; omega
theorem cntB_lt {p q : Nat → Bool} {m : Nat} (hp : p m = false) (hq : q m = true) : ∀ {n}, m < n → (∀ k, k < n → p k = true → q k = true) → cntB p n < cntB q n
  | 0, hm, _ => absurd hm (by omega)
  | n + 1, hm, h => by
    show cntB p n + _ < cntB q n + _
    by_cases c : m = n
    · have := cntB_mono (n := n) (fun k hk => h k (by omega))
      rw [← c] at this ⊢
      rw [hp, hq]
      simp only [Bool.false_eq_true, if_false, if_true]
      omega
    · have ih := cntB_lt hp hq (n := n) (by omega) (fun k hk => h k (by omega))
      have h1 := h n (by omega)
      cases hpn : p n
      · simp only [Bool.false_eq_true, if_false]; split <;> omega
      · rw [h1 hpn]; omega
/-- the turn: beyond the day, nothing changes ahead of it, and the measure falls -/
theorem nxt_r {M : Mem} {i : Nat} (hm : mok M i) (hs : sok M) {u : Nat} (hu : u ≤ 1000) (k : Int32) : ∃ v, nxt M i (nI u) k = nI v ∧ u < v ∧ v ≤ 1000000 ∧ (∀ x, u ≤ x → x < v → x ≤ 1000 → stM M i (nI x) k = stM M i (nI u) k) ∧ (v ≤ 1000 → mea M i (nI v) k < mea M i (nI u) k) := by
  obtain ⟨v, ev, h1, h2, h3, h4⟩ := nt1_r (D := fun q => M 319 (30 * i + q)) hu (nn (M 317 i)) (tel_r hm hs)
  have hsil := sil_r hm hs hu k
  -- the turn's number
  have key : ∃ y, nxt M i (nI u) k = nI y ∧ u < y ∧ y ≤ v ∧ (y = v ∨ (sil M i (nI u) k = nI y ∧ y ≤ 1000 ∧ y < v)) ∧ (sil M i (nI u) k ≤ nI u ∨ nI y ≤ sil M i (nI u) k) := by
    unfold nxt
    rw [ev]
    have hb1 : ¬ (1000000 : Int32) ≤ nI u := fun z => absurd ((nI_le_iff (a := 1000000) (b := u) (by omega) (by omega)).mp z) (by omega)
    have hb2 : ¬ (1000000 : Int32) < nI v := fun z => absurd ((nI_lt_iff (a := 1000000) (b := v) (by omega) (by omega)).mp z) (by omega)
    rcases hsil with ⟨-, e⟩ | ⟨w, hw, ew, ⟨e, -⟩ | ⟨s, hs2, e, -⟩⟩
    · rw [e, if_neg hb1, if_neg hb2]
      exact ⟨v, rfl, h1, Nat.le_refl _, Or.inl rfl, Or.inr ((nI_le_iff (b := 1000000) (by omega) (by omega)).mpr h2)⟩
    · rw [e, if_neg hb1, if_neg hb2]
      exact ⟨v, rfl, h1, Nat.le_refl _, Or.inl rfl, Or.inr ((nI_le_iff (b := 1000000) (by omega) (by omega)).mpr h2)⟩
    · rw [e]
      have l1 : (nI s ≤ nI u) ↔ s ≤ u := nI_le_iff (by omega) (by omega)
      have l2 : (nI s < nI v) ↔ s < v := nI_lt_iff (by omega) (by omega)
      by_cases c : s ≤ u
      · rw [if_pos (l1.mpr c)]
        exact ⟨v, rfl, h1, Nat.le_refl _, Or.inl rfl, Or.inl (l1.mpr c)⟩
      · rw [if_neg (fun z => c (l1.mp z))]
        by_cases c2 : s < v
        · rw [if_pos (l2.mpr c2)]
          exact ⟨s, rfl, by omega, by omega, Or.inr ⟨rfl, hs2, c2⟩, Or.inr (Int32.le_refl _)⟩
        · rw [if_neg (fun z => c2 (l2.mp z))]
          exact ⟨v, rfl, h1, Nat.le_refl _, Or.inl rfl, Or.inr ((nI_le_iff (by omega) (by omega)).mpr (by omega))⟩
  obtain ⟨y, ey, k1, k2, k3, k4⟩ := key
  have hsame : ∀ x, u ≤ x → x < v → x ≤ 1000 → same M i (nI u) (nI x) := fun x x1 x2 x3 q hq => by
    have := h3 q hq
    constructor
    · intro z; exact Int32.le_trans z ((nI_le_iff (by omega) (by omega)).mpr x1)
    · intro z
      refine this.resolve_right (fun z2 => ?_)
      have := (nI_le_iff (by omega) (by omega)).mp (Int32.le_trans z2 z)
      omega
  have hbyd : ¬ whM M i (nI u) k < 0 → ∀ x, u ≤ x → x < y → x ≤ 1000 → byd M i (nn (whM M i (nI u) k)) u = byd M i (nn (whM M i (nI u) k)) x := by
    intro hw0 x x1 x2 x3
    rcases hsil with ⟨e0, e⟩ | ⟨w, hw, ew, hh⟩
    · exact absurd e0 hw0
    · rw [ew, nn_nI w (by omega)]
      rcases hh with ⟨-, h5⟩ | ⟨s, hs2, e, h6, h7⟩
      · rw [h5 u hu, h5 x x3]
      · rw [e] at k4
        rcases k4 with k4 | k4
        · have hsu := (nI_le_iff (by omega) (by omega)).mp k4
          rw [byd_mono hsu hu h6, byd_mono (Nat.le_trans hsu x1) x3 h6]
        · have hys := (nI_le_iff (by omega) (by omega)).mp k4
          rw [h7 u (by omega), h7 x (by omega)]
  refine ⟨y, ey, k1, by omega, fun x x1 x2 x3 => ?_, fun hy => ?_⟩
  · exact (stM_j hu x3 k (hsame x x1 (by omega) x3) (fun hw0 => hbyd hw0 x x1 x2 x3)).symm
  · have hle : nI u ≤ nI y := (nI_le_iff (by omega) (by omega)).mpr (by omega)
    have hmono : ∀ q, q < nn (M 317 i) → decide (¬ M 319 (30 * i + q) ≤ nI y) = true → decide (¬ M 319 (30 * i + q) ≤ nI u) = true := fun q _ z => decide_eq_true (fun z2 => of_decide_eq_true z (Int32.le_trans z2 hle))
    unfold mea
    rcases k3 with k3 | ⟨k3, k5, k6⟩
    · rcases h4 with h4 | ⟨q, hq, eq⟩
      · omega
      · have hlt : ahd M i (nI y) < ahd M i (nI u) := by
          have hy1 : M 319 (30 * i + q) ≤ nI y := by rw [eq, k3]; exact Int32.le_refl _
          have hu1 : ¬ M 319 (30 * i + q) ≤ nI u := by
            rw [eq]
            intro z
            have := (nI_le_iff (by omega) (by omega)).mp z
            omega
          exact cntB_lt (m := q) (by simp only [hy1, not_true, decide_false]) (by simp only [hu1, not_false_eq_true, decide_true]) hq hmono
        split <;> split <;> omega
    · have hle2 : ahd M i (nI y) ≤ ahd M i (nI u) := cntB_mono hmono
      have hsl : sil M i (nI y) k = sil M i (nI u) k := by
        unfold sil
        rw [whM_j (hsame y (by omega) k6 k5) k]
      rw [hsl, k3, if_pos (Int32.le_refl _), if_neg (fun z => absurd ((nI_le_iff (by omega) (by omega)).mp z) (by omega))]
      omega
/-! the class's walk -/
theorem t_fdb {M : Mem} {i w : Nat} {K : Int32 → Mem → Prop} (hw : w ≤ 1000) (e3 : ∀ j, j ≤ 1000 → M 3 j = nI (wd (M 2) j)) (e288 : M 288 = M 2) (h : K (fsD 1000000 (byd M i w) (1000 - w) (w + 1)) M) : f_X3_firstDayBeyond (nI w) (M 315 i) M K := by
  unfold f_X3_firstDayBeyond
  refine ⟨fun _ => ?_, fun z => absurd (nI_pos' (by omega)) z⟩
  rw [nI_1]
  refine Lp.up (fun d a => w + 1 ≤ d ∧ K (fsD 1000000 (byd M i w) (1001 - d) d) M ∧ a = (nI w, M 315 i, nI d, M)) 1001 (fun d a r hd ha hr => ?_) (j := w + 1) (by omega) ⟨Nat.le_refl _, by rw [show 1001 - (w + 1) = 1000 - w by omega]; exact h, rfl⟩
  obtain ⟨hd1, hk, rfl⟩ := ha
  unfold f_X3_firstDayBeyond_c11
  dsimp only
  have l : ((1000 : Int32) < nI d) ↔ 1000 < d := nI_lt_iff (a := 1000) (by omega) (by omega)
  rw [l, nI_cl d (by omega), nI_cl w (by omega)]
  refine ⟨fun c => by rw [show 1001 - d = 0 by omega] at hk; exact hk, fun c => ⟨vin_nI (by omega) (by omega), vin_nI (by omega) (by omega), ?_⟩⟩
  rw [e3 d (by omega), e3 w hw, pk_sub (wd_mono (M 2) (show w ≤ d by omega)), nI_1]
  rw [show 1001 - d = (1001 - (d + 1)) + 1 by omega] at hk
  unfold fsD at hk
  have hb : byd M i w d = true ↔ ¬ nI (wd (M 2) d - wd (M 2) w) ≤ M 315 i := by unfold byd; rw [e288]; exact decide_eq_true_iff
  refine ⟨fun c2 => hr (by omega) _ ⟨by omega, ?_, rfl⟩, fun c2 => ?_⟩
  · rw [if_neg (fun z => hb.mp z c2)] at hk; exact hk
  · rw [if_pos (hb.mpr c2)] at hk; exact hk
theorem t_nxt {M : Mem} (H : Inv M) {i : Nat} (hi2 : i < nn (M 0 5)) {u : Nat} (hu : u ≤ 1000) {K : Int32 → Mem → Prop} (h : K (nxt M i (nI u) (M 1 0)) M) : f_X5_nextTurn (127 + 4 * i) (nI u) M K := by
  have hm := H.mok hi2
  have hs := H.sok
  have hD := H.D
  obtain ⟨n, hn, en, en2, enn⟩ := mok_n hm
  have hq := mok_q hm
  have ht := mok_t hm
  have hsil := sil_r hm hs hu (M 1 0)
  have e9 : M (127 + 4 * i) 9 = M 315 i := by
    obtain ⟨-, h1, h2, h3, h4, h5, h6, h7, h8, h9⟩ := hm
    exact h8
  unfold nxt at h
  rw [enn] at h hq
  unfold f_X5_nextTurn
  refine ⟨ht, Lp.up (fun q a => a = (127 + 4 * i, nI u, nt1 (fun q => M 319 (30 * i + q)) (nI u) q, nI q, M)) n (fun q a r hqn ha hr => ?_) (j := 0) (by omega) rfl⟩
  subst ha
  simp only [f_X5_nextTurn_c5, f_X5_nextTurn_b34, f_X5_nextTurn_b78]
  rw [en2, nI_le_iff (by omega) (by omega), nI_cl q (by omega), nI_1]
  refine ⟨ht, fun c => ?_, fun c => ?_⟩
  · rw [show q = n by omega]
    refine p_whole hm _ _ _ ?_
    have fin : f_X3_firstDayBeyond (if whM M i (nI u) (M 1 0) < 0 then -9 else whM M i (nI u) (M 1 0)) (M 315 i) M (fun v5 M5 => ((v5 ≤ nI u) → K (nt1 (fun q => M 319 (30 * i + q)) (nI u) n) M5) ∧ ((¬ v5 ≤ nI u) → K (if v5 < nt1 (fun q => M 319 (30 * i + q)) (nI u) n then v5 else nt1 (fun q => M 319 (30 * i + q)) (nI u) n) M5)) := by
      have hsd : sil M i (nI u) (M 1 0) = sil M i (nI u) (M 1 0) := rfl
      rcases hsil with ⟨e0, e⟩ | ⟨w, hw, ew, -⟩
      · rw [if_pos e0]
        unfold f_X3_firstDayBeyond
        refine ⟨fun z => absurd z (by decide), fun _ => ?_⟩
        rw [e] at h
        refine ⟨fun z => ?_, fun z => ?_⟩
        · rw [if_pos z] at h; exact h
        · rw [if_neg z] at h; exact h
      · have hn0 : ¬ nI w < 0 := by rw [lt_nle]; exact fun z => z (nI_pos' (by omega))
        rw [ew, if_neg hn0]
        refine t_fdb hw hD.2.2.2.2.2 hD.2.2.2.1 ?_
        have es : sil M i (nI u) (M 1 0) = fsD 1000000 (byd M i w) (1000 - w) (w + 1) := by
          unfold sil
          rw [ew, if_neg hn0, nn_nI w (by omega)]
        rw [es] at h
        refine ⟨fun z => ?_, fun z => ?_⟩
        · rw [if_pos z] at h; exact h
        · rw [if_neg z] at h; exact h
    rw [e9]
    exact fin
  · have hv : vp_in (nI q) 30 := vin_nI (by omega) (by decide)
    have hr2 := hr (by omega) _ rfl
    unfold nt1 at hr2
    rw [(hq q (by omega)).2.1]
    clear h H hsil
    grind
