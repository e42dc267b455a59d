/-! matters: their states by their tellings (papers and withdrawals alone) -/
def MW (M : Mem) (t n : Nat) : Prop := M t 11 = nI n ∧ n ≤ 30 ∧ ∀ q, q < n → M (t + 1) q = 0 ∨ M (t + 1) q = 2
theorem lru_n {W D O : Nat → Int32} (j k : Int32) : ∀ n, (∀ q, q < n → W q = 0 ∨ W q = 2) → lru W D O j k n = -9
  | 0, _ => rfl
  | n + 1, h => by
    have ih := lru_n (D := D) (O := O) j k n (fun q hq => h q (by omega))
    unfold lru
    rcases h n (by omega) with e | e <;> rw [e, if_neg (fun z => absurd z.1 (by decide)), if_neg (fun z => absurd z.1 (by decide))] <;> exact ih
theorem lan_n {W D O : Nat → Int32} (v : Int32 → Bool) (j : Int32) : ∀ n, (∀ q, q < n → W q = 0 ∨ W q = 2) → lan W D O v j n = -9
  | 0, _ => rfl
  | n + 1, h => by
    have ih := lan_n (D := D) (O := O) v j n (fun q hq => h q (by omega))
    unfold lan
    rcases h n (by omega) with e | e <;> rw [e, if_neg (fun z => absurd z.1 (by decide))] <;> exact ih
theorem pad_n {W D O : Nat → Int32} (p j k k' : Int32) : ∀ n f, (∀ q, q < n → W q = 0 ∨ W q = 2) → pad W D O p j k n f = pad W D O p j k' n f
  | 0, _, _ => rfl
  | n + 1, f, h => by
    have ih := fun f => pad_n (D := D) (O := O) p j k k' n f (fun q hq => h q (by omega))
    have hw : ¬ W n = 1 := by rcases h n (by omega) with e | e <;> rw [e] <;> decide
    have e : ∀ k, ¬ (W n = 1 ∧ O n = p ∧ D n ≤ k) := fun k z => hw z.1
    unfold pad
    rw [if_neg (e k), if_neg (e k'), ih]
/-- since when it is whole: the papers from p on -/
def wsC (nd : Int32) (P : Nat → Int32) : Nat → Nat → Int32 → Int32
  | 0, _, s => s
  | f + 1, p, s => if ¬ ((nd >>> (nI p &&& 31)) &&& (1 : Int32)) = 0 then (if P p = -9 then -9 else wsC nd P f (p + 1) (if s < P p then P p else s)) else wsC nd P f (p + 1) s
def PC (M : Mem) (t n : Nat) (j k : Int32) : Nat → Int32 := fun p => pad (M (t + 1)) (M (t + 3)) (M (t + 2)) (nI p) j k n (-9)
theorem t_wsn {M : Mem} {K : Int32 → Mem → Prop} {t n : Nat} (ht : isMat t) (hn : n ≤ 30) (e : M t 11 = nI n) (j k : Int32) (h : K (wsC (M t 8) (PC M t n j k) 8 0 (M t 6)) M) : f_X5_wholeSince t j k M K := by
  unfold f_X5_wholeSince
  refine ⟨ht, Lp.up (fun p a => ∃ s, K (wsC (M t 8) (PC M t n j k) (8 - p) p s) M ∧ a = (t, j, k, s, nI p, M)) 8 (fun p a r hp ha hr => ?_) (j := 0) (by omega) ⟨M t 6, h, rfl⟩⟩
  obtain ⟨s, hs, rfl⟩ := ha
  unfold f_X5_wholeSince_c8 f_X5_wholeSince_b57
  dsimp only
  have l8 : ((8 : Int32) ≤ nI p) ↔ 8 ≤ p := nI_le_iff (a := 8) (by decide) (by omega)
  rw [l8, nI_1]
  refine ⟨ht, fun c => ?_, fun c => ?_⟩
  · rw [show 8 - p = 0 by omega] at hs
    exact hs
  · rw [show 8 - p = (8 - (p + 1)) + 1 by omega] at hs
    unfold wsC at hs
    refine ⟨fun c2 => ?_, fun c2 => ?_⟩
    · rw [if_pos c2] at hs
      refine t_X5_paperDay ht hn e _ _ _ ?_
      change ((¬ PC M t n j k p = -9) → _) ∧ ((PC M t n j k p = -9) → _)
      refine ⟨fun c3 => ⟨ht, ?_⟩, fun c3 => ?_⟩
      · rw [if_neg c3] at hs
        exact hr (by omega) _ ⟨_, hs, rfl⟩
      · rw [if_pos c3] at hs
        exact hs
    · rw [if_neg (fun z => z c2)] at hs
      exact ⟨ht, hr (by omega) _ ⟨s, hs, rfl⟩⟩
def wdC (M : Mem) (a b : Int32) : Int32 := if a < 0 then 0 else if 1000 < b then 0 else if a < b then M 3 (nn b) - M 3 (nn a) else 0
theorem t_wd {M : Mem} {K : Int32 → Mem → Prop} (a b : Int32) (h : K (wdC M a b) M) : f_X3_workdaysBehind a b M K := by
  unfold f_X3_workdaysBehind f_X3_workdaysBehind_b16
  unfold wdC nn at h
  by_cases c1 : a < 0
  · rw [if_pos c1] at h
    exact ⟨fun _ => h, fun z => absurd c1 z⟩
  rw [if_neg c1] at h
  by_cases c2 : (1000 : Int32) < b
  · rw [if_pos c2] at h
    exact ⟨fun z => absurd z c1, fun _ => ⟨fun _ => h, fun z => absurd c2 z⟩⟩
  rw [if_neg c2] at h
  refine ⟨fun z => absurd z c1, fun _ => ⟨fun z => absurd z c2, fun _ => ?_⟩⟩
  by_cases c3 : a < b
  · rw [if_pos c3] at h
    have a0 : 0 ≤ a := by rw [lt_nle, Classical.not_not] at c1; exact c1
    have b1 : b ≤ 1000 := by rw [lt_nle, Classical.not_not] at c2; exact c2
    have q0 : (0 : Int32).toInt = 0 := rfl
    have q1 : (1000 : Int32).toInt = 1000 := rfl
    have a0' := i_le.mp a0
    have b1' := i_le.mp b1
    have ab := i_lt.mp c3
    exact ⟨fun _ => ⟨vin_of (i_le.mpr (by omega)) (by omega), vin_of a0 (by omega), h⟩, fun z => absurd c3 z⟩
  · rw [if_neg c3] at h
    exact ⟨fun z => absurd z c3, fun _ => h⟩
def wdr (M : Mem) (t n : Nat) (j : Int32) : Bool := exB (fun q => decide (M (t + 1) q = 2 ∧ M (t + 3) q ≤ j)) n
/-- the state on day j, as known on day k -/
def stC (M : Mem) (t n : Nat) (j k : Int32) : Int32 :=
  if wdr M t n j = true then 1 else if M t 7 = 0 then 0 else if wsC (M t 8) (PC M t n j k) 8 0 (M t 6) = -9 then 2 else if M t 7 = 1 then 6
  else if M t 9 < wdC M (wsC (M t 8) (PC M t n j k) 8 0 (M t 6)) j then (if M t 10 = 0 then 7 else 6) else 3
theorem stC_1 (M : Mem) (t n : Nat) (j k : Int32) : stC M t n j k = 1 ↔ wdr M t n j = true := by
  unfold stC
  by_cases c : wdr M t n j = true
  · rw [if_pos c]; exact ⟨fun _ => c, fun _ => rfl⟩
  · rw [if_neg c]
    refine ⟨fun z => ?_, fun z => absurd z c⟩
    split at z
    · exact absurd z (by decide)
    · split at z
      · exact absurd z (by decide)
      · split at z
        · exact absurd z (by decide)
        · split at z
          · split at z <;> exact absurd z (by decide)
          · exact absurd z (by decide)
theorem stC_k {M : Mem} {t n : Nat} (h : MW M t n) (j k k' : Int32) : stC M t n j k = stC M t n j k' := by
  have e : PC M t n j k = PC M t n j k' := funext fun p => pad_n _ _ _ _ n _ h.2.2
  unfold stC
  rw [e]
theorem t_st {M : Mem} {K : Int32 → Mem → Prop} {t n : Nat} (ht : isMat t) (h : MW M t n) (hc : M 51 5 = 0) (j k : Int32) (hK : K (stC M t n j k) M) : f_X5_stateOn t j k M K := by
  obtain ⟨e, hn, hW⟩ := h
  unfold f_X5_stateOn f_X5_stateOn_b44 f_X5_stateOn_b71 f_X5_stateOn_b133
  unfold stC at hK
  refine ⟨ht, t_X5_withdrawnBy ht hn e j ?_⟩
  change ((bi (wdr M t n j) = 0) → _) ∧ ((¬ bi (wdr M t n j) = 0) → _)
  cases hb : wdr M t n j
  · rw [hb, if_neg (by decide)] at hK
    refine ⟨fun _ => ⟨fun c => ?_, fun c => ?_⟩, fun z => absurd rfl z⟩
    · rw [if_neg c] at hK
      refine t_X5_lastRuling ht hn e j k ?_
      rw [lru_n j k n hW]
      refine ⟨fun _ => ?_, fun z => absurd rfl z⟩
      refine t_X5_lastAnswer ht hn e (by rw [hc]; decide) j k ?_
      rw [lan_n _ j n hW]
      refine ⟨fun _ => t_wsn ht hn e j k ?_, fun z => absurd rfl z⟩
      by_cases c2 : wsC (M t 8) (PC M t n j k) 8 0 (M t 6) = -9
      · rw [if_pos c2] at hK
        exact ⟨fun z => absurd c2 z, fun _ => hK⟩
      · rw [if_neg c2] at hK
        refine ⟨fun _ => ⟨fun c3 => ?_, fun c3 => ?_⟩, fun z => absurd z c2⟩
        · rw [if_neg c3] at hK
          refine t_wd _ _ ⟨fun c4 => ?_, fun c4 => ?_⟩
          · rw [if_pos c4] at hK
            refine ⟨fun c5 => ?_, fun c5 => ?_⟩
            · rw [if_pos c5] at hK; exact hK
            · rw [if_neg c5] at hK; exact hK
          · rw [if_neg c4] at hK; exact hK
        · rw [if_pos c3] at hK; exact hK
    · rw [if_pos c] at hK; exact hK
  · rw [hb, if_pos rfl] at hK
    exact ⟨fun z => absurd z (by decide), fun _ => hK⟩
/-! the calls -/
theorem im1 {M : Mem} {i m : Nat} (hm : m ≤ 40) (hi : i < m) (e : M 0 5 = nI m) {K : Int32 → Mem → Prop} (h : K 1 M) : f_X11_isMatter (nI i) M K := by
  unfold f_X11_isMatter f_X11_isMatter_b23
  have l40 : ((40 : Int32) ≤ nI i) ↔ 40 ≤ i := nI_le_iff (a := 40) (by decide) (by omega)
  rw [e, l40, nI_le_iff (by omega) (by omega)]
  exact ⟨fun z => absurd z (nI_n9 i (by omega)), fun _ => ⟨fun z => absurd z (by omega), fun _ => ⟨fun z => absurd z (by omega), fun _ => ⟨bz1, h⟩⟩⟩⟩
theorem isM {i : Nat} (hi : i < 40) : isMat (127 + 4 * i) := ⟨i, hi, rfl⟩
theorem w_state {M : Mem} {i m d o n j k : Nat} (hm : m ≤ 40) (hi : i < m) (e5 : M 0 5 = nI m) (ed : M 1 0 = nI d) (hd : d ≤ 1000) (ho : M (127 + 4 * i) 6 = nI o) (h1 : o ≤ j) (h2 : j ≤ k) (h3 : k ≤ d) (hW : MW M (127 + 4 * i) n) (hc : M 51 5 = 0) {K : Int32 → Mem → Prop} (h : K (stC M (127 + 4 * i) n (nI j) (nI k)) M) : f_X11_state (nI i) (nI j) (nI k) M K := by
  unfold f_X11_state f_X11_state_b22 f_X11_state_b58
  refine im1 hm hi e5 ⟨fun _ => ?_, fun z => absurd z (by decide)⟩
  have hv : vp_in (nI i) 40 := vin_nI (by omega) (by decide)
  rw [nI_cl i (by omega), ho, ed, nI_lt_iff (by omega) (by omega), nI_lt_iff (by omega) (by omega), nI_le_iff (by omega) (by omega)]
  exact ⟨fun z => absurd z (nI_n9 j (by omega)), fun _ => ⟨fun _ => ⟨hv, fun z => absurd z (by omega), fun _ => ⟨fun z => absurd z (by omega), fun _ => ⟨fun _ => ⟨hv, t_st (isM (by omega)) hW hc _ _ h⟩, fun z => absurd h3 z⟩⟩⟩, fun z => absurd (nI_pos' (by omega)) z⟩⟩
/-- a telling more -/
def MT (M M' : Mem) (t n : Nat) (w : Int32) : Prop := (∀ c, c ≠ t → c ≠ t + 1 → c ≠ t + 2 → c ≠ t + 3 → M' c = M c) ∧ M' t = upd (M t) 11 (nI (n + 1)) ∧ M' (t + 1) = upd (M (t + 1)) n w ∧ M' (t + 3) = upd (M (t + 3)) n (M 1 0)
theorem w_tell {M : Mem} {t n : Nat} (ht : isMat t) (hn : n < 30) (e : M t 11 = nI n) (w x : Int32) {K : Int32 → Mem → Prop} (h : ∀ M', MT M M' t n w → K (nI (n + 1)) M') : f_X5_tell t w x M K := by
  have h127 : 127 ≤ t := by obtain ⟨i, -, rfl⟩ := ht; omega
  unfold f_X5_tell f_X5_tell_b55
  have l30 : ((30 : Int32) ≤ nI n) ↔ 30 ≤ n := nI_le_iff (a := 30) (by decide) (by omega)
  have a1 : ∀ v, mset M (t + 1) n v t = M t := fun v => mset_ne _ _ _ (by omega)
  have hv : vp_in (nI n) 30 := vin_nI hn (by decide)
  simp only [e, l30, nI_cl n (show n < 2147483648 by omega), a1]
  have a2 : ∀ v u, mset (mset M (t + 1) n v) (t + 2) n u t = M t := fun v u => (mset_ne _ _ _ (by omega)).trans (a1 v)
  simp only [a2, e, nI_cl n (show n < 2147483648 by omega)]
  have a3 : ∀ v u z, mset (mset (mset M (t + 1) n v) (t + 2) n u) (t + 3) n z t = M t := fun v u z => (mset_ne _ _ _ (by omega)).trans (a2 v u)
  simp only [a3, e, nI_1]
  have a4 : ∀ v u, mset (mset M (t + 1) n v) (t + 2) n u 1 = M 1 := fun v u => (mset_ne _ _ _ (by omega)).trans (mset_ne _ _ _ (by omega))
  simp only [a4]
  refine ⟨ht, fun z => absurd z (by omega), fun _ => ⟨hv, hv, hv, ht, ?_⟩⟩
  rw [mset_eq]
  refine h _ ⟨fun c c0 c1 c2 c3 => ?_, ?_, ?_, ?_⟩
  · rw [mset_ne _ _ _ c0, mset_ne _ _ _ c3, mset_ne _ _ _ c2, mset_ne _ _ _ c1]
  · rw [mset_row, a3]
  · rw [mset_ne _ _ _ (by omega), mset_ne _ _ _ (by omega), mset_ne _ _ _ (by omega), mset_row]
  · rw [mset_ne _ _ _ (by omega), mset_row, mset_ne _ _ _ (by omega), mset_ne _ _ _ (by omega)]
theorem w_full {M : Mem} {t n : Nat} (ht : isMat t) (hn : n < 30) (e : M t 11 = nI n) {K : Int32 → Mem → Prop} (h : K 0 M) : f_X5_isFull t M K := by
  unfold f_X5_isFull f_X5_isFull_b14
  rw [e]
  exact ⟨ht, fun _ => ⟨bz0, h⟩, fun z => absurd ((nI_lt_iff (b := 30) (by omega) (by decide)).mpr hn) z⟩
/-- a refusal changes its count alone -/
def RF (M M' : Mem) : Prop := ∀ c, c ≠ 126 → M' c = M c
theorem w_withdraw {M : Mem} {i m n : Nat} (hm : m ≤ 40) (hi : i < m) (e5 : M 0 5 = nI m) (e : M (127 + 4 * i) 11 = nI n) (hn : n < 30) {K : Int32 → Mem → Prop}
    (h0 : wdr M (127 + 4 * i) n (M 1 0) = false → ∀ M', MT M M' (127 + 4 * i) n 2 → K 1 M') (h1 : wdr M (127 + 4 * i) n (M 1 0) = true → ∀ M', RF M M' → K (-3) M') : f_X11_withdraw (nI i) M K := by
  unfold f_X11_withdraw
  refine im1 hm hi e5 ⟨fun _ => ?_, fun z => absurd z (by decide)⟩
  have ht := isM (show i < 40 by omega)
  rw [nI_cl i (by omega)]
  refine ⟨vin_nI (by omega) (by decide), t_X5_withdrawnBy ht (by omega) e _ ?_⟩
  change ((bi (wdr M (127 + 4 * i) n (M 1 0)) = 0) → _) ∧ ((¬ bi (wdr M (127 + 4 * i) n (M 1 0)) = 0) → _)
  cases hb : wdr M (127 + 4 * i) n (M 1 0)
  · exact ⟨fun _ => w_full ht hn e ⟨fun _ => w_tell ht hn e 2 0 (fun M' hM => h0 hb M' hM), fun z => absurd rfl z⟩, fun z => absurd rfl z⟩
  · refine ⟨fun z => absurd z (by decide), fun _ => ?_⟩
    rw [v_X11_refuse (Or.inr (Or.inr (Or.inl rfl)))]
    exact h1 hb _ (fun c hc => mset_ne _ _ _ hc)
theorem w_paper {M : Mem} {i m n p : Nat} (hm : m ≤ 40) (hi : i < m) (e5 : M 0 5 = nI m) (e : M (127 + 4 * i) 11 = nI n) (hn : n < 30) (hp : p < 8) {K : Int32 → Mem → Prop}
    (h0 : wdr M (127 + 4 * i) n (M 1 0) = false → ∀ M', MT M M' (127 + 4 * i) n 0 → K (nI (n + 1)) M') (h1 : wdr M (127 + 4 * i) n (M 1 0) = true → ∀ M', RF M M' → K (-3) M') : f_X11_paper (nI i) (nI p) 1 M K := by
  unfold f_X11_paper f_X11_paper_b18 f_X11_paper_b90 f_X11_paper_b116
  refine im1 hm hi e5 ⟨fun z => absurd z (by decide), fun _ => ⟨fun z => absurd z (nI_n9 p (by omega)), fun _ => ⟨fun _ => ?_, fun z => absurd ((nI_lt_iff (b := 8) (by omega) (by decide)).mpr hp) z⟩⟩⟩
  have ht := isM (show i < 40 by omega)
  rw [nI_cl i (by omega)]
  refine ⟨vin_nI (by omega) (by decide), t_X5_withdrawnBy ht (by omega) e _ ?_⟩
  change ((bi (wdr M (127 + 4 * i) n (M 1 0)) = 0) → _) ∧ ((¬ bi (wdr M (127 + 4 * i) n (M 1 0)) = 0) → _)
  cases hb : wdr M (127 + 4 * i) n (M 1 0)
  · exact ⟨fun _ => ⟨fun _ => ⟨ht, w_full ht hn e ⟨fun _ => ⟨fun z => absurd z (by decide), fun _ => ⟨ht, w_tell ht hn e 0 (nI p) (fun M' hM => h0 hb M' hM)⟩⟩, fun z => absurd rfl z⟩⟩, fun z => absurd z (by decide)⟩, fun z => absurd rfl z⟩
  · refine ⟨fun z => absurd z (by decide), fun _ => ?_⟩
    rw [v_X11_refuse (Or.inr (Or.inr (Or.inl rfl)))]
    exact h1 hb _ (fun c hc => mset_ne _ _ _ hc)
