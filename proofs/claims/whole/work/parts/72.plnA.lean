/-! THE PLAN, pure: where one may go at first, what is late at least, and that what can be no better changes nothing -/
theorem lq_2 {j : Nat} (h : j < 2147483648) : ((2 : Int32) ≤ nI j) ↔ 2 ≤ j := nI_le_iff (a := 2) (by decide) h
theorem lq_3 {j : Nat} (h : j < 2147483648) : ((3 : Int32) ≤ nI j) ↔ 3 ≤ j := nI_le_iff (a := 3) (by decide) h
theorem lq_4 {j : Nat} (h : j < 2147483648) : ((4 : Int32) ≤ nI j) ↔ 4 ≤ j := nI_le_iff (a := 4) (by decide) h
theorem lq_7 {j : Nat} (h : j < 2147483648) : ((7 : Int32) ≤ nI j) ↔ 7 ≤ j := nI_le_iff (a := 7) (by decide) h
theorem if_nI {a b x y : Nat} (ha : a < 2147483648) (hb : b < 2147483648) : (if nI a < nI b then nI x else nI y) = nI (if a < b then x else y) := by
  by_cases h : a < b
  · rw [if_pos h, if_pos ((nI_lt_iff ha hb).mpr h)]
  · rw [if_neg h, if_neg (fun z => h ((nI_lt_iff ha hb).mp z))]
def pnF (R l : Nat) (full : Nat → Nat) : Nat → Nat → Nat
  | 0, p => p
  | k + 1, p => if full p + l ≤ R then p else pnF R l full k (p + 1)
def pnP (w : Nat) (pl : Nat → Nat) : Nat → Nat
  | 0 => 0
  | k + 1 => if w / 2 ^ k % 2 = 1 then (if pnP w pl k < pl k + 1 then pl k + 1 else pnP w pl k) else pnP w pl k
def pnT (R : Nat) (len wt : Nat → Nat) (i : Nat) (pl full : Nat → Nat) : Nat := pnF R (len i) full (7 - pnP (wt i) pl i) (pnP (wt i) pl i)
def pnL (R : Nat) (len due wt : Nat → Nat) : Nat → Nat → (Nat → Nat) → (Nat → Nat) → Nat
  | 0, _, _, _ => 0
  | m + 1, i, pl, full => (pnT R len wt i pl full - due i) + pnL R len due wt m (i + 1) (updN pl i (pnT R len wt i pl full)) full
theorem pnF_le (R l : Nat) (full : Nat → Nat) {q : Nat} (h : full q + l ≤ R) : ∀ k p, p ≤ q → pnF R l full k p ≤ q
  | 0, _, hp => hp
  | k + 1, p, hp => by
    unfold pnF
    by_cases c : full p + l ≤ R
    · rw [if_pos c]; exact hp
    · rw [if_neg c]
      exact pnF_le R l full h k (p + 1) (by
        rcases Nat.lt_or_eq_of_le hp with z | z
        · exact z
        · subst z; exact absurd h c)
theorem pnF_bd (R l : Nat) (full : Nat → Nat) : ∀ k p, pnF R l full k p ≤ p + k
  | 0, _ => Nat.le_refl _
  | k + 1, p => by
    unfold pnF
    by_cases c : full p + l ≤ R
    · rw [if_pos c]; omega
    · rw [if_neg c]; have := pnF_bd R l full k (p + 1); omega
theorem pnP_le (w : Nat) (pl : Nat → Nat) (p : Nat) : ∀ i, (∀ k, k < i → w / 2 ^ k % 2 = 1 → pl k < p) → pnP w pl i ≤ p
  | 0, _ => Nat.zero_le _
  | i + 1, h => by
    have h1 := pnP_le w pl p i (fun k hk => h k (by omega))
    have h2 := h i (by omega)
    unfold pnP
    by_cases c : w / 2 ^ i % 2 = 1
    · rw [if_pos c]; have := h2 c; split <;> omega
    · rw [if_neg c]; exact h1
theorem pnP_ge (w : Nat) (pl : Nat → Nat) : ∀ i k, k < i → w / 2 ^ k % 2 = 1 → pl k < pnP w pl i
  | 0, k, h, _ => absurd h (by omega)
  | i + 1, k, h, hb => by
    unfold pnP
    by_cases e : k = i
    · subst e; rw [if_pos hb]; split <;> omega
    · have := pnP_ge w pl i k (by omega) hb
      split
      · split <;> omega
      · exact this
theorem pnP_bd (w : Nat) (pl : Nat → Nat) (b : Nat) (i : Nat) (h : ∀ k, k < i → pl k < b) : pnP w pl i ≤ b := pnP_le w pl b i (fun k hk _ => h k hk)
theorem pnP_cong (w : Nat) {pl pl' : Nat → Nat} : ∀ i, (∀ k, k < i → pl' k = pl k) → pnP w pl' i = pnP w pl i
  | 0, _ => rfl
  | i + 1, h => by
    unfold pnP
    rw [pnP_cong w i (fun k hk => h k (by omega)), h i (by omega)]
theorem pn_may (R : Nat) (len wt : Nat → Nat) (i : Nat) (pl full : Nat → Nat) (p : Nat) : mayP R len wt i pl full p = true ↔ full p + len i ≤ R ∧ pnP (wt i) pl i ≤ p := by
  have h1 : mayP R len wt i pl full p = true ↔ full p + len i ≤ R ∧ ∀ k, k < i → wt i / 2 ^ k % 2 = 1 → pl k < p := by
    unfold mayP
    rw [Bool.and_eq_true, decide_eq_true_iff, List.all_eq_true]
    refine and_congr_right fun _ => ⟨fun h k hk => ?_, fun h k hk => ?_⟩
    · exact decide_eq_true_iff.mp (h k (List.mem_range.mpr hk))
    · exact decide_eq_true_iff.mpr (h k (List.mem_range.mp hk))
  rw [h1]
  refine and_congr_right fun _ => ⟨fun h => pnP_le _ _ _ _ h, fun h k hk hb => ?_⟩
  have := pnP_ge (wt i) pl i k hk hb
  omega
theorem fold_id {α β : Type} (f : β → α → β) (b : β) : ∀ (l : List α), (∀ x, x ∈ l → f b x = b) → l.foldl f b = b
  | [], _ => rfl
  | x :: l, h => by
    rw [List.foldl_cons, h x (List.mem_cons_self ..)]
    exact fold_id f b l (fun y hy => h y (List.mem_cons_of_mem _ hy))
theorem updN_s (f : Nat → Nat) (k v : Nat) : updN f k v k = v := if_pos rfl
theorem updN_n (f : Nat → Nat) {k j : Nat} (v : Nat) (h : j ≠ k) : updN f k v j = f j := if_neg h
theorem pn_prune (R : Nat) (len due wt : Nat → Nat) (b : Nat) (bp : Nat → Nat) : ∀ m i pl full late pl0 full0, (∀ k, k < i → pl0 k ≤ pl k) → (∀ p, full0 p ≤ full p) → b ≤ late + pnL R len due wt m i pl0 full0 → pS R len due wt m i pl full late (some (b, bp)) = some (b, bp)
  | 0, i, pl, full, late, pl0, full0, _, _, h => by
    unfold pnL at h
    unfold pS upA
    exact if_neg (by show ¬ late < b; omega)
  | m + 1, i, pl, full, late, pl0, full0, h1, h2, h => by
    unfold pnL at h
    unfold pS
    refine fold_id _ _ _ (fun p _ => ?_)
    by_cases c : mayP R len wt i pl full p = true
    · rw [if_pos c]
      have hc := (pn_may R len wt i pl full p).mp c
      have hle : pnT R len wt i pl0 full0 ≤ p := by
        refine pnF_le R (len i) full0 (Nat.le_trans (Nat.add_le_add_right (h2 p) _) hc.1) _ _ ?_
        refine pnP_le _ _ _ _ (fun k hk hb => ?_)
        have := pnP_ge (wt i) pl i k hk hb
        have := h1 k hk
        omega
      refine pn_prune R len due wt b bp m (i + 1) _ _ _ (updN pl0 i (pnT R len wt i pl0 full0)) full0 (fun k hk => ?_) (fun q => ?_) (by omega)
      · by_cases e : k = i
        · subst e; rw [updN_s, updN_s]; exact hle
        · rw [updN_n _ _ e, updN_n _ _ e]; exact h1 k (by omega)
      · by_cases e : q = p
        · subst e; rw [updN_s]; have := h2 q; omega
        · rw [updN_n _ _ e]; exact h2 q
    · rw [if_neg c]
/-- what is best behind the places less than p -/
def pnA (R : Nat) (len due wt : Nat → Nat) (m i : Nat) (pl full : Nat → Nat) (late : Nat) (acc : Option (Nat × (Nat → Nat))) (p : Nat) : Option (Nat × (Nat → Nat)) :=
  (List.range p).foldl (fun acc p => if mayP R len wt i pl full p then pS R len due wt m (i + 1) (updN pl i p) (updN full p (full p + len i)) (late + (p - due i)) acc else acc) acc
theorem pnA_s (R : Nat) (len due wt : Nat → Nat) (m i : Nat) (pl full : Nat → Nat) (late : Nat) (acc : Option (Nat × (Nat → Nat))) (p : Nat) :
    pnA R len due wt m i pl full late acc (p + 1) = if mayP R len wt i pl full p then pS R len due wt m (i + 1) (updN pl i p) (updN full p (full p + len i)) (late + (p - due i)) (pnA R len due wt m i pl full late acc p) else pnA R len due wt m i pl full late acc p := by
  unfold pnA
  rw [List.range_succ, List.foldl_append]
  rfl
theorem pnA_lo (R : Nat) (len due wt : Nat → Nat) (m i : Nat) (pl full : Nat → Nat) (late : Nat) (acc : Option (Nat × (Nat → Nat))) : ∀ p, p ≤ pnP (wt i) pl i → pnA R len due wt m i pl full late acc p = acc
  | 0, _ => rfl
  | p + 1, h => by
    rw [pnA_s, if_neg, pnA_lo R len due wt m i pl full late acc p (by omega)]
    rw [pn_may]
    omega
theorem pS_s (R : Nat) (len due wt : Nat → Nat) (m i : Nat) (pl full : Nat → Nat) (late : Nat) (acc : Option (Nat × (Nat → Nat))) : pS R len due wt (m + 1) i pl full late acc = pnA R len due wt m i pl full late acc 7 := rfl
/-- a number's bit -/
theorem btN {w k : Nat} (hw : w < 2147483648) : bt (nI w) k = true ↔ w / 2 ^ k % 2 = 1 := by
  have : (nI w).toBitVec.toNat = w := by
    show (BitVec.ofNat 32 w).toNat = w
    rw [BitVec.toNat_ofNat]
    omega
  unfold bt
  rw [BitVec.getLsbD, this, Nat.testBit_eq_decide_div_mod_eq, decide_eq_true_iff]
theorem pn_late {p d : Nat} (hp : p < 1000) (hd : d < 1000) : (if (0 : Int32) < nI p - nI d then nI p - nI d else 0) = nI (p - d) := by
  by_cases h : d ≤ p
  · rw [nI_sb h (by omega)]
    by_cases e : p - d = 0
    · rw [e]; rfl
    · have hpos : (0 : Int32) < nI (p - d) := (nI_lt_iff (a := 0) (b := p - d) (by omega) (by omega)).mpr (by omega)
      rw [if_pos hpos]
  · have h1 := (nI_lt_iff (a := p) (b := d) (by omega) (by omega)).mpr (by omega)
    have h2 := nI_pos' (n := p) (by omega)
    have h3 := (nI_le_iff (a := d) (b := 1000) (by omega) (by omega)).mpr (by omega)
    have h4 : nI 1000 = 1000 := rfl
    rw [h4] at h3
    rw [show p - d = 0 by omega]
    rw [if_neg (by generalize nI p = x at *; generalize nI d = y at *; lia)]
    rfl
theorem nI_n9 {b : Nat} (h : b < 2147483648) : ¬ nI b = -9 := fun e => by
  have := nI_pos' h
  rw [e] at this
  exact absurd this (by decide)
