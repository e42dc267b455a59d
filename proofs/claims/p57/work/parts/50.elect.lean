/-! the seats: the highest quotients -/
def cnt (f : Nat → Nat) : Nat → Nat → Nat
  | 0, _ => 0
  | n + 1, k => cnt f n k + (if f n = k then 1 else 0)
theorem cnt_le (f : Nat → Nat) (k : Nat) : ∀ n, cnt f n k ≤ n
  | 0 => Nat.le_refl 0
  | n + 1 => by
    have := cnt_le f k n
    unfold cnt
    split <;> omega
theorem cnt_cong {f g : Nat → Nat} (k : Nat) : ∀ n, (∀ i, i < n → f i = g i) → cnt f n k = cnt g n k
  | 0, _ => rfl
  | n + 1, h => by
    unfold cnt
    rw [cnt_cong k n (fun i hi => h i (by omega)), h n (by omega)]
/-- no shop's next seat is dearer than a seat that another one has -/
def DH (v w : Nat → Nat) : Prop := ∀ a b, a < 6 → b < 6 → 0 < w b → v a * w b ≤ v b * (w a + 1)
def Best (v w : Nat → Nat) (s j : Nat) : Prop := s < j ∧ 0 < v s ∧ ∀ k, k < j → v k * (w s + 1) ≤ v s * (w k + 1)
theorem best_up {v w : Nat → Nat} {s j : Nat} (h : Best v w s j) (hj : v s * (w j + 1) < v j * (w s + 1)) : Best v w j (j + 1) := by
  obtain ⟨h1, h2, h3⟩ := h
  refine ⟨by omega, ?_, fun k hk => ?_⟩
  · rcases Nat.eq_zero_or_pos (v j) with q | q
    · rw [q, Nat.zero_mul] at hj; omega
    · exact q
  · by_cases e : k = j
    · subst e; exact Nat.le_refl _
    · have a := h3 k (by omega)
      have a1 := Nat.mul_le_mul_right (w j + 1) a
      have a2 := Nat.mul_le_mul_left (w k + 1) (Nat.le_of_lt hj)
      have b : (v k * (w j + 1)) * (w s + 1) ≤ (v j * (w k + 1)) * (w s + 1) := by
        calc (v k * (w j + 1)) * (w s + 1) = v k * (w s + 1) * (w j + 1) := by ac_rfl
          _ ≤ v s * (w k + 1) * (w j + 1) := a1
          _ = (w k + 1) * (v s * (w j + 1)) := by ac_rfl
          _ ≤ (w k + 1) * (v j * (w s + 1)) := a2
          _ = (v j * (w k + 1)) * (w s + 1) := by ac_rfl
      exact Nat.le_of_mul_le_mul_right b (by omega)
theorem best_on {v w : Nat → Nat} {s j : Nat} (h : Best v w s j) (hj : v j * (w s + 1) ≤ v s * (w j + 1)) : Best v w s (j + 1) := by
  obtain ⟨h1, h2, h3⟩ := h
  refine ⟨by omega, h2, fun k hk => ?_⟩
  by_cases e : k = j
  · subst e; exact hj
  · exact h3 k (by omega)
theorem best_new {v w : Nat → Nat} {j : Nat} (h : ∀ k, k < j → v k = 0) (hj : 0 < v j) : Best v w j (j + 1) := by
  refine ⟨by omega, hj, fun k hk => ?_⟩
  by_cases e : k = j
  · subst e; exact Nat.le_refl _
  · rw [h k (by omega), Nat.zero_mul]; exact Nat.zero_le _
theorem DH_step {v : Nat → Nat} {ss : Nat → Nat} {n : Nat} (h : DH v (cnt ss n)) (hb : Best v (cnt ss n) (ss n) 6) : DH v (cnt ss (n + 1)) := by
  obtain ⟨h1, h2, h3⟩ := hb
  intro a b ha hbb hw
  unfold cnt at hw ⊢
  by_cases e : ss n = b
  · subst e
    rw [if_pos rfl]
    refine Nat.le_trans (h3 a ha) (Nat.mul_le_mul_left _ ?_)
    split <;> omega
  · rw [if_neg e] at hw ⊢
    rw [Nat.add_zero] at hw ⊢
    refine Nat.le_trans (h a b ha hbb hw) (Nat.mul_le_mul_left _ ?_)
    split <;> omega
def updN (f : Nat → Nat) (k v : Nat) : Nat → Nat := fun j => if j = k then v else f j
theorem nI_n9 (k : Nat) (h : k < 2147483648) : ¬ nI k < 0 := by rw [lt_nle]; exact fun y => y (nI_pos' h)
set_option maxHeartbeats 1000000 in
theorem w_winner {M : Mem} {v w : Nat → Nat} (hv : ∀ k, k < 6 → M 52 k = nI (v k) ∧ v k < 50) (hw : ∀ k, k < 6 → M 55 k = nI (w k) ∧ w k ≤ 9) {K : Int32 → Mem → Prop}
    (h0 : (∀ k, k < 6 → v k = 0) → K (-9) M) (h1 : ∀ s, Best v w s 6 → K (nI s) M) : f_X2_nextWinner M K := by
  unfold f_X2_nextWinner
  refine Lp.up (fun j x => ∃ b : Int32, x = (b, nI j, M) ∧ ((b = -9 ∧ ∀ k, k < j → v k = 0) ∨ ∃ s, b = nI s ∧ Best v w s j)) 6 (fun j x r hj hx hr => ?_) (j := 0) (by omega) ⟨-9, rfl, Or.inl ⟨rfl, fun k hk => absurd hk (by omega)⟩⟩
  obtain ⟨b, rfl, hb⟩ := hx
  unfold f_X2_nextWinner_c5 f_X2_nextWinner_b57 f_X2_nextWinner_b59
  dsimp only
  have l6 : ((6 : Int32) ≤ nI j) ↔ 6 ≤ j := nI_le_iff (a := 6) (by decide) (by omega)
  rw [l6, nI_cl j (by omega), nI_1]
  refine ⟨fun c => ?_, fun c => ?_⟩
  · have e : j = 6 := by omega
    subst e
    rcases hb with ⟨rfl, hz⟩ | ⟨s, rfl, hs⟩
    · exact h0 hz
    · exact h1 s hs
  · have hj6 : j < 6 := by omega
    have hv6 : vp_in (nI j) 6 := vin_nI hj6 (by decide)
    obtain ⟨ev, lv⟩ := hv j hj6
    obtain ⟨ew, lw⟩ := hw j hj6
    have l0 : (nI (v j) ≤ (0 : Int32)) ↔ v j ≤ 0 := nI_le_iff (b := 0) (by omega) (by decide)
    rw [ev, l0]
    have nx := fun b' hb' => hr (by omega) (b', nI (j + 1), M) ⟨b', rfl, hb'⟩
    refine ⟨hv6, fun z => nx b ?_, fun z => ⟨fun c2 => nx _ ?_, fun c2 => ?_⟩⟩
    · rcases hb with ⟨rfl, hz⟩ | ⟨s, rfl, hs⟩
      · refine Or.inl ⟨rfl, fun k hk => ?_⟩
        by_cases e : k = j
        · subst e; omega
        · exact hz k (by omega)
      · refine Or.inr ⟨s, rfl, best_on hs ?_⟩
        rw [show v j = 0 by omega, Nat.zero_mul]; exact Nat.zero_le _
    · rcases hb with ⟨rfl, hz⟩ | ⟨s, rfl, hs⟩
      · exact Or.inr ⟨j, rfl, best_new hz (by omega)⟩
      · exact absurd c2 (nI_n9 s (by have := hs.1; omega))
    · rcases hb with ⟨rfl, hz⟩ | ⟨s, rfl, hs⟩
      · exact absurd (by decide) c2
      · have hs6 : s < 6 := by have := hs.1; omega
        obtain ⟨evs, lvs⟩ := hv s hs6
        obtain ⟨ews, lws⟩ := hw s hs6
        have hvs : vp_in (nI s) 6 := vin_nI hs6 (by decide)
        have m1 : v j * (w s + 1) ≤ 50 * 10 := Nat.mul_le_mul (by omega) (by omega)
        have m2 : v s * (w j + 1) ≤ 50 * 10 := Nat.mul_le_mul (by omega) (by omega)
        rw [nI_cl s (by omega), evs, ews, ew, nI_1, nI_1, pk_mul, pk_mul, nI_le_iff (by omega) (by omega)]
        refine ⟨hv6, hvs, hvs, hv6, fun c3 => nx _ (Or.inr ⟨s, rfl, best_on hs c3⟩), fun c3 => nx _ (Or.inr ⟨j, rfl, best_up hs (by omega)⟩)⟩
set_option maxHeartbeats 1000000 in
theorem w_elect {M : Mem} {v : Nat → Nat} (hv : ∀ k, k < 6 → M 52 k = nI (v k) ∧ v k < 50) {n : Nat} (hn1 : 1 ≤ n) (hn9 : n ≤ 9) {K : Int32 → Mem → Prop}
    (h : ∀ (M' : Mem) (m : Nat) (ss : Nat → Nat), (∀ c, c ≠ 51 → c ≠ 53 → c ≠ 54 → c ≠ 55 → M' c = M c) → M' 51 1 = nI m → (∀ k, k ≠ 1 → M' 51 k = M 51 k) → ((∀ k, k < 6 → v k = 0) ∧ m = 0 ∨ (∃ k, k < 6 ∧ 0 < v k) ∧ m = n) → (∀ i, i < m → ss i < 6 ∧ M' 53 i = nI (ss i)) → DH v (cnt ss m) → K (nI m) M') : f_X11_elect (nI n) M K := by
  unfold f_X11_elect
  have ho : outs (nI n) 1 9 = 0 := outs_0.mpr ⟨(nI_le_iff (a := 1) (by decide) (by omega)).mpr hn1, (nI_le_iff (b := 9) (by omega) (by decide)).mpr hn9⟩
  rw [v_X11_outside, ho]
  refine ⟨fun _ => ?_, fun z => absurd rfl z⟩
  unfold f_X2_fillSeats
  refine Lp.up (fun j x => ∃ M1 : Mem, x = (nI n, nI j, M1) ∧ (∀ c, c ≠ 51 → c ≠ 53 → c ≠ 54 → c ≠ 55 → M1 c = M c) ∧ M1 51 1 = 0 ∧ (∀ k, k ≠ 1 → M1 51 k = M 51 k) ∧ ∀ k, k < j → M1 55 k = 0) 6 (fun j x r hj hx hr => ?_) (j := 0) (by omega) ⟨_, rfl, fun c h1 _ _ _ => mset_ne _ _ _ h1, mset_eq _ _ _ _, fun k hk => mset_nk _ _ _ hk, fun k hk => absurd hk (by omega)⟩
  obtain ⟨M1, rfl, g1, g2, g3, g4⟩ := hx
  unfold f_X2_fillSeats_c7
  dsimp only
  have l6 : ((6 : Int32) ≤ nI j) ↔ 6 ≤ j := nI_le_iff (a := 6) (by decide) (by omega)
  rw [l6, nI_cl j (by omega), nI_1]
  refine ⟨fun c => ?_, fun c => ⟨vin_nI (by omega) (by decide), hr (by omega) _ ⟨_, rfl, fun c h1 h2 h3 h4 => (mset_ne _ _ _ h4).trans (g1 c h1 h2 h3 h4), by rw [mset_ne _ _ _ (by decide)]; exact g2, fun k hk => by rw [mset_ne _ _ _ (by decide)]; exact g3 k hk, fun k hk => ?_⟩⟩⟩
  · have e6 : j = 6 := by omega
    subst e6
    clear hr l6 c hj
    refine Lp.up (fun i x => i ≤ n ∧ ∃ (M2 : Mem) (ss : Nat → Nat), x = (nI n, nI i, M2) ∧ (∀ c, c ≠ 51 → c ≠ 53 → c ≠ 54 → c ≠ 55 → M2 c = M c) ∧ M2 51 1 = nI i ∧ (∀ k, k ≠ 1 → M2 51 k = M 51 k) ∧ (∀ q, q < i → ss q < 6 ∧ M2 53 q = nI (ss q)) ∧ (∀ k, k < 6 → M2 55 k = nI (cnt ss i k)) ∧ DH v (cnt ss i) ∧ (0 < i → ∃ k, k < 6 ∧ 0 < v k)) 9 (fun i x r hi hx hr => ?_) (j := 0) (by omega) ⟨by omega, M1, fun _ => 0, rfl, g1, g2, g3, fun q hq => absurd hq (by omega), fun k hk => g4 k hk, fun a b _ _ h0 => absurd h0 (by unfold cnt; omega), fun q => absurd q (by omega)⟩
    obtain ⟨hin, M2, ss, rfl, f1, f2, f3, f4, f5, f6, f7⟩ := hx
    unfold f_X2_fillSeats_c28 f_X2_fillSeats_b91
    dsimp only
    have l9 : ((9 : Int32) ≤ nI i) ↔ 9 ≤ i := nI_le_iff (a := 9) (by decide) (by omega)
    rw [l9, nI_le_iff (by omega) (by omega), nI_cl i (by omega), nI_1]
    have done : n ≤ i → K (M2 51 1) M2 := fun q => by
      rw [f2]
      exact h M2 i ss f1 f2 f3 (Or.inr ⟨f7 (by omega), by omega⟩) f4 f6
    refine ⟨done, fun c => ⟨fun c2 => done (by omega), fun _ => ?_⟩⟩
    refine w_winner (v := v) (w := cnt ss i) (fun k hk => by rw [f1 52 (by decide) (by decide) (by decide) (by decide)]; exact hv k hk) (fun k hk => ⟨f5 k hk, by have := cnt_le ss k i; omega⟩) (fun hz => ?_) (fun s hs => ?_)
    · refine ⟨fun z => absurd z (by decide), fun _ => ?_⟩
      have hi0 : i = 0 := by
        rcases Nat.eq_zero_or_pos i with q | q
        · exact q
        · obtain ⟨k, hk, hk2⟩ := f7 q
          rw [hz k hk] at hk2
          omega
      subst hi0
      rw [f2]
      exact h M2 0 ss f1 f2 f3 (Or.inl ⟨hz, rfl⟩) f4 f6
    · have hs6 : s < 6 := hs.1
      have hv6 : vp_in (nI s) 6 := vin_nI hs6 (by decide)
      have hv9 : vp_in (nI i) 9 := vin_nI (by omega) (by decide)
      refine ⟨fun _ => ⟨hv6, hv6, hv9, hv9, hr (by omega) _ ⟨by omega, _, updN ss i s, rfl, fun c h1 h2 h3 h4 => ?_, mset_eq _ _ _ _, fun k hk => ?_, fun q hq => ?_, fun k hk => ?_, ?_, fun _ => ⟨s, hs6, hs.2.1⟩⟩⟩, fun z => absurd (nI_pos' (by omega)) z⟩
      · rw [mset_ne _ _ _ h1, mset_ne _ _ _ h3, mset_ne _ _ _ h2, mset_ne _ _ _ h4]; exact f1 c h1 h2 h3 h4
      · rw [mset_nk _ _ _ hk, mset_ne _ _ _ (by decide), mset_ne _ _ _ (by decide), mset_ne _ _ _ (by decide)]; exact f3 k hk
      · rw [mset_ne _ _ _ (by decide), mset_ne _ _ _ (by decide)]
        by_cases e : q = i
        · subst e
          rw [mset_eq]
          unfold updN
          rw [if_pos rfl]
          exact ⟨hs6, rfl⟩
        · rw [mset_nk _ _ _ e, mset_ne _ _ _ (by decide)]
          unfold updN
          rw [if_neg e]
          exact f4 q (by omega)
      · have e0 : cnt (updN ss i s) i k = cnt ss i k := cnt_cong k i (fun q hq => by unfold updN; rw [if_neg (by omega)])
        have e1 : updN ss i s i = s := by unfold updN; rw [if_pos rfl]
        rw [mset_ne _ _ _ (by decide), mset_ne _ _ _ (by decide), mset_ne _ _ _ (by decide)]
        show _ = nI (cnt (updN ss i s) i k + (if updN ss i s i = k then 1 else 0))
        rw [e0, e1, nI_cl s (by omega)]
        by_cases e : k = s
        · subst e
          rw [mset_eq, if_pos rfl, f5 k hk, nI_1]
        · rw [mset_nk _ _ _ e, if_neg (fun q => e q.symm), f5 k hk, Nat.add_zero]
      · have e1 : updN ss i s i = s := by unfold updN; rw [if_pos rfl]
        have e0 : cnt (updN ss i s) i = cnt ss i := funext fun k => cnt_cong k i (fun q hq => by unfold updN; rw [if_neg (by omega)])
        exact DH_step (by rw [e0]; exact f6) (by rw [e0, e1]; exact hs)
  · by_cases e : k = j
    · subst e; exact mset_eq _ _ _ _
    · rw [mset_nk _ _ _ e]; exact g4 k (by omega)
