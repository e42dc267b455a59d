/-! the four acts -/
def SA (a : Nat) (M : Mem) : Prop := M 1 0 = 0 ∧ M 15 0 = nI a ∧ (∀ i, a ≤ i → M 42 i = 0) ∧ (∀ i, i < a → M 42 i = 6 ∧ ∀ q, q < 6 → M (17 + i) q = TB i q) ∧
  (∀ k, a < k → k < 5 → M (119 + k) 0 = 0 ∧ M (119 + k) 1 = 5) ∧ ∀ c, c < 287 → ¬ (15 ≤ c ∧ c ≤ 50) → ¬ (119 ≤ c ∧ c ≤ 123) → M c = M0 c
set_option maxHeartbeats 1000000 in
theorem p_As {L : Nat} {xs : Nat → Int32} (hL : L ≤ 260) {a : Nat} (ha : a < 4) {M : Mem} (hS : SA a M) {E : Mem → Prop} (hE : ∀ M', SA (a + 1) M' → E M') : As L xs a M E := by
  obtain ⟨s1, s2, s3, s4, s5, s6⟩ := hS
  intro M1 g0 b0 b1 b2 b3 b4 b5
  have k0 : ∀ c, c < 287 → M1 c = M c := fun c hc => g0 c (by omega)
  unfold f_L_lawa_b53 f_L_lawa_b117
  refine w_feed ha (tx := 287 + a) (fun q hq => ?_) (by rw [k0 15 (by decide)]; exact s2) (by rw [k0 42 (by decide)]; exact s3 a (Nat.le_refl a)) (fun M2 f1 f2 f3 => ?_)
  · rcases (show q = 0 ∨ q = 1 ∨ q = 2 ∨ q = 3 ∨ q = 4 ∨ q = 5 by omega) with rfl | rfl | rfl | rfl | rfl | rfl <;> assumption
  refine ⟨fun z => absurd rfl z, fun _ => ?_⟩
  have k2 : ∀ c, c < 287 → c ≠ 17 + a → c ≠ 42 → M2 c = M c := fun c hc h1 h2 => (f1 c h1 h2).trans (k0 c hc)
  refine w_act ha (by rw [k2 1 (by decide) (by omega) (by decide)]; exact s1) (by rw [k2 15 (by decide) (by omega) (by decide)]; exact s2) (by rw [f2, upd_s]) f3 (fun M3 a1 a2 a3 => ?_)
  refine ⟨fun z => absurd rfl z, fun _ => ?_⟩
  have k3 : ∀ c, c < 287 → c ≠ 17 + a → ¬ (42 ≤ c ∧ c ≤ 50) → c ≠ 15 → M3 c = M c := fun c hc h1 h2 h3 => (a1 c h3 (by omega) (by omega) (by omega) (by omega) (by omega) (by omega) (by omega)).trans (k2 c hc h1 (by omega))
  refine v_cell hL (by omega) (fun v5 => ?_)
  obtain ⟨j5, hj5, e5⟩ := pk_andE v5 (m := 3) 2 (by decide)
  rw [nI_1, e5]
  have t0 := s5 (a + 1) (by omega) (by omega)
  have e119 : M3 (119 + (a + 1)) = M (119 + (a + 1)) := k3 _ (by omega) (by omega) (by omega) (by omega)
  refine w_term (k := a + 1) (w := 0) (by omega) (by omega) (nI_pos' (by omega)) ((nI_le_iff (b := 30) (by omega) (by decide)).mpr (by omega)) ?_
  rw [e119, t0.1]
  refine ⟨fun z => absurd rfl z, fun _ => ?_⟩
  refine v_cell (k := 4) hL (by omega) (fun v8 => ?_)
  obtain ⟨j8, hj8, e8⟩ := pk_andE ((v8.toUInt32 >>> (((4 : Int32) * nI a).toUInt32 &&& Int32.toUInt32 31)).toInt32) (m := 7) 3 (by decide)
  rw [e8]
  refine w_term (k := a + 1) (w := 1) (by omega) (by omega) (nI_pos' (by omega)) ((nI_le_iff (b := 30) (by omega) (by decide)).mpr (by omega)) ?_
  rw [mset_nk _ _ _ (by decide), e119, t0.2]
  refine ⟨fun _ => ⟨rfl, hE _ ?_⟩, fun z => absurd rfl z⟩
  have k4 : ∀ c, c < 287 → c ≠ 17 + a → ¬ (42 ≤ c ∧ c ≤ 50) → c ≠ 15 → c ≠ 119 + (a + 1) → mset (mset M3 (119 + (a + 1)) 0 (nI j5)) (119 + (a + 1)) 1 (nI j8) c = M c := fun c hc h1 h2 h3 h4 => by
    rw [mset_ne _ _ _ h4, mset_ne _ _ _ h4]; exact k3 c hc h1 h2 h3
  have m3 : ∀ c, c ≠ 119 + (a + 1) → mset (mset M3 (119 + (a + 1)) 0 (nI j5)) (119 + (a + 1)) 1 (nI j8) c = M3 c := fun c h4 => by
    rw [mset_ne _ _ _ h4, mset_ne _ _ _ h4]
  have e42 : M3 42 = upd (upd (M 42) a 6) (a + 1) 0 := by rw [a3, f2, k0 42 (by decide)]
  refine ⟨?_, ?_, fun i hi => ?_, fun i hi => ?_, fun k h1 h2 => ?_, fun c c1 c2 c3 => ?_⟩
  · rw [k4 1 (by decide) (by omega) (by decide) (by decide) (by omega)]; exact s1
  · rw [m3 15 (by omega), a2, upd_s]
  · rw [m3 42 (by omega), e42]
    by_cases e : i = a + 1
    · subst e; rw [upd_s]
    · rw [upd_n _ _ e, upd_n _ _ (by omega)]; exact s3 i (by omega)
  · rw [m3 42 (by omega), e42, upd_n _ _ (by omega)]
    by_cases e : i = a
    · subst e
      refine ⟨upd_s _ _ _, fun q hq => ?_⟩
      rw [m3 (17 + i) (by omega), a1 (17 + i) (by omega) (by omega) (by omega) (by omega) (by omega) (by omega) (by omega) (by omega)]
      exact f3 q hq
    · rw [upd_n _ _ e]
      refine ⟨(s4 i (by omega)).1, fun q hq => ?_⟩
      rw [k4 (17 + i) (by omega) (by omega) (by omega) (by omega) (by omega)]
      exact (s4 i (by omega)).2 q hq
  · rw [k4 (119 + k) (by omega) (by omega) (by omega) (by omega) (by omega)]
    exact s5 k (by omega) h2
  · rw [k4 c c1 (by omega) (by omega) (by omega) (by omega)]
    exact s6 c c1 c2 c3
theorem SA_0 : SA 0 M0 := by
  refine ⟨rfl, rfl, fun _ _ => rfl, fun i hi => absurd hi (by omega), fun k h1 h2 => ?_, fun _ _ _ _ => rfl⟩
  rcases (show k = 1 ∨ k = 2 ∨ k = 3 ∨ k = 4 by omega) with rfl | rfl | rfl | rfl <;> exact ⟨rfl, rfl⟩
