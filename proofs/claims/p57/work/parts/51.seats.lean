/-! votes, the election, the rows of seats, the quotients -/
def AO (M : Mem) : Prop := M 15 0 = nI 4 ∧ ∀ i, i < 4 → M 42 i = 6 ∧ ∀ q, q < 6 → M (17 + i) q = TB i q
def SC (M : Mem) : Prop := AO M ∧ M 51 5 = 0 ∧ ∀ c, c < 287 → ¬ (15 ≤ c ∧ c ≤ 55) → ¬ (119 ≤ c ∧ c ≤ 123) → M c = M0 c
theorem AO_eq {M M' : Mem} (h : ∀ c, 15 ≤ c → c ≤ 42 → M' c = M c) (hA : AO M) : AO M' := by
  obtain ⟨h1, h2⟩ := hA
  refine ⟨by rw [h 15 (by decide) (by decide)]; exact h1, fun i hi => ?_⟩
  rw [h 42 (by decide) (by decide), h (17 + i) (by omega) (by omega)]
  exact h2 i hi
/-- votes told, within their bounds -/
theorem w_votes {k : Nat} (hk : k < 6) {M : Mem} {u : Nat} (hu : u < 1000) {K : Int32 → Mem → Prop} (h : K (M 52 k) (mset M 52 k (nI u))) : f_X11_votes (nI k) (nI u) M K := by
  unfold f_X11_votes
  have hb : inB (nI k) 0 5 = 1 := if_pos ⟨nI_pos' (by omega), (nI_le_iff (b := 5) (by omega) (by decide)).mpr (by omega)⟩
  have ho : outs (nI u) 0 999 = 0 := outs_0.mpr ⟨nI_pos' (by omega), (nI_le_iff (b := 999) (by omega) (by decide)).mpr (by omega)⟩
  have hv : vp_in (nI k) 6 := vin_nI hk (by decide)
  rw [v_X11_isShop, hb, v_X11_outside, ho, nI_cl k (by omega)]
  exact ⟨fun _ => ⟨fun _ => ⟨hv, hv, h⟩, fun z => absurd rfl z⟩, fun z => absurd z (by decide)⟩
def sm (v : Nat → Nat) : Nat → Nat
  | 0 => 0
  | n + 1 => sm v n + v n
theorem sm_cong {v v' : Nat → Nat} : ∀ n, (∀ k, k < n → v k = v' k) → sm v n = sm v' n
  | 0, _ => rfl
  | n + 1, h => by
    unfold sm
    rw [sm_cong n (fun k hk => h k (by omega)), h n (by omega)]
theorem sm_le {v : Nat → Nat} : ∀ n, (∀ k, k < n → v k < 50) → sm v n ≤ 50 * n
  | 0, _ => Nat.le_refl 0
  | n + 1, h => by
    have := sm_le n (fun k hk => h k (by omega))
    have := h n (by omega)
    unfold sm
    omega
theorem sm_0 {v : Nat → Nat} : ∀ n, (∀ k, k < n → v k = 0) → sm v n = 0
  | 0, _ => rfl
  | n + 1, h => by
    unfold sm
    rw [sm_0 n (fun k hk => h k (by omega)), h n (by omega)]
theorem sm_pos {v : Nat → Nat} {k : Nat} (hk : 0 < v k) : ∀ n, k < n → 0 < sm v n
  | 0, h => by omega
  | n + 1, h => by
    unfold sm
    by_cases e : k = n
    · subst e; omega
    · have := sm_pos hk n (by omega)
      omega
/-- behind the election -/
def SB (v : Nat → Nat) (m : Nat) (ss : Nat → Nat) (M : Mem) : Prop := SC M ∧ (∀ k, k < 6 → M 52 k = nI (v k) ∧ v k < 50) ∧ M 51 1 = nI m ∧ m ≤ 9 ∧ (∀ i, i < m → ss i < 6 ∧ M 53 i = nI (ss i)) ∧ DH v (cnt ss m)
theorem SC_of {M : Mem} (h : SA 4 M) : SC M := by
  obtain ⟨s1, s2, s3, s4, s5, s6⟩ := h
  exact ⟨⟨s2, s4⟩, by rw [s6 51 (by decide) (by decide) (by decide)]; rfl, fun c c1 c2 c3 => s6 c c1 (by omega) c3⟩
set_option maxHeartbeats 1000000 in
theorem p_b {L : Nat} {xs : Nat → Int32} (hL : L ≤ 260) {M : Mem} (hS : SA 4 M) {E : Mem → Prop} (hE : ∀ M' v m ss, SB v m ss M' → E M') : f_L_lawb_b125 L xs E K1 M := by
  have hC := SC_of hS
  have h52 : ∀ k, M 52 k = 0 := fun k => by rw [hS.2.2.2.2.2 52 (by decide) (by decide) (by decide)]; rfl
  unfold f_L_lawb_b125
  refine Lp.up (fun j x => ∃ (v : Nat → Nat) (M1 : Mem), x = (nI (sm v j), nI j, M1) ∧ (∀ c, c ≠ 52 → M1 c = M c) ∧ (∀ k, k < j → M1 52 k = nI (v k) ∧ v k < 50) ∧ ∀ k, j ≤ k → M1 52 k = 0) 6 (fun j x r hj hx hr => ?_) (j := 0) (by omega) ⟨fun _ => 0, M, rfl, fun _ _ => rfl, fun k hk => absurd hk (by omega), fun k _ => h52 k⟩
  obtain ⟨v, M1, rfl, g1, g2, g3⟩ := hx
  unfold f_L_lawb_c129 f_L_lawb_b202
  dsimp only
  have l6 : ((6 : Int32) ≤ nI j) ↔ 6 ≤ j := nI_le_iff (a := 6) (by decide) (by omega)
  have hsm := sm_le j (fun k hk => (g2 k hk).2)
  rw [l6]
  refine ⟨fun c => ?_, fun c => ?_⟩
  · have e : j = 6 := by omega
    subst e
    refine v_cell (k := 11) hL (by decide) (fun v3 => ?_)
    obtain ⟨j3, hj3, e3⟩ := pk_andE v3 (m := 2147483647) 31 (by decide)
    rw [e3, show (9 : Int32) = nI 9 from rfl, pk_rem hj3 (by decide) (by decide), show (1 : Int32) = nI 1 from rfl, nI_add]
    have hr9 := Nat.mod_lt j3 (show 0 < 9 by decide)
    refine w_elect g2 (by omega) (by omega) (fun M' m ss f1 f2 f3 f4 f5 f6 => ?_)
    have hSB : SB v m ss M' := by
      refine ⟨⟨AO_eq (fun c c1 c2 => (f1 c (by omega) (by omega) (by omega) (by omega)).trans (g1 c (by omega))) hC.1, by rw [f3 5 (by decide), g1 51 (by decide)]; exact hC.2.1, fun c c1 c2 c3 => ?_⟩, fun k hk => ?_, f2, ?_, f5, f6⟩
      · rw [f1 c (by omega) (by omega) (by omega) (by omega), g1 c (by omega)]
        exact hC.2.2 c c1 c2 c3
      · rw [f1 52 (by decide) (by decide) (by decide) (by decide)]; exact g2 k hk
      · rcases f4 with ⟨-, q⟩ | ⟨-, q⟩ <;> omega
    have l0 : (nI (sm v 6) ≤ (0 : Int32)) ↔ sm v 6 ≤ 0 := nI_le_iff (b := 0) (by omega) (by decide)
    rw [l0]
    rcases f4 with ⟨z, rfl⟩ | ⟨⟨k, hk, hk2⟩, rfl⟩
    · exact ⟨fun _ => ⟨fun _ => hE _ _ _ _ hSB, fun z2 => absurd rfl z2⟩, fun z2 => absurd (by rw [sm_0 6 z]; exact Nat.le_refl 0) z2⟩
    · exact ⟨fun z2 => absurd z2 (by have := sm_pos hk2 6 hk; omega), fun _ => ⟨fun _ => hE _ _ _ _ hSB, fun z2 => absurd rfl z2⟩⟩
  · rw [show (5 : Int32) = nI 5 from rfl, nI_add]
    refine v_cell (k := 5 + j) hL (by omega) (fun v6 => ?_)
    obtain ⟨j6, hj6, e6⟩ := pk_andE v6 (m := 2147483647) 31 (by decide)
    rw [e6, show (50 : Int32) = nI 50 from rfl, pk_rem hj6 (by decide) (by decide)]
    have hu := Nat.mod_lt j6 (show 0 < 50 by decide)
    refine w_votes (by omega) (by omega) ?_
    rw [g3 j (Nat.le_refl j), nI_add, nI_1]
    refine ⟨fun _ => hr (by omega) _ ⟨updN v j (j6 % 50), mset M1 52 j (nI (j6 % 50)), ?_, fun c h1 => (mset_ne _ _ _ h1).trans (g1 c h1), fun k hk => ?_, fun k hk => ?_⟩, fun z => absurd rfl z⟩
    · show _ = (nI (sm (updN v j (j6 % 50)) j + updN v j (j6 % 50) j), nI (j + 1), _)
      rw [sm_cong (v := updN v j (j6 % 50)) (v' := v) j (fun k hk => by unfold updN; rw [if_neg (by omega)]), show updN v j (j6 % 50) j = j6 % 50 from if_pos rfl]
    · by_cases e : k = j
      · subst e
        rw [mset_eq, show updN v k (j6 % 50) k = j6 % 50 from if_pos rfl]
        exact ⟨rfl, hu⟩
      · rw [mset_nk _ _ _ e, show updN v j (j6 % 50) k = v k from if_neg e]
        exact g2 k (by omega)
    · rw [mset_nk _ _ _ (by omega)]
      exact g3 k (by omega)
theorem w_count {a : Int32} {M : Mem} {K : Int32 → Mem → Prop} (ha : a = 0 ∨ a = 3 ∨ a = 4 ∨ a = 10) (h : K (if a = 0 then M 1 0 else if a = 3 then M 0 5 else if a = 4 then M 51 1 else M 0 14) M) : f_X11_count a M K := by
  unfold f_X11_count f_X11_count_b22
  rcases ha with rfl | rfl | rfl | rfl
  all_goals
    refine ⟨fun _ => ⟨fun z => ?_, fun z => ?_, fun z => ?_, fun z => ?_, fun z => ?_, fun z => ?_, fun z => ?_, fun z => ?_, fun z => ?_, fun z => ?_, fun z => ?_, fun z => ?_⟩, fun z => absurd (by decide) z⟩
    all_goals first | exact h | exact absurd z (by decide)
theorem w_seat {i m : Nat} (hi : i < m) (hm : m ≤ 9) {M : Mem} (e : M 51 1 = nI m) {K : Int32 → Mem → Prop} (h : K (M 53 i) M) : f_X11_seat (nI i) 0 M K := by
  unfold f_X11_seat f_X2_hasSeat f_X2_hasSeat_b23 f_X11_seat_b58
  have l9 : ((9 : Int32) ≤ nI i) ↔ 9 ≤ i := nI_le_iff (a := 9) (by decide) (by omega)
  rw [e, l9, nI_le_iff (by omega) (by omega), nI_cl i (by omega)]
  exact ⟨fun z => absurd z (nI_n9 i (by omega)), fun _ => ⟨fun z => absurd z (by omega), fun _ => ⟨fun z => absurd z (by omega), fun _ => ⟨bz1, fun _ => ⟨fun z => absurd z (by decide), fun _ => ⟨fun _ => ⟨fun z => absurd rfl z, fun _ => ⟨vin_nI (by omega) (by decide), h⟩⟩, fun z => absurd (by decide) z⟩⟩, fun z => absurd z (by decide)⟩⟩⟩⟩
