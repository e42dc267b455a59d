/-! the law's rows of seats, and the quotients that it compares -/
/-- what is asked ahead of the sixteen turns -/
def Ts (L : Nat) (xs : Nat → Int32) (M : Mem) : Prop := Lp (fun (r379 : Int32 × Int32 × Int32 × Mem → Prop) a => f_L_lawc_c379 L xs 291 K1 r379 a.1 a.2.1 a.2.2.1 a.2.2.2) ((0 : Int32), (0 : Int32), (0 : Int32), M)
set_option maxHeartbeats 1000000 in
theorem p_ab {L : Nat} {xs : Nat → Int32} {M : Mem} {v w : Nat → Nat} (hC : SC M) (hv : ∀ k, k < 6 → M 52 k = nI (v k) ∧ v k < 50) (hw : ∀ k, k < 6 → M 291 k = nI (w k) ∧ w k ≤ 9) (hD : DH v w) (hE : ∀ M', SC M' → Ts L xs M') :
    Lp (fun (r249 : Int32 × Mem → Prop) a => f_L_lawc_c249 L xs 291 K1 r249 a.1 a.2) ((0 : Int32), M) := by
  have hSC : ∀ M' : Mem, (∀ c, c ≠ 52 → M' c = M c) → SC M' := fun M' g => ⟨AO_eq (fun c _ c2 => g c (by omega)) hC.1, by rw [g 51 (by decide)]; exact hC.2.1, fun c c1 c2 c3 => (g c (by omega)).trans (hC.2.2 c c1 c2 c3)⟩
  refine Lp.up (fun a x => ∃ M1 : Mem, x = (nI a, M1) ∧ (∀ c, c ≠ 52 → M1 c = M c) ∧ ∀ k, k < 6 → M1 52 k = nI (v k)) 6 (fun a x r ha hx hr => ?_) (j := 0) (by omega) ⟨M, rfl, fun _ _ => rfl, fun k hk => (hv k hk).1⟩
  obtain ⟨M1, rfl, g1, g2⟩ := hx
  unfold f_L_lawc_c249
  dsimp only
  have la : ((6 : Int32) ≤ nI a) ↔ 6 ≤ a := nI_le_iff (a := 6) (by decide) (by omega)
  rw [la]
  refine ⟨fun _ => hE M1 (hSC M1 g1), fun c => ?_⟩
  have ha6 : a < 6 := by omega
  refine Lp.up (fun b x => ∃ M2 : Mem, x = (nI a, nI b, M2) ∧ (∀ c, c ≠ 52 → M2 c = M c) ∧ ∀ k, k < 6 → M2 52 k = nI (v k)) 6 (fun b x r' hb hx hr' => ?_) (j := 0) (by omega) ⟨M1, rfl, g1, g2⟩
  obtain ⟨M2, rfl, f1, f2⟩ := hx
  unfold f_L_lawc_c259 f_L_lawc_b294 f_L_lawc_b327 f_L_lawc_b356 f_L_lawc_b358
  dsimp only
  have lb : ((6 : Int32) ≤ nI b) ↔ 6 ≤ b := nI_le_iff (a := 6) (by decide) (by omega)
  rw [lb, nI_1, nI_1, nI_eq_iff (by omega) (by omega), nI_cl a (by omega), nI_cl b (by omega)]
  refine ⟨fun _ => hr (by omega) _ ⟨M2, rfl, f1, f2⟩, fun c2 => ?_⟩
  have hb6 : b < 6 := by omega
  have hva : vp_in (nI a) 6 := vin_nI ha6 (by decide)
  have hvb : vp_in (nI b) 6 := vin_nI hb6 (by decide)
  have la5 := (hv a ha6).2
  have lb5 := (hv b hb6).2
  have wa := (hw a ha6).2
  have wb := (hw b hb6).2
  -- behind the comparison: the votes are put back
  have back : ∀ M3 : Mem, (∀ c, c ≠ 52 → M3 c = M c) → M3 52 a = 0 → (a ≠ b → M3 52 b = 0) → (∀ k, k < 6 → k ≠ a → k ≠ b → M3 52 k = nI (v k)) →
      f_X11_votes (nI a) (nI (v a)) M3 (fun v10 M10 => ((¬ v10 = 0) → K1 0 M10) ∧ ((v10 = 0) → ((a = b) → r' (nI a, nI (b + 1), M10)) ∧ ((¬ a = b) → f_X11_votes (nI b) (nI (v b)) M10 (fun v13 M13 => ((v13 = 0) → r' (nI a, nI (b + 1), M13)) ∧ ((¬ v13 = 0) → K1 0 M13))))) := by
    intro M3 h1 h2 h3 h4
    refine w_votes ha6 (by omega) ?_
    rw [h2]
    refine ⟨fun z => absurd rfl z, fun _ => ⟨fun e => ?_, fun e => ?_⟩⟩
    · refine hr' (by omega) _ ⟨_, rfl, fun c hc => (mset_ne _ _ _ hc).trans (h1 c hc), fun k hk => ?_⟩
      by_cases q : k = a
      · subst q; exact mset_eq _ _ _ _
      · rw [mset_nk _ _ _ q]; exact h4 k hk q (by omega)
    · refine w_votes hb6 (by omega) ?_
      rw [mset_nk _ _ _ (fun q => e q.symm), h3 e]
      refine ⟨fun _ => hr' (by omega) _ ⟨_, rfl, fun c hc => (mset_ne _ _ _ hc).trans ((mset_ne _ _ _ hc).trans (h1 c hc)), fun k hk => ?_⟩, fun z => absurd rfl z⟩
      by_cases q : k = b
      · subst q; exact mset_eq _ _ _ _
      · rw [mset_nk _ _ _ q]
        by_cases q2 : k = a
        · subst q2; exact mset_eq _ _ _ _
        · rw [mset_nk _ _ _ q2]; exact h4 k hk q2 q
  -- the comparison
  have cmp : ∀ (M3 : Mem) (P : Prop), (∀ c, c ≠ 52 → M3 c = M c) → P → vp_in (nI b) 6 ∧ ((M3 291 b ≤ 0) → P) ∧ ((¬ M3 291 b ≤ 0) → vp_in (nI b) 6 ∧ vp_in (nI a) 6 ∧ ((nI (v a) * M3 291 b ≤ nI (v b) * (M3 291 a + 1)) → P) ∧ ((¬ nI (v a) * M3 291 b ≤ nI (v b) * (M3 291 a + 1)) → K1 0 M3)) := by
    intro M3 P h1 hP
    rw [h1 291 (by decide), (hw a ha6).1, (hw b hb6).1]
    have l0 : (nI (w b) ≤ (0 : Int32)) ↔ w b ≤ 0 := nI_le_iff (b := 0) (by omega) (by decide)
    have m1 : v a * w b ≤ 50 * 9 := Nat.mul_le_mul (by omega) wb
    have m2 : v b * (w a + 1) ≤ 50 * 10 := Nat.mul_le_mul (by omega) (by omega)
    rw [l0, nI_1, pk_mul, pk_mul, nI_le_iff (by omega) (by omega)]
    exact ⟨hvb, fun _ => hP, fun z => ⟨hvb, hva, fun _ => hP, fun z2 => absurd (hD a b ha6 hb6 (by omega)) z2⟩⟩
  refine w_votes (u := 0) ha6 (by omega) ?_
  rw [f2 a ha6]
  refine ⟨fun e => ?_, fun e => ?_⟩
  · refine w_votes (u := 0) hb6 (by omega) ?_
    rw [mset_nk _ _ _ (fun q => e q.symm), f2 b hb6]
    have g : ∀ c, c ≠ 52 → mset (mset M2 52 a (nI 0)) 52 b (nI 0) c = M c := fun c hc => (mset_ne _ _ _ hc).trans ((mset_ne _ _ _ hc).trans (f1 c hc))
    refine cmp _ _ g (back _ g ?_ (fun _ => mset_eq _ _ _ _) (fun k hk k1 k2 => ?_))
    · rw [mset_nk _ _ _ e]; exact mset_eq _ _ _ _
    · rw [mset_nk _ _ _ k2, mset_nk _ _ _ k1]; exact f2 k hk
  · have g : ∀ c, c ≠ 52 → mset M2 52 a (nI 0) c = M c := fun c hc => (mset_ne _ _ _ hc).trans (f1 c hc)
    have hh := cmp _ _ g (back _ g (mset_eq _ _ _ _) (fun q => absurd e q) (fun k hk k1 k2 => by rw [mset_nk _ _ _ k1]; exact f2 k hk))
    subst e
    exact hh
set_option maxHeartbeats 1000000 in
theorem p_Cs {L : Nat} {xs : Nat → Int32} {M : Mem} {v ss : Nat → Nat} {m : Nat} (hS : SB v m ss M) (hE : ∀ M', SC M' → Ts L xs M') : Cs L xs M := by
  obtain ⟨s1, s2, s3, s4, s5, s6⟩ := hS
  intro M1 g1 g2
  have hc9 : ∀ k, cnt ss m k ≤ 9 := fun k => by have := cnt_le ss k m; omega
  unfold f_L_lawc_b213
  refine Lp.up (fun j x => ∃ M2 : Mem, x = (nI j, M2) ∧ (∀ c, c ≠ 291 → M2 c = M c) ∧ ∀ k, k < 6 → M2 291 k = nI (cnt ss j k)) m (fun j x r hj hx hr => ?_) (j := 0) (by omega) ⟨M1, rfl, g1, fun k _ => by rw [g2]; rfl⟩
  obtain ⟨M2, rfl, f1, f2⟩ := hx
  unfold f_L_lawc_c216
  dsimp only
  refine w_count (a := 4) (Or.inr (Or.inr (Or.inl rfl))) ?_
  rw [if_neg (by decide), if_neg (by decide), if_pos rfl, f1 51 (by decide), s3, nI_le_iff (by omega) (by omega), nI_1]
  refine ⟨fun c => ?_, fun c => ?_⟩
  · have e : j = m := by omega
    subst e
    refine p_ab (v := v) (w := cnt ss j) ⟨AO_eq (fun c _ c2 => f1 c (by omega)) s1.1, by rw [f1 51 (by decide)]; exact s1.2.1, fun c c1 c2 c3 => (f1 c (by omega)).trans (s1.2.2 c c1 c2 c3)⟩ (fun k hk => by rw [f1 52 (by decide)]; exact s2 k hk) (fun k hk => ⟨f2 k hk, hc9 k⟩) s6 hE
  · refine w_seat (m := m) (by omega) s4 (by rw [f1 51 (by decide)]; exact s3) ?_
    obtain ⟨h6, e⟩ := s5 j (by omega)
    rw [f1 53 (by decide), e, nI_cl (ss j) (by omega), f2 (ss j) h6, nI_1]
    have hv : vp_in (nI (ss j)) 6 := vin_nI h6 (by decide)
    refine ⟨hv, hv, hr (by omega) _ ⟨_, rfl, fun c hc => (mset_ne _ _ _ hc).trans (f1 c hc), fun k hk => ?_⟩⟩
    show _ = nI (cnt ss j k + (if ss j = k then 1 else 0))
    by_cases q : k = ss j
    · subst q
      rw [mset_eq, if_pos rfl]
    · rw [mset_nk _ _ _ q, if_neg (fun z => q z.symm), Nat.add_zero]; exact f2 k hk
