/-! the sixteen turns: days, matters, papers, withdrawals -/
def mat (M : Mem) (k o i : Nat) : Prop := M (127 + 4 * i) 6 = nI o ∧ ∃ n, n ≤ k ∧ MW M (127 + 4 * i) n
def TI (d m k : Nat) (M : Mem) : Prop := AO M ∧ M 4 0 = 0 ∧ M 51 5 = 0 ∧ M 1 0 = nI d ∧ d ≤ 4 * k ∧ M 0 5 = nI m ∧ m ≤ k ∧ k ≤ 16 ∧ M 0 14 = 0 ∧ (∀ i, m ≤ i → i < 40 → M (127 + 4 * i) 11 = 0) ∧
  ∃ o : Nat → Nat, (∀ i, i < m → mat M k (o i) i ∧ o i ≤ d) ∧ ∀ i i', i ≤ i' → i' < m → o i ≤ o i'
theorem TI_0 {M : Mem} (h : SC M) : TI 0 0 0 M := by
  obtain ⟨h1, h2, h3⟩ := h
  refine ⟨h1, by rw [h3 4 (by decide) (by decide) (by decide)]; rfl, h2, by rw [h3 1 (by decide) (by decide) (by decide)]; rfl, by omega, by rw [h3 0 (by decide) (by decide) (by decide)]; rfl, by omega, by omega, by rw [h3 0 (by decide) (by decide) (by decide)]; rfl, fun i _ hi => ?_, fun _ => 0, fun i hi => absurd hi (by omega), fun i i' _ hi => absurd hi (by omega)⟩
  rw [h3 (127 + 4 * i) (by omega) (by omega) (by omega), M0_m hi]
  rfl
theorem mat_eq {M M' : Mem} {k k' o i : Nat} (h : ∀ j, j < 4 → M' (127 + 4 * i + j) = M (127 + 4 * i + j)) (hk : k ≤ k') (hm : mat M k o i) : mat M' k' o i := by
  obtain ⟨h1, n, hn, e, h30, hW⟩ := hm
  have h0 := h 0 (by decide)
  rw [Nat.add_zero] at h0
  exact ⟨by rw [h0]; exact h1, n, by omega, by rw [h0]; exact e, h30, fun q hq => by rw [h 1 (by decide)]; exact hW q hq⟩
/-- the day goes on -/
theorem TI_day {d m k e : Nat} {M : Mem} (h : TI d m k M) (hk : k < 16) (he : e ≤ 4) : TI (d + e) m (k + 1) (mset M 1 0 (nI (d + e))) := by
  obtain ⟨h1, h2, h3, h4, h5, h6, h7, h8, h9, h10, o, h11, h12⟩ := h
  have g : ∀ c, c ≠ 1 → mset M 1 0 (nI (d + e)) c = M c := fun c hc => mset_ne _ _ _ hc
  refine ⟨AO_eq (fun c c1 _ => g c (by omega)) h1, by rw [g 4 (by decide)]; exact h2, by rw [g 51 (by decide)]; exact h3, mset_eq _ _ _ _, by omega, by rw [g 0 (by decide)]; exact h6, by omega, by omega, by rw [g 0 (by decide)]; exact h9, fun i hi hi2 => by rw [g _ (by omega)]; exact h10 i hi hi2, o, fun i hi => ⟨mat_eq (fun j _ => g _ (by omega)) (by omega) (h11 i hi).1, by have := (h11 i hi).2; omega⟩, h12⟩
/-- a refusal -/
theorem TI_rf {d m k : Nat} {M M' : Mem} (h : TI d m k M) (hk : k < 16) (hr : RF M M') : TI d m (k + 1) M' := by
  obtain ⟨h1, h2, h3, h4, h5, h6, h7, h8, h9, h10, o, h11, h12⟩ := h
  have g : ∀ c, c ≠ 126 → M' c = M c := hr
  refine ⟨AO_eq (fun c c1 _ => g c (by omega)) h1, by rw [g 4 (by decide)]; exact h2, by rw [g 51 (by decide)]; exact h3, by rw [g 1 (by decide)]; exact h4, by omega, by rw [g 0 (by decide)]; exact h6, by omega, by omega, by rw [g 0 (by decide)]; exact h9, fun i hi hi2 => by rw [g _ (by omega)]; exact h10 i hi hi2, o, fun i hi => ⟨mat_eq (fun j _ => g _ (by omega)) (by omega) (h11 i hi).1, (h11 i hi).2⟩, h12⟩
/-- a matter more -/
theorem TI_open {d m k : Nat} {M M' : Mem} (h : TI d m k M) (hk : k < 16) (hr : OP M M' m) : TI d (m + 1) (k + 1) M' := by
  obtain ⟨h1, h2, h3, h4, h5, h6, h7, h8, h9, h10, o, h11, h12⟩ := h
  obtain ⟨g, g0, g6, g11⟩ := hr
  have z : M (127 + 4 * m) 11 = 0 := h10 m (Nat.le_refl m) (by omega)
  refine ⟨?_, by rw [g 4 (by decide) (by decide) (by decide) (by decide) (by decide) (by decide) (by omega)]; exact h2, by rw [g 51 (by decide) (by decide) (by decide) (by decide) (by decide) (by decide) (by omega)]; exact h3, by rw [g 1 (by decide) (by decide) (by decide) (by decide) (by decide) (by decide) (by omega)]; exact h4, by omega, by rw [g0, upd_s], by omega, by omega, by rw [g0, upd_n _ _ (by decide)]; exact h9, fun i hi hi2 => by rw [g _ (by omega) (by omega) (by omega) (by omega) (by omega) (by omega) (by omega)]; exact h10 i (by omega) hi2, updN o m d, fun i hi => ?_, fun i i' hi hi' => ?_⟩
  · exact AO_eq (fun c c1 c2 => g c (by omega) (by omega) (by omega) (by omega) (by omega) (by omega) (by omega)) h1
  · by_cases e : i = m
    · subst e
      rw [show updN o i d i = d from if_pos rfl]
      exact ⟨⟨by rw [g6, h4], 0, by omega, by rw [g11, z]; rfl, by omega, fun q hq => absurd hq (by omega)⟩, Nat.le_refl d⟩
    · rw [show updN o m d i = o i from if_neg e]
      refine ⟨mat_eq (fun j hj => g _ (by omega) (by omega) (by omega) (by omega) (by omega) (by omega) ?_) (by omega) (h11 i (by omega)).1, (h11 i (by omega)).2⟩
      omega
  · by_cases e' : i' = m
    · rw [show updN o m d i' = d from if_pos e']
      by_cases e : i = m
      · rw [show updN o m d i = d from if_pos e]; exact Nat.le_refl d
      · rw [show updN o m d i = o i from if_neg e]; exact (h11 i (by omega)).2
    · rw [show updN o m d i' = o i' from if_neg e', show updN o m d i = o i from if_neg (by omega)]
      exact h12 i i' hi (by omega)
/-- a telling more -/
theorem TI_tell {d m k i n : Nat} {M M' : Mem} {w : Int32} (h : TI d m k M) (hk : k < 16) (hi : i < m) (hn : n ≤ k) (hW : MW M (127 + 4 * i) n) (hw : w = 0 ∨ w = 2) (hr : MT M M' (127 + 4 * i) n w) : TI d m (k + 1) M' := by
  obtain ⟨h1, h2, h3, h4, h5, h6, h7, h8, h9, h10, o, h11, h12⟩ := h
  obtain ⟨g, g0, g1, -⟩ := hr
  obtain ⟨e, h30, hWW⟩ := hW
  refine ⟨AO_eq (fun c c1 c2 => g c (by omega) (by omega) (by omega) (by omega)) h1, by rw [g 4 (by omega) (by omega) (by omega) (by omega)]; exact h2, by rw [g 51 (by omega) (by omega) (by omega) (by omega)]; exact h3, by rw [g 1 (by omega) (by omega) (by omega) (by omega)]; exact h4, by omega, by rw [g 0 (by omega) (by omega) (by omega) (by omega)]; exact h6, by omega, by omega, by rw [g 0 (by omega) (by omega) (by omega) (by omega)]; exact h9, fun i' hi1 hi2 => by rw [g _ (by omega) (by omega) (by omega) (by omega)]; exact h10 i' hi1 hi2, o, fun i' hi' => ?_, h12⟩
  refine ⟨?_, (h11 i' hi').2⟩
  by_cases q : i' = i
  · subst q
    refine ⟨by rw [g0, upd_n _ _ (by decide)]; exact (h11 i' hi').1.1, n + 1, by omega, by rw [g0, upd_s], by omega, fun q hq => ?_⟩
    rw [g1]
    by_cases e2 : q = n
    · subst e2; rw [upd_s]; exact hw
    · rw [upd_n _ _ e2]; exact hWW q (by omega)
  · exact mat_eq (fun j hj => g _ (by omega) (by omega) (by omega) (by omega)) (by omega) (h11 i' hi').1
/-- what is asked behind the turns -/
def Fs (L : Nat) (xs : Nat → Int32) (d m : Nat) (M : Mem) : Prop := ∀ kn j : Nat, kn ≤ d → j ≤ kn →
  Lp (fun (r628 : Int32 × Int32 × Int32 × Int32 × Int32 × Int32 × Mem → Prop) a => f_L_lawc_c628 L xs 291 K1 r628 a.1 a.2.1 a.2.2.1 a.2.2.2.1 a.2.2.2.2.1 a.2.2.2.2.2.1 a.2.2.2.2.2.2) (nI d, nI m, nI kn, nI j, (0 : Int32), (0 : Int32), M)
theorem w_days {M : Mem} {d e : Nat} (hd : M 1 0 = nI d) (h1 : 1 ≤ e) (h2 : d + e ≤ 1000) {K : Int32 → Mem → Prop} (h : K (nI (d + e)) (mset M 1 0 (nI (d + e)))) : f_X11_days (nI e) M K := by
  unfold f_X11_days
  have s : (1000 : Int32) - nI d = nI (1000 - d) := by
    rw [show (1000 : Int32) = nI (1000 - d) + nI d by rw [nI_add, Nat.sub_add_cancel (by omega)]; rfl, Int32.add_sub_cancel]
  rw [hd, s, nI_le_iff (by omega) (by omega), nI_add]
  exact ⟨fun _ => ⟨fun _ => h, fun z => absurd (by omega) z⟩, fun z => absurd ((nI_le_iff (a := 1) (by decide) (by omega)).mpr h1) z⟩
set_option maxHeartbeats 2000000 in
theorem p_turns {L : Nat} {xs : Nat → Int32} (hL : L ≤ 260) {M : Mem} (h0 : TI 0 0 0 M) (hE : ∀ M' d m, TI d m 16 M' → Fs L xs d m M') : Ts L xs M := by
  unfold Ts
  refine Lp.up (fun k x => ∃ d m M1, x = (nI d, nI m, nI k, M1) ∧ TI d m k M1) 16 (fun k x r hk hx hr => ?_) (j := 0) (by omega) ⟨0, 0, M, rfl, h0⟩
  obtain ⟨d, m, M1, rfl, hT⟩ := hx
  obtain ⟨t1, t2, t3, t4, t5, t6, t7, t8, t9, t10, o, t11, t12⟩ := id hT
  unfold f_L_lawc_c379
  dsimp only
  have l16 : ((16 : Int32) ≤ nI k) ↔ 16 ≤ k := nI_le_iff (a := 16) (by decide) (by omega)
  have l900 : ((900 : Int32) ≤ nI d) ↔ 900 ≤ d := nI_le_iff (a := 900) (by decide) (by omega)
  rw [l16, l900]
  refine ⟨fun c => ?_, fun c => ?_⟩
  · have e : k = 16 := by omega
    subst e
    refine v_cell (k := 30) hL (by decide) (fun v68 => ?_)
    obtain ⟨a, ha, ea⟩ := pk_andE v68 (m := 2147483647) 31 (by decide)
    have z1 : ¬ nI (d + 1) = 0 := fun z => absurd ((nI_eq_iff (b := 0) (by omega) (by decide)).mp z) (by omega)
    rw [nI_1, ea, pk_rem ha (by omega) (by omega), nI_1]
    have hr1 := Nat.mod_lt a (show 0 < d + 1 by omega)
    refine ⟨z1, v_cell (k := 31) hL (by decide) (fun v70 => ?_)⟩
    obtain ⟨b, hb, eb⟩ := pk_andE v70 (m := 2147483647) 31 (by decide)
    have z2 : ¬ nI (a % (d + 1) + 1) = 0 := fun z => absurd ((nI_eq_iff (b := 0) (by omega) (by decide)).mp z) (by omega)
    rw [eb, pk_rem hb (by omega) (by omega)]
    have hr2 := Nat.mod_lt b (show 0 < a % (d + 1) + 1 by omega)
    exact ⟨z2, hE M1 d m hT (a % (d + 1)) (b % (a % (d + 1) + 1)) (by omega) (by omega)⟩
  · have hk16 : k < 16 := by omega
    rw [show (12 : Int32) = nI 12 from rfl, nI_add]
    refine v_cell (k := 12 + k) hL (by omega) (fun v72 => ?_)
    obtain ⟨X, hX, eX⟩ := pk_andE v72 (m := 2147483647) 31 (by decide)
    rw [eX]
    have d3 : nI X / 3 = nI (X / 3) := pk_div (d := 3) hX (by decide) (by decide)
    have r3 : nI X - nI X / 3 * 3 = nI (X % 3) := pk_rem (d := 3) hX (by decide) (by decide)
    have X3 : X / 3 < 2 ^ 31 := by omega
    have r34 : nI (X / 3) - nI (X / 3) / 4 * 4 = nI (X / 3 % 4) := pk_rem (d := 4) X3 (by decide) (by decide)
    have h4 := Nat.mod_lt (X / 3) (show 0 < 4 by decide)
    -- open
    have po : f_L_lawc_b460 L xs 291 r K1 (nI d) (nI m) (nI k) (nI X) M1 := by
      unfold f_L_lawc_b460 f_L_lawc_b584
      have d15 : nI X / 15 = nI (X / 15) := pk_div (d := 15) hX (by decide) (by decide)
      have d1000 : nI X / 1000 = nI (X / 1000) := pk_div (d := 1000) hX (by decide) (by decide)
      rw [d3, d15, d1000, show (5 : Int32) = nI 5 from rfl, pk_rem X3 (by decide) (by decide), show (63 : Int32) = nI 63 from rfl, pk_rem (show X / 15 < 2 ^ 31 by omega) (by decide) (by decide), show (9 : Int32) = nI 9 from rfl, pk_rem (show X / 1000 < 2 ^ 31 by omega) (by decide) (by decide), show (1 : Int32) = nI 1 from rfl, nI_add]
      have q5 := Nat.mod_lt (X / 3) (show 0 < 5 by decide)
      have q63 := Nat.mod_lt (X / 15) (show 0 < 63 by decide)
      have q9 := Nat.mod_lt (X / 1000) (show 0 < 9 by decide)
      refine w_open t1 t2 (by omega) t6 (by omega) (by omega) (by omega) (by omega) (fun M' hM => ⟨fun _ => ?_, fun z => absurd rfl z⟩)
      rw [nI_add, nI_add]
      exact hr (by omega) _ ⟨d, m + 1, M', rfl, TI_open hT hk16 hM⟩
    -- a paper, or a withdrawal
    have pb : f_L_lawc_b447 L xs 291 r K1 (nI d) (nI m) (nI k) (nI X) M1 := by
      unfold f_L_lawc_b447
      refine ⟨fun _ => po, fun _ => ⟨fun cm => ⟨cm, ?_⟩, fun _ => po⟩⟩
      have hm0 : 0 < m := by
        rcases Nat.eq_zero_or_pos m with q | q
        · exact absurd (by rw [q]; rfl) cm
        · exact q
      rw [d3, pk_rem X3 hm0 (by omega)]
      have hi := Nat.mod_lt (X / 3) hm0
      generalize X / 3 % m = i at hi
      obtain ⟨⟨ho, n, hn, hW⟩, hod⟩ := t11 i hi
      refine w_state (m := m) (d := d) (by omega) hi t6 t4 (by omega) ho hod (Nat.le_refl d) (Nat.le_refl d) hW t3 ?_
      -- what both ask
      have ask : ∀ (s0 : Int32) (M' : Mem), TI d m (k + 1) M' → ((wdr M1 (127 + 4 * i) n (nI d) = true ∧ s0 = -3) ∨ (wdr M1 (127 + 4 * i) n (nI d) = false ∧ 1 ≤ s0)) → f_L_lawc_b558 L xs 291 r K1 (nI d) (nI m) (nI k) (stC M1 (127 + 4 * i) n (nI d) (nI d)) s0 M' := by
        intro s0 M' hT' hs
        unfold f_L_lawc_b558 f_L_lawc_b584
        rw [stC_1, nI_1]
        have nx : r (nI d, nI m, nI (k + 1), M') := hr (by omega) _ ⟨d, m, M', rfl, hT'⟩
        rcases hs with ⟨hs1, hs2⟩ | ⟨hs1, hs2⟩
        · exact ⟨fun z => absurd hs1 z, fun _ => ⟨fun _ => nx, fun z => absurd hs2 z⟩⟩
        · exact ⟨fun _ => ⟨fun _ => nx, fun z => absurd hs2 z⟩, fun z => by rw [hs1] at z; cases z⟩
      refine ⟨fun _ => ?_, fun _ => ?_⟩
      · obtain ⟨p, hp, ep⟩ := pk_andE (((nI X).toUInt32 >>> ((24 : Int32).toUInt32 &&& Int32.toUInt32 31)).toInt32) (m := 1) 1 (by decide)
        rw [ep]
        refine w_paper (n := n) (by omega) hi t6 hW.1 (by omega) (by omega) (fun hb M' hM => ask _ _ (TI_tell hT hk16 hi hn hW (Or.inl rfl) hM) (Or.inr ⟨by rw [← t4]; exact hb, (nI_le_iff (a := 1) (by decide) (by omega)).mpr (by omega)⟩)) (fun hb M' hM => ask _ _ (TI_rf hT hk16 hM) (Or.inl ⟨by rw [← t4]; exact hb, rfl⟩))
      · exact w_withdraw (n := n) (by omega) hi t6 hW.1 (by omega) (fun hb M' hM => ask _ _ (TI_tell hT hk16 hi hn hW (Or.inr rfl) hM) (Or.inr ⟨by rw [← t4]; exact hb, by decide⟩)) (fun hb M' hM => ask _ _ (TI_rf hT hk16 hM) (Or.inl ⟨by rw [← t4]; exact hb, rfl⟩))
    refine ⟨fun _ => pb, fun _ => ⟨fun _ => pb, fun _ => ?_⟩⟩
    refine w_count (a := 0) (Or.inl rfl) ?_
    rw [if_pos rfl, t4, d3, r34, show (1 : Int32) = nI 1 from rfl, nI_add, nI_add]
    have s : nI (d + (1 + X / 3 % 4)) - nI d = nI (1 + X / 3 % 4) := by rw [Nat.add_comm d, ← nI_add, Int32.add_sub_cancel]
    rw [s]
    refine w_days t4 (by omega) (by omega) ⟨fun _ => ?_, fun z => absurd rfl z⟩
    unfold f_L_lawc_b584
    rw [nI_1]
    exact hr (by omega) _ ⟨_, m, _, rfl, TI_day hT hk16 (by omega)⟩
