/-! the month, put and checked twice; the days of knowledge; the end -/
theorem RW.trans {M M' M2 : Mem} (h : RW M M') (h2 : RW M' M2) : RW M M2 := ⟨fun c a b => (h2.1 c a b).trans (h.1 c a b), fun k hk => (h2.2 k hk).trans (h.2 k hk)⟩
theorem RW.rf (M : Mem) : RW M M := ⟨fun _ _ _ => rfl, fun _ _ => rfl⟩
theorem RW.zero (M : Mem) (v : Int32) : RW M (mset M 0 14 v) := ⟨fun c hc _ => mset_ne _ _ _ hc, fun k hk => mset_nk _ _ _ hk⟩
theorem RW.put (M : Mem) (n : Nat) (v u : Int32) : RW M (mset (mset M 125 n v) 0 14 u) := ⟨fun c hc hc2 => (mset_ne _ _ _ hc).trans (mset_ne _ _ _ hc2), fun k hk => by rw [mset_nk _ _ _ hk, mset_ne _ _ _ (by decide)]⟩
/-- the last rows: the knowledge, and the refusal -/
theorem p_last {L : Nat} {xs : Nat → Int32} {d m kn j op : Nat} {o nt : Nat → Nat} {M : Mem} (hF : MF d m kn j op o nt M) (h14 : M 0 14 = 0) {wr : Int32} :
    f_L_lawc_c682 L xs 291 K1 (fun _ => False) (nI d) (nI m) (nI kn) (nI j) (nI op) wr 2 M := by
  obtain ⟨f1, f2, f3, f4, f5, f6, f7, f8, f9⟩ := id hF
  unfold f_L_lawc_c682
  refine ⟨fun _ => ?_, fun z => absurd (by decide) z⟩
  refine Lp.up (fun i x => x = (nI d, nI m, nI kn, nI j, nI op, nI i, M)) op (fun i x r hi hx hr => ?_) (j := 0) (by omega) rfl
  subst hx
  unfold f_L_lawc_c797 f_L_lawc_b885 f_L_lawc_b886
  dsimp only
  rw [nI_le_iff (by omega) (by omega), nI_1, nI_1]
  refine ⟨fun _ => ?_, fun c => ?_⟩
  · refine w_put (n := 0) (by decide) h14 0 ⟨fun z => absurd rfl z, fun _ => ?_⟩
    obtain ⟨M2, hM2⟩ : ∃ M2, M2 = mset (mset M 125 0 0) 0 14 (nI (0 + 1)) := ⟨_, rfl⟩
    rw [← hM2]
    have hRW : RW M M2 := by rw [hM2]; exact RW.put M 0 0 _
    have e1 : M2 1 0 = nI d := by rw [hRW.1 1 (by decide) (by decide)]; exact f6
    have e14 : M2 0 14 = 1 := by rw [hM2, mset_eq]; rfl
    have e5 : M2 0 5 = nI m := by rw [hRW.2 5 (by decide)]; exact f7
    unfold f_X11_check f_X11_check_b31
    rw [e1, nI_lt_iff (by omega) (by omega), nI_le_iff (by omega) (by omega), v_X11_refuse (Or.inr (Or.inr (Or.inl rfl)))]
    refine ⟨fun z => absurd z (nI_n9 (d + 1) (by omega)), fun _ => ⟨fun _ => ⟨fun z => absurd z (by omega), fun _ => ⟨fun z => absurd z (by omega), fun _ => ⟨fun z => absurd rfl z, fun _ => ?_⟩⟩⟩, fun z => absurd (nI_pos' (by omega)) z⟩⟩
    refine w_count (a := 10) (Or.inr (Or.inr (Or.inr rfl))) ?_
    rw [if_neg (by decide), if_neg (by decide), if_neg (by decide), mset_ne _ _ _ (by decide), e14]
    refine ⟨fun z => absurd rfl z, fun _ => w_count (a := 3) (Or.inr (Or.inl rfl)) ?_⟩
    rw [if_neg (by decide), if_pos rfl, mset_ne _ _ _ (by decide), e5]
    exact ⟨fun z => absurd rfl z, fun _ => ⟨bz1, rfl⟩⟩
  · obtain ⟨a1, a2, a3⟩ := f9 i (by omega)
    refine w_state (m := m) (d := d) (by omega) (by omega) f7 f6 (by omega) a1 a2 f4 f3 a3 f8 ?_
    refine w_state (m := m) (d := d) (by omega) (by omega) f7 f6 (by omega) a1 a2 (by omega) (Nat.le_refl d) a3 f8 ?_
    exact ⟨fun _ => hr (by omega) _ rfl, fun z => absurd (stC_k a3 _ _ _) z⟩
theorem c682_mono {L : Nat} {xs : Nat → Int32} {r r' : Int32 × Int32 × Int32 × Int32 × Int32 × Int32 × Int32 × Mem → Prop} {x5 x6 x7 x8 x9 x10 : Int32} {M : Mem} (h : f_L_lawc_c682 L xs 291 K1 r x5 x6 x7 x8 x9 x10 2 M) : f_L_lawc_c682 L xs 291 K1 r' x5 x6 x7 x8 x9 x10 2 M := by
  unfold f_L_lawc_c682 at h ⊢
  exact ⟨h.1, fun z => absurd (by decide) z⟩
set_option maxHeartbeats 2000000 in
theorem p_month {L : Nat} {xs : Nat → Int32} {d m kn j op : Nat} {o nt : Nat → Nat} {M : Mem} (hF : MF d m kn j op o nt M) (h14 : M 0 14 = 0) {wr : Nat} (hwr : wr < 1000) :
    Lp (fun (r682 : Int32 × Int32 × Int32 × Int32 × Int32 × Int32 × Int32 × Mem → Prop) a => f_L_lawc_c682 L xs 291 K1 r682 a.1 a.2.1 a.2.2.1 a.2.2.2.1 a.2.2.2.2.1 a.2.2.2.2.2.1 a.2.2.2.2.2.2.1 a.2.2.2.2.2.2.2) (nI d, nI m, nI kn, nI j, nI op, nI wr, (0 : Int32), M) := by
  refine Lp.up (fun u x => ∃ M1, x = (nI d, nI m, nI kn, nI j, nI op, nI wr, nI u, M1) ∧ RW M M1 ∧ M1 0 14 = 0) 2 (fun u x r hu hx hr => ?_) (j := 0) (by omega) ⟨M, rfl, RW.rf M, h14⟩
  obtain ⟨M1, rfl, hRW, e14⟩ := hx
  dsimp only
  by_cases cu : u = 2
  · subst cu
    exact c682_mono (p_last (MF_eq hRW hF) e14)
  have hu2 : u < 2 := by omega
  unfold f_L_lawc_c682
  have l2 : ((2 : Int32) ≤ nI u) ↔ 2 ≤ u := nI_le_iff (a := 2) (by decide) (by omega)
  rw [l2]
  refine ⟨fun z => absurd z (by omega), fun _ => ?_⟩
  -- the row of this turn
  obtain ⟨sv, hsv⟩ : ∃ sv : Nat → Int32, sv = fun i => stC M (127 + 4 * i) (nt i) (nI j) (nI kn) := ⟨_, rfl⟩
  obtain ⟨e, he⟩ : ∃ e : Nat → Nat, e = fun i => if u = 1 ∧ i = wr then 1 else 0 := ⟨_, rfl⟩
  have opm : op ≤ 16 := by have := hF.1; have := hF.2.2.2.2.1; omega
  refine Lp.up (fun i x => ∃ M2, x = (nI d, nI m, nI kn, nI j, nI op, nI wr, nI u, nI i, M2) ∧ RW M M2 ∧ M2 0 14 = nI i ∧ ∀ q, q < i → M2 125 q = sv q + nI (e q)) op (fun i x r' hi hx hr' => ?_) (j := 0) (by omega) ⟨M1, rfl, hRW, e14, fun q hq => absurd hq (by omega)⟩
  obtain ⟨M2, rfl, g1, g2, g3⟩ := hx
  have hF2 := MF_eq g1 hF
  obtain ⟨f1, f2, f3, f4, f5, f6, f7, f8, f9⟩ := id hF2
  unfold f_L_lawc_c691 f_L_lawc_b726 f_L_lawc_b727 f_L_lawc_b772 f_L_lawc_b774 f_L_lawc_b786
  dsimp only
  have l1 : (nI u = (1 : Int32)) ↔ u = 1 := nI_eq_iff (b := 1) (by omega) (by decide)
  rw [nI_le_iff (by omega) (by omega), nI_le_iff (by omega) (by omega), l1, nI_eq_iff (by omega) (by omega), nI_1, nI_1]
  refine ⟨fun c => ?_, fun c => ?_⟩
  · have ei : i = op := by omega
    subst ei
    -- behind the check: the row is empty
    have nx : f_X11_count 10 (mset M2 0 14 0) (fun v39 M39 => ((v39 = 0) → r (nI d, nI m, nI kn, nI j, nI i, nI wr, nI (u + 1), M39)) ∧ ((¬ v39 = 0) → K1 0 M39)) := by
      refine w_count (a := 10) (Or.inr (Or.inr (Or.inr rfl))) ?_
      rw [if_neg (by decide), if_neg (by decide), if_neg (by decide), mset_eq]
      exact ⟨fun _ => hr hu2 _ ⟨_, rfl, g1.trans (RW.zero M2 0), mset_eq _ _ _ _⟩, fun z => absurd rfl z⟩
    refine w_check hF2 g2 (sv := sv) (fun q hq => by rw [hsv, stC_eq g1.1 (by omega)]) (e := e) (fun q hq => ⟨g3 q hq, by rw [he]; dsimp only; split <;> omega⟩) (fun hz => ?_) (fun w hw hw1 hz => ?_)
    · refine ⟨fun _ => ⟨fun z => absurd rfl z, fun _ => nx⟩, fun c1 => ⟨fun _ => ⟨fun z => absurd rfl z, fun _ => nx⟩, fun c2 => ?_⟩⟩
      have := hz wr (by omega)
      rw [he] at this
      dsimp only at this
      rw [if_pos ⟨c1, rfl⟩] at this
      omega
    · rw [he] at hw1
      dsimp only at hw1
      by_cases c3 : u = 1 ∧ w = wr
      · obtain ⟨c4, c5⟩ := c3
        subst c5
        exact ⟨fun z => absurd c4 z, fun _ => ⟨fun z => absurd z (by omega), fun _ => ⟨fun z => absurd rfl z, fun _ => nx⟩⟩⟩
      · rw [if_neg c3] at hw1
        omega
  · have hi2 : i < op := by omega
    obtain ⟨a1, a2, a3⟩ := f9 i hi2
    refine w_state (m := m) (d := d) (by omega) (by omega) f7 f6 (by omega) a1 a2 f4 f3 a3 f8 ?_
    have es : stC M2 (127 + 4 * i) (nt i) (nI j) (nI kn) = sv i := by rw [hsv, stC_eq g1.1 (by omega)]
    rw [es]
    have pt : ∀ x : Nat, x = e i → f_X11_put (sv i + nI x) M2 (fun v36 M36 => ((v36 = nI (i + 1)) → r' (nI d, nI m, nI kn, nI j, nI op, nI wr, nI u, nI (i + 1), M36)) ∧ ((¬ v36 = nI (i + 1)) → K1 0 M36)) := by
      intro x hx
      refine w_put (n := i) (by omega) g2 _ ⟨fun _ => hr' hi2 _ ⟨_, rfl, g1.trans (RW.put M2 i _ _), mset_eq _ _ _ _, fun q hq => ?_⟩, fun z => absurd rfl z⟩
      rw [mset_ne _ _ _ (by decide)]
      by_cases eq : q = i
      · subst eq; rw [mset_eq, hx]
      · rw [mset_nk _ _ _ eq]; exact g3 q (by omega)
    refine ⟨fun c1 => pt 0 ?_, fun c1 => ⟨fun c2 => pt 0 ?_, fun c2 => pt 1 ?_⟩⟩
    · rw [he]; dsimp only; rw [if_neg (fun z => c1 z.1)]
    · rw [he]; dsimp only; rw [if_neg (fun z => c2 z.2)]
    · rw [he]; dsimp only; rw [if_pos ⟨c1, c2⟩]
set_option maxHeartbeats 1000000 in
theorem p_Fs {L : Nat} {xs : Nat → Int32} (hL : L ≤ 260) {d m : Nat} {M : Mem} (hT : TI d m 16 M) : Fs L xs d m M := by
  obtain ⟨t1, t2, t3, t4, t5, t6, t7, t8, t9, t10, o, t11, t12⟩ := hT
  intro kn j hkn hj
  refine Lp.up (fun i x => x = (nI d, nI m, nI kn, nI j, nI (co o j i), nI i, M)) m (fun i x r hi hx hr => ?_) (j := 0) (by omega) rfl
  subst hx
  obtain ⟨c1, c2⟩ := co_ok (j := j) t12 i hi
  unfold f_L_lawc_c628 f_L_lawc_b654
  dsimp only
  rw [nI_le_iff (by omega) (by omega), nI_1]
  refine ⟨fun c => ?_, fun c => ?_⟩
  · have ei : i = m := by omega
    subst ei
    refine v_cell (k := 32) hL (by decide) (fun v63 => ?_)
    obtain ⟨A, hA, eA⟩ := pk_andE v63 (m := 2147483647) 31 (by decide)
    have z1 : ¬ nI (co o j i + 2) = 0 := fun z => absurd ((nI_eq_iff (b := 0) (by omega) (by decide)).mp z) (by omega)
    rw [show (2 : Int32) = nI 2 from rfl, nI_add, eA, pk_rem hA (by omega) (by omega)]
    have hm := Nat.mod_lt A (show 0 < co o j i + 2 by omega)
    refine ⟨z1, ?_⟩
    have hn : ∀ q, ∃ n, q < i → MW M (127 + 4 * q) n := fun q => by
      by_cases hq : q < i
      · obtain ⟨⟨-, n, -, hW⟩, -⟩ := t11 q hq
        exact ⟨n, fun _ => hW⟩
      · exact ⟨0, fun z => absurd z hq⟩
    exact p_month (o := o) (nt := fun q => Classical.choose (hn q)) ⟨t7, by omega, hkn, hj, c1, t4, t6, t3, fun q hq => ⟨(t11 q (by omega)).1.1, (c2 q (by omega)).mpr hq, Classical.choose_spec (hn q) (by omega)⟩⟩ t9 (by omega)
  · refine w_mof (by omega) (show i < m by omega) t6 ?_
    have od := (t11 i (by omega)).2
    rw [(t11 i (by omega)).1.1, nI_lt_iff (by omega) (by omega)]
    have e : co o j (i + 1) = co o j i + (if o i ≤ j then 1 else 0) := rfl
    refine ⟨fun c3 => hr (by omega) _ ?_, fun c3 => hr (by omega) _ ?_⟩
    · have e' : co o j (i + 1) = co o j i := by rw [e, if_neg (by omega), Nat.add_zero]
      rw [e', Int32.add_zero]
    · have e' : co o j (i + 1) = co o j i + 1 := by rw [e, if_pos (by omega)]
      rw [e', ← nI_1 (co o j i)]
/-- the law's pure part, for every script of at most 260 ints -/
theorem pure_law {L : Nat} (hL : L ≤ 260) (xs : Nat → Int32) : Law L xs M0 :=
  p_As hL (by decide) SA_0 fun _ h1 => p_As hL (by decide) h1 fun _ h2 => p_As hL (by decide) h2 fun _ h3 => p_As hL (by decide) h3 fun _ h4 =>
    p_b hL h4 fun _ _ _ _ h5 => p_Cs h5 fun _ h6 => p_turns hL (TI_0 h6) fun _ _ _ h7 => p_Fs hL h7
