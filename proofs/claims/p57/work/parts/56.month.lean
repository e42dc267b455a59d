/-! the month: the rows that are put and checked -/
def co (o : Nat → Nat) (j : Nat) : Nat → Nat
  | 0 => 0
  | n + 1 => co o j n + (if o n ≤ j then 1 else 0)
theorem co_ok {o : Nat → Nat} {j m : Nat} (ho : ∀ i i', i ≤ i' → i' < m → o i ≤ o i') : ∀ n, n ≤ m → co o j n ≤ n ∧ ∀ i, i < n → (o i ≤ j ↔ i < co o j n)
  | 0, _ => ⟨Nat.le_refl 0, fun i hi => absurd hi (by omega)⟩
  | n + 1, hn => by
    obtain ⟨h1, h2⟩ := co_ok (j := j) ho n (by omega)
    have e : co o j (n + 1) = co o j n + (if o n ≤ j then 1 else 0) := rfl
    by_cases c : o n ≤ j
    · rw [if_pos c] at e
      have full : co o j n = n := by
        rcases Nat.eq_zero_or_pos n with q | q
        · subst q; rfl
        · have := (h2 (n - 1) (by omega)).mp (Nat.le_trans (ho (n - 1) n (by omega) (by omega)) c)
          omega
      refine ⟨by omega, fun i hi => ⟨fun _ => by omega, fun _ => Nat.le_trans (ho i n (by omega) (by omega)) c⟩⟩
    · rw [if_neg c] at e
      refine ⟨by omega, fun i hi => ?_⟩
      rw [e, Nat.add_zero]
      by_cases q : i = n
      · subst q; exact ⟨fun z => absurd z c, fun z => absurd z (by omega)⟩
      · exact h2 i (by omega)
theorem w_mof {M : Mem} {i m : Nat} (hm : m ≤ 40) (hi : i < m) (e5 : M 0 5 = nI m) {K : Int32 → Mem → Prop} (h : K (M (127 + 4 * i) 6) M) : f_X11_matterOf (nI i) 1 M K := by
  unfold f_X11_matterOf
  refine im1 hm hi e5 ⟨fun _ => ⟨vin_nI (by omega) (by decide), ?_⟩, fun z => absurd z (by decide)⟩
  rw [nI_cl i (by omega)]
  exact ⟨fun z => absurd z (by decide), fun z => absurd z (by decide), fun _ => h, fun z => absurd z (by decide), fun z => absurd z (by decide), fun z => absurd z (by decide), fun z => absurd z (by decide)⟩
theorem w_put {M : Mem} {n : Nat} (hn : n < 40) (e : M 0 14 = nI n) (v : Int32) {K : Int32 → Mem → Prop} (h : K (nI (n + 1)) (mset (mset M 125 n v) 0 14 (nI (n + 1)))) : f_X11_put v M K := by
  unfold f_X11_put
  rw [e, nI_cl n (by omega), nI_1]
  exact ⟨fun _ => ⟨vin_nI hn (by decide), h⟩, fun z => absurd ((nI_lt_iff (b := 40) (by omega) (by decide)).mpr hn) z⟩
/-- the row alone is another -/
def RW (M M' : Mem) : Prop := (∀ c, c ≠ 0 → c ≠ 125 → M' c = M c) ∧ ∀ k, k ≠ 14 → M' 0 k = M 0 k
theorem stC_eq {M M' : Mem} (h : ∀ c, c ≠ 0 → c ≠ 125 → M' c = M c) {t : Nat} (ht : 127 ≤ t) (n : Nat) (j k : Int32) : stC M' t n j k = stC M t n j k := by
  have e0 := h t (by omega) (by omega)
  have e1 := h (t + 1) (by omega) (by omega)
  have e2 := h (t + 2) (by omega) (by omega)
  have e3 := h (t + 3) (by omega) (by omega)
  have e4 := h 3 (by omega) (by omega)
  have p : PC M' t n j k = PC M t n j k := by unfold PC; rw [e1, e2, e3]
  have q : wdr M' t n j = wdr M t n j := by unfold wdr; rw [e1, e3]
  unfold stC wdC
  rw [p, q, e0, e4]
theorem MW_eq {M M' : Mem} (h : ∀ c, c ≠ 0 → c ≠ 125 → M' c = M c) {t n : Nat} (ht : 127 ≤ t) (hW : MW M t n) : MW M' t n := by
  obtain ⟨h1, h2, h3⟩ := hW
  exact ⟨by rw [h t (by omega) (by omega)]; exact h1, h2, fun q hq => by rw [h (t + 1) (by omega) (by omega)]; exact h3 q hq⟩
theorem i_ne1 (x : Int32) : ¬ x = x + 1 := by
  intro h
  have h2 : x - x = x + 1 - x := congrArg (fun y => y - x) h
  rw [Int32.sub_self, Int32.add_comm, Int32.add_sub_cancel] at h2
  exact absurd h2 (by decide)
/-- the month's facts -/
def MF (d m kn j op : Nat) (o nt : Nat → Nat) (M : Mem) : Prop := m ≤ 16 ∧ d ≤ 64 ∧ kn ≤ d ∧ j ≤ kn ∧ op ≤ m ∧ M 1 0 = nI d ∧ M 0 5 = nI m ∧ M 51 5 = 0 ∧ ∀ i, i < op → M (127 + 4 * i) 6 = nI (o i) ∧ o i ≤ j ∧ MW M (127 + 4 * i) (nt i)
theorem MF_eq {d m kn j op : Nat} {o nt : Nat → Nat} {M M' : Mem} (h : RW M M') (hF : MF d m kn j op o nt M) : MF d m kn j op o nt M' := by
  obtain ⟨g, g0⟩ := h
  obtain ⟨h1, h2, h3, h4, h5, h6, h7, h8, h9⟩ := hF
  exact ⟨h1, h2, h3, h4, h5, by rw [g 1 (by decide) (by decide)]; exact h6, by rw [g0 5 (by decide)]; exact h7, by rw [g 51 (by decide) (by decide)]; exact h8, fun i hi => ⟨by rw [g _ (by omega) (by omega)]; exact (h9 i hi).1, (h9 i hi).2.1, MW_eq g (by omega) (h9 i hi).2.2⟩⟩
theorem w_check {d m kn j op : Nat} {o nt : Nat → Nat} {M : Mem} (hF : MF d m kn j op o nt M) (hr : M 0 14 = nI op) {sv : Nat → Int32} (hs : ∀ i, i < op → sv i = stC M (127 + 4 * i) (nt i) (nI j) (nI kn)) {e : Nat → Nat} (he : ∀ i, i < op → M 125 i = sv i + nI (e i) ∧ e i ≤ 1) {K : Int32 → Mem → Prop}
    (h0 : (∀ i, i < op → e i = 0) → K (-9) (mset M 0 14 0)) (h1 : ∀ w, w < op → e w = 1 → (∀ i, i < w → e i = 0) → K (nI w) (mset M 0 14 0)) : f_X11_check (nI j) (nI kn) M K := by
  have hRW : RW M (mset M 0 14 0) := ⟨fun c hc _ => mset_ne _ _ _ hc, fun k hk => mset_nk _ _ _ hk⟩
  have hF' := MF_eq hRW hF
  obtain ⟨f1, f2, f3, f4, f5, f6, f7, f8, f9⟩ := hF'
  have f6' := hF.2.2.2.2.2.1
  unfold f_X11_check
  rw [f6', nI_lt_iff (by omega) (by omega), nI_le_iff (by omega) (by omega)]
  refine ⟨fun z => absurd z (nI_n9 j (by omega)), fun _ => ⟨fun _ => ⟨fun z => absurd z (by omega), fun _ => ⟨fun _ => ?_, fun z => absurd f3 z⟩⟩, fun z => absurd (nI_pos' (by omega)) z⟩⟩
  rw [hr]
  refine Lp.up (fun i x => x = (nI j, nI kn, nI op, nI i, mset M 0 14 0) ∧ ∀ q, q < i → e q = 0) op (fun i x r hi hx hr' => ?_) (j := 0) (by omega) ⟨rfl, fun q hq => absurd hq (by omega)⟩
  obtain ⟨rfl, hz⟩ := hx
  unfold f_X11_check_c51 f_X11_check_b109 f_X11_check_b118
  dsimp only
  have l40 : ((40 : Int32) ≤ nI i) ↔ 40 ≤ i := nI_le_iff (a := 40) (by decide) (by omega)
  rw [l40, nI_le_iff (by omega) (by omega)]
  refine ⟨fun c => h0 (fun q hq => hz q (by omega)), fun c => ⟨fun z => absurd z (by omega), fun _ => ?_⟩⟩
  have hi2 : i < op := by omega
  refine im1 (m := m) (by omega) (by omega) f7 ⟨fun z => absurd z (by decide), fun _ => ?_⟩
  have hv : vp_in (nI i) 40 := vin_nI (by omega) (by decide)
  obtain ⟨a1, a2, a3⟩ := f9 i hi2
  rw [nI_cl i (by omega), a1, nI_lt_iff (by omega) (by omega), nI_1]
  refine ⟨hv, fun z => absurd z (by omega), fun _ => ⟨hv, t_st (isM (by omega)) a3 f8 _ _ ⟨hv, ?_⟩⟩⟩
  rw [stC_eq hRW.1 (by omega), ← hs i hi2, mset_ne _ _ _ (by decide), (he i hi2).1]
  rcases (show e i = 0 ∨ e i = 1 by have := (he i hi2).2; omega) with q | q
  · rw [q, show sv i + nI 0 = sv i from Int32.add_zero _]
    refine ⟨fun _ => hr' hi2 _ ⟨rfl, fun q' hq' => ?_⟩, fun z => absurd rfl z⟩
    by_cases e2 : q' = i
    · rw [e2]; exact q
    · exact hz q' (by omega)
  · rw [q]
    exact ⟨fun z => absurd z (i_ne1 _), fun _ => h1 i hi2 q hz⟩
