/-! SHIFTS: the call bars -/
theorem lvR_ex {r most : Nat} (w w' : Nat → Nat → Nat) {cs : List Nat} : ∀ m pre, (∃ x, x ∈ lvR r most w cs m pre) → ∃ x, x ∈ lvR r most w' cs m pre
  | 0, pre, h => h
  | m + 1, pre, ⟨x, hx⟩ => by
    obtain ⟨c, hc, q, y, hy, e⟩ := lvR_mem.mp hx
    obtain ⟨z, hz⟩ := lvR_ex w w' m (c :: pre) ⟨y, hy⟩
    exact ⟨z + w' pre.length c, lvR_mem.mpr ⟨c, hc, q, z, hz, rfl⟩⟩
theorem rS_ex (r most : Nat) (w : Nat → Nat → Nat) (cs : List Nat) (m : Nat) (pre : List Nat) (cost : Nat) : rS r most w cs m pre cost none = none ↔ ¬ ∃ x, x ∈ lvR r most w cs m pre := by
  constructor
  · rintro e ⟨x, hx⟩
    obtain ⟨p, e2, _⟩ := rS_made r most w cs m pre cost none x hx
    rw [e] at e2
    cases e2
  · intro h
    exact rS_dom r most w cs m pre cost none (fun x hx => absurd ⟨x, hx⟩ h)
def exR (M : Mem) (r : Nat) : Bool := (rS r (nn (M 124 4)) (fun _ _ => 0) (cods (fun s => nn (M 82 s))) 4 [] 0 none).isSome
theorem exR_n {M : Mem} {r : Nat} : exR M r = false ↔ rS r (nn (M 124 4)) (fun _ _ => 0) (cods (fun s => nn (M 82 s))) 4 [] 0 none = none := by
  unfold exR
  cases rS r (nn (M 124 4)) (fun _ _ => 0) (cods (fun s => nn (M 82 s))) 4 [] 0 none <;> simp
theorem exR_R {M : Mem} {s r : Nat} (h4 : (tmM M s).length = 4) : rR M s r = none ↔ exR M r = false := by
  have hrR : rR M s r = rS r (nn (M 124 4)) (wsh (M 13) (tmM M s)) (cods (fun s => nn (M 82 s))) 4 [] 0 none := by
    have h4' : (tmL (M 5) (M 6) (nI s) (nn (M 4 0))).length = 4 := h4
    unfold rR rosS
    rw [if_pos h4']
    rfl
  rw [hrR, exR_n, rS_ex, rS_ex]
  exact ⟨fun h z => h (lvR_ex _ _ 4 [] z), fun h z => h (lvR_ex _ _ 4 [] z)⟩
theorem Bs.ex {M M' : Mem} (h : Bs M M') (r : Nat) : exR M' r = exR M r := by
  obtain ⟨a1, a2, a3, a4, a5, a6⟩ := h
  unfold exR
  rw [a1, a6]
theorem C_can {M : Mem} (H : Inv M) {r : Nat} (hr : r < 8) {K : Int32 → Mem → Prop} (h : ∀ M1, TFr M M1 → Inv M1 → K (bi (exR M r)) M1) : f_X8_canBe (nI r) (M 124 4) M K := by
  obtain ⟨mo1, mo2⟩ := H.mos
  have hned := H.ned
  unfold f_X8_canBe f_X8_forget
  show f_X8_listArrangements (mset (mset (mset M 81 15 0) 81 2 (nI r)) 81 3 (M 124 4)) _
  generalize hMa : mset (mset (mset M 81 15 0) 81 2 (nI r)) 81 3 (M 124 4) = Ma
  have ha : ∀ c k, ¬ (c = 81 ∧ (k = 15 ∨ k = 2 ∨ k = 3)) → Ma c k = M c k := fun c k hc => by
    rw [← hMa, mset_at, if_neg (by omega), mset_at, if_neg (by omega), mset_at, if_neg (by omega)]
  have e82 : Ma 82 = M 82 := funext fun k => ha 82 k (by omega)
  refine t_list (nd := fun s => nn (M 82 s)) (fun q _ => by rw [e82]; exact (hned q).1) (fun q _ => (hned q).2) (fun M2 g1 g2 => ?_)
  have hcl : ∀ a, a < (cods (fun s => nn (M 82 s))).length → (cods (fun s => nn (M 82 s))).getD a 0 < 256 := fun a ha => cods_lt (getD_mem ha)
  have hlen := cods24 (nd := fun s => nn (M 82 s)) (fun q _ => (hned q).2)
  refine t_none hlen g2 (fun M3 u1 u2 => ?_)
  have e2 : M3 81 2 = nI r := by
    rw [u1 81 2 (by decide), g1 81 2 (by decide) (by decide) (by decide) (by decide), ← hMa, mset_nk _ _ _ (by decide), mset_eq]
  have e3 : M3 81 3 = nI (nn (M 124 4)) := by
    rw [u1 81 3 (by decide), g1 81 3 (by decide) (by decide) (by decide) (by decide), ← hMa, mset_eq]; exact mo1
  have hSH : SHC r (nn (M 124 4)) (fun _ _ => 0) (fun _ => 0) (cods (fun s => nn (M 82 s))) M3 := ⟨hr, mo2, hlen, hcl, e2, e3, LsC.fr g2 u1, u2, fun _ _ => Nat.zero_le _⟩
  refine t_search hSH (fun M4 v1 v2 => ?_)
  have hF : TFr M M4 := fun c k d1 d2 => by
    rw [v1 c k (by omega) (by omega) (by omega) (by omega) (by omega), u1 c k (by omega), g1 c k (by omega) (by omega) (by omega) (by omega)]
    exact ha c k (by omega)
  have e15 : M4 81 15 = 0 := by
    rw [v1 81 15 (by decide) (by decide) (by decide) (by decide) (by decide), u1 81 15 (by decide), g1 81 15 (by decide) (by decide) (by decide) (by decide), ← hMa, mset_nk _ _ _ (by decide), mset_nk _ _ _ (by decide), mset_eq]
  have hI : Inv M4 := i_ros H hF (by rw [e15]; exact ⟨bz0, fun q => absurd q (by decide)⟩)
  have hk := h M4 hF hI
  unfold f_X8_canBe_b40
  cases hR : rS r (nn (M 124 4)) (fun _ _ => 0) (cods (fun s => nn (M 82 s))) 4 [] 0 none with
  | none =>
    rw [hR] at v2
    have e12 : M4 81 12 = -9 := v2
    rw [exR_n.mpr hR] at hk
    exact ⟨fun _ => ⟨bz0, hk⟩, fun z => absurd e12 z⟩
  | some x =>
    obtain ⟨b, p⟩ := x
    rw [hR] at v2
    have he : exR M r = true := by unfold exR; rw [hR]; rfl
    rw [he] at hk
    refine ⟨fun z => absurd z ?_, fun _ => ⟨bz1, hk⟩⟩
    rw [v2.1]
    exact nI_n9 (by have := v2.2.1; omega)
theorem tm_cnt (x5 x6 : Nat → Int32) (s : Int32) (f : Nat → Bool) : ∀ n, (∀ q, q < n → (f q = true ↔ ¬ x6 q = 0 ∧ x5 q = s)) → ((tmL x5 x6 s n).length = cntB f n ∧ cntB f n ≤ 4) ∨ ((tmL x5 x6 s n).length = 4 ∧ 4 ≤ cntB f n)
  | 0, _ => Or.inl ⟨rfl, Nat.zero_le _⟩
  | n + 1, h => by
    have ih := tm_cnt x5 x6 s f n (fun q hq => h q (by omega))
    have hn := h n (by omega)
    have hst : tmL x5 x6 s (n + 1) = if (tmL x5 x6 s n).length < 4 ∧ ¬ x6 n = 0 ∧ x5 n = s then tmL x5 x6 s n ++ [n] else tmL x5 x6 s n := rfl
    have hc : cntB f (n + 1) = cntB f n + (if f n = true then 1 else 0) := rfl
    rw [hst, hc]
    by_cases c : f n = true
    · have hx := hn.mp c
      rw [if_pos c]
      by_cases l : (tmL x5 x6 s n).length < 4
      · rw [if_pos ⟨l, hx⟩, List.length_append, List.length_singleton]
        omega
      · rw [if_neg (fun z => l z.1)]
        omega
    · rw [if_neg c, if_neg (fun z => c (hn.mpr z.2))]
      omega
theorem sh1 : ∀ s j : Fin 6, ((((1 : Int32) <<< (nI s.val &&& 31)) >>> (nI j.val &&& 31)) &&& 1 = 1) ↔ j = s := by decide
theorem C_here {M : Mem} (H : Inv M) {s : Nat} (hs : s < 6) {K : Int32 → Mem → Prop} (h : ∀ n, n < 2147483648 → (4 ≤ n ↔ (tmM M s).length = 4) → K (nI n) M) : f_X9_hereIn ((1 : Int32) <<< (nI s &&& 31)) M K := by
  obtain ⟨pn1, pn2⟩ := H.pn
  refine t_here pn2 pn1 _ K (h _ ?_ ?_)
  · have := cntB_le (hrB M ((1 : Int32) <<< (nI s &&& 31))) (nn (M 4 0)); omega
  · have := tm_cnt (M 5) (M 6) (nI s) (hrB M ((1 : Int32) <<< (nI s &&& 31))) (nn (M 4 0)) (fun q _ => by
      unfold hrB
      rw [decide_eq_true_iff]
      refine and_congr_right fun _ => ?_
      obtain ⟨j, hj, e⟩ := nat_of (n := 5) (H.P.2.2.2.2.2.2.1 q).1 (H.P.2.2.2.2.2.2.1 q).2 (by decide)
      have z := sh1 ⟨s, hs⟩ ⟨j, by omega⟩
      simp only [Fin.mk.injEq] at z
      rw [e, z, nI_eq_iff (by omega) (by omega)])
    have e : tmM M s = tmL (M 5) (M 6) (nI s) (nn (M 4 0)) := rfl
    rw [e]
    omega
/-- by both orders the same -/
def rbs (i : Nat) : Nat := [0, 1, 2, 4, 3, 5, 6, 7].getD i 0
def cbF (e : Nat → Bool) : Nat := if e 0 = false then 0 else if e 1 = false then 1 else if e 2 = false then 2 else if e 4 = false then 4 else if e 3 = false then 3 else if e 5 = false then 5 else if e 6 = false then 6 else 7
def mbF (e : Nat → Bool) : Nat → Nat
  | 0 => 7
  | k + 1 => if pop 10 (6 - k) ≤ pop 10 (mbF e k) ∧ e (6 - k) = false then 6 - k else mbF e k
theorem mb_cbB : ∀ a b c d e f g : Bool, mbF (fun i => [a, b, c, d, e, f, g].getD i true) 7 = cbF (fun i => [a, b, c, d, e, f, g].getD i true) := by decide
theorem mbF_cong {e e' : Nat → Bool} (h : ∀ i, i < 7 → e i = e' i) : ∀ k, mbF e k = mbF e' k
  | 0 => rfl
  | k + 1 => by
    unfold mbF
    rw [mbF_cong h k, h (6 - k) (by omega)]
theorem mb_cb (e : Nat → Bool) : mbF e 7 = cbF e := by
  have h := mb_cbB (e 0) (e 1) (e 2) (e 3) (e 4) (e 5) (e 6)
  have hc : ∀ i, i < 7 → (fun i => [e 0, e 1, e 2, e 3, e 4, e 5, e 6].getD i true) i = e i := fun i hi => match i, hi with
    | 0, _ => rfl
    | 1, _ => rfl
    | 2, _ => rfl
    | 3, _ => rfl
    | 4, _ => rfl
    | 5, _ => rfl
    | 6, _ => rfl
  rw [mbF_cong hc] at h
  exact h
theorem mbF_le (e : Nat → Bool) : ∀ k, mbF e k ≤ 7
  | 0 => Nat.le_refl _
  | k + 1 => by
    have := mbF_le e k
    unfold mbF
    split <;> omega
theorem cb_first {e : Nat → Bool} {i : Nat} (hi : i < 8) (h : ∀ j, j < i → e (rbs j) = true) (hf : e (rbs i) = false) : cbF e = rbs i := by
  have n0 : 0 < i → ¬ e 0 = false := fun q z => by have := h 0 q; rw [show rbs 0 = 0 from rfl, z] at this; cases this
  have n1 : 1 < i → ¬ e 1 = false := fun q z => by have := h 1 q; rw [show rbs 1 = 1 from rfl, z] at this; cases this
  have n2 : 2 < i → ¬ e 2 = false := fun q z => by have := h 2 q; rw [show rbs 2 = 2 from rfl, z] at this; cases this
  have n3 : 3 < i → ¬ e 4 = false := fun q z => by have := h 3 q; rw [show rbs 3 = 4 from rfl, z] at this; cases this
  have n4 : 4 < i → ¬ e 3 = false := fun q z => by have := h 4 q; rw [show rbs 4 = 3 from rfl, z] at this; cases this
  have n5 : 5 < i → ¬ e 5 = false := fun q z => by have := h 5 q; rw [show rbs 5 = 5 from rfl, z] at this; cases this
  have n6 : 6 < i → ¬ e 6 = false := fun q z => by have := h 6 q; rw [show rbs 6 = 6 from rfl, z] at this; cases this
  unfold cbF
  match i, hi, hf with
  | 0, _, hf => exact if_pos hf
  | 1, _, hf => rw [if_neg (n0 (by omega))]; exact if_pos hf
  | 2, _, hf => rw [if_neg (n0 (by omega)), if_neg (n1 (by omega))]; exact if_pos hf
  | 3, _, hf => rw [if_neg (n0 (by omega)), if_neg (n1 (by omega)), if_neg (n2 (by omega))]; exact if_pos hf
  | 4, _, hf => rw [if_neg (n0 (by omega)), if_neg (n1 (by omega)), if_neg (n2 (by omega)), if_neg (n3 (by omega))]; exact if_pos hf
  | 5, _, hf => rw [if_neg (n0 (by omega)), if_neg (n1 (by omega)), if_neg (n2 (by omega)), if_neg (n3 (by omega)), if_neg (n4 (by omega))]; exact if_pos hf
  | 6, _, hf => rw [if_neg (n0 (by omega)), if_neg (n1 (by omega)), if_neg (n2 (by omega)), if_neg (n3 (by omega)), if_neg (n4 (by omega)), if_neg (n5 (by omega))]; exact if_pos hf
  | 7, _, hf => rw [if_neg (n0 (by omega)), if_neg (n1 (by omega)), if_neg (n2 (by omega)), if_neg (n3 (by omega)), if_neg (n4 (by omega)), if_neg (n5 (by omega)), if_neg (n6 (by omega))]; rfl
theorem rbs_v : ∀ i : Fin 8, sv 3 i.val = nI (rbs i.val) ∧ rbs i.val < 8 := by decide
theorem TFr.trans {M M' M'' : Mem} (h : TFr M M') (h' : TFr M' M'') : TFr M M'' := fun c k d1 d2 => (h' c k d1 d2).trans (h c k d1 d2)
theorem t_bars {M : Mem} (H : Inv M) (h7 : exR M 7 = false) {M1 : Mem} (hF1 : TFr M M1) (hI1 : Inv M1) {K : Int32 → Mem → Prop} (h : ∀ M2, TFr M M2 → Inv M2 → K (nI (cbF (exR M))) M2) : Lp (fun (r53 : Int32 × Mem → Prop) a => f_X11_bars_c53 K r53 a.1 a.2) ((0 : Int32), M1) := by
  refine Lp.up (fun i a => ∃ M', a = (nI i, M') ∧ TFr M M' ∧ Inv M' ∧ ∀ j, j < i → exR M (rbs j) = true) 8 (fun i a r hi ha hr => ?_) (j := 0) (by omega) ⟨M1, rfl, hF1, hI1, fun j hj => absurd hj (by omega)⟩
  obtain ⟨M', rfl, hF, hI, hp⟩ := ha
  show f_X11_bars_c53 K r (nI i) M'
  unfold f_X11_bars_c53
  rw [nI_le_iff (by omega) (by omega)]
  refine ⟨fun c => ?_, fun c => ⟨vin_nI (by omega) (by decide), ?_⟩⟩
  · have := hp 7 (by omega)
    rw [show rbs 7 = 7 from rfl, h7] at this
    cases this
  · obtain ⟨v1, v2⟩ := rbs_v ⟨i, by omega⟩
    simp only at v1 v2
    rw [nI_cl i (by omega), v1]
    refine C_can hI v2 (fun M2 hF2 hI2 => ?_)
    have hF3 := TFr.trans hF hF2
    rw [Bs.ex (Bs.tfr hF), nI_1]
    cases he : exR M (rbs i) with
    | false =>
      refine ⟨fun z => absurd rfl z, fun _ => ⟨vin_nI (by omega) (by decide), ?_⟩⟩
      have := h M2 hF3 hI2
      rw [cb_first (show i < 8 by omega) hp he] at this
      exact this
    | true =>
      refine ⟨fun _ => hr (by omega) _ ⟨M2, rfl, hF3, hI2, fun j hj => ?_⟩, fun z => absurd z (by decide)⟩
      by_cases e : j = i
      · subst e; exact he
      · exact hp j (by omega)
theorem MFr.trans {M M' M'' : Mem} (h : MFr M M') (h' : MFr M' M'') : MFr M M'' := fun c k d1 d2 => (h' c k d1 d2).trans (h c k d1 d2)
theorem q_bars {M : Mem} (H : Inv M) {s : Nat} (hs : s < 6) (h4 : (tmM M s).length = 4) {M1 : Mem} (hF1 : Bs M M1) (hI1 : Inv M1) {K : Int32 → Mem → Prop} (h : ∀ M2, Inv M2 → K (nI (cbF (exR M))) M2) : Lp (fun (r48 : Int32 × Int32 × Int32 × Mem → Prop) a => f_X12_bars_c48 K r48 a.1 a.2.1 a.2.2.1 a.2.2.2) (nI s, (7 : Int32), (6 : Int32), M1) := by
  refine Lp.up (fun k a => ∃ M', a = (nI s, nI (mbF (exR M) k), nI (7 - k) + -1, M') ∧ Bs M M' ∧ Inv M') 7 (fun k a r hk ha hr => ?_) (j := 0) (by omega) ⟨M1, rfl, hF1, hI1⟩
  obtain ⟨M', rfl, hF, hI⟩ := ha
  have hb := mbF_le (exR M) k
  show f_X12_bars_c48 K r (nI s) (nI (mbF (exR M) k)) (nI (7 - k) + -1) M'
  unfold f_X12_bars_c48 f_X12_bars_b76 f_X12_bars_b77
  by_cases hk7 : k = 7
  · subst hk7
    refine ⟨fun _ => ?_, fun z => absurd (by decide) z⟩
    rw [mb_cb]
    exact h M' hI
  · have e6 : nI (7 - k) + -1 = nI (6 - k) := by rw [x_m1, nI_s1 (by omega) (by omega), show 7 - k - 1 = 6 - k by omega]
    rw [e6]
    refine ⟨fun z => absurd z (nI_pos (by omega)), fun _ => t_ones (by omega) (t_ones (by omega) ?_)⟩
    have hst : mbF (exR M) (k + 1) = if pop 10 (6 - k) ≤ pop 10 (mbF (exR M) k) ∧ exR M (6 - k) = false then 6 - k else mbF (exR M) k := rfl
    have hpb : ∀ n, n < 512 → pop 10 n < 512 := by
      have : ∀ n : Fin 512, pop 10 n.val < 512 := by decide +kernel
      exact fun n hn => this ⟨n, hn⟩
    have p1 := hpb (6 - k) (by omega)
    have p2 := hpb (mbF (exR M) k) (by omega)
    have hnx : ∀ b' M'', b' = mbF (exR M) (k + 1) → Bs M M'' → Inv M'' → r (nI s, nI b', nI (6 - k) + -1, M'') := by
      intro b' M'' e hF' hI'
      subst e
      have := hr (by omega) (nI s, nI (mbF (exR M) (k + 1)), nI (7 - (k + 1)) + -1, M'') ⟨M'', rfl, hF', hI'⟩
      rw [show 7 - (k + 1) = 6 - k by omega] at this
      exact this
    rw [nI_lt_iff (by omega) (by omega)]
    refine ⟨fun z => hnx _ M' (by rw [hst, if_neg (fun y => by omega)]) hF hI, fun z => M_fs hI hs (show 6 - k < 8 by omega) (fun v M2 hF2 hI2 hro hfo => ?_)⟩
    rw [Bs.rRe hF] at hro
    have hBs := Bs.trans hF (Bs.mfr hF2)
    have hexR := exR_R (r := 6 - k) h4
    cases hR : rR M s (6 - k) with
    | none =>
      rw [hR] at hro
      have e2 : v = -1 := hro
      rw [e2]
      exact ⟨fun y => absurd y (by decide), fun _ => hnx (6 - k) M2 (by rw [hst, if_pos ⟨by omega, hexR.mp hR⟩]) hBs hI2⟩
    | some x =>
      obtain ⟨l, p⟩ := x
      have hb16 := rR_bd hR
      rw [hR] at hro
      rw [hro.1]
      refine ⟨fun _ => hnx _ M2 (by rw [hst, if_neg (fun y => by have := hexR.mpr y.2; rw [hR] at this; cases this)]) hBs hI2, fun y => absurd (nI_pos' (by omega)) y⟩
theorem P_bars {M : Mem} (H : Inv M) (a : Int32) : f_X11_bars a M (fun r M1 => f_X12_bars a M1 (fun r' M2 => r' = r ∧ Inv M2)) := by
  unfold f_X11_bars
  rw [v_X11_isShop, x1]
  refine ⟨fun c1 => ?_, fun c1 => ?_⟩
  · obtain ⟨s, hs, rfl⟩ := shop_of c1
    refine C_here H hs (fun n hn hn4 => ?_)
    rw [lq_4 hn, hn4]
    refine ⟨fun h4 => ?_, fun h4 => ?_⟩
    · refine C_can H (r := 7) (by decide) (fun M1 hF1 hI1 => ?_)
      have hmd : ∀ w M3, Bs M M3 → Inv M3 → (exR M 7 = false → w = nI (cbF (exR M))) → (exR M 7 = true → w = -9) → f_X12_bars (nI s) M3 (fun r' M2 => r' = w ∧ Inv M2) := by
        intro w M3 hB3 hI3 hw1 hw2
        unfold f_X12_bars
        rw [v_X12_isShop, inB_nI hs]
        refine ⟨fun _ => ?_, fun y => absurd y (by decide)⟩
        refine M_four hI3 s (fun M4 hF4 _ hI4 f2 f3 => ?_)
        have htm : tmM M3 s = tmM M s := Bs.tm hB3 s
        rw [f2, htm, h4]
        refine ⟨fun _ => ?_, fun z => absurd (by decide) z⟩
        have hB4 := Bs.trans hB3 (Bs.mfr hF4)
        refine M_fs hI4 hs (r := 7) (by decide) (fun v M5 hF5 hI5 hro hfo => ?_)
        have hB5 := Bs.trans hB4 (Bs.mfr hF5)
        rw [Bs.rRe hB4] at hro
        have hexR := exR_R (r := 7) h4
        cases hR : rR M s 7 with
        | none =>
          rw [hR] at hro
          have e2 : v = -1 := hro
          rw [e2]
          exact ⟨fun _ => q_bars H hs h4 hB5 hI5 (fun M6 hI6 => ⟨(hw1 (hexR.mp hR)).symm, hI6⟩), fun z => absurd (by decide) z⟩
        | some x =>
          obtain ⟨l, p⟩ := x
          have hb16 := rR_bd hR
          rw [hR] at hro
          rw [hro.1]
          refine ⟨fun z => absurd z (nI_pos (by omega)), fun _ => ⟨(hw2 ?_).symm, hI5⟩⟩
          cases hz : exR M 7 with
          | true => rfl
          | false => have := hexR.mpr hz; rw [hR] at this; cases this
      cases hz : exR M 7 with
      | true => exact ⟨fun z => absurd z (by decide), fun _ => hmd _ M1 (Bs.tfr hF1) hI1 (fun y => absurd (hz.symm.trans y) (by decide)) (fun _ => rfl)⟩
      | false => exact ⟨fun _ => t_bars H hz hF1 hI1 (fun M2 hF2 hI2 => hmd _ M2 (Bs.tfr hF2) hI2 (fun _ => rfl) (fun y => absurd (hz.symm.trans y) (by decide))), fun z => absurd rfl z⟩
    · show f_X12_bars (nI s) M (fun r' M2 => r' = -8 ∧ Inv M2)
      unfold f_X12_bars
      rw [v_X12_isShop, inB_nI hs]
      refine ⟨fun _ => ?_, fun y => absurd y (by decide)⟩
      refine M_four H s (fun M4 hF4 _ hI4 f2 f3 => ?_)
      have hle : (tmM M s).length ≤ 4 := tmL_le (M 5) (M 6) (nI s) (nn (M 4 0))
      rw [f2, lq_4 (by omega)]
      exact ⟨fun z => absurd z (by omega), fun _ => ⟨rfl, hI4⟩⟩
  · show f_X12_bars a (rfC M (-1)) (fun r' M2 => r' = -1 ∧ Inv M2)
    unfold f_X12_bars
    rw [v_X12_isShop, c1]
    refine ⟨fun y => absurd rfl y, fun _ => ?_⟩
    rw [y1]
    exact ⟨rfl, i_rf H _⟩
