/-! calls that tell of matters -/
def rfC (M : Mem) (c : Int32) : Mem := mset M 126 (rfx c) (M 126 (rfx c) + 1)
def rfM (M : Mem) (c : Int32) : Mem := mset M 295 (rfx c) (M 295 (rfx c) + 1)
theorem i_rf {M : Mem} (H : Inv M) (c : Int32) : Inv (rfM (rfC M c) c) := by
  have h := i_ref H c
  unfold ref at h
  unfold rfM rfC
  rw [mset_at, if_neg (by omega), show M 295 = M 126 from H.R]
  exact h
theorem rfC_c (M : Mem) (c : Int32) : ∀ c', 287 ≤ c' → rfC M c c' = M c' := fun c' h => mset_ne _ _ _ (by omega)
def isR (c : Int32) : Prop := c = -1 ∨ c = -2 ∨ c = -3 ∨ c = -4 ∨ c = -5 ∨ c = -6
theorem w_X11_refuse {c : Int32} (h : isR c) (M : Mem) (K : Int32 → Mem → Prop) : f_X11_refuse c M K ↔ K c (rfC M c) := v_X11_refuse h M K
theorem w_X12_refuse {c : Int32} (h : isR c) (M : Mem) (K : Int32 → Mem → Prop) : f_X12_refuse c M K ↔ K c (rfM M c) := v_X12_refuse h M K
theorem x1 (M : Mem) (K : Int32 → Mem → Prop) : f_X11_refuse (-1) M K ↔ K (-1) (rfC M (-1)) := w_X11_refuse (by unfold isR; decide) M K
theorem x2 (M : Mem) (K : Int32 → Mem → Prop) : f_X11_refuse (-2) M K ↔ K (-2) (rfC M (-2)) := w_X11_refuse (by unfold isR; decide) M K
theorem x3 (M : Mem) (K : Int32 → Mem → Prop) : f_X11_refuse (-3) M K ↔ K (-3) (rfC M (-3)) := w_X11_refuse (by unfold isR; decide) M K
theorem x4 (M : Mem) (K : Int32 → Mem → Prop) : f_X11_refuse (-4) M K ↔ K (-4) (rfC M (-4)) := w_X11_refuse (by unfold isR; decide) M K
theorem x6 (M : Mem) (K : Int32 → Mem → Prop) : f_X11_refuse (-6) M K ↔ K (-6) (rfC M (-6)) := w_X11_refuse (by unfold isR; decide) M K
theorem y1 (M : Mem) (K : Int32 → Mem → Prop) : f_X12_refuse (-1) M K ↔ K (-1) (rfM M (-1)) := w_X12_refuse (by unfold isR; decide) M K
theorem y2 (M : Mem) (K : Int32 → Mem → Prop) : f_X12_refuse (-2) M K ↔ K (-2) (rfM M (-2)) := w_X12_refuse (by unfold isR; decide) M K
theorem y3 (M : Mem) (K : Int32 → Mem → Prop) : f_X12_refuse (-3) M K ↔ K (-3) (rfM M (-3)) := w_X12_refuse (by unfold isR; decide) M K
theorem y4 (M : Mem) (K : Int32 → Mem → Prop) : f_X12_refuse (-4) M K ↔ K (-4) (rfM M (-4)) := w_X12_refuse (by unfold isR; decide) M K
theorem y6 (M : Mem) (K : Int32 → Mem → Prop) : f_X12_refuse (-6) M K ↔ K (-6) (rfM M (-6)) := w_X12_refuse (by unfold isR; decide) M K
theorem Inv.sok {M : Mem} (H : Inv M) : sok M := ⟨H.N.2.2.2.2.2.2.1, H.N.2.1, H.N.2.2.1, H.D⟩
theorem Inv.m0 {M : Mem} (H : Inv M) : 0 ≤ M 0 5 := H.M.2.1
theorem Inv.m1 {M : Mem} (H : Inv M) : M 0 5 ≤ 40 := H.M.2.2.1
theorem Inv.mok {M : Mem} (H : Inv M) {i : Nat} (hi : i < nn (M 0 5)) : mok M i := by
  obtain ⟨e, h0, h1, hr, -⟩ := H.M
  obtain ⟨n, hn, en⟩ := nat_of (n := 40) h0 h1 (by decide)
  have h40 : i < 40 := by rw [en, nn_nI n (by omega)] at hi; omega
  have := hr i hi
  rw [rws_in M 127 4 40 h40, rws_in M 128 4 40 h40, rws_in M 129 4 40 h40, rws_in M 130 4 40 h40] at this
  refine ⟨h40, ?_⟩
  rw [show 127 + 4 * i + 1 = 128 + 4 * i by omega, show 127 + 4 * i + 2 = 129 + 4 * i by omega, show 127 + 4 * i + 3 = 130 + 4 * i by omega]
  exact this
theorem Inv.mm {M : Mem} (H : Inv M) {i : Nat} (hi : i < nn (M 0 5)) : mmo M i := mmo_of (H.mok hi) H.sok
theorem Inv.mat {M : Mem} (H : Inv M) {a : Int32} (h : 0 ≤ a ∧ a ≤ M 0 5 - 1) : ∃ i, a = nI i ∧ i < 40 ∧ i < nn (M 0 5) := by
  obtain ⟨e, h0, h1, hr, -⟩ := H.M
  obtain ⟨n, hn, en⟩ := nat_of (n := 40) h0 h1 (by decide)
  obtain ⟨i, hi, ei⟩ := natL en (by omega) h
  exact ⟨i, ei, by omega, by rw [en, nn_nI n (by omega)]; exact hi⟩
theorem t_X5_isFull {M : Mem} {t n : Nat} (ht : isMat t) (hn : n ≤ 30) (e : M t 11 = nI n) (K : Int32 → Mem → Prop) : f_X5_isFull t M K ↔ K (bi (decide (n = 30))) M := by
  unfold f_X5_isFull f_X5_isFull_b14
  have hl : (nI n < 30) ↔ n < 30 := nI_lt_iff (b := 30) (by omega) (by omega)
  have z0 := bz0
  have z1 := bz1
  rw [e, hl]
  unfold bi
  grind
def telC (M : Mem) (i n : Nat) (w a : Int32) : Mem := mset (mset (mset (mset M (127 + 4 * i + 1) n w) (127 + 4 * i + 2) n a) (127 + 4 * i + 3) n (M 1 0)) (127 + 4 * i) 11 (nI (n + 1))
def telM (M : Mem) (i n : Nat) (w b s : Int32) : Mem := mset (mset (mset (mset (mset M 318 (30 * i + n) w) 319 (30 * i + n) (M 287 0)) 320 (30 * i + n) b) 321 (30 * i + n) s) 317 i (nI (n + 1))
theorem telC_c (M : Mem) {i : Nat} (hi : i < 40) (n : Nat) (w a : Int32) : ∀ c', 287 ≤ c' → telC M i n w a c' = M c' := fun c' h => by
  unfold telC
  rw [mset_ne _ _ _ (by omega), mset_ne _ _ _ (by omega), mset_ne _ _ _ (by omega), mset_ne _ _ _ (by omega)]
theorem t_X5_tell {M : Mem} {K : Int32 → Mem → Prop} {i n : Nat} (hi : i < 40) (hn : n < 30) (e : M (127 + 4 * i) 11 = nI n) (w a : Int32) (h : K (nI (n + 1)) (telC M i n w a)) : f_X5_tell (127 + 4 * i) w a M K := by
  unfold f_X5_tell f_X5_tell_b55
  have ht : isMat (127 + 4 * i) := ⟨i, hi, rfl⟩
  have hl : ¬ (30 : Int32) ≤ nI n := fun c => absurd ((nI_le_iff (a := 30) (by omega) (by omega)).mp c) (by omega)
  have hv : vp_in (nI n) 30 := vin_nI hn (by decide)
  unfold telC at h
  rw [e]
  refine ⟨ht, fun c => absurd c hl, fun _ => ⟨hv, ?_⟩⟩
  simp (disch := omega) only [mset_ne, e, nI_cl, mset_eq]
  refine ⟨hv, hv, ht, ?_⟩
  rw [nI_1]
  exact h
theorem t_X12_tell {M : Mem} {K : Mem → Prop} {i n : Nat} (hi : i < 40) (hn : n < 30) (e : M 317 i = nI n) (w b s : Int32) (h : K (telM M i n w b s)) : f_X12_tell (nI i) w b s M K := by
  unfold f_X12_tell
  have hv : vp_in (nI i) 40 := vin_nI hi (by decide)
  have hv2 : vp_in (nI (30 * i + n)) 1200 := vin_nI (by omega) (by decide)
  unfold telM at h
  rw [nI_cl i (by omega), e, m30, nI_add, nI_cl (30 * i + n) (by omega), nI_1]
  exact ⟨hv, hv2, hv2, hv2, hv2, hv, hv, h⟩
/-- the model's cells untouched -/
def Eqm (M M' : Mem) : Prop := ∀ c, 287 ≤ c → M' c = M c
theorem Eqm.refl (M : Mem) : Eqm M M := fun _ _ => rfl
theorem Eqm.rfC (M : Mem) (c : Int32) : Eqm M (rfC M c) := rfC_c M c
theorem Eqm.telC (M : Mem) {i : Nat} (hi : i < 40) (n : Nat) (w a : Int32) : Eqm M (telC M i n w a) := telC_c M hi n w a
theorem Eqm.all {M M' : Mem} (h : Eqm M M') : M' 287 = M 287 ∧ M' 311 = M 311 ∧ M' 312 = M 312 ∧ M' 313 = M 313 ∧ M' 317 = M 317 ∧ M' 326 = M 326 ∧ M' 327 = M 327 ∧ M' 308 = M 308 ∧ M' 309 = M 309 ∧ M' 310 = M 310 :=
  ⟨h _ (by decide), h _ (by decide), h _ (by decide), h _ (by decide), h _ (by decide), h _ (by decide), h _ (by decide), h _ (by decide), h _ (by decide), h _ (by decide)⟩
def givM (M : Mem) (i : Nat) (p j k : Int32) : Int32 := giv (fun q => M 318 (30 * i + q)) (fun q => M 319 (30 * i + q)) (fun q => M 320 (30 * i + q)) p j k (nn (M 317 i))
theorem q_isW {M : Mem} {i : Nat} (hm : mmo M i) {M' : Mem} (hE : Eqm M M') (j : Int32) (K : Int32 → Mem → Prop) (h : K (bi (wdrM M i j)) M') : f_X12_isWithdrawn (nI i) j M' K := by
  obtain ⟨hi, ⟨n, hn, en⟩, -⟩ := hm
  unfold wdrM at h
  rw [← hE 318 (by decide), ← hE 319 (by decide), en, nn_nI n (by omega)] at h
  exact t_X12_isWithdrawn hi hn (by rw [hE 317 (by decide)]; exact en) j h
theorem q_ruling {M : Mem} {i : Nat} (hm : mmo M i) {M' : Mem} (hE : Eqm M M') (j k : Int32) (K : Int32 → Mem → Prop) (h : K (rulM M i j k) M') : f_X12_ruling (nI i) j k M' K := by
  obtain ⟨hi, ⟨n, hn, en⟩, -⟩ := hm
  unfold rulM at h
  rw [← hE 318 (by decide), ← hE 319 (by decide), ← hE 320 (by decide), en, nn_nI n (by omega)] at h
  exact t_X12_ruling hi hn (by rw [hE 317 (by decide)]; exact en) j k h
theorem q_given {M : Mem} {i : Nat} (hm : mmo M i) {M' : Mem} (hE : Eqm M M') (p j k : Int32) (K : Int32 → Mem → Prop) (h : K (givM M i p j k) M') : f_X12_givenOn (nI i) p j k M' K := by
  obtain ⟨hi, ⟨n, hn, en⟩, -⟩ := hm
  unfold givM at h
  rw [← hE 318 (by decide), ← hE 319 (by decide), ← hE 320 (by decide), en, nn_nI n (by omega)] at h
  exact t_X12_givenOn hi hn (by rw [hE 317 (by decide)]; exact en) p j k h
theorem q_whole {M : Mem} {i : Nat} (hm : mmo M i) {M' : Mem} (hE : Eqm M M') (j k : Int32) (K : Int32 → Mem → Prop) (h : K (whM M i j k) M') : f_X12_wholeSince (nI i) j k M' K := by
  obtain ⟨hi, ⟨n, hn, en⟩, -⟩ := hm
  unfold whM at h
  rw [← hE 318 (by decide), ← hE 319 (by decide), ← hE 320 (by decide), ← hE 314 (by decide), ← hE 313 (by decide), en, nn_nI n (by omega)] at h
  exact t_X12_wholeSince hi hn (by rw [hE 317 (by decide)]; exact en) j k h
theorem q_state {M : Mem} {i : Nat} (hm : mmo M i) {M' : Mem} (hE : Eqm M M') {j : Int32} (h0 : 0 ≤ j) (h1 : j ≤ 1000) (k : Int32) (K : Int32 → Mem → Prop) (h : K (stM M i j k) M') : f_X12_stateOf (nI i) j k M' K := by
  obtain ⟨u, hu, rfl⟩ := nat_of (n := 1000) h0 h1 (by decide)
  exact t_X12_stateOf (mmo_cell hE hm) hu k (by rw [stM_cell hE]; exact h)
theorem q_lets {M : Mem} {i : Nat} (hm : mmo M i) {M' : Mem} (hE : Eqm M M') {j : Int32} (h0 : 0 ≤ j) (h1 : j ≤ 1000) (K : Int32 → Mem → Prop) (h : K (bi (letb (M 311 i) (stM M i j (M 287 0)))) M') : f_X12_lets (nI i) j M' K := by
  obtain ⟨u, hu, rfl⟩ := nat_of (n := 1000) h0 h1 (by decide)
  exact t_X12_lets (mmo_cell hE hm) hu (by rw [stM_cell hE, hE 287 (by decide), hE 311 (by decide)]; exact h)
theorem q_tell {M : Mem} {i n : Nat} (hi : i < 40) (hn : n < 30) (e : M 317 i = nI n) {M' : Mem} (hE : Eqm M M') (w b s : Int32) (K : Mem → Prop) (h : K (telM M' i n w b s)) : f_X12_tell (nI i) w b s M' K :=
  t_X12_tell hi hn (by rw [hE 317 (by decide)]; exact e) w b s h
theorem p_isW {M : Mem} {i : Nat} (hm : mok M i) (j : Int32) (K : Int32 → Mem → Prop) (h : K (bi (wdrM M i j)) M) : f_X5_withdrawnBy (127 + 4 * i) j M K := by
  obtain ⟨n, hn, en, en2, enn⟩ := mok_n hm
  have hq := mok_q hm
  unfold wdrM at h
  rw [enn] at hq h
  refine t_X5_withdrawnBy (mok_t hm) hn en2 j ?_
  rw [show exB (fun q => decide (M (127 + 4 * i + 1) q = 2 ∧ M (127 + 4 * i + 3) q ≤ j)) n = exB (fun q => decide (M 318 (30 * i + q) = 2 ∧ M 319 (30 * i + q) ≤ j)) n from exB_cong (fun q hqn => by rw [(hq q hqn).1, (hq q hqn).2.1])]
  exact h
theorem p_ruling {M : Mem} {i : Nat} (hm : mok M i) (j k : Int32) (K : Int32 → Mem → Prop) (h : K (if rulM M i j k < 0 then -9 else rulM M i j k) M) : f_X5_lastRuling (127 + 4 * i) j k M K := by
  obtain ⟨n, hn, en, en2, enn⟩ := mok_n hm
  have hq := mok_q hm
  unfold rulM at h
  rw [enn] at hq h
  refine t_X5_lastRuling (mok_t hm) hn en2 j k ?_
  rw [lru_rul _ _ _ _ _ _ (fun q hqn c => by have z := (hq q hqn).2.2.2.2.2.1 (by rw [← (hq q hqn).1]; exact c); rw [z.1]; exact z.2)]
  rw [rul_cong _ _ (fun q hqn => ⟨(hq q hqn).1, (hq q hqn).2.1, fun c => ((hq q hqn).2.2.2.2.2.1 (by rw [← (hq q hqn).1]; exact c)).1⟩)]
  exact h
theorem p_paper {M : Mem} {i : Nat} (hm : mok M i) (p j k : Int32) (K : Int32 → Mem → Prop) (h : K (if givM M i p j k < 0 then -9 else givM M i p j k) M) : f_X5_paperDay (127 + 4 * i) p j k M K := by
  obtain ⟨n, hn, en, en2, enn⟩ := mok_n hm
  have hq := mok_q hm
  unfold givM at h
  rw [enn] at hq h
  refine t_X5_paperDay (mok_t hm) hn en2 p j k ?_
  rw [pad_giv _ _ _ _ _ _ _ _ (fun q hqn => by rw [(hq q hqn).2.1]; exact (hq q hqn).2.2.1)]
  rw [giv_cong _ _ _ (fun q hqn => ⟨(hq q hqn).1, (hq q hqn).2.1, fun c => (hq q hqn).2.2.2.2.1 (by rw [← (hq q hqn).1]; exact c)⟩)]
  exact h
theorem p_whole {M : Mem} {i : Nat} (hm : mok M i) (j k : Int32) (K : Int32 → Mem → Prop) (h : K (if whM M i j k < 0 then -9 else whM M i j k) M) : f_X5_wholeSince (127 + 4 * i) j k M K := by
  obtain ⟨n, hn, en, en2, enn⟩ := mok_n hm
  have hq := mok_q hm
  unfold whM at h
  rw [enn] at hq h
  obtain ⟨-, h1, h2, h3, h4, h5, h6, h7, h8, h9, h10, b1, b2, b3, b4, b5, b6, b7, b8, b9, b10, b11, b12, b13, b14, b15, b16, b17, -⟩ := id hm
  refine t_X5_wholeSince (mok_t hm) hn en2 (fun q hqn => by rw [(hq q hqn).2.1]; exact (hq q hqn).2.2.1) (by rw [h6]; exact b9) j k ?_
  rw [h6, h7, wh_cong _ _ _ _ (fun q hqn => ⟨(hq q hqn).1, (hq q hqn).2.1, fun c => (hq q hqn).2.2.2.2.1 (by rw [← (hq q hqn).1]; exact c)⟩) 8]
  exact h
theorem p_state {M : Mem} {i : Nat} (hm : mok M i) (hs : sok M) {j : Int32} (h0 : 0 ≤ j) (h1 : j ≤ 1000) (k : Int32) (K : Int32 → Mem → Prop) (h : K (stM M i j k) M) : f_X5_stateOn (127 + 4 * i) j k M K := by
  obtain ⟨u, hu, rfl⟩ := nat_of (n := 1000) h0 h1 (by decide)
  exact t_X5_stateOn hm hs hu k h
theorem p_letsOn {M : Mem} {i : Nat} (hm : mok M i) (hs : sok M) {j : Int32} (h0 : 0 ≤ j) (h1 : j ≤ 1000) (K : Int32 → Mem → Prop) (h : K (bi (letb (M 311 i) (stM M i j (M 1 0)))) M) : f_X5_letsOn (127 + 4 * i) j M K := by
  obtain ⟨u, hu, rfl⟩ := nat_of (n := 1000) h0 h1 (by decide)
  exact t_X5_letsOn hm hs hu h
/-- a session's answers -/
theorem sum_upd {f f' : Nat → Nat} {i d : Nat} (hi : f' i = f i + d) : ∀ o, (∀ j, j < o → j ≠ i → f' j = f j) → ((List.range o).map f').sum = ((List.range o).map f).sum + (if i < o then d else 0)
  | 0, _ => rfl
  | o + 1, h => by
    have ih := sum_upd hi o (fun j hj hne => h j (by omega) hne)
    rw [List.range_succ, List.map_append, List.sum_append, List.map_append, List.sum_append, ih]
    simp only [List.map_cons, List.map_nil, List.sum_cons, List.sum_nil]
    by_cases e : o = i
    · subst e; rw [if_neg (by omega), if_pos (by omega), hi]; omega
    · rw [h o (by omega) e]
      by_cases e2 : i < o
      · rw [if_pos e2, if_pos (by omega)]; omega
      · rw [if_neg e2, if_neg (by omega)]; omega
def cA (y318 y321 : Nat → Int32) (s : Int32) (i m : Nat) : Nat := ((List.range m).filter (fun k => y318 (30 * i + k) = 3 ∧ y321 (30 * i + k) = s)).length
theorem cA_s (y318 y321 : Nat → Int32) (s : Int32) (i m : Nat) : cA y318 y321 s i (m + 1) = cA y318 y321 s i m + (if y318 (30 * i + m) = 3 ∧ y321 (30 * i + m) = s then 1 else 0) := by
  unfold cA
  rw [List.range_succ, List.filter_append, List.length_append]
  by_cases h : y318 (30 * i + m) = 3 ∧ y321 (30 * i + m) = s
  · simp [h]
  · rw [if_neg h]; simp [h]
theorem cA_cong {y318 y321 z318 z321 : Nat → Int32} (s : Int32) (i : Nat) : ∀ m, (∀ k, k < m → y318 (30 * i + k) = z318 (30 * i + k) ∧ y321 (30 * i + k) = z321 (30 * i + k)) → cA y318 y321 s i m = cA z318 z321 s i m
  | 0, _ => rfl
  | m + 1, h => by rw [cA_s, cA_s, cA_cong s i m (fun k hk => h k (by omega)), (h m (by omega)).1, (h m (by omega)).2]
theorem ansN_eq (o : Nat) (y317 y318 y321 : Nat → Int32) (s : Int32) : ansN o y317 y318 y321 s = ((List.range o).map (fun i => cA y318 y321 s i (nn (y317 i)))).sum := rfl
theorem ansN_tel {o i n : Nat} {y317 y318 y321 : Nat → Int32} (hi : i < o) (en : y317 i = nI n) (hn : n < 30) (h30 : ∀ j, j < o → nn (y317 j) ≤ 30) (w sx s : Int32) :
    ansN o (upd y317 i (nI (n + 1))) (upd y318 (30 * i + n) w) (upd y321 (30 * i + n) sx) s = ansN o y317 y318 y321 s + (if w = 3 ∧ sx = s then 1 else 0) := by
  rw [ansN_eq, ansN_eq, sum_upd (i := i) (d := if w = 3 ∧ sx = s then 1 else 0) (f := fun i => cA y318 y321 s i (nn (y317 i))) ?_ o (fun j hj hne => ?_), if_pos hi]
  · show cA _ _ s i (nn (upd y317 i (nI (n + 1)) i)) = cA _ _ s i (nn (y317 i)) + _
    rw [upd_s, en, nn_nI (n + 1) (by omega), nn_nI n (by omega), cA_s, upd_s, upd_s]
    congr 1
    exact cA_cong s i n (fun k hk => ⟨upd_n _ _ (by omega), upd_n _ _ (by omega)⟩)
  · show cA _ _ s j (nn (upd y317 i (nI (n + 1)) j)) = cA _ _ s j (nn (y317 j))
    rw [upd_n _ _ hne]
    have := h30 j hj
    exact cA_cong s j _ (fun k hk => ⟨upd_n _ _ (by omega), upd_n _ _ (by omega)⟩)
theorem told30 {M : Mem} (H : Inv M) : ∀ j, j < nn (M 0 5) → nn (M 317 j) ≤ 30 := fun j hj => by
  obtain ⟨n, hn, -, -, e⟩ := mok_n (H.mok hj)
  omega
