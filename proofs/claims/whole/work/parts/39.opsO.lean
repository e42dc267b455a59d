/-! wishes; piece times; points -/
theorem shrB (x : Int32) (k : Nat) (hk : k ≤ 31) : (x >>> (nI k &&& 31)).toBitVec = x.toBitVec.sshiftRight k := by
  rw [Int32.toBitVec_shiftRight, BitVec.sshiftRight_eq', shS k hk]
theorem bv1 (y : BitVec 32) : y &&& 1#32 = 1#32 ↔ y.getLsbD 0 = true := by
  constructor
  · intro h
    have := congrArg (fun v : BitVec 32 => v.getLsbD 0) h
    simpa using this
  · intro h
    apply BitVec.eq_of_getLsbD_eq
    intro i hi
    rcases Nat.eq_zero_or_pos i with rfl | q
    · simpa using h
    · have : (1#32).getLsbD i = false := by
        rw [BitVec.getLsbD_one]
        simp
        omega
      rw [BitVec.getLsbD_and, this, Bool.and_false]
theorem btS (x : Int32) (k : Nat) (hk : k ≤ 31) : (x >>> (nI k &&& 31)) &&& 1 = 1 ↔ bt x k = true := by
  rw [← Int32.toBitVec_inj, Int32.toBitVec_and, shrB x k hk]
  show x.toBitVec.sshiftRight k &&& 1#32 = 1#32 ↔ x.toBitVec.getLsbD k = true
  rw [bv1, BitVec.getLsbD_sshiftRight]
  simp
  omega
theorem shlB (k : Nat) (hk : k ≤ 31) : ((1 : Int32) <<< (nI k &&& 31)).toBitVec = 1#32 <<< k := by
  rw [Int32.toBitVec_shiftLeft, BitVec.shiftLeft_eq', shS k hk]
  rfl
theorem btX (x : Int32) (k b : Nat) (hk : k ≤ 31) (hb : b ≤ 31) : bt (x ^^^ ((1 : Int32) <<< (nI k &&& 31))) b = (if b = k then !bt x b else bt x b) := by
  unfold bt
  rw [Int32.toBitVec_xor, shlB k hk, BitVec.getLsbD_xor, BitVec.getLsbD_shiftLeft, BitVec.getLsbD_one]
  by_cases c : b = k
  · subst c
    simp [show b < 32 by omega]
  · rw [if_neg c]
    have : ¬ (¬ b < k ∧ b - k = 0) := by omega
    by_cases c2 : b < k
    · simp [c2]
    · have c3 : ¬ b - k = 0 := by omega
      simp [c2, c3]
theorem v_wa {M : Mem} {p d s : Nat} (hp : p < 24) (hd : d < 4) (hs : s < 3) (K : Int32 → Mem → Prop) : f_X9_wishesAgainst (nI p) (nI d) (nI s) M K ↔ K (bi (bt (M 13 p) (3 * d + s))) M := by
  have hv : vp_in (nI p) 24 := vin_nI hp (by decide)
  have e : (3 : Int32) * nI d + nI s = nI (3 * d + s) := by rw [show (3 : Int32) * nI d = nI (3 * d) from pk_mul 3 d, nI_add]
  have z0 := bz0
  have z1 := bz1
  unfold f_X9_wishesAgainst f_X9_wishesAgainst_b23
  rw [e, nI_cl p (by omega), btS _ _ (by omega)]
  cases bt (M 13 p) (3 * d + s) <;> simp [bi, hv, z0, z1]
theorem i_wish1 {M : Mem} (H : Inv M) {p k : Nat} {v : Int32} (hp : p < 24) (hk : k < 12) (hv : v = if bt (M 13 p) k = true then 0 else 1) : Inv (mset (mset (mset (mset M 13 p (M 13 p ^^^ ((1 : Int32) <<< (nI k &&& 31)))) 81 15 0) 348 (12 * p + k) v) 287 89 (-1)) := by
  unfold Inv
  simp (disch := omega) only [mset_ne, mset_row, rws_ne, upd_s, upd_n, mput_n, mput_s, rws_put]
  refine ⟨H.R, H.D, H.S, H.P, H.Q, ?_, H.A, H.X, H.B, H.T, H.M, H.V, H.N, H.G, H.C, H.E, H.H, H.F, H.U, H.L, H.O, H.I, ?_, ?_⟩
  · have h := H.W
    intro q hq b hb
    have hqb := h q hq b hb
    by_cases c : q = p
    · subst c
      rw [upd_s, btX _ _ _ (by omega) (by omega)]
      by_cases c2 : b = k
      · subst c2
        rw [if_pos rfl, upd_s, hv]
        cases bt (M 13 q) b <;> rfl
      · rw [if_neg c2, upd_n _ _ (by omega)]
        exact hqb
    · rw [upd_n _ _ c, upd_n _ _ (by omega)]
      exact hqb
  · exact ⟨bz0, fun q => absurd q (by decide)⟩
  · exact Or.inl rfl
theorem i_wish0 {M : Mem} (H : Inv M)  : Inv (mset M 287 89 (-1)) := by
  unfold Inv
  simp (disch := omega) only [mset_ne, mset_row, rws_ne, upd_s, upd_n, mput_n, mput_s, rws_put]
  refine ⟨H.R, H.D, H.S, H.P, H.Q, H.W, H.A, H.X, H.B, H.T, H.M, H.V, H.N, H.G, H.C, H.E, H.H, H.F, H.U, H.L, H.O, H.I, H.J, ?_⟩
  · exact Or.inl rfl
def cwish (M : Mem) (a b c d : Int32) : Int32 := if ¬ (0 ≤ a ∧ a ≤ M 4 0 - 1) then -1 else if ¬ (0 ≤ c ∧ c ≤ 2) then -2 else if ¬ (0 ≤ b ∧ b ≤ 3) then -3 else 0
theorem C_wish {M : Mem} (H : Inv M) (a b c d : Int32) (hd : bz d) {K : Int32 → Mem → Prop} (k1 : isR (cwish M a b c d) → K (cwish M a b c d) (rfC M (cwish M a b c d)))
    (k2 : (cwish M a b c d) = 0 → K (if bi (bt (M 13 (nn a)) (3 * nn b + nn c)) = d then 0 else 1) (if bi (bt (M 13 (nn a)) (3 * nn b + nn c)) = d then M else mset (mset M 13 (nn a) (M 13 (nn a) ^^^ ((1 : Int32) <<< (nI (3 * nn b + nn c) &&& 31)))) 81 15 0)) : f_X11_wish a b c d M K := by
  simp only [f_X11_wish, f_X11_wish_b26, f_X11_wish_b42, f_X9_turnWish, f_X8_forget, v_X9_has H.P.2.1 H.P.2.2.1]
  unfold cwish at k1 k2
  unfold isR at k1
  have e2 : ∀ x l g : Int32, inB x l g = if l ≤ x ∧ x ≤ g then 1 else 0 := fun _ _ _ => rfl
  rw [e2]
  by_cases c1 : 0 ≤ a ∧ a ≤ M 4 0 - 1
  · obtain ⟨p, rfl, hp, hp2⟩ := H.peo c1
    have hv : vp_in (nI p) 24 := vin_nI hp (by decide)
    by_cases c2 : 0 ≤ c ∧ c ≤ 2
    · obtain ⟨s, hs, rfl⟩ := nat_of (n := 2) c2.1 c2.2 (by decide)
      by_cases c3 : 0 ≤ b ∧ b ≤ 3
      · obtain ⟨q, hq, rfl⟩ := nat_of (n := 3) c3.1 c3.2 (by decide)
        have g1 := fun K => v_wa (M := M) hp (show q < 4 by omega) (show s < 3 by omega) K
        rw [nn_nI p (by omega), nn_nI q (by omega), nn_nI s (by omega)] at k2
        have e : (3 : Int32) * nI q + nI s = nI (3 * q + s) := by rw [show (3 : Int32) * nI q = nI (3 * q) from pk_mul 3 q, nI_add]
        rw [e, nI_cl p (by omega)]
        generalize bi (bt (M 13 p) (3 * q + s)) = x at *
        have h4 : nI q < 4 := by have := c3.2; lia
        clear H
        grind
      · clear k2; grind [x1, x2, x3]
    · clear k2; grind [x1, x2, x3]
  · clear k2; grind [x1]
theorem M_wish {M : Mem} (H : Inv M) (a b c d : Int32) (hd : bz d) {M' : Mem} (hE : Eqm M M') {K : Int32 → Mem → Prop} (k1 : isR (cwish M a b c d) → K (cwish M a b c d) (rfM M' (cwish M a b c d)))
    (k2 : (cwish M a b c d) = 0 → K (if bi (bt (M 13 (nn a)) (3 * nn b + nn c)) = d then 0 else 1) (mset (mset M' 348 (12 * nn a + (3 * nn b + nn c)) d) 287 89 (-1))) : f_X12_wish a b c d M' K := by
  simp only [f_X12_wish, f_X12_wish_b93, v_X12_isPerson, v_X12_in]
  rw [hE 287 (by decide), H.P.1]
  unfold cwish at k1 k2
  unfold isR at k1
  have e2 : ∀ x l g : Int32, inB x l g = if l ≤ x ∧ x ≤ g then 1 else 0 := fun _ _ _ => rfl
  simp only [e2]
  by_cases c1 : 0 ≤ a ∧ a ≤ M 4 0 - 1
  · obtain ⟨p, rfl, hp, hp2⟩ := H.peo c1
    by_cases c2 : 0 ≤ c ∧ c ≤ 2
    · obtain ⟨s, hs, rfl⟩ := nat_of (n := 2) c2.1 c2.2 (by decide)
      by_cases c3 : 0 ≤ b ∧ b ≤ 3
      · obtain ⟨q, hq, rfl⟩ := nat_of (n := 3) c3.1 c3.2 (by decide)
        rw [nn_nI p (by omega), nn_nI q (by omega), nn_nI s (by omega)] at k2
        have e : (12 : Int32) * nI p + 3 * nI q + nI s = nI (12 * p + (3 * q + s)) := by rw [show (12 : Int32) * nI p = nI (12 * p) from pk_mul 12 p, show (3 : Int32) * nI q = nI (3 * q) from pk_mul 3 q, nI_add, nI_add, Nat.add_assoc]
        have hv : vp_in (nI (12 * p + (3 * q + s))) 288 := vin_nI (by omega) (by decide)
        have hw := H.W p hp (3 * q + s) (by omega)
        rw [e, nI_cl _ (show 12 * p + (3 * q + s) < 2147483648 by omega), hE 348 (by decide), hw]
        unfold bi at k2
        generalize bt (M 13 p) (3 * q + s) = x at *
        clear H hE hw
        grind
      · clear k2; grind [y1, y2, y3]
    · clear k2; grind [y1, y2, y3]
  · clear k2; grind [y1]
theorem wish_eqm (M : Mem) (a b c d : Int32) : Eqm M (if bi (bt (M 13 (nn a)) (3 * nn b + nn c)) = d then M else mset (mset M 13 (nn a) (M 13 (nn a) ^^^ ((1 : Int32) <<< (nI (3 * nn b + nn c) &&& 31)))) 81 15 0) := by
  split
  · exact Eqm.refl M
  · exact Eqm.set (Eqm.set (Eqm.refl M) _ _ (by decide)) _ _ (by decide)
theorem wish_inv {M : Mem} (H : Inv M) {a b c d : Int32} (hd : bz d) (h : cwish M a b c d = 0) : Inv (mset (mset (if bi (bt (M 13 (nn a)) (3 * nn b + nn c)) = d then M else mset (mset M 13 (nn a) (M 13 (nn a) ^^^ ((1 : Int32) <<< (nI (3 * nn b + nn c) &&& 31)))) 81 15 0) 348 (12 * nn a + (3 * nn b + nn c)) d) 287 89 (-1)) := by
  unfold cwish at h
  have hx : (0 ≤ a ∧ a ≤ M 4 0 - 1) ∧ (0 ≤ c ∧ c ≤ 2) ∧ (0 ≤ b ∧ b ≤ 3) := by grind
  obtain ⟨c1, c2, c3⟩ := hx
  obtain ⟨p, rfl, hp, hp2⟩ := H.peo c1
  obtain ⟨s, hs, rfl⟩ := nat_of (n := 2) c2.1 c2.2 (by decide)
  obtain ⟨q, hq, rfl⟩ := nat_of (n := 3) c3.1 c3.2 (by decide)
  rw [nn_nI p (by omega), nn_nI q (by omega), nn_nI s (by omega)]
  have hw := H.W p hp (3 * q + s) (by omega)
  by_cases e : bi (bt (M 13 p) (3 * q + s)) = d
  · rw [if_pos e, mset_same (M := M) (by rw [hw]; exact e)]
    exact i_wish0 H
  · rw [if_neg e]
    refine i_wish1 H hp (by omega) ?_
    revert e
    cases bt (M 13 p) (3 * q + s) <;> rcases hd with rfl | rfl <;> simp [bi]
theorem P_wish {M : Mem} (H : Inv M) (a b c d : Int32) (hd : bz d) : f_X11_wish a b c d M (fun r M1 => f_X12_wish a b c d M1 (fun r' M2 => r' = r ∧ Inv M2)) :=
  C_wish H a b c d hd (fun hz => M_wish H a b c d hd (Eqm.rfC M _) (fun _ => ⟨rfl, i_rf H _⟩) (fun h0 => absurd h0 (nR0 hz)))
    (fun h0 => M_wish H a b c d hd (wish_eqm M _ _ _ _) (fun hz => absurd h0 (nR0 hz)) (fun _ => ⟨rfl, wish_inv H hd h0⟩))
theorem s_lst {M : Mem} {K : Mem → Prop} {n : Nat} (hn : n ≤ 24) (e : M 4 0 = nI n) (h : K (mput (mput M 11 (fun j => if j < n then M 9 j else M 11 j)) 12 (fun j => if j < n then M 10 j else M 12 j))) : Lp (fun (r7 : Int32 × Mem → Prop) a => f_X9_tellList_c7 K r7 a.1 a.2) (0, M) := by
  refine Lp.up (fun q a => a = (nI q, mput (mput M 11 (fun j => if j < q then M 9 j else M 11 j)) 12 (fun j => if j < q then M 10 j else M 12 j))) n (fun q a r hq ha hr => ?_) (j := 0) (by omega) ?_
  · subst ha
    unfold f_X9_tellList_c7
    dsimp only
    have e4 : mput (mput M 11 (fun j => if j < q then M 9 j else M 11 j)) 12 (fun j => if j < q then M 10 j else M 12 j) 4 0 = nI n := by rw [mput_n _ _ (by decide), mput_n _ _ (by decide)]; exact e
    rw [e4, nI_le_iff (by omega) (by omega), nI_cl q (by omega), nI_1]
    have hv : q < n → vp_in (nI q) 24 := fun c => vin_nI (by omega) (by decide)
    refine ⟨fun c => by rw [show n = q by omega] at h; exact h, fun c => ⟨hv (by omega), hv (by omega), hv (by omega), hv (by omega), hr (by omega) _ ?_⟩⟩
    refine congrArg (fun X => (nI (q + 1), X)) ?_
    rw [mset_put, mset_put]
    simp only [mput_at]
    funext c' k
    simp only [mput_at, upd_at]
    by_cases h1 : c' = 12
    · subst h1
      simp
      rw [upd_at]
      by_cases h2 : k = q
      · subst h2; simp
      · by_cases h3 : k < q
        · rw [if_neg h2, if_pos h3, if_pos (by omega)]
        · rw [if_neg h2, if_neg h3, if_neg (by omega)]
    · by_cases h1 : c' = 11
      · subst h1
        simp
        rw [upd_at]
        by_cases h2 : k = q
        · subst h2; simp
        · by_cases h3 : k < q
          · rw [if_neg h2, if_pos h3, if_pos (by omega)]
          · rw [if_neg h2, if_neg h3, if_neg (by omega)]
      · simp [*]
  · refine congrArg (fun X => (nI 0, X)) ?_
    funext c' k
    simp only [mput_at, Nat.not_lt_zero, if_false]
    by_cases h1 : c' = 12
    · subst h1; simp
    · by_cases h1 : c' = 11
      · subst h1; simp
      · simp [*]
theorem s_lstM {M : Mem} {K : Int32 → Mem → Prop} (h : K 1 (mput M 293 (fun j => if j < 48 then M 292 j else M 293 j))) : Lp (fun (r10 : Int32 × Mem → Prop) a => f_X12_list_c10 K r10 a.1 a.2) (0, M) := by
  refine Lp.up (fun q a => a = (nI q, mput M 293 (fun j => if j < q then M 292 j else M 293 j))) 48 (fun q a r hq ha hr => ?_) (j := 0) (by omega) ?_
  · subst ha
    unfold f_X12_list_c10
    dsimp only
    have h48 : ((48 : Int32) ≤ nI q) ↔ 48 ≤ q := nI_le_iff (a := 48) (by omega) (by omega)
    rw [h48, nI_cl q (by omega), nI_1]
    have hv : q < 48 → vp_in (nI q) 48 := fun c => vin_nI (by omega) (by decide)
    refine ⟨fun c => by rw [show q = 48 by omega]; exact h, fun c => ⟨hv (by omega), hv (by omega), hr (by omega) _ ?_⟩⟩
    refine congrArg (fun X => (nI (q + 1), X)) ?_
    rw [mset_put, mput_put, mput_s, mput_n _ _ (by decide)]
    refine congrArg (mput M 293) (funext fun k => ?_)
    rw [upd_at]
    by_cases h2 : k = q
    · subst h2; simp
    · by_cases h3 : k < q
      · rw [if_neg h2, if_pos h3, if_pos (by omega)]
      · rw [if_neg h2, if_neg h3, if_neg (by omega)]
  · refine congrArg (fun X => (nI 0, X)) ?_
    rw [show (fun j => if j < 0 then M 292 j else M 293 j) = M 293 from funext fun j => if_neg (by omega), mput_id]
theorem i_list {M : Mem} (H : Inv M) {f g h : Nat → Int32} (hf : ∀ j, j < nn (M 4 0) → f j = M 9 j) (hg : ∀ j, j < nn (M 4 0) → g j = M 10 j) (hh : ∀ k, h k = if k < 48 then M 292 k else M 293 k) : Inv (mput (mset (mput (mput (mset M 4 11 (M 1 0)) 11 f) 12 g) 287 96 (M 1 0)) 293 h) := by
  unfold Inv
  simp (disch := omega) only [mset_ne, mset_row, rws_ne, upd_s, upd_n, mput_n, mput_s, rws_put]
  refine ⟨H.R, H.D, H.S, H.P, ?_, H.W, H.A, H.X, H.B, H.T, H.M, H.V, H.N, H.G, H.C, H.E, H.H, H.F, H.U, H.L, H.O, H.I, H.J, H.K⟩
  · have d := H.D
    have p1 := H.P.2.2.1
    have p0 := H.P.2.1
    obtain ⟨n, hn, en⟩ := nat_of (n := 24) p0 p1 (by decide)
    obtain ⟨q1, q2, q3, q4, q5, q6⟩ := H.Q
    refine ⟨q1, q2, q3, q4, fun k => ?_, Or.inr ⟨d.2.1, Int32.le_refl _, rfl, fun j hj => ?_⟩⟩
    · rw [hh]; split; exact q4 k; exact q5 k
    · have h48 : 2 * j + 1 < 48 := by rw [en, nn_nI n (by omega)] at hj; omega
      rw [hf j hj, hg j hj, hh, hh, if_pos (by omega), if_pos h48]
      exact q3 j hj
theorem P_list {M : Mem} (H : Inv M) : f_X11_list M (fun r M1 => f_X12_list M1 (fun r' M2 => r' = r ∧ Inv M2)) := by
  obtain ⟨n, hn, en⟩ := nat_of (n := 24) H.P.2.1 H.P.2.2.1 (by decide)
  unfold f_X11_list f_X9_tellList f_X12_list
  refine s_lst (n := n) hn (by rw [mset_row, upd_n _ _ (by decide)]; exact en) ?_
  refine s_lstM ⟨rfl, ?_⟩
  simp only [mset_at, mput_at]
  have e : mput (mput (mset M 4 11 (M 1 0)) 11 (fun j => if j < n then M 9 j else M 11 j)) 12 (fun j => if j < n then M 10 j else M 12 j) 287 0 = M 1 0 := by
    rw [mput_n _ _ (by decide), mput_n _ _ (by decide), mset_ne _ _ _ (by decide)]
    exact H.D.1
  have := i_list H (f := fun j => if j < n then M 9 j else M 11 j) (g := fun j => if j < n then M 10 j else M 12 j) (h := fun j => if j < 48 then M 292 j else M 293 j) (fun j hj => by rw [en, nn_nI n (by omega)] at hj; exact if_pos hj) (fun j hj => by rw [en, nn_nI n (by omega)] at hj; exact if_pos hj) (fun _ => rfl)
  simp
  rw [mset_ne M 11 (M 1 0) (show 287 ≠ 4 by decide), mset_ne M 11 (M 1 0) (show 292 ≠ 4 by decide), mset_ne M 11 (M 1 0) (show 293 ≠ 4 by decide), show M 287 0 = M 1 0 from H.D.1]
  exact this
