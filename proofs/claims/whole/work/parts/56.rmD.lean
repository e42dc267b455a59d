/-! THE READER OF TEXTS (the model's): tests, closings, joins, ends -/
theorem dgN_lt (sg : Nat → Int32) {k p : Nat} {v : Int32} (h : isDg (sg p) = true) : p < (dgN sg (k + 1) p v).1 := by
  rw [dgN, if_pos h]
  exact dgN_le sg k (p + 1) _
theorem unt_lt (sg : Nat → Int32) (p : Nat) (h : (unt sg p).2.1 = false) : p < (unt sg p).1 := by
  revert h
  unfold unt
  split
  · exact fun _ => Nat.lt_succ_self p
  · split
    · rename_i q
      exact fun _ => dgN_lt sg q
    · exact fun z => absurd (show true = false from z) (by decide)
theorem tst_lt (sg : Nat → Int32) (p : Nat) (h : (tst sg p).2.1 = false) : p < (tst sg p).1 := by
  have hs : (smm sg p).2.1 = false → p < (smm sg p).1 := by
    unfold smm
    split
    · rename_i q; exact fun z => absurd (q.symm.trans z) (by decide)
    · rename_i q
      have := unt_lt sg p (by simpa using q)
      have := smL_le sg 60 (unt sg p).1 (unt sg p).2.2
      exact fun _ => by omega
  revert h
  unfold tst
  split
  · exact fun z => absurd (show true = false from z) (by decide)
  · rename_i q
    have := hs (by simpa using q)
    split
    · have := smm_le sg ((smm sg p).1 + 1); exact fun _ => by dsimp only; omega
    · exact fun z => absurd (show true = false from z) (by decide)
theorem MSk.pushV {M0 : Mem} {n : Nat} {M : Mem} {p d : Nat} {sg : List Int32} {vl : List Bool} (h : MSk M0 n M p d sg vl) (hl : vl.length ≤ 39) (w : Bool) :
    MSk M0 n (mset (mset M 303 vl.length (bi w)) 287 27 (M 287 27 + 1)) p d sg (w :: vl) := by
  obtain ⟨h1, h2, h3, h4, h5, h6, h7, h8, h9, h10, h11⟩ := h
  refine ⟨⟨fun c c1 c2 c3 => ?_, fun k k1 k2 k3 k4 k5 => ?_⟩, ?_, ?_, ?_, ?_, ?_, ?_, ?_, h9, h10, by simp only [List.length_cons]; omega⟩
  · simp (disch := omega) only [mset_ne]; exact h1.1 c c1 c2 c3
  · simp (disch := omega) only [mset_ne, mset_row, upd_n]; exact h1.2 k k1 k2 k3 k4 k5
  · simp (disch := omega) only [mset_ne, mset_row, upd_n]; exact h2
  · simp (disch := omega) only [mset_ne, mset_row, upd_n]; exact h3
  · simp (disch := omega) only [mset_ne, mset_row, upd_n]; exact h4
  · simp (disch := omega) only [mset_ne, mset_row, upd_n]; exact h5
  · simp (disch := omega) only [mset_row, upd_s]; rw [h6, nI_1]; rfl
  · simp (disch := omega) only [mset_ne]; exact h7
  · refine ⟨?_, stI_cong (fun k hk => ?_) h8⟩
    · simp (disch := omega) only [mset_ne, mset_row, List.length_map, upd_s]
    · simp only [List.length_map] at hk
      simp (disch := omega) only [mset_ne, mset_row, upd_n]
theorem MSk.pop40 {M0 : Mem} {n : Nat} {M : Mem} {p d : Nat} {x : Int32} {sg : List Int32} {vl : List Bool} (h : MSk M0 n M p (d + 1) (x :: sg) vl) (hp : p < n) :
    MSk M0 n (mset (mset (mset (mset M 287 21 0) 287 25 (M 287 25 - 1)) 287 22 (M 287 22 - 1)) 287 20 (M 287 20 + 1)) (p + 1) d sg vl := by
  obtain ⟨h1, h2, h3, h4, h5, h6, h7, h8, h9, h10, h11⟩ := h
  simp only [List.length_cons] at h5 h10
  refine ⟨⟨fun c c1 c2 c3 => ?_, fun k k1 k2 k3 k4 k5 => ?_⟩, ?_, ?_, ?_, ?_, ?_, ?_, ?_, hp, by omega, h11⟩
  · simp (disch := omega) only [mset_ne]; exact h1.1 c c1 c2 c3
  · simp (disch := omega) only [mset_ne, mset_row, upd_n]; exact h1.2 k k1 k2 k3 k4 k5
  · simp (disch := omega) only [mset_row, upd_s]; rw [h2, nI_1]
  · simp (disch := omega) only [mset_row, upd_n, upd_s]
  · simp (disch := omega) only [mset_row, upd_n, upd_s]; rw [h4, ← nI_1, Int32.add_sub_cancel]
  · simp (disch := omega) only [mset_row, upd_n, upd_s]; rw [h5, nI_s1 (by omega) (by omega)]; rfl
  · simp (disch := omega) only [mset_row, upd_n]; exact h6
  · simp (disch := omega) only [mset_ne]; exact h7.2
  · simp (disch := omega) only [mset_ne]; exact h8
/-- the test of a part, and what ends behind it -/
theorem s_test {M0 : Mem} {n : Nat} {t : Nat → Int32} {F : FT} (hT : MTx M0 n t F) {D : Nat × Bool × (FT → Bool)} {M : Mem} {p k j : Nat} {x : Fm} {r : List Fm} {K : Int32 → Mem → Prop} {rr : Int32 × Mem → Prop} {c : Int32}
    (hs1 : ¬ sgn t n p = 33) (hs2 : ¬ sgn t n p = 40) (hO : rlO (sgn t n) k j p (x :: r) = D) (hd : dpt (x :: r) ≤ 5) (hn : n ≤ p + k) (hW : lW F (x :: r)) (h : MSk M0 n M p (dpt (x :: r)) (e1 x ++ eR r) (w1 F x ++ wR F r))
    (h2 : ∀ p' M', p < p' → Ph2 M0 n t F D p' M' → rr (0, M')) (hB : ∀ M', PhB M0 n D M' → rr (0, M')) : f_X12_readRule_b68 rr K 1 c M := by
  have eo : opn (sgn t n) j p (x :: r) = (p, false, x :: r) := by
    cases j with
    | zero => rfl
    | succ j => rw [opn, if_neg hs1, if_neg hs2]
  unfold rlO at hO
  rw [eo, if_neg (show ¬ false = true by decide)] at hO
  dsimp only at hO
  unfold f_X12_readRule_b68 f_X12_readRule_b237
  have hwl1 := w1_len F x
  have hwl2 := wR_len F r
  have hdc := dpt_cons x r
  have hlen : (w1 F x ++ wR F r).length ≤ 12 := by rw [List.length_append]; omega
  have hT' := hT.cong h.1
  have hcl : (M 287 27).toNatClampNeg = (w1 F x ++ wR F r).length := by rw [h.2.2.2.2.2.1, nI_cl _ (by omega)]
  have hvi : vp_in (M 287 27) 80 := by rw [h.2.2.2.2.2.1]; exact vin_nI (by omega) (by decide)
  refine ⟨fun z => absurd z (by decide), fun _ => m_test hT' h.ma (fun e v M2 hv hA => ⟨hvi, hv, fun _ => hB _ ?_, fun z => absurd z (by rw [hA.2.2.2.1]; decide)⟩) (fun e M2 hA => ⟨hvi, bi_bz _, fun z => absurd hA.2.2.2.1 z, fun _ => ?_⟩)⟩
  · rw [if_pos e] at hO
    subst hO
    have hm := h.1.ma hA
    refine ⟨⟨fun c c1 c2 c3 => ?_, fun k k1 k2 k3 k4 k5 => ?_⟩, ?_, ?_, rfl, hA.2.2.2.2⟩
    · simp (disch := omega) only [mset_ne]; exact hm.1 c c1 c2 c3
    · simp (disch := omega) only [mset_ne, mset_row, upd_n]; exact hm.2 k k1 k2 k3 k4 k5
    · simp (disch := omega) only [mset_ne, mset_row, upd_n]; exact hA.2.2.1
    · simp (disch := omega) only [mset_ne, mset_row, upd_n]; exact hA.2.2.2.1
  · rw [if_neg (by rw [e]; exact Bool.false_ne_true)] at hO
    rw [hcl]
    have hlt := tst_lt _ _ e
    have hp' := hA.2.2.2.2
    have hm := (h.to hA).pushV (by omega) ((tst (sgn t n) p).2.2 F)
    obtain ⟨o, a, y, z, m⟩ := x
    have hw := hW (o, a, y, z, m) (List.mem_cons_self ..)
    have ed : dpt ((o, a, y, z, m) :: r) = dpt ((o, false, y, (fun F => z F && ((tst (sgn t n) p).2.2 F != (m % 2 == 1))), 0) :: r) + m := by
      rw [dpt_cons, dpt_cons]; dsimp only; omega
    rw [ed] at hm
    have es : e1 (o, a, y, z, m) ++ eR r = List.replicate m 33 ++ ((if a = true then [38] else []) ++ ((if o = true then [124] else []) ++ eR r)) := by
      unfold e1; simp only [List.append_assoc]
    have ew : w1 F (o, a, y, z, m) ++ wR F r = (if a = true then [z F] else []) ++ ((if o = true then [y F] else []) ++ wR F r) := by
      unfold w1; simp only [List.append_assoc]
    rw [es] at hm
    rw [ew] at hm ⊢
    refine m_partEnds (o_top o r) hm (fun M' hM' => h2 _ M' hlt ?_)
    refine ⟨k, 5, o, false, y, _, r, hO, ?_, by omega, by omega, hw.1, fun w hw' => hW w (List.mem_cons_of_mem _ hw'), ?_⟩
    · rw [dpt_cons] at hd; omega
    · have : (if a = true then z F else true) = z F := by
        cases a with
        | true => rfl
        | false => exact (hw.2 rfl).symm
      rw [this] at hM'
      exact hM'
theorem clo_no {sg : Nat → Int32} {j p : Nat} {l : List Fm} (h : ¬ (1 < l.length ∧ sg p = 41)) : clo sg j p l = (p, l) := by
  cases j with
  | zero => rfl
  | succ j => unfold clo; exact if_neg h
theorem rlC_no {sg : Nat → Int32} {k j p : Nat} {o a : Bool} {y z : FT → Bool} {m : Nat} {r : List Fm} (h : ¬ (1 < ((o, a, y, z, m) :: r).length ∧ sg p = 41)) (h1 : ¬ sg p = 38) (h2 : ¬ sg p = 124) : rlC sg k j p ((o, a, y, z, m) :: r) = fin sg p ((o, a, y, z, m) :: r) := by
  unfold rlC
  rw [clo_no h]
  have : joi sg p ((o, a, y, z, m) :: r) = (p, false, (o, a, y, z, m) :: r) := by rw [joi, if_neg h1, if_neg h2]
  dsimp only
  rw [this]
  exact if_neg (show ¬ false = true by decide)
theorem s_end {M0 : Mem} {n : Nat} {t : Nat → Int32} {F : FT} {D : Nat × Bool × (FT → Bool)} {M : Mem} {p : Nat} (hs : sgn t n p = -1) (h : Ph2 M0 n t F D p M) {K : Int32 → Mem → Prop} (hK : ∀ v M', RuM M0 n F D v M' → K v M') : f_X12_readRule_b240 K M := by
  obtain ⟨k, j, o, a, y, z, r, hC, hj, hd, hn, hw, hW, h⟩ := h
  rw [rlC_no (fun q => by rw [hs] at q; exact absurd q.2 (by decide)) (by rw [hs]; decide) (by rw [hs]; decide)] at hC
  subst hC
  unfold f_X12_readRule_b240 f_X12_readRule_b264 f_X12_readRule_b267 f_X12_readRule_b287 f_X12_readRule_b288
  have hy : (if o = true then y F else false) = y F := by
    cases o with
    | true => rfl
    | false => exact (hw rfl).symm
  refine ⟨fun q => absurd h.2.2.1 q, fun _ => m_orsEnd (eR_top r).2.2 h (fun M' hM' => ?_)⟩
  rw [hy] at hM'
  have hlen := hM'.2.2.2.2.2.2.2.2.2.1
  have l6 : (nI (eR r).length ≤ 0) ↔ (eR r).length ≤ 0 := nI_le_iff (b := 0) (by omega) (by omega)
  rw [hM'.2.2.2.2.1, l6]
  have hfr : ∀ v, MF M0 (mset M' 287 21 v) ∧ (mset M' 287 21 v) 287 20 = nI p := fun v => ⟨hM'.1.set21 v, by rw [mset_row, upd_n _ _ (by decide)]; exact hM'.2.1⟩
  have hpn := hM'.2.2.2.2.2.2.2.2.1
  refine ⟨fun c => ⟨bz0, ?_⟩, fun c => ⟨bz1, ?_⟩⟩
  · cases r with
    | cons x r => simp [eR] at c
    | nil =>
      rw [mset_eq, mset_ne _ _ _ (by decide)]
      have hv : M' 303 0 = bi (y F || z F) := (hM'.2.2.2.2.2.2.2.1).1
      rw [hv]
      have hf : (fin (sgn t n) p [(o, a, y, z, 0)]).2.1 = false := by unfold fin; simp [hs]
      refine ⟨fun q => absurd rfl q, fun _ => ⟨fun q => ⟨bz0, hK 0 _ ⟨bz0, (hfr 0).1, (hfr 0).2, hpn, Or.inr ⟨hf, mset_eq _ _ _ _, ?_⟩⟩⟩, fun q => ⟨bz1, hK 1 _ ⟨bz1, (hfr 0).1, (hfr 0).2, hpn, Or.inr ⟨hf, mset_eq _ _ _ _, ?_⟩⟩⟩⟩⟩
      · exact q.symm
      · show (1 : Int32) = bi (y F || z F)
        cases hq : (y F || z F) with
        | true => rfl
        | false => rw [hq] at q; exact absurd rfl q
  · rw [mset_eq]
    have hf : (fin (sgn t n) p ((o, a, y, z, 0) :: r)).2.1 = true := by
      cases r with
      | nil => exact absurd (by simp [eR]) c
      | cons x r => unfold fin; simp
    exact ⟨fun _ => ⟨bz0, hK 0 _ ⟨bz0, (hfr 1).1, (hfr 1).2, hpn, Or.inl ⟨hf, mset_eq _ _ _ _⟩⟩⟩, fun q => absurd q (by decide)⟩
