/-! THE READER OF TEXTS (the model's): between parts; the whole -/
theorem s_join {M0 : Mem} {n : Nat} {t : Nat → Int32} {F : FT} {D : Nat × Bool × (FT → Bool)} {M : Mem} {p k d : Nat} {x : Fm} {r : List Fm} {sg : List Int32} {vl : List Bool} {K : Int32 → Mem → Prop} {rr : Int32 × Mem → Prop} {c : Int32}
    (hp : p < n) (hO : rle (sgn t n) k (p + 1) (x :: r) = D) (hd : dpt (x :: r) ≤ 5) (hn : n ≤ p + k) (hW : lW F (x :: r)) (hdd : d = dpt (x :: r)) (hsg : c :: sg = e1 x ++ eR r) (hvl : vl = w1 F x ++ wR F r) (h : MSk M0 n M p d sg vl)
    (h1 : ∀ M', Ph1 M0 n t F D (p + 1) M' → rr (1, M')) : f_X12_readRule_b133 rr K c M := by
  unfold f_X12_readRule_b133 f_X12_readRule_b237
  have hl1 := e1_len x
  have hl2 := eR_len r
  have hdc := dpt_cons x r
  have hlen : (c :: sg).length ≤ 22 := by rw [hsg, List.length_append]; omega
  simp only [List.length_cons] at hlen
  have hm := h.push hp (by omega) c
  rw [hsg] at hm
  subst hdd hvl
  rw [h.2.2.2.2.1] at hm ⊢
  rw [nI_cl _ (by omega)]
  obtain ⟨k', rfl⟩ : ∃ k', k = k' + 1 := ⟨k - 1, by omega⟩
  rw [rle_O] at hO
  exact ⟨vin_nI (by omega) (by decide), h1 _ ⟨k', 6, x, r, hO, by omega, hd, by omega, hW, hm⟩⟩
theorem joi38 {sg : Nat → Int32} {p : Nat} {o a : Bool} {y z : FT → Bool} {m : Nat} {r : List Fm} (h : sg p = 38) : joi sg p ((o, a, y, z, m) :: r) = (p + 1, true, (o, true, y, z, m) :: r) := by rw [joi, if_pos h]
theorem joi124 {sg : Nat → Int32} {p : Nat} {o a : Bool} {y z : FT → Bool} {m : Nat} {r : List Fm} (h : sg p = 124) : joi sg p ((o, a, y, z, m) :: r) = (p + 1, true, (true, false, (fun F => y F || z F), (fun _ => true), m) :: r) := by rw [joi, if_neg (by rw [h]; decide), if_pos h]
theorem s_two {M0 : Mem} {n : Nat} {t : Nat → Int32} {F : FT} {D : Nat × Bool × (FT → Bool)} {M : Mem} {p : Nat} (hp : p < n) (hne : ¬ sgn t n p = -1) (h : Ph2 M0 n t F D p M) {K : Int32 → Mem → Prop} {rr : Int32 × Mem → Prop}
    (h1 : ∀ M', Ph1 M0 n t F D (p + 1) M' → rr (1, M')) (h2 : ∀ M', Ph2 M0 n t F D (p + 1) M' → rr (0, M')) (hB : ∀ M', PhB M0 n D M' → rr (0, M')) : f_X12_readRule_b68 rr K 0 (sgn t n p) M := by
  obtain ⟨k, j, o, a, y, z, r, hC, hj, hd, hn, hw, hW, h⟩ := h
  unfold f_X12_readRule_b68 f_X12_readRule_b123 f_X12_readRule_b188 f_X12_readRule_b193 f_X12_readRule_b237
  have hy : (if o = true then y F else false) = y F := by
    cases o with
    | true => rfl
    | false => exact (hw rfl).symm
  have hdc := dpt_cons (o, a, y, z, 0) r
  have go38 : sgn t n p = 38 → f_X12_readRule_b133 rr K (sgn t n p) M := fun c => by
    have hC' := hC
    unfold rlC at hC'
    rw [clo_no (fun q => by rw [c] at q; exact absurd q.2 (by decide))] at hC'
    dsimp only at hC'
    rw [joi38 c, if_pos rfl] at hC'
    dsimp only at hC'
    rw [c]
    refine s_join (x := (o, true, y, z, 0)) (r := r) hp hC' ?_ hn ?_ ?_ ?_ ?_ h h1
    · rw [dpt_cons]; rw [hdc] at hd; exact hd
    · intro w hw'
      rcases List.mem_cons.mp hw' with rfl | hw'
      · exact ⟨hw, fun q => absurd (show true = false from q) (by decide)⟩
      · exact hW w hw'
    · rw [dpt_cons, dpt_cons]
    · rfl
    · rfl
  have go124 : sgn t n p = 124 → f_X12_orsEnd M (fun M9 => f_X12_readRule_b133 rr K (sgn t n p) M9) := fun c => by
    have hC' := hC
    unfold rlC at hC'
    rw [clo_no (fun q => by rw [c] at q; exact absurd q.2 (by decide))] at hC'
    dsimp only at hC'
    rw [joi124 c, if_pos rfl] at hC'
    dsimp only at hC'
    rw [c]
    refine m_orsEnd (eR_top r).2.2 h (fun M' hM' => ?_)
    rw [hy] at hM'
    refine s_join (x := (true, false, (fun F => y F || z F), (fun _ => true), 0)) (r := r) hp hC' ?_ hn ?_ ?_ ?_ ?_ hM' h1
    · rw [dpt_cons]; rw [hdc] at hd; exact hd
    · intro w hw'
      rcases List.mem_cons.mp hw' with rfl | hw'
      · exact ⟨fun q => absurd (show true = false from q) (by decide), fun _ => rfl⟩
      · exact hW w hw'
    · rw [dpt_cons, dpt_cons]
    · rfl
    · rfl
  refine ⟨fun _ => ⟨fun c => ⟨fun _ => go38 c, fun c2 => absurd (c.symm.trans c2) (by decide)⟩, fun c => ⟨fun c2 => ?_, fun c2 => ⟨fun c3 => absurd c2 c3, fun _ => go124 c2⟩⟩⟩, fun q => absurd rfl q⟩
  refine m_orsEnd (eR_top r).2.2 h (fun M' hM' => ?_)
  rw [hy] at hM'
  have bad : ¬ (1 < ((o, a, y, z, 0) :: r).length ∧ sgn t n p = 41) → bz 1 ∧ (¬ (1 : Int32) = 0 → rr (0, mset M' 287 21 1)) ∧ ((1 : Int32) = 0 → f_X12_partEnds (mset (mset (mset (mset M' 287 21 1) 287 25 (M' 287 25 - 1)) 287 22 (M' 287 22 - 1)) 287 20 (M' 287 20 + 1)) (fun M12 => rr (0, M12))) := fun q => by
    rw [rlC_no q c c2] at hC
    subst hC
    exact ⟨bz1, fun _ => hB _ (hM'.bad rfl (by unfold fin; simp [hne])), fun q => absurd q (by decide)⟩
  refine ⟨fun c3 => bad (fun q => c3 q.2), fun c3 => m_top hM' ⟨fun c4 => ⟨bz0, fun q => absurd rfl q, fun _ => ?_⟩, fun c4 => bad (fun q => ?_)⟩⟩
  · cases r with
    | nil => exact absurd (show (0 : Int32) = 40 from c4) (by decide)
    | cons x r =>
      have ed : dpt ((o, a, y, z, 0) :: x :: r) = dpt (x :: r) + 1 := by
        rw [dpt_cons]; unfold dpt; simp; omega
      rw [ed] at hM'
      have hpop := MSk.pop40 (x := 40) (sg := e1 x ++ eR r) hM' hp
      cases j with
      | zero => simp at hj
      | succ j =>
      have hC' := hC
      unfold rlC at hC'
      have ec : clo (sgn t n) (j + 1) p ((o, a, y, z, 0) :: x :: r) = clo (sgn t n) j (p + 1) (enP (fun F => y F || z F) (x :: r)) := by
        rw [clo.eq_def]
        exact if_pos ⟨by simp, c3⟩
      rw [ec] at hC'
      obtain ⟨o2, a2, y2, z2, m2⟩ := x
      have hw2 := hW (o2, a2, y2, z2, m2) (List.mem_cons_self ..)
      have ed2 : dpt ((o2, a2, y2, z2, m2) :: r) = dpt ((o2, false, y2, (fun F => z2 F && ((y F || z F) != (m2 % 2 == 1))), 0) :: r) + m2 := by
        rw [dpt_cons, dpt_cons]; dsimp only; omega
      rw [ed2] at hpop
      have es : e1 (o2, a2, y2, z2, m2) ++ eR r = List.replicate m2 33 ++ ((if a2 = true then [38] else []) ++ ((if o2 = true then [124] else []) ++ eR r)) := by
        unfold e1; simp only [List.append_assoc]
      have ew : wR F ((o2, a2, y2, z2, m2) :: r) = (if a2 = true then [z2 F] else []) ++ ((if o2 = true then [y2 F] else []) ++ wR F r) := by
        simp only [wR, w1, List.append_assoc]
      rw [es, ew] at hpop
      refine m_partEnds (o_top o2 r) hpop (fun M'' hM'' => h2 M'' ?_)
      have hd3 := hd
      rw [ed, ed2] at hd3
      refine ⟨k, j, o2, false, y2, (fun F => z2 F && ((y F || z F) != (m2 % 2 == 1))), r, hC', by simp at hj; omega, by omega, by omega, hw2.1, fun w hw' => hW w (List.mem_cons_of_mem _ hw'), ?_⟩
      have : (if a2 = true then z2 F else true) = z2 F := by
        cases a2 with
        | true => rfl
        | false => exact (hw2.2 rfl).symm
      rw [this] at hM''
      exact hM''
  · cases r with
    | nil => exact absurd q.1 (by simp)
    | cons x r => exact c4 rfl
theorem m_rule {M0 : Mem} {n : Nat} {t : Nat → Int32} {F : FT} (hT : MTx M0 n t F) {p : Nat} (h3 : M0 287 20 = nI p) (h21 : M0 287 21 = 0) (hp : p ≤ n) (hn : n ≤ p + 60) {K : Int32 → Mem → Prop}
    (hK : ∀ v M', RuM M0 n F (rle (sgn t n) 61 p [fmZ]) v M' → K v M') : f_X12_readRule M0 K := by
  unfold f_X12_readRule
  have hn60 := hT.1
  have hI : Ph1 M0 n t F (rle (sgn t n) 61 p [fmZ]) p (mset (mset (mset M0 287 25 0) 287 27 0) 287 22 0) := by
    refine ⟨60, 6, fmZ, [], (rle_O _ _ _ _).symm, by omega, by simp [dpt, fmZ], hn, ?_, ⟨fun c c1 c2 c3 => ?_, fun k k1 k2 k3 k4 k5 => ?_⟩, ?_, ?_, ?_, ?_, ?_, trivial, trivial, hp, by simp [e1, fmZ, eR], by simp [w1, fmZ, wR]⟩
    · intro w hw
      rcases List.mem_cons.mp hw with rfl | hw
      · exact ⟨fun _ => rfl, fun _ => rfl⟩
      · cases hw
    · simp (disch := omega) only [mset_ne]
    · simp (disch := omega) only [mset_row, upd_n]
    · simp (disch := omega) only [mset_row, upd_n]; exact h3
    · simp (disch := omega) only [mset_row, upd_n]; exact h21
    · simp (disch := omega) only [mset_row, upd_s]; rfl
    · simp (disch := omega) only [mset_row, upd_n, upd_s]; rfl
    · simp (disch := omega) only [mset_row, upd_n, upd_s]; rfl
  generalize rle (sgn t n) 61 p [fmZ] = D at hI hK
  refine Lp.dn (fun q a => (∃ p' M', n < p' + q ∧ ((a = (1, M') ∧ Ph1 M0 n t F D p' M') ∨ (a = (0, M') ∧ Ph2 M0 n t F D p' M'))) ∨ (∃ x M', a = (x, M') ∧ PhB M0 n D M')) (fun q a r hI hr => ?_) (q := n + 1) (Or.inl ⟨p, _, by omega, Or.inl ⟨rfl, hI⟩⟩)
  unfold f_X12_readRule_c17
  rcases hI with ⟨p', M', hq, ⟨rfl, hA⟩ | ⟨rfl, hA⟩⟩ | ⟨x, M', rfl, hA⟩
  · have hA' := hA
    obtain ⟨k, j, x, l, hO, hj, hd, hnk, hW, h⟩ := hA'
    have hpn := h.2.2.2.2.2.2.2.2.1
    obtain ⟨q', rfl⟩ : ∃ q', q = q' + 1 := ⟨q - 1, by omega⟩
    have r1 : ∀ {p2 M2}, p' < p2 → Ph1 M0 n t F D p2 M2 → r (1, M2) := fun {p2 M2} hlt hh => hr q' rfl _ (Or.inl ⟨p2, M2, by omega, Or.inl ⟨rfl, hh⟩⟩)
    have r2 : ∀ {p2 M2}, p' < p2 → Ph2 M0 n t F D p2 M2 → r (0, M2) := fun {p2 M2} hlt hh => hr q' rfl _ (Or.inl ⟨p2, M2, by omega, Or.inr ⟨rfl, hh⟩⟩)
    have rB : ∀ {x M2}, PhB M0 n D M2 → r (x, M2) := fun {x M2} hh => hr q' rfl _ (Or.inr ⟨x, M2, rfl, hh⟩)
    have hT' := hT.cong h.1
    unfold f_X12_readRule_b39
    refine ⟨fun z => absurd h.2.2.1 z, fun _ => ⟨fun _ => m_byte hT' h.ma ⟨fun z => absurd (show (1 : Int32) = 0 from z) (by decide), fun _ => ⟨fun c => ?_, fun c => ⟨fun c2 => ?_, fun c2 => ?_⟩⟩⟩, fun z => absurd (show (1 : Int32) = 0 from z) (by decide)⟩⟩
    · exact s_open (Or.inl c) rfl hO hj hd hnk hW h (fun M2 hh => r1 (Nat.lt_succ_self _) hh) (fun M2 hh => rB hh)
    · exact s_test hT c c2 hO hd hnk hW h (fun p2 M2 hlt hh => r2 hlt hh) (fun M2 hh => rB hh)
    · exact s_open (Or.inr c2) rfl hO hj hd hnk hW h (fun M2 hh => r1 (Nat.lt_succ_self _) hh) (fun M2 hh => rB hh)
  · have hA' := hA
    obtain ⟨k, j, o, a, y, z, l, hC, hj, hd, hnk, hw, hW, h⟩ := hA'
    have hpn := h.2.2.2.2.2.2.2.2.1
    obtain ⟨q', rfl⟩ : ∃ q', q = q' + 1 := ⟨q - 1, by omega⟩
    have hT' := hT.cong h.1
    have hle : (M' 287 19 ≤ M' 287 20) ↔ n ≤ p' := by
      rw [hT'.2.1, h.2.1]; exact nI_le_iff (by omega) (by omega)
    unfold f_X12_readRule_b39
    refine ⟨fun z => absurd h.2.2.1 z, fun _ => ⟨fun z => absurd rfl z, fun _ => ⟨fun c => ?_, fun c => m_byte hT' h.ma ⟨fun _ => ?_, fun z => absurd rfl z⟩⟩⟩⟩
    · exact s_end (if_neg (by have := hle.mp c; omega)) hA hK
    · have hlt : p' < n := by
        rcases Nat.lt_or_ge p' n with q | q
        · exact q
        · exact absurd (hle.mpr q) c
      have hne : ¬ sgn t n p' = -1 := by
        unfold sgn; rw [if_pos hlt]; exact hT.2.2.1 p'
      exact s_two hlt hne hA (fun M2 hh => hr q' rfl _ (Or.inl ⟨p' + 1, M2, by omega, Or.inl ⟨rfl, hh⟩⟩)) (fun M2 hh => hr q' rfl _ (Or.inl ⟨p' + 1, M2, by omega, Or.inr ⟨rfl, hh⟩⟩)) (fun M2 hh => hr q' rfl _ (Or.inr ⟨0, M2, rfl, hh⟩))
  · exact ⟨fun _ => s_bad hA hK, fun z => absurd (hA.2.2.1.symm.trans z) (by decide)⟩
