/-! THE READER OF TEXTS (the model's): the two stacks -/
def stI (f : Nat → Int32) : List Int32 → Prop
  | [] => True
  | x :: r => f r.length = x ∧ stI f r
theorem stI_cong {f g : Nat → Int32} : ∀ {l : List Int32}, (∀ k, k < l.length → g k = f k) → stI f l → stI g l
  | [], _, _ => trivial
  | x :: r, h, ⟨h1, h2⟩ => ⟨(h r.length (by simp)).trans h1, stI_cong (fun k hk => h k (by simp; omega)) h2⟩
def MF (M0 M : Mem) : Prop := (∀ c, c ≠ 287 → c ≠ 302 → c ≠ 303 → M c = M0 c) ∧ (∀ k, k ≠ 20 → k ≠ 21 → k ≠ 22 → k ≠ 25 → k ≠ 27 → M 287 k = M0 287 k)
def MSk (M0 : Mem) (n : Nat) (M : Mem) (p d : Nat) (sg : List Int32) (vl : List Bool) : Prop :=
  MF M0 M ∧ M 287 20 = nI p ∧ M 287 21 = 0 ∧ M 287 22 = nI d ∧ M 287 25 = nI sg.length ∧ M 287 27 = nI vl.length ∧ stI (M 302) sg ∧ stI (M 303) (vl.map bi) ∧ p ≤ n ∧ sg.length ≤ 40 ∧ vl.length ≤ 40
theorem MTx.cong {M0 M : Mem} {n : Nat} {t : Nat → Int32} {F : FT} (h : MTx M0 n t F) (hM : MF M0 M) : MTx M n t F := by
  obtain ⟨t1, t2, t3, t4, t5⟩ := h
  refine ⟨t1, ?_, t3, ?_, ?_⟩
  · rw [hM.2 19 (by decide) (by decide) (by decide) (by decide) (by decide)]; exact t2
  · rw [hM.2 17 (by decide) (by decide) (by decide) (by decide) (by decide), hM.2 18 (by decide) (by decide) (by decide) (by decide) (by decide), hM.1 296 (by decide) (by decide) (by decide), hM.1 297 (by decide) (by decide) (by decide)]; exact t4
  · rw [hM.1 301 (by decide) (by decide) (by decide)]; exact t5
theorem MSk.ma {M0 : Mem} {n : Nat} {M : Mem} {p d : Nat} {sg : List Int32} {vl : List Bool} (h : MSk M0 n M p d sg vl) : MA M n M p false :=
  ⟨fun _ _ => rfl, fun _ _ _ => rfl, h.2.1, h.2.2.1, h.2.2.2.2.2.2.2.2.1⟩
theorem MSk.to {M0 : Mem} {n : Nat} {M : Mem} {p d : Nat} {sg : List Int32} {vl : List Bool} (h : MSk M0 n M p d sg vl) {M' : Mem} {p' : Nat} (hA : MA M n M' p' false) : MSk M0 n M' p' d sg vl := by
  obtain ⟨h1, h2, h3, h4, h5, h6, h7, h8, h9, h10, h11⟩ := h
  obtain ⟨a1, a2, a3, a4, a5⟩ := hA
  refine ⟨⟨fun c c1 c2 c3 => (a1 c c1).trans (h1.1 c c1 c2 c3), fun k k1 k2 k3 k4 k5 => (a2 k k1 k2).trans (h1.2 k k1 k2 k3 k4 k5)⟩, a3, a4, (a2 _ (by decide) (by decide)).trans h4, (a2 _ (by decide) (by decide)).trans h5, (a2 _ (by decide) (by decide)).trans h6, ?_, ?_, a5, h10, h11⟩
  · rw [a1 302 (by decide)]; exact h7
  · rw [a1 303 (by decide)]; exact h8
theorem MF.ma {M0 M M' : Mem} {n p : Nat} {b : Bool} (h1 : MF M0 M) (hA : MA M n M' p b) : MF M0 M' :=
  ⟨fun c c1 c2 c3 => (hA.1 c c1).trans (h1.1 c c1 c2 c3), fun k k1 k2 k3 k4 k5 => (hA.2.1 k k1 k2).trans (h1.2 k k1 k2 k3 k4 k5)⟩
def tpS : List Int32 → Int32
  | [] => 0
  | x :: _ => x
theorem m_top {M0 : Mem} {n : Nat} {M : Mem} {p d : Nat} {sg : List Int32} {vl : List Bool} (h : MSk M0 n M p d sg vl) {K : Int32 → Mem → Prop} (hK : K (tpS sg) M) : f_X12_topSign M K := by
  obtain ⟨h1, h2, h3, h4, h5, h6, h7, h8, h9, h10, h11⟩ := h
  unfold f_X12_topSign f_X12_topSign_b22
  rw [h5]
  cases sg with
  | nil => exact ⟨fun z => absurd rfl z, fun _ => hK⟩
  | cons x r =>
    have e : nI (x :: r).length - 1 = nI r.length := nI_s1 (by simp) (by omega)
    rw [e, nI_cl _ (by simp at h10; omega), h7.1]
    refine ⟨fun _ => ⟨vin_nI (by simp at h10; omega) (by decide), hK⟩, fun z => ?_⟩
    exact absurd z (by
      rw [show (0 : Int32) = nI 0 from rfl, nI_eq_iff (by omega) (by omega)]; simp)
/-- the top value changes, one sign goes -/
theorem MSk.popS {M0 : Mem} {n : Nat} {M : Mem} {p d : Nat} {x : Int32} {sg : List Int32} {v : Bool} {vl : List Bool} (h : MSk M0 n M p (d + 1) (x :: sg) (v :: vl)) (w : Bool) :
    MSk M0 n (mset (mset (mset M 303 vl.length (bi w)) 287 25 (M 287 25 - 1)) 287 22 (M 287 22 - 1)) p d sg (w :: vl) := by
  obtain ⟨h1, h2, h3, h4, h5, h6, h7, h8, h9, h10, h11⟩ := h
  simp only [List.length_cons] at h5 h6 h10 h11
  refine ⟨⟨fun c c1 c2 c3 => ?_, fun k k1 k2 k3 k4 k5 => ?_⟩, ?_, ?_, ?_, ?_, ?_, ?_, ?_, h9, by omega, by simp only [List.length_cons]; omega⟩
  · simp (disch := omega) only [mset_ne]; exact h1.1 c c1 c2 c3
  · simp (disch := omega) only [mset_ne, mset_row, upd_n]; exact h1.2 k k1 k2 k3 k4 k5
  · simp (disch := omega) only [mset_ne, mset_row, upd_n]; exact h2
  · simp (disch := omega) only [mset_ne, mset_row, upd_n]; exact h3
  · simp (disch := omega) only [mset_ne, mset_row, upd_s]; rw [h4, ← nI_1, Int32.add_sub_cancel]
  · simp (disch := omega) only [mset_ne, mset_row, upd_n, upd_s]; rw [h5, nI_s1 (by omega) (by omega)]; rfl
  · simp (disch := omega) only [mset_ne, mset_row, upd_n]; rw [h6]; rfl
  · simp (disch := omega) only [mset_ne]; exact h7.2
  · simp only [List.map_cons] at h8 ⊢
    refine ⟨?_, stI_cong (fun k hk => ?_) h8.2⟩
    · simp (disch := omega) only [mset_ne, mset_row, List.length_map, upd_s]
    · simp only [List.length_map] at hk
      simp (disch := omega) only [mset_ne, mset_row, upd_n]
/-- two values become one, one sign goes -/
theorem MSk.two {M0 : Mem} {n : Nat} {M : Mem} {p d : Nat} {x : Int32} {sg : List Int32} {v u : Bool} {vl : List Bool} (h : MSk M0 n M p d (x :: sg) (v :: u :: vl)) (w : Bool) :
    MSk M0 n (mset (mset (mset M 287 27 (M 287 27 - 1)) 303 vl.length (bi w)) 287 25 (M 287 25 - 1)) p d sg (w :: vl) := by
  obtain ⟨h1, h2, h3, h4, h5, h6, h7, h8, h9, h10, h11⟩ := h
  simp only [List.length_cons] at h5 h6 h10 h11
  refine ⟨⟨fun c c1 c2 c3 => ?_, fun k k1 k2 k3 k4 k5 => ?_⟩, ?_, ?_, ?_, ?_, ?_, ?_, ?_, h9, by omega, by simp only [List.length_cons]; omega⟩
  · simp (disch := omega) only [mset_ne]; exact h1.1 c c1 c2 c3
  · simp (disch := omega) only [mset_ne, mset_row, upd_n]; exact h1.2 k k1 k2 k3 k4 k5
  · simp (disch := omega) only [mset_ne, mset_row, upd_n]; exact h2
  · simp (disch := omega) only [mset_ne, mset_row, upd_n]; exact h3
  · simp (disch := omega) only [mset_ne, mset_row, upd_n]; exact h4
  · simp (disch := omega) only [mset_ne, mset_row, upd_n, upd_s]; rw [h5, nI_s1 (by omega) (by omega)]; rfl
  · simp (disch := omega) only [mset_ne, mset_row, upd_n, upd_s]; rw [h6, nI_s1 (by omega) (by omega)]; rfl
  · simp (disch := omega) only [mset_ne]; exact h7.2
  · simp only [List.map_cons] at h8 ⊢
    refine ⟨?_, stI_cong (fun k hk => ?_) h8.2.2⟩
    · simp (disch := omega) only [mset_ne, mset_row, List.length_map, upd_s]
    · simp only [List.length_map] at hk
      simp (disch := omega) only [mset_ne, mset_row, upd_n]
theorem MSk.v1 {M0 : Mem} {n : Nat} {M : Mem} {p d : Nat} {sg : List Int32} {v : Bool} {vl : List Bool} (h : MSk M0 n M p d sg (v :: vl)) : M 287 27 - 1 = nI vl.length ∧ M 303 vl.length = bi v ∧ vl.length ≤ 39 := by
  obtain ⟨h1, h2, h3, h4, h5, h6, h7, h8, h9, h10, h11⟩ := h
  simp only [List.length_cons] at h6 h11
  simp only [List.map_cons] at h8
  refine ⟨by rw [h6, nI_s1 (by omega) (by omega)]; rfl, by have := h8.1; rwa [List.length_map] at this, by omega⟩
theorem MSk.v2 {M0 : Mem} {n : Nat} {M : Mem} {p d : Nat} {sg : List Int32} {v u : Bool} {vl : List Bool} (h : MSk M0 n M p d sg (v :: u :: vl)) : M 287 27 - 1 - 1 = nI vl.length ∧ M 303 vl.length = bi u ∧ M 287 27 - 1 = nI (vl.length + 1) ∧ M 303 (vl.length + 1) = bi v ∧ vl.length ≤ 38 := by
  obtain ⟨e1, e2, e3⟩ := h.v1
  obtain ⟨h1, h2, h3, h4, h5, h6, h7, h8, h9, h10, h11⟩ := h
  simp only [List.length_cons] at e1 e2 e3
  simp only [List.map_cons] at h8
  refine ⟨by rw [e1, nI_s1 (by omega) (by omega)]; rfl, by have := h8.2.1; rwa [List.length_map] at this, e1, e2, by omega⟩
theorem m_partEnds {M0 : Mem} {n : Nat} {M : Mem} {p d : Nat} {R : List Int32} {V : List Bool} (hR : tpS R ≠ 33 ∧ tpS R ≠ 38) {k : Nat} {a v z : Bool} (h : MSk M0 n M p (d + k) (List.replicate k 33 ++ ((if a = true then [38] else []) ++ R)) (v :: ((if a = true then [z] else []) ++ V))) {K : Mem → Prop}
    (hK : ∀ M', MSk M0 n M' p d R (((if a = true then z else true) && (v != (k % 2 == 1))) :: V) → K M') : f_X12_partEnds M K := by
  unfold f_X12_partEnds
  refine Lp.dn (fun k' a' => ∃ v' : Bool, MSk M0 n a' p (d + k') (List.replicate k' 33 ++ ((if a = true then [38] else []) ++ R)) (v' :: ((if a = true then [z] else []) ++ V)) ∧ (v' != (k' % 2 == 1)) = (v != (k % 2 == 1))) (fun k' M1 r hI hr => ?_) (q := k) ⟨v, h, rfl⟩
  obtain ⟨v', h', e⟩ := hI
  unfold f_X12_partEnds_c0
  refine m_top h' ?_
  cases k' with
  | succ k' =>
    refine ⟨fun c => absurd rfl c, fun _ => ?_⟩
    unfold f_X12_partEnds_b38
    obtain ⟨e1, e2, e3⟩ := h'.v1
    have hv : vp_in (nI ((if a = true then [z] else []) ++ V).length) 80 := vin_nI (by omega) (by decide)
    have hb : ∀ w : Bool, w = !v' → r (mset (mset (mset M1 303 ((if a = true then [z] else []) ++ V).length (bi w)) 287 25 (M1 287 25 - 1)) 287 22 (M1 287 22 - 1)) := fun w ew => by
      subst ew
      refine hr k' rfl _ ⟨!v', MSk.popS (x := 33) (d := d + k') h' (!v'), ?_⟩
      rw [← e]
      have : ((k' + 1) % 2 == 1) = !(k' % 2 == 1) := by
        rcases Nat.mod_two_eq_zero_or_one k' with q | q
        · rw [show (k' + 1) % 2 = 1 by omega, q]; rfl
        · rw [show (k' + 1) % 2 = 0 by omega, q]; rfl
      rw [this]
      cases v' <;> cases (k' % 2 == 1) <;> rfl
    rw [e1, nI_cl _ (by omega), e2]
    refine ⟨hv, fun c => ⟨hv, bz0, ?_⟩, fun c => ⟨hv, bz1, ?_⟩⟩
    · exact hb false (by cases v' <;> first | rfl | exact absurd rfl c)
    · exact hb true (by cases v' <;> first | rfl | exact absurd c (by decide))
  | zero =>
    have e' : v' = (v != (k % 2 == 1)) := by rw [← e]; cases v' <;> rfl
    rw [← e'] at hK
    cases a with
    | false =>
      refine ⟨fun _ => Lp.one (fun r' => ?_), fun c => absurd c hR.1⟩
      unfold f_X12_partEnds_c62
      exact m_top h' ⟨fun _ => hK M1 h', fun c => absurd c hR.2⟩
    | true =>
      refine ⟨fun _ => ?_, fun c => absurd (show (38 : Int32) = 33 from c) (by decide)⟩
      refine Lp.up (fun j a' => (j = 0 ∧ a' = M1) ∨ (MSk M0 n a' p d R ((z && v') :: V))) 1 (fun j a' r' hj hI hr' => ?_) (j := 0) (by omega) (Or.inl ⟨rfl, rfl⟩)
      unfold f_X12_partEnds_c62
      rcases hI with ⟨rfl, rfl⟩ | hI
      · refine m_top h' ⟨fun c => absurd rfl c, fun _ => ?_⟩
        have h'' : MSk M0 n a' p d (38 :: R) (v' :: z :: V) := h'
        obtain ⟨e1, e2, e3, e4, e5⟩ := h''.v2
        have hv : vp_in (nI V.length) 80 := vin_nI (by omega) (by decide)
        have hv2 : vp_in (nI (V.length + 1)) 80 := vin_nI (by omega) (by decide)
        have hb : ∀ w : Bool, w = (z && v') → r' (mset (mset (mset a' 287 27 (a' 287 27 - 1)) 303 V.length (bi w)) 287 25 (a' 287 25 - 1)) := fun w ew => by
          subst ew
          exact hr' (by omega) _ (Or.inr (h''.two _))
        unfold f_X12_partEnds_b121 f_X12_partEnds_b122
        rw [e1, nI_cl _ (by omega), e2, e3, nI_cl _ (by omega), e4]
        rw [e3] at hb
        refine ⟨hv, fun c => ⟨hv, bz0, ?_⟩, fun c => ⟨hv2, fun c2 => ⟨hv, bz0, ?_⟩, fun c2 => ⟨hv, bz1, ?_⟩⟩⟩
        · have := hb false (by cases z <;> first | rfl | exact absurd c (by decide))
          simp (disch := omega) only [mset_ne, mset_row, upd_n] at this ⊢
          exact this
        · have := hb false (by cases v' <;> first | (cases z <;> rfl) | exact absurd c2 (by decide))
          simp (disch := omega) only [mset_ne, mset_row, upd_n] at this ⊢
          exact this
        · have := hb true (by cases z <;> cases v' <;> first | rfl | exact absurd rfl c | exact absurd rfl c2)
          simp (disch := omega) only [mset_ne, mset_row, upd_n] at this ⊢
          exact this
      · exact m_top hI ⟨fun _ => hK a' hI, fun c => absurd c hR.2⟩
theorem m_orsEnd {M0 : Mem} {n : Nat} {M : Mem} {p d : Nat} {R : List Int32} {V : List Bool} (hR : tpS R ≠ 124) {o v y : Bool} (h : MSk M0 n M p d ((if o = true then [124] else []) ++ R) (v :: ((if o = true then [y] else []) ++ V))) {K : Mem → Prop}
    (hK : ∀ M', MSk M0 n M' p d R (((if o = true then y else false) || v) :: V) → K M') : f_X12_orsEnd M K := by
  unfold f_X12_orsEnd
  refine Lp.up (fun j a' => (j = 0 ∧ a' = M) ∨ (MSk M0 n a' p d R (((if o = true then y else false) || v) :: V))) 1 (fun j a' r' hj hI hr' => ?_) (j := 0) (by omega) (Or.inl ⟨rfl, rfl⟩)
  unfold f_X12_orsEnd_c0
  rcases hI with ⟨rfl, rfl⟩ | hI
  · cases o with
    | false => exact m_top h ⟨fun _ => hK a' h, fun c => absurd c hR⟩
    | true =>
      refine m_top h ⟨fun c => absurd rfl c, fun _ => ?_⟩
      have h'' : MSk M0 n a' p d (124 :: R) (v :: y :: V) := h
      obtain ⟨e1, e2, e3, e4, e5⟩ := h''.v2
      have hv : vp_in (nI V.length) 80 := vin_nI (by omega) (by decide)
      have hv2 : vp_in (nI (V.length + 1)) 80 := vin_nI (by omega) (by decide)
      have hb : ∀ w : Bool, w = (y || v) → r' (mset (mset (mset a' 287 27 (a' 287 27 - 1)) 303 V.length (bi w)) 287 25 (a' 287 25 - 1)) := fun w ew => by
        subst ew
        exact hr' (by omega) _ (Or.inr (h''.two _))
      unfold f_X12_orsEnd_b55 f_X12_orsEnd_b60
      rw [e1, nI_cl _ (by omega), e2, e3, nI_cl _ (by omega), e4]
      rw [e3] at hb
      refine ⟨hv, fun c => ⟨hv, bz1, ?_⟩, fun c => ⟨hv2, fun c2 => ⟨hv, bz0, ?_⟩, fun c2 => ⟨hv, bz1, ?_⟩⟩⟩
      · have := hb true (by cases y <;> first | rfl | exact absurd rfl c)
        simp (disch := omega) only [mset_ne, mset_row, upd_n] at this ⊢
        exact this
      · have := hb false (by cases v <;> cases y <;> first | rfl | exact absurd c (by decide) | exact absurd c2 (by decide))
        simp (disch := omega) only [mset_ne, mset_row, upd_n] at this ⊢
        exact this
      · have := hb true (by cases v <;> cases y <;> first | rfl | exact absurd rfl c2)
        simp (disch := omega) only [mset_ne, mset_row, upd_n] at this ⊢
        exact this
  · exact m_top hI ⟨fun _ => hK a' hI, fun c => absurd c hR⟩
