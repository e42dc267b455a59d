/-! THE READER OF TEXTS (the model's): rules -/
def e1 (x : Fm) : List Int32 := List.replicate x.2.2.2.2 33 ++ ((if x.2.1 = true then [38] else []) ++ (if x.1 = true then [124] else []))
def eR : List Fm → List Int32
  | [] => []
  | x :: r => 40 :: (e1 x ++ eR r)
def w1 (F : FT) (x : Fm) : List Bool := (if x.2.1 = true then [x.2.2.2.1 F] else []) ++ (if x.1 = true then [x.2.2.1 F] else [])
def wR (F : FT) : List Fm → List Bool
  | [] => []
  | x :: r => w1 F x ++ wR F r
def oW (F : FT) (x : Fm) : Prop := x.1 = false → x.2.2.1 F = false
def aW (F : FT) (x : Fm) : Prop := x.2.1 = false → x.2.2.2.1 F = true
def lW (F : FT) (l : List Fm) : Prop := ∀ x, x ∈ l → oW F x ∧ aW F x
theorem e1_len (x : Fm) : (e1 x).length ≤ x.2.2.2.2 + 2 := by
  unfold e1
  rw [List.length_append, List.length_append, List.length_replicate]
  split <;> split <;> simp
theorem eR_len : ∀ l : List Fm, (eR l).length ≤ 3 * l.length + (l.map (fun x => x.2.2.2.2)).sum
  | [] => by simp [eR]
  | x :: r => by
    have h1 := e1_len x
    have h2 := eR_len r
    simp only [eR, List.length_cons, List.length_append, List.map_cons, List.sum_cons]
    omega
theorem w1_len (F : FT) (x : Fm) : (w1 F x).length ≤ 2 := by
  unfold w1
  split <;> split <;> simp
theorem wR_len (F : FT) : ∀ l : List Fm, (wR F l).length ≤ 2 * l.length
  | [] => by simp [wR]
  | x :: r => by
    have h1 := w1_len F x
    have h2 := wR_len F r
    simp only [wR, List.length_cons, List.length_append]
    omega
theorem eR_top (l : List Fm) : tpS (eR l) ≠ 33 ∧ tpS (eR l) ≠ 38 ∧ tpS (eR l) ≠ 124 := by
  cases l with
  | nil => exact ⟨by decide, by decide, by decide⟩
  | cons x r => exact ⟨show (40 : Int32) ≠ 33 by decide, show (40 : Int32) ≠ 38 by decide, show (40 : Int32) ≠ 124 by decide⟩
theorem o_top (o : Bool) (l : List Fm) : tpS ((if o = true then [124] else []) ++ eR l) ≠ 33 ∧ tpS ((if o = true then [124] else []) ++ eR l) ≠ 38 := by
  cases o with
  | false => exact ⟨(eR_top l).1, (eR_top l).2.1⟩
  | true => exact ⟨show (124 : Int32) ≠ 33 by decide, show (124 : Int32) ≠ 38 by decide⟩
/-- a sign comes on top, and the place one further -/
theorem MSk.push {M0 : Mem} {n : Nat} {M : Mem} {p d : Nat} {sg : List Int32} {vl : List Bool} (h : MSk M0 n M p d sg vl) (hp : p < n) (hl : sg.length ≤ 39) (x : Int32) :
    MSk M0 n (mset (mset (mset M 302 sg.length x) 287 25 (M 287 25 + 1)) 287 20 (M 287 20 + 1)) (p + 1) d (x :: sg) vl := by
  obtain ⟨h1, h2, h3, h4, h5, h6, h7, h8, h9, h10, h11⟩ := h
  refine ⟨⟨fun c c1 c2 c3 => ?_, fun k k1 k2 k3 k4 k5 => ?_⟩, ?_, ?_, ?_, ?_, ?_, ?_, ?_, hp, by simp only [List.length_cons]; omega, h11⟩
  · simp (disch := omega) only [mset_ne]; exact h1.1 c c1 c2 c3
  · simp (disch := omega) only [mset_ne, mset_row, upd_n]; exact h1.2 k k1 k2 k3 k4 k5
  · simp (disch := omega) only [mset_row, upd_s]; rw [h2, nI_1]
  · simp (disch := omega) only [mset_ne, mset_row, upd_n]; exact h3
  · simp (disch := omega) only [mset_ne, mset_row, upd_n]; exact h4
  · simp (disch := omega) only [mset_ne, mset_row, upd_n, upd_s]; rw [h5, nI_1]; rfl
  · simp (disch := omega) only [mset_ne, mset_row, upd_n]; exact h6
  · refine ⟨?_, stI_cong (fun k hk => ?_) h7⟩
    · simp (disch := omega) only [mset_ne, mset_row, upd_s]
    · simp (disch := omega) only [mset_ne, mset_row, upd_n]
  · simp (disch := omega) only [mset_ne]; exact h8
def rlC (sg : Nat → Int32) (k j p : Nat) (l : List Fm) : Nat × Bool × (FT → Bool) :=
  if (joi sg (clo sg j p l).1 (clo sg j p l).2).2.1 = true then rle sg k (joi sg (clo sg j p l).1 (clo sg j p l).2).1 (joi sg (clo sg j p l).1 (clo sg j p l).2).2.2 else fin sg (clo sg j p l).1 (clo sg j p l).2
def rlO (sg : Nat → Int32) (k j p : Nat) (l : List Fm) : Nat × Bool × (FT → Bool) :=
  if (opn sg j p l).2.1 = true then ((opn sg j p l).1, true, fun _ => false)
  else if (tst sg (opn sg j p l).1).2.1 = true then ((tst sg (opn sg j p l).1).1, true, fun _ => false)
  else rlC sg k 5 (tst sg (opn sg j p l).1).1 (enP (tst sg (opn sg j p l).1).2.2 (opn sg j p l).2.2)
theorem rle_O (sg : Nat → Int32) (k p : Nat) (l : List Fm) : rle sg (k + 1) p l = rlO sg k 6 p l := by
  rw [rle]; rfl
def Ph1 (M0 : Mem) (n : Nat) (t : Nat → Int32) (F : FT) (D : Nat × Bool × (FT → Bool)) (p : Nat) (M : Mem) : Prop :=
  ∃ k j x r, rlO (sgn t n) k j p (x :: r) = D ∧ 6 ≤ j + dpt (x :: r) ∧ dpt (x :: r) ≤ 5 ∧ n ≤ p + k ∧ lW F (x :: r) ∧ MSk M0 n M p (dpt (x :: r)) (e1 x ++ eR r) (w1 F x ++ wR F r)
def Ph2 (M0 : Mem) (n : Nat) (t : Nat → Int32) (F : FT) (D : Nat × Bool × (FT → Bool)) (p : Nat) (M : Mem) : Prop :=
  ∃ k j o a y z r, rlC (sgn t n) k j p ((o, a, y, z, 0) :: r) = D ∧ r.length ≤ j ∧ dpt ((o, a, y, z, 0) :: r) ≤ 5 ∧ n ≤ p + k ∧ (o = false → y F = false) ∧ lW F r ∧ MSk M0 n M p (dpt ((o, a, y, z, 0) :: r)) ((if o = true then [124] else []) ++ eR r) (z F :: ((if o = true then [y F] else []) ++ wR F r))
def PhB (M0 : Mem) (n : Nat) (D : Nat × Bool × (FT → Bool)) (M : Mem) : Prop := MF M0 M ∧ M 287 20 = nI D.1 ∧ M 287 21 = 1 ∧ D.2.1 = true ∧ D.1 ≤ n
def RuM (M0 : Mem) (n : Nat) (F : FT) (D : Nat × Bool × (FT → Bool)) (v : Int32) (M : Mem) : Prop :=
  bz v ∧ MF M0 M ∧ M 287 20 = nI D.1 ∧ D.1 ≤ n ∧ ((D.2.1 = true ∧ M 287 21 = 1) ∨ (D.2.1 = false ∧ M 287 21 = 0 ∧ v = bi (D.2.2 F)))
theorem s_bad {M0 : Mem} {n : Nat} {F : FT} {D : Nat × Bool × (FT → Bool)} {M : Mem} (h : PhB M0 n D M) {K : Int32 → Mem → Prop} (hK : ∀ v M', RuM M0 n F D v M' → K v M') : f_X12_readRule_b240 K M := by
  obtain ⟨h1, h2, h3, h4, h5⟩ := h
  unfold f_X12_readRule_b240 f_X12_readRule_b267 f_X12_readRule_b287 f_X12_readRule_b288
  rw [h3]
  exact ⟨fun _ => ⟨fun _ => ⟨bz0, hK 0 M ⟨bz0, h1, h2, h5, Or.inl ⟨h4, h3⟩⟩⟩, fun z => absurd z (by decide)⟩, fun z => absurd z (by decide)⟩
theorem MF.set21 {M0 M : Mem} (h : MF M0 M) (v : Int32) : MF M0 (mset M 287 21 v) :=
  ⟨fun c c1 c2 c3 => (mset_ne _ _ _ c1).trans (h.1 c c1 c2 c3), fun k k1 k2 k3 k4 k5 => by rw [mset_row, upd_n _ _ k2]; exact h.2 k k1 k2 k3 k4 k5⟩
theorem MSk.bad {M0 : Mem} {n : Nat} {M : Mem} {p d : Nat} {sg : List Int32} {vl : List Bool} (h : MSk M0 n M p d sg vl) {D : Nat × Bool × (FT → Bool)} (hD : D.1 = p) (hb : D.2.1 = true) : PhB M0 n D (mset M 287 21 1) := by
  refine ⟨h.1.set21 1, ?_, mset_eq _ _ _ _, hb, hD ▸ h.2.2.2.2.2.2.2.2.1⟩
  rw [mset_row, upd_n _ _ (by decide), h.2.1, hD]
/-- a sign that opens -/
theorem s_open {M0 : Mem} {n : Nat} {t : Nat → Int32} {F : FT} {D : Nat × Bool × (FT → Bool)} {M : Mem} {p k j : Nat} {x : Fm} {r : List Fm} {K : Int32 → Mem → Prop} {rr : Int32 × Mem → Prop} {c : Int32}
    (hc : c = 33 ∨ c = 40) (hs : sgn t n p = c) (hO : rlO (sgn t n) k j p (x :: r) = D) (hj : 6 ≤ j + dpt (x :: r)) (hd : dpt (x :: r) ≤ 5) (hn : n ≤ p + k) (hW : lW F (x :: r)) (h : MSk M0 n M p (dpt (x :: r)) (e1 x ++ eR r) (w1 F x ++ wR F r))
    (h1 : ∀ M', Ph1 M0 n t F D (p + 1) M' → rr (1, M')) (hB : ∀ M', PhB M0 n D M' → rr (1, M')) : f_X12_readRule_b60 rr K 1 c M := by
  have hp : p < n := sg_lt (fun z => by rw [z] at hs; rw [← hs] at hc; revert hc; decide)
  unfold f_X12_readRule_b60 f_X12_opens f_X12_readRule_b237
  have hl1 := e1_len x
  have hl2 := eR_len r
  have hdc := dpt_cons x r
  have hlen : (e1 x ++ eR r).length ≤ 22 := by rw [List.length_append]; omega
  have e5 : (M 287 22 = 5) ↔ dpt (x :: r) = 5 := by
    rw [h.2.2.2.1]
    exact nI_eq_iff (b := 5) (by omega) (by omega)
  rw [e5]
  unfold rlO at hO
  cases j with
  | zero => omega
  | succ j =>
  refine ⟨fun q => ?_, fun q => ?_⟩
  · have hlt : ¬ 5 ≤ dpt (x :: r) := by omega
    rw [h.2.2.2.2.1, nI_cl _ (by omega)]
    refine ⟨vin_nI (by omega) (by decide), ?_⟩
    have hm := h.push hp (by omega) c
    have eM : mset (mset (mset (mset M 287 22 (M 287 22 + 1)) 302 (e1 x ++ eR r).length c) 287 25 (nI (e1 x ++ eR r).length + 1)) 287 20 (M 287 20 + 1) = mset (mset (mset (mset M 302 (e1 x ++ eR r).length c) 287 25 (M 287 25 + 1)) 287 20 (M 287 20 + 1)) 287 22 (nI (dpt (x :: r) + 1)) := by
      funext c' k'
      rw [h.2.2.2.2.1, h.2.2.2.1, nI_1 (dpt (x :: r))]
      simp only [mset_at]
      grind
    have hm2 : MSk M0 n (mset (mset (mset (mset M 302 (e1 x ++ eR r).length c) 287 25 (M 287 25 + 1)) 287 20 (M 287 20 + 1)) 287 22 (nI (dpt (x :: r) + 1))) (p + 1) (dpt (x :: r) + 1) (c :: (e1 x ++ eR r)) (w1 F x ++ wR F r) := by
      generalize (mset (mset (mset M 302 (e1 x ++ eR r).length c) 287 25 (M 287 25 + 1)) 287 20 (M 287 20 + 1)) = Mq at *
      obtain ⟨g1, g2, g3, g4, g5, g6, g7, g8, g9, g10, g11⟩ := hm
      refine ⟨⟨fun c c1 c2 c3 => ?_, fun k k1 k2 k3 k4 k5 => ?_⟩, ?_, ?_, ?_, ?_, ?_, ?_, ?_, g9, g10, g11⟩
      · simp (disch := omega) only [mset_ne]; exact g1.1 c c1 c2 c3
      · simp (disch := omega) only [mset_row, upd_n]; exact g1.2 k k1 k2 k3 k4 k5
      · simp (disch := omega) only [mset_row, upd_n]; exact g2
      · simp (disch := omega) only [mset_row, upd_n]; exact g3
      · rw [mset_eq]
      · simp (disch := omega) only [mset_row, upd_n]; exact g5
      · simp (disch := omega) only [mset_row, upd_n]; exact g6
      · simp (disch := omega) only [mset_ne]; exact g7
      · simp (disch := omega) only [mset_ne]; exact g8
    rw [eM]
    refine h1 _ ?_
    rcases hc with hc | hc
    · rw [hc] at hs hm2 ⊢
      have eo : opn (sgn t n) (j + 1) p (x :: r) = opn (sgn t n) j (p + 1) (adN (x :: r)) := by rw [opn, if_pos hs, if_neg hlt]
      rw [eo] at hO
      obtain ⟨o, a, y, z, m⟩ := x
      have ed : dpt ((o, a, y, z, m + 1) :: r) = dpt ((o, a, y, z, m) :: r) + 1 := by rw [dpt_cons, dpt_cons]; dsimp only; omega
      refine ⟨k, j, (o, a, y, z, m + 1), r, hO, by omega, by omega, by omega, ?_, ?_⟩
      · intro w hw
        rcases List.mem_cons.mp hw with rfl | hw
        · exact hW (o, a, y, z, m) (List.mem_cons_self ..)
        · exact hW w (List.mem_cons_of_mem _ hw)
      · rw [ed]; exact hm2
    · rw [hc] at hs hm2 ⊢
      have eo : opn (sgn t n) (j + 1) p (x :: r) = opn (sgn t n) j (p + 1) (fmZ :: x :: r) := by rw [opn, if_neg (by rw [hs]; decide), if_pos hs, if_neg hlt]
      rw [eo] at hO
      have ed : dpt (fmZ :: x :: r) = dpt (x :: r) + 1 := by
        rw [dpt_cons, hdc]; simp [fmZ]; omega
      refine ⟨k, j, fmZ, x :: r, hO, by omega, by omega, by omega, ?_, ?_⟩
      · intro w hw
        rcases List.mem_cons.mp hw with rfl | hw
        · exact ⟨fun _ => rfl, fun _ => rfl⟩
        · exact hW w hw
      · rw [ed]; exact hm2
  · have hge : 5 ≤ dpt (x :: r) := by omega
    refine hB _ ?_
    rcases hc with hc | hc
    · rw [hc] at hs
      have eo : opn (sgn t n) (j + 1) p (x :: r) = (p, true, x :: r) := by rw [opn, if_pos hs, if_pos hge]
      rw [eo, if_pos rfl] at hO
      subst hO
      exact h.bad rfl rfl
    · rw [hc] at hs
      have eo : opn (sgn t n) (j + 1) p (x :: r) = (p, true, x :: r) := by rw [opn, if_neg (by rw [hs]; decide), if_pos hs, if_pos hge]
      rw [eo, if_pos rfl] at hO
      subst hO
      exact h.bad rfl rfl
