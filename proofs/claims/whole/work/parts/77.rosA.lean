/-! SHIFTS, pure: what the leaves cost; what is dominated changes nothing; alike ways go on alike -/
abbrev Ar : Type := Option (Nat × List Nat)
def lvR (r most : Nat) (w : Nat → Nat → Nat) (cs : List Nat) : Nat → List Nat → List Nat
  | 0, pre => if faO r pre = true then [0] else []
  | m + 1, pre => cs.flatMap (fun c => if stO r most pre c = true then (lvR r most w cs m (c :: pre)).map (· + w pre.length c) else [])
theorem lvR_mem {r most : Nat} {w : Nat → Nat → Nat} {cs : List Nat} {m : Nat} {pre : List Nat} {x : Nat} : x ∈ lvR r most w cs (m + 1) pre ↔ ∃ c, c ∈ cs ∧ stO r most pre c = true ∧ ∃ y, y ∈ lvR r most w cs m (c :: pre) ∧ x = y + w pre.length c := by
  rw [lvR, List.mem_flatMap]
  constructor
  · rintro ⟨c, h1, h2⟩
    by_cases q : stO r most pre c = true
    · rw [if_pos q, List.mem_map] at h2
      obtain ⟨y, h3, h4⟩ := h2
      exact ⟨c, h1, q, y, h3, h4.symm⟩
    · rw [if_neg q] at h2
      exact absurd h2 (List.not_mem_nil)
  · rintro ⟨c, h1, h2, y, h3, h4⟩
    refine ⟨c, h1, ?_⟩
    rw [if_pos h2, List.mem_map]
    exact ⟨y, h3, h4.symm⟩
def dmn (cost : Nat) (acc : Ar) (L : List Nat) : Prop := ∀ x, x ∈ L → ∃ p, acc = some p ∧ p.1 ≤ cost + x
def imp (acc acc' : Ar) : Prop := ∀ p, acc = some p → ∃ p', acc' = some p' ∧ p'.1 ≤ p.1
theorem imp.refl (acc : Ar) : imp acc acc := fun p h => ⟨p, h, Nat.le_refl _⟩
theorem imp.trans {a b c : Ar} (h : imp a b) (h' : imp b c) : imp a c := fun p e => by
  obtain ⟨q, e1, l1⟩ := h p e
  obtain ⟨q', e2, l2⟩ := h' q e1
  exact ⟨q', e2, Nat.le_trans l2 l1⟩
theorem dmn.imp {cost : Nat} {a b : Ar} {L : List Nat} (h : dmn cost a L) (h' : imp a b) : dmn cost b L := fun x hx => by
  obtain ⟨p, e, l⟩ := h x hx
  obtain ⟨q, e1, l1⟩ := h' p e
  exact ⟨q, e1, Nat.le_trans l1 l⟩
theorem upA_imp (acc : Ar) (x : Nat × List Nat) : imp acc (upA acc x) := by
  intro p e
  subst e
  unfold upA
  by_cases c : x.1 < p.1
  · exact ⟨x, if_pos c, Nat.le_of_lt c⟩
  · exact ⟨p, if_neg c, Nat.le_refl _⟩
theorem upA_le (acc : Ar) (x : Nat × List Nat) : ∃ p, upA acc x = some p ∧ p.1 ≤ x.1 := by
  cases acc with
  | none => exact ⟨x, rfl, Nat.le_refl _⟩
  | some b =>
    unfold upA
    by_cases c : x.1 < b.1
    · exact ⟨x, if_pos c, Nat.le_refl _⟩
    · exact ⟨b, if_neg c, Nat.le_of_not_lt c⟩
theorem rS_z (r most : Nat) (w : Nat → Nat → Nat) (cs pre : List Nat) (cost : Nat) (acc : Ar) : rS r most w cs 0 pre cost acc = if faO r pre then upA acc (cost, pre) else acc := rfl
/-- what is best behind some of the codes -/
def rA (r most : Nat) (w : Nat → Nat → Nat) (cs : List Nat) (m : Nat) (pre : List Nat) (cost : Nat) (l : List Nat) (acc : Ar) : Ar :=
  l.foldl (fun acc c => if stO r most pre c then rS r most w cs m (c :: pre) (cost + w pre.length c) acc else acc) acc
theorem rS_s (r most : Nat) (w : Nat → Nat → Nat) (cs : List Nat) (m : Nat) (pre : List Nat) (cost : Nat) (acc : Ar) : rS r most w cs (m + 1) pre cost acc = rA r most w cs m pre cost cs acc := rfl
theorem rA_snoc (r most : Nat) (w : Nat → Nat → Nat) (cs : List Nat) (m : Nat) (pre : List Nat) (cost : Nat) (l : List Nat) (c : Nat) (acc : Ar) :
    rA r most w cs m pre cost (l ++ [c]) acc = if stO r most pre c then rS r most w cs m (c :: pre) (cost + w pre.length c) (rA r most w cs m pre cost l acc) else rA r most w cs m pre cost l acc := by
  unfold rA
  rw [List.foldl_append]
  rfl
theorem rS_imp (r most : Nat) (w : Nat → Nat → Nat) (cs : List Nat) : ∀ m pre cost acc, imp acc (rS r most w cs m pre cost acc)
  | 0, pre, cost, acc => by
    rw [rS_z]
    split
    · exact upA_imp _ _
    · exact imp.refl _
  | m + 1, pre, cost, acc => by
    rw [rS_s]
    refine fold_inv (fun a => imp acc a) _ cs acc (imp.refl _) (fun b c _ hb => ?_)
    by_cases q : stO r most pre c = true
    · simp only [if_pos q]
      exact imp.trans hb (rS_imp r most w cs m _ _ _)
    · simp only [if_neg q]
      exact hb
theorem rA_imp (r most : Nat) (w : Nat → Nat → Nat) (cs : List Nat) (m : Nat) (pre : List Nat) (cost : Nat) (l : List Nat) (acc : Ar) : imp acc (rA r most w cs m pre cost l acc) := by
  refine fold_inv (fun a => imp acc a) _ l acc (imp.refl _) (fun b c _ hb => ?_)
  by_cases q : stO r most pre c = true
  · simp only [if_pos q]
    exact imp.trans hb (rS_imp r most w cs m _ _ _)
  · simp only [if_neg q]
    exact hb
theorem rS_dom (r most : Nat) (w : Nat → Nat → Nat) (cs : List Nat) : ∀ m pre cost acc, dmn cost acc (lvR r most w cs m pre) → rS r most w cs m pre cost acc = acc
  | 0, pre, cost, acc, h => by
    rw [rS_z]
    unfold lvR at h
    by_cases q : faO r pre = true
    · rw [if_pos q] at h ⊢
      obtain ⟨p, e, l⟩ := h 0 (List.mem_singleton.mpr rfl)
      subst e
      exact if_neg (by show ¬ cost < p.1; omega)
    · rw [if_neg q]
  | m + 1, pre, cost, acc, h => by
    rw [rS_s]
    refine fold_id _ _ _ (fun c hc => ?_)
    by_cases q : stO r most pre c = true
    · simp only [if_pos q]
      refine rS_dom r most w cs m (c :: pre) _ acc (fun x hx => ?_)
      obtain ⟨p, e, l⟩ := h (x + w pre.length c) (lvR_mem.mpr ⟨c, hc, q, x, hx, rfl⟩)
      exact ⟨p, e, by omega⟩
    · simp only [if_neg q]
theorem rS_made (r most : Nat) (w : Nat → Nat → Nat) (cs : List Nat) : ∀ m pre cost acc, dmn cost (rS r most w cs m pre cost acc) (lvR r most w cs m pre)
  | 0, pre, cost, acc => by
    rw [rS_z]
    unfold lvR
    by_cases q : faO r pre = true
    · rw [if_pos q, if_pos q]
      intro x hx
      rw [List.mem_singleton] at hx
      subst hx
      obtain ⟨p, e, l⟩ := upA_le acc (cost, pre)
      exact ⟨p, e, l⟩
    · rw [if_neg q, if_neg q]
      intro x hx
      exact absurd hx (List.not_mem_nil)
  | m + 1, pre, cost, acc => by
    intro x hx
    obtain ⟨c, hc, q, y, hy, rfl⟩ := lvR_mem.mp hx
    rw [rS_s]
    have key : ∀ (l : List Nat) (acc : Ar), c ∈ l → dmn (cost + w pre.length c) (rA r most w cs m pre cost l acc) (lvR r most w cs m (c :: pre)) := by
      intro l
      induction l with
      | nil => intro acc h; exact absurd h (List.not_mem_nil)
      | cons d l ih =>
        intro acc h
        by_cases e : c ∈ l
        · exact ih _ e
        · have hd : c = d := by
            rcases List.mem_cons.mp h with z | z
            · exact z
            · exact absurd z e
          subst hd
          have h1 := rS_made r most w cs m (c :: pre) (cost + w pre.length c) acc
          have h2 : rA r most w cs m pre cost (c :: l) acc = rA r most w cs m pre cost l (rS r most w cs m (c :: pre) (cost + w pre.length c) acc) := by
            unfold rA
            rw [List.foldl_cons, if_pos q]
          rw [h2]
          exact dmn.imp h1 (rA_imp r most w cs m pre cost l _)
    obtain ⟨p, e, l⟩ := key cs acc hc y hy
    exact ⟨p, e, by omega⟩
/-- no leaf costs less than what lies ahead at least -/
theorem lvR_least {r most : Nat} {w : Nat → Nat → Nat} {cs : List Nat} {la : Nat → Nat} (h4 : la 4 = 0) (hl : ∀ d c, d < 4 → c ∈ cs → la d ≤ w d c + la (d + 1)) : ∀ m pre, pre.length + m = 4 → ∀ x, x ∈ lvR r most w cs m pre → la pre.length ≤ x
  | 0, pre, hp, x, _ => by rw [show pre.length = 4 by omega, h4]; omega
  | m + 1, pre, hp, x, hx => by
    obtain ⟨c, hc, q, y, hy, rfl⟩ := lvR_mem.mp hx
    have := lvR_least h4 hl m (c :: pre) (by rw [List.length_cons]; omega) y hy
    rw [List.length_cons] at this
    have := hl pre.length c (by omega) hc
    omega
theorem cnN_c (c : Nat) (pre : List Nat) (i : Nat) : cnN (c :: pre) i = (if shN c i = 2 then 1 else 0) + cnN pre i := by
  unfold cnN
  rw [List.map_cons, List.sum_cons]
theorem cnS_c (c : Nat) (pre : List Nat) (i : Nat) : cnS (c :: pre) i = (if shN c i < 3 then 1 else 0) + cnS pre i := by
  unfold cnS
  rw [List.map_cons, List.sum_cons]
theorem cnN_le (pre : List Nat) (i : Nat) : cnN pre i ≤ pre.length := by
  induction pre with
  | nil => exact Nat.le_refl _
  | cons c l ih => rw [cnN_c, List.length_cons]; split <;> omega
theorem cnS_le (pre : List Nat) (i : Nat) : cnS pre i ≤ pre.length := by
  induction pre with
  | nil => exact Nat.le_refl _
  | cons c l ih => rw [cnS_c, List.length_cons]; split <;> omega
/-- two of them are too many nights apart, whatever the days ahead bring -/
def apart (m : Nat) (pre : List Nat) : Prop := ∃ i j, i < 4 ∧ j < 4 ∧ cnN pre j + 2 + m ≤ cnN pre i
theorem lvR_apart {r most : Nat} {w : Nat → Nat → Nat} {cs : List Nat} (hr : r / 4 % 2 = 1) : ∀ m pre, apart m pre → lvR r most w cs m pre = []
  | 0, pre, h => by
    obtain ⟨i, j, hi, hj, hc⟩ := h
    unfold lvR
    refine if_neg (fun z => ?_)
    unfold faO at z
    rw [hr] at z
    simp only [beq_self_eq_true, Bool.not_true, Bool.false_or, List.all_eq_true, List.mem_range, decide_eq_true_iff] at z
    have := z i hi j hj
    omega
  | m + 1, pre, h => by
    apply List.eq_nil_iff_forall_not_mem.mpr
    intro x hx
    obtain ⟨c, hc, q, y, hy, rfl⟩ := lvR_mem.mp hx
    obtain ⟨i, j, hi, hj, hcn⟩ := h
    rw [lvR_apart hr m (c :: pre) ⟨i, j, hi, hj, by rw [cnN_c, cnN_c]; split <;> split <;> omega⟩] at hy
    exact absurd hy (List.not_mem_nil)
theorem faO_iff {r : Nat} {pre : List Nat} : faO r pre = true ↔ (r / 4 % 2 = 1 → ¬ apart 0 pre) := by
  unfold faO apart
  rw [Bool.or_eq_true, Bool.not_eq_true', beq_eq_false_iff_ne]
  constructor
  · rintro (h | h) hr
    · exact absurd hr h
    · rintro ⟨i, j, hi, hj, hc⟩
      simp only [List.all_eq_true, List.mem_range, decide_eq_true_iff] at h
      have := h i hi j hj
      omega
  · intro h
    by_cases hr : r / 4 % 2 = 1
    · right
      simp only [List.all_eq_true, List.mem_range, decide_eq_true_iff]
      intro i hi j hj
      rcases Nat.lt_or_ge (cnN pre i) (cnN pre j + 2) with q | q
      · exact q
      · exact absurd ⟨i, j, hi, hj, q⟩ (h hr)
    · exact Or.inl hr
/-- what hangs on the day ahead -/
def rsB (pre : List Nat) (c : Nat) : Bool := match pre with | c' :: _ => rstOk c' c | [] => true
theorem stO_iff {r most : Nat} {pre : List Nat} {c : Nat} : stO r most pre c = true ↔ (r % 2 = 1 → rsB pre c = true) ∧ (r / 2 % 2 = 1 → ∀ i, i < 4 → cnS (c :: pre) i ≤ most) := by
  have : stO r most pre c = ((!(r % 2 == 1) || rsB pre c) && (!(r / 2 % 2 == 1) || (List.range 4).all (fun i => decide (cnS (c :: pre) i ≤ most)))) := by
    unfold stO rsB
    cases pre <;> rfl
  rw [this, Bool.and_eq_true, Bool.or_eq_true, Bool.or_eq_true, Bool.not_eq_true', Bool.not_eq_true', beq_eq_false_iff_ne, beq_eq_false_iff_ne]
  simp only [List.all_eq_true, List.mem_range, decide_eq_true_iff]
  constructor
  · rintro ⟨h1, h2⟩
    exact ⟨fun hr => h1.resolve_left (fun z => z hr), fun hr => h2.resolve_left (fun z => z hr)⟩
  · rintro ⟨h1, h2⟩
    constructor
    · by_cases q : r % 2 = 1
      · exact Or.inr (h1 q)
      · exact Or.inl q
    · by_cases q : r / 2 % 2 = 1
      · exact Or.inr (h2 q)
      · exact Or.inl q
/-- alike ways -/
def alk (r : Nat) (cs pre pre' : List Nat) : Prop := pre'.length = pre.length ∧ (r % 2 = 1 → ∀ c, c ∈ cs → rsB pre' c = rsB pre c) ∧ (r / 2 % 2 = 1 → ∀ i, i < 4 → cnS pre' i = cnS pre i) ∧ (r / 4 % 2 = 1 → ∀ i, i < 4 → cnN pre' i = cnN pre i)
theorem lvR_alk {r most : Nat} {w : Nat → Nat → Nat} {cs : List Nat} : ∀ m pre pre', alk r cs pre pre' → ∀ x, x ∈ lvR r most w cs m pre → x ∈ lvR r most w cs m pre'
  | 0, pre, pre', h, x, hx => by
    obtain ⟨h1, h2, h3, h4⟩ := h
    unfold lvR at hx ⊢
    by_cases q : faO r pre = true
    · rw [if_pos q] at hx
      rw [if_pos]
      · exact hx
      · rw [faO_iff] at q ⊢
        intro hr
        have hq := q hr
        rintro ⟨i, j, hi, hj, hc⟩
        rw [h4 hr i hi, h4 hr j hj] at hc
        exact hq ⟨i, j, hi, hj, hc⟩
    · rw [if_neg q] at hx
      exact absurd hx (List.not_mem_nil)
  | m + 1, pre, pre', h, x, hx => by
    obtain ⟨h1, h2, h3, h4⟩ := h
    obtain ⟨c, hc, q, y, hy, rfl⟩ := lvR_mem.mp hx
    rw [stO_iff] at q
    refine lvR_mem.mpr ⟨c, hc, stO_iff.mpr ⟨fun hr => by rw [h2 hr c hc]; exact q.1 hr, fun hr i hi => ?_⟩, y, lvR_alk m (c :: pre) (c :: pre') ⟨by rw [List.length_cons, List.length_cons, h1], fun _ _ _ => rfl, fun hr i hi => ?_, fun hr i hi => ?_⟩ y hy, by rw [h1]⟩
    · have := q.2 hr i hi
      rw [cnS_c] at this ⊢
      rw [h3 hr i hi]
      exact this
    · rw [cnS_c, cnS_c, h3 hr i hi]
    · rw [cnN_c, cnN_c, h4 hr i hi]
