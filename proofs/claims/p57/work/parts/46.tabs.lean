/-! what the tables and the Statement say at the law's entry: the classes, the arrays' classes, the constants' arrays -/
theorem eqi_of {args : Array Value} {s : State} {t : Term} {z : Int32} (h : (Cond.eq t (.int z)).before args s = true) : t.eval args s none [] s = some (.int z) := by
  cases hv : t.eval args s none [] s with
  | none => simp [Cond.before, Cond.holds, Cond.value, hv] at h
  | some w =>
    have hz : (Term.int z).eval args s none [] s = some (.int z) := rfl
    simp only [Cond.before, Cond.holds, Cond.value, hv, hz] at h
    cases w <;> simp_all
theorem st_len {t : Term} {args : Array Value} {s : State} {z : Int32} {a : Addr} {cell : Cell} (h : (Term.length t).eval args s none [] s = some (.int z)) (ht : t.eval args s none [] s = some (.ref a)) (hc : s.arrayAt? a = some cell) : cell.slots.size < 2147483648 ∧ cell.slots.size.toInt32 = z := by
  simp only [Term.eval, Option.bind_eq_bind, ht, hc, Option.bind_some] at h
  by_cases hn : cell.slots.size < 2147483648
  · rw [if_pos hn] at h
    cases h
    exact ⟨hn, rfl⟩
  · rw [if_neg hn] at h
    cases h
theorem st_arr {args : Array Value} {s : State} {n : String} {L : Nat} {xs : Nat → Int32} (hL : L < 1000) (harr : (Cond.arrayOf (.static "WorksCouncil" n "[I") .int).before args s = true) (hlen : (Cond.eq (.length (.static "WorksCouncil" n "[I")) (.int (nI L))).before args s = true) (hel : ∀ j, j < L → (Cond.eq (.elem (.static "WorksCouncil" n "[I") (.int (nI j))) (.int (xs j))).before args s = true) : ∃ a, (Term.static "WorksCouncil" n "[I").eval args s none [] s = some (.ref a) ∧ va_X a L xs s s.heap ∧ a < s.heap.size := by
  have h1 := eqi_of hlen
  obtain ⟨a, cell, ha, hc, hv⟩ := Term.length_spec h1
  obtain ⟨g1, g2⟩ := st_len h1 ha hc
  obtain ⟨c1, -, -⟩ := State.arrayAt?_spec hc
  obtain ⟨i1, i2⟩ := Cond.arrayOf_spec harr ha c1
  have hsz : cell.slots.size = L := by
    have e : (nI cell.slots.size).toNatClampNeg = (nI L).toNatClampNeg := congrArg Int32.toNatClampNeg g2
    rw [nI_cl _ g1, nI_cl _ (by omega)] at e
    exact e
  refine ⟨a, ha, ⟨cell, c1, i1, i2, hsz, fun j hj => ?_⟩, (Array.getElem?_eq_some_iff.mp c1).1⟩
  obtain ⟨a2, j2, cell2, q1, q2, q3, q4, q5⟩ := Term.elem_spec (eqi_of (hel j hj))
  cases ha.symm.trans q1
  cases hc.symm.trans q3
  have hj2 : j2 = nI j := by
    have : some (Value.int (nI j)) = some (Value.int j2) := q2
    cases this
    rfl
  rw [hj2, nI_cl j (by omega)] at q5
  exact q5
theorem cl_kn {s : State} {args : Array Value} (hts : ∀ w ∈ TW, w.before args s = true) (ci : Nat) (h : ci < 12) : ∃ (cC : ClassId) (iS : Nat → Nat), u_Kn s (clS ci).1 (clS ci).2.1 (clS ci).2.2 cC iS := match ci, h with
  | 0, h => u_known hts (inU h) (hts _ wd_1_87)
  | 1, h => u_known hts (inU h) (hts _ wd_1_202)
  | 2, h => u_known hts (inU h) (hts _ wd_1_155)
  | 3, h => u_known hts (inU h) (hts _ wd_1_24)
  | 4, h => u_known hts (inU h) (hts _ wd_2_2)
  | 5, h => u_known hts (inU h) (hts _ wd_2_157)
  | 6, h => u_known hts (inU h) (hts _ wd_2_123)
  | 7, h => u_known hts (inU h) (hts _ wd_1_95)
  | 8, h => u_known hts (inU h) (hts _ wd_2_45)
  | 9, h => u_known hts (inU h) (hts _ wd_1_44)
  | 10, h => u_known hts (inU h) (hts _ wd_2_106)
  | 11, h => u_known hts (inU h) (hts _ wd_1_16)
theorem ar_prim {s : State} {args : Array Value} {ty : FieldType} (hp : ∀ C, ty ≠ .object C) (h : (Cond.arrayClass ty).before args s = true) : ∃ c, ArrOfT s c ty ∧ va_RA s c ty := by
  obtain ⟨c, k, comp, h1, h2, h3⟩ := Cond.arrayClass_spec h
  refine ⟨c, fun n z => ⟨fun k h => (by cases h), k, h2, comp, h3⟩, ?_⟩
  cases ty with
  | object C => exact absurd rfl (hp C)
  | _ => exact h1
theorem ar_arr {s : State} {args : Array Value} {ty : FieldType} (h : (Cond.arrayOver (.array ty)).before args s = true) : ∃ c, ArrOfT s c (.array ty) ∧ va_RA s c (.array ty) := by
  obtain ⟨comp, c, k, h1, h2, h3, h4, h5⟩ := arrayOverA_spec h
  exact ⟨c, fun n z => ⟨fun k h => (by cases h), k, h3, comp, h4⟩, h5⟩
theorem ar_obj {s : State} {args : Array Value} {C : String} (h : (Cond.arrayOver (.object C)).before args s = true) : ∃ c, ArrOfT s c (.object C) ∧ va_RA s c (.object C) := by
  obtain ⟨comp, c, k, h1, h2, h3, h4, h5⟩ := Cond.arrayOver_spec h
  exact ⟨c, fun n z => ⟨fun k h => (by cases h), k, h3, comp, h4⟩, k, comp, h3, h4, h1, h5⟩
theorem nw_all {s : State} {args : Array Value} (hts : ∀ w ∈ lw_tbl, w.before args s = true) : NwC s :=
  ⟨List.forall_mem_cons.mpr ⟨va_Nw.of rfl (hts _ wd_1_45), List.forall_mem_cons.mpr ⟨va_Nw.of rfl (hts _ wd_1_88), List.forall_mem_cons.mpr ⟨va_Nw.of rfl (hts _ wd_1_96), List.forall_mem_cons.mpr ⟨va_Nw.of rfl (hts _ wd_1_156), List.forall_mem_cons.mpr ⟨va_Nw.of rfl (hts _ wd_1_203), List.forall_mem_cons.mpr ⟨va_Nw.of rfl (hts _ wd_2_3), List.forall_mem_cons.mpr ⟨va_Nw.of rfl (hts _ wd_2_46), List.forall_mem_cons.mpr ⟨va_Nw.of rfl (hts _ wd_2_107), List.forall_mem_cons.mpr ⟨va_Nw.of rfl (hts _ wd_2_124), fun _ h => absurd h List.not_mem_nil⟩⟩⟩⟩⟩⟩⟩⟩⟩, va_AO.of (hts _ wd_1_200), va_AOA.of (hts _ wd_1_93), va_AOA.of (hts _ wd_2_51)⟩
/-- the world's frame: classes, arrays' classes -/
theorem k_all {s : State} {args : Array Value} (hts : ∀ w ∈ lw_tbl, w.before args s = true) : ∃ (D : va_G) (tc : Nat → ClassId), ∀ (base : Nat) (A : Nat → Prop) (y : Nat × Nat × Nat × Nat × (Nat → Int32)), va_K D vwCl (tysL (D, tc, base, A, y)) s := by
  have ht : ∀ w ∈ TW, w.before args s = true := fun w hw => hts w (TW_in w hw)
  have hc : ∀ ci, ∃ (q : ClassId × (Nat → Nat)), ci < 12 → u_Kn s (clS ci).1 (clS ci).2.1 (clS ci).2.2 q.1 q.2 := fun ci => by
    by_cases h : ci < 12
    · obtain ⟨a, b, h1⟩ := cl_kn ht ci h
      exact ⟨(a, b), fun _ => h1⟩
    · exact ⟨(0, fun _ => 0), fun q => absurd q h⟩
  obtain ⟨t0, p0⟩ := ar_prim (ty := .int) (fun _ h => by cases h) (ht _ wd_1_42)
  obtain ⟨t1, p1⟩ := ar_prim (ty := .boolean) (fun _ h => by cases h) (ht _ wd_1_41)
  obtain ⟨t2, p2⟩ := ar_prim (ty := .byte) (fun _ h => by cases h) (ht _ wd_1_132)
  obtain ⟨t3, p3⟩ := ar_prim (ty := .long) (fun _ h => by cases h) (ht _ wd_2_104)
  obtain ⟨t4, p4⟩ := ar_obj (hts _ wd_1_200)
  obtain ⟨t5, p5⟩ := ar_arr (hts _ wd_1_93)
  obtain ⟨t6, p6⟩ := ar_arr (hts _ wd_2_51)
  refine ⟨(fun k => (Classical.choose (hc k)).1, fun k => (Classical.choose (hc k)).2), fun k => [t0, t1, t2, t3, t4, t5, t6].getD k t0, fun base A y => ⟨fun k q hq => ?_, fun k q hk => ?_⟩⟩
  · have hk : k < 12 := (List.getElem?_eq_some_iff.mp hq).1
    cases (clS_get hk).symm.trans hq
    exact Classical.choose_spec (hc k) hk
  · have hk7 : k < 7 := (List.getElem?_eq_some_iff.mp hk).1
    rcases (show k = 0 ∨ k = 1 ∨ k = 2 ∨ k = 3 ∨ k = 4 ∨ k = 5 ∨ k = 6 by omega) with rfl | rfl | rfl | rfl | rfl | rfl | rfl
    · cases hk; exact p0
    · cases hk; exact p1
    · cases hk; exact p2
    · cases hk; exact p3
    · cases hk; exact p4
    · cases hk; exact p5
    · cases hk; exact p6
