/-! Days(): its loop; and what changes a world behind the scenes -/
theorem JC.castW {X : CX} {G : GX} {nw kc ks pc : Nat} {f f' : Nat → va_E} {lv : List (Nat × Value)} {st : List Value} (e : ∀ k, k < nw → f k = f' k) (h : JC X G nw f' kc ks pc lv st) : JC X G nw f kc ks pc lv st := by
  have ew : wlP G nw f = wlP G nw f' := by
    unfold wlP
    apply List.map_congr_left
    intro k hk
    rw [e k (List.mem_range.mp hk)]
  obtain ⟨p, l, e9, R, s, m, args, below, meth, c, nL, cells, slots, Q⟩ := X
  intro H locs ls hz hP hS hl
  exact h H locs ls hz (by rw [← ew]; exact hP) hS hl
theorem JC.castK {X : CX} {G : GX} {nw nw' kc kc' ks ks' pc : Nat} {f : Nat → va_E} {lv : List (Nat × Value)} {st : List Value} (e1 : nw = nw') (e2 : kc = kc') (e3 : ks = ks') (h : JC X G nw' f kc' ks' pc lv st) : JC X G nw f kc ks pc lv st := by
  subst e1; subst e2; subst e3
  exact h
theorem JC.castS {X : CX} {G : GX} {nw kc ks pc : Nat} {f : Nat → va_E} {lv lv' : List (Nat × Value)} {st st' : List Value} (e1 : lv = lv') (e2 : st = st') (h : JC X G nw f kc ks pc lv' st') : JC X G nw f kc ks pc lv st := by
  subst e1; subst e2
  exact h
/-- workdays of the first k days, no day a feast -/
def wk0 (k : Nat) : Nat := match k with
  | 0 => 0
  | k + 1 => wk0 k + (if k % 7 < 5 then 1 else 0)
theorem wk0_wd (k : Nat) : wk0 (k + 1) = wd (fun _ => 0) k := by
  induction k with
  | zero => rfl
  | succ k ih =>
    show wk0 (k + 1) + (if (k + 1) % 7 < 5 then 1 else 0) = wd (fun _ => 0) k + (if (k + 1) % 7 < 5 ∧ (0 : Int32) = 0 then 1 else 0)
    rw [ih]
    simp
theorem wk0_le (k : Nat) : wk0 k ≤ k := by
  induction k with
  | zero => exact Nat.le_refl _
  | succ k ih =>
    show wk0 k + _ ≤ _
    split <;> omega
theorem m0_3 {k : Nat} (h : k < 1001) : M0 3 k = nI (wk0 (k + 1)) := by
  show (if k < 1001 then nI (wd (fun _ => 0) k) else 0) = _
  rw [if_pos h, wk0_wd]
theorem dy_loop {X : CX} {G : GX} (O : OkC X G cX3_init 3 RX3 1 2 2002) {f : Nat → va_E} {vs : List Value} (h1 : f 1 = .inr (3, vs)) (h2 : vs[2]? = some (.ref (ad G 3))) (h3 : f 3 = fE G 3) (hend : ∀ lv, JC X G 4 f 2 2002 67 lv []) : ∀ d k, 1001 - k < d → k ≤ 1001 → ∀ {r : Nat → Int32}, (∀ j, j < k → r j = M0 3 j) → JC X G 4 (updE f 3 (aE G 0 1001 r)) 2 2002 31 [(2, .int (nI k)), (1, .int (nI (wk0 k))), (0, .ref (ad G 1))] [] := by
  intro d
  induction d with
  | zero => intro k h _; omega
  | succ d ih =>
    intro k hd hk r hr
    refine JC.iload_n (q := 32) O dX3_init_31 rfl 0 rfl ?_
    refine JC.sipush (q := 35) (v := (1000 : Int32)) O dX3_init_32 rfl (by decide) ?_
    refine JC.icmp_gt (q := 38) (tgt := 67) O dX3_init_35 rfl (by decide) (fun z => ?_) (fun z => ?_)
    · have hk9 : k = 1001 := by
        have := (nI_lt_iff (a := 1000) (b := k) (by decide) (by omega)).mp z
        omega
      subst hk9
      exact JC.close (h3.trans (fe_3 G)) hr (hend _)
    · have hk9 : k < 1001 := by
        rcases Nat.lt_or_ge k 1001 with q | q
        · exact q
        · exact absurd ((nI_lt_iff (a := 1000) (b := k) (by decide) (by omega)).mpr (by omega)) z
      refine JC.iload_n (q := 39) O dX3_init_38 rfl 1 rfl ?_
      refine JC.iload_n (q := 40) O dX3_init_39 rfl 0 rfl ?_
      refine JC.bipush (q := 42) (v := (7 : Int32)) O dX3_init_40 rfl (by decide) ?_
      refine JC.irem (q := 43) O dX3_init_42 rfl (by decide) ?_
      refine JC.castS rfl (congrArg (fun z => [Value.int z, .int (nI (wk0 k))]) (rem7 k (by omega))) ?_
      refine JC.iconst (q := 44) (v := (5 : Int32)) O dX3_init_43 rfl (by decide) ?_
      have hnext : JC X G 4 (updE f 3 (aE G 0 1001 r)) 2 2002 52 [(2, .int (nI k)), (1, .int (nI (wk0 k))), (0, .ref (ad G 1))] [.int (if k % 7 < 5 then 1 else 0), .int (nI (wk0 k))] := by
        refine JC.iadd (q := 53) O dX3_init_52 rfl ?_
        have hs : nI (wk0 k) + (if k % 7 < 5 then (1 : Int32) else 0) = nI (wk0 (k + 1)) := by
          have e : (if k % 7 < 5 then (1 : Int32) else 0) = nI (if k % 7 < 5 then 1 else 0) := by split <;> rfl
          rw [e, nI_add]
          rfl
        rw [hs]
        refine JC.istore_n (q := 54) O dX3_init_53 rfl [(1, .int (nI (wk0 (k + 1)))), (2, .int (nI k)), (0, .ref (ad G 1))] (by decide) rfl ?_
        refine JC.aload_n (q := 55) O dX3_init_54 rfl 2 rfl ?_
        refine JC.get (q := 58) (c9 := 1) (ci := 3) (k := 2) (v := .ref (ad G 3)) O dX3_init_55 rfl wd_1_33 (by decide) (by decide) (by decide) ((updE_ne _ _ (by decide)).trans h1) h2 ?_
        refine JC.iload_n (q := 59) O dX3_init_58 rfl 1 rfl ?_
        refine JC.iload_n (q := 60) O dX3_init_59 rfl 0 rfl ?_
        refine JC.iast (q := 61) (c9 := 3) (N := 1001) O dX3_init_60 rfl (by decide) (vin_nI hk9 (by decide)) ?_
        refine JC.iinc (q := 64) (v := nI (k + 1)) O dX3_init_61 rfl [(2, .int (nI (k + 1))), (1, .int (nI (wk0 (k + 1)))), (0, .ref (ad G 1))] 1 rfl (nI_add k 1) (by decide) rfl ?_
        refine JC.goto (q := 31) O dX3_init_64 (by decide) ?_
        refine ih (k + 1) (by omega) (by omega) (fun j hj => ?_)
        rw [nI_cl k (by omega)]
        unfold upd
        by_cases hjk : j = k
        · subst hjk
          rw [if_pos rfl, m0_3 (by omega)]
        · rw [if_neg hjk, hr j (by omega)]
      refine JC.icmp_ge (q := 47) (tgt := 51) O dX3_init_44 rfl (by decide) (fun z5 => ?_) (fun z5 => ?_)
      · have hm : ¬ k % 7 < 5 := by
          have := (nI_le_iff (a := 5) (b := k % 7) (by decide) (by omega)).mp z5
          omega
        refine JC.iconst (q := 52) (v := (0 : Int32)) O dX3_init_51 rfl (by decide) ?_
        rw [if_neg hm] at hnext
        exact hnext
      · have hm : k % 7 < 5 := by
          rcases Nat.lt_or_ge (k % 7) 5 with q | q
          · exact q
          · exact absurd ((nI_le_iff (a := 5) (b := k % 7) (by decide) (by omega)).mpr q) z5
        refine JC.iconst (q := 48) (v := (1 : Int32)) O dX3_init_47 rfl (by decide) ?_
        refine JC.goto (q := 52) O dX3_init_48 (by decide) ?_
        rw [if_pos hm] at hnext
        exact hnext
theorem n_X3 {l : Launch} {G : GX} (hA : ∀ q, G.2.2.1 ≤ q → G.2.2.2.1 q) {f : Nat → va_E} (hw : ∀ k, 1 ≤ k → k < 4 → f k = fE G k) : CC l G yX3_init cX3_init 3 1 2 2002 [.ref (ad G 1)] 2 4 (updE f 1 (newE 3)) f := by
  refine CC.mk hA (by decide) rfl [(0, .ref (ad G 1))] rfl (Nat.le_of_ble_eq_true rfl) (fun X O hini hX hret => ?_)
  obtain ⟨g, hgd⟩ : ∃ g, g = updE f 3 (aE G 0 1001 (fun _ => 0)) := ⟨_, rfl⟩
  have hg : ∀ k, 1 ≤ k → k < 4 → (k ≠ 3) → g k = fE G k := fun k h1 h2 h3 => by
    refine Eq.trans ?_ (hw k h1 h2)
    subst hgd
    unfold updE
    repeat rw [if_neg (by omega)]
  refine JC.castW (f' := updE g 1 (obF G 3 (M0 1) fsC1 (fun _ => false))) (fun k hk => ?_) ?_
  · by_cases hk9 : k = 1
    · subst hk9
      rw [updE_eq, updE_eq]
      rfl
    · rw [updE_ne _ _ hk9, updE_ne _ _ hk9]
      subst hgd
      unfold updE
      repeat rw [if_neg (by omega)]
  have hg3 : g 3 = aE G 0 1001 (fun _ => 0) := by subst hgd; exact updE_eq _ _ _
  refine JC.aload_n (q := 1) O dX3_init_0 rfl 0 rfl ?_
  refine JC.objInit (q := 4) O dX3_init_1 rfl wd_1_28 (by decide) (by decide) ?_
  refine JC.aload_n (q := 5) O dX3_init_4 rfl 0 rfl ?_
  refine JC.iconst (q := 6) (v := (0 : Int32)) O dX3_init_5 rfl (by decide) ?_
  refine JC.put (q := 9) (c9 := 1) (ci := 3) (k := 0) (code := 0) (B9 := (fun j => decide (j < 1))) (N9 := 3) O dX3_init_6 rfl hini wd_1_29 (by decide) (by decide) rfl (by omega) rfl rfl rfl rfl rfl (by decide) ?_
  refine JC.aload_n (q := 10) O dX3_init_9 rfl 0 rfl ?_
  refine JC.sipush (q := 13) (v := (1001 : Int32)) O dX3_init_10 rfl (by decide) ?_
  refine JC.newZ (q := 15) (N := 1001) (o := 1) O dX3_init_13 rfl wd_1_41 (by decide) (by decide) (by decide) (by decide) (by decide) (by omega) ((hg (2) (by omega) (by omega) (by omega)).trans (fe_2 G)) ?_
  refine JC.put (q := 18) (c9 := 1) (ci := 3) (k := 1) (code := 4) (B9 := (fun j => decide (j < 2))) (N9 := 3) O dX3_init_15 rfl hini wd_1_32 (by decide) (by decide) rfl (by omega) rfl rfl rfl rfl rfl (by decide) ?_
  refine JC.aload_n (q := 19) O dX3_init_18 rfl 0 rfl ?_
  refine JC.sipush (q := 22) (v := (1001 : Int32)) O dX3_init_19 rfl (by decide) ?_
  refine JC.newI (q := 24) (N := 1001) (o := 1) O dX3_init_22 rfl wd_1_42 (by decide) (by decide) (by decide) (by decide) (by decide) (by omega) hg3 ?_
  refine JC.put (q := 27) (c9 := 1) (ci := 3) (k := 2) (code := 5) (B9 := (fun j => decide (j < 3))) (N9 := 3) O dX3_init_24 rfl hini wd_1_33 (by decide) (by decide) rfl (by omega) rfl rfl rfl rfl rfl (by decide) ?_
  refine JC.iconst (q := 28) (v := (0 : Int32)) O dX3_init_27 rfl (by decide) ?_
  refine JC.istore_n (q := 29) O dX3_init_28 rfl [(1, .int (0 : Int32)), (0, .ref (ad G 1))] (by decide) rfl ?_
  refine JC.iconst (q := 30) (v := (0 : Int32)) O dX3_init_29 rfl (by decide) ?_
  refine JC.istore_n (q := 31) O dX3_init_30 rfl [(2, .int (0 : Int32)), (1, .int (0 : Int32)), (0, .ref (ad G 1))] (by decide) rfl ?_
  refine JC.cast (f' := updE (updE f 1 (obF G 3 (M0 1) fsC1 (fun j => decide (j < 3)))) 3 (aE G 0 1001 (fun _ => 0))) (by subst hgd; exact updE_comm _ _ _ (by decide)) ?_
  exact dy_loop O (updE_eq _ _ _) rfl ((updE_ne _ _ (by decide)).trans (hw 3 (by decide) (by decide))) (fun lv => JC.cast (updE_self ((hw 1 (by decide) (by decide)).trans (ob_end G shC_1 rfl rfl (by decide)))) (hret 67 lv dX3_init_67)) 1002 0 (by decide) (by decide) (fun j hj => absurd hj (by omega))
