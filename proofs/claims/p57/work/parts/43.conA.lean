/-! THE CONSTRUCTORS without loops -/
theorem OkC.hA {X : CX} {G : GX} {cc : ByteArray} {n lev mc ms : Nat} {own : String} (O : OkC X G cc n own lev mc ms) : ∀ q, G.2.2.1 ≤ q → G.2.2.2.1 q := by
  obtain ⟨p, l, e, R, s, m, args, below, meth, c, nL, cells, slots, Q⟩ := X
  exact O.2.2.2.2.2.2.2.1
theorem n_X9 {l : Launch} {G : GX} (hA : ∀ q, G.2.2.1 ≤ q → G.2.2.2.1 q) {f : Nat → va_E} (hw : ∀ k, 4 ≤ k → k < 15 → f k = fE G k) : CC l G yX9_init cX9_init 1 1 10 220 [.ref (ad G 4)] 5 15 (updE f 4 (newE 9)) f := by
  refine CC.mk hA (by decide) rfl [(0, .ref (ad G 4))] rfl (Nat.le_of_ble_eq_true rfl) (fun X O hini hX hret => ?_)
  refine JC.cast (congrArg (updE f 4) (show newE 9 = obF G 9 (M0 4) fsC4 (fun _ => false) from rfl)) ?_
  refine JC.aload_n (q := 1) O dX9_init_0 rfl 0 rfl ?_
  refine JC.objInit (q := 4) O dX9_init_1 rfl wd_1_48 (by decide) (by decide) ?_
  refine JC.aload_n (q := 5) O dX9_init_4 rfl 0 rfl ?_
  refine JC.iconst (q := 6) (v := (0 : Int32)) O dX9_init_5 rfl (by decide) ?_
  refine JC.put (q := 9) (c9 := 4) (ci := 9) (k := 0) (code := 0) (B9 := (fun j => decide (j < 1))) (N9 := 12) O dX9_init_6 rfl hini wd_1_49 (by decide) (by decide) rfl (by omega) rfl rfl rfl rfl rfl (by decide) ?_
  refine JC.aload_n (q := 10) O dX9_init_9 rfl 0 rfl ?_
  refine JC.bipush (q := 12) (v := (24 : Int32)) O dX9_init_10 rfl (by decide) ?_
  refine JC.newI (q := 14) (N := 24) (o := 4) O dX9_init_12 rfl wd_1_42 (by decide) (by decide) (by decide) (by decide) (by decide) (by omega) ((hw (5) (by omega) (by omega)).trans (fe_5 G)) ?_
  refine JC.put (q := 17) (c9 := 4) (ci := 9) (k := 1) (code := 7) (B9 := (fun j => decide (j < 2))) (N9 := 12) O dX9_init_14 rfl hini wd_1_50 (by decide) (by decide) rfl (by omega) rfl rfl rfl rfl rfl (by decide) ?_
  refine JC.aload_n (q := 18) O dX9_init_17 rfl 0 rfl ?_
  refine JC.bipush (q := 20) (v := (24 : Int32)) O dX9_init_18 rfl (by decide) ?_
  refine JC.newZ (q := 22) (N := 24) (o := 4) O dX9_init_20 rfl wd_1_41 (by decide) (by decide) (by decide) (by decide) (by decide) (by omega) ((hw (6) (by omega) (by omega)).trans (fe_6 G)) ?_
  refine JC.put (q := 25) (c9 := 4) (ci := 9) (k := 2) (code := 8) (B9 := (fun j => decide (j < 3))) (N9 := 12) O dX9_init_22 rfl hini wd_1_51 (by decide) (by decide) rfl (by omega) rfl rfl rfl rfl rfl (by decide) ?_
  refine JC.aload_n (q := 26) O dX9_init_25 rfl 0 rfl ?_
  refine JC.bipush (q := 28) (v := (24 : Int32)) O dX9_init_26 rfl (by decide) ?_
  refine JC.newI (q := 30) (N := 24) (o := 4) O dX9_init_28 rfl wd_1_42 (by decide) (by decide) (by decide) (by decide) (by decide) (by omega) ((hw (7) (by omega) (by omega)).trans (fe_7 G)) ?_
  refine JC.put (q := 33) (c9 := 4) (ci := 9) (k := 3) (code := 9) (B9 := (fun j => decide (j < 4))) (N9 := 12) O dX9_init_30 rfl hini wd_1_52 (by decide) (by decide) rfl (by omega) rfl rfl rfl rfl rfl (by decide) ?_
  refine JC.aload_n (q := 34) O dX9_init_33 rfl 0 rfl ?_
  refine JC.bipush (q := 36) (v := (24 : Int32)) O dX9_init_34 rfl (by decide) ?_
  refine JC.newI (q := 38) (N := 24) (o := 4) O dX9_init_36 rfl wd_1_42 (by decide) (by decide) (by decide) (by decide) (by decide) (by omega) ((hw (8) (by omega) (by omega)).trans (fe_8 G)) ?_
  refine JC.put (q := 41) (c9 := 4) (ci := 9) (k := 4) (code := 10) (B9 := (fun j => decide (j < 5))) (N9 := 12) O dX9_init_38 rfl hini wd_1_53 (by decide) (by decide) rfl (by omega) rfl rfl rfl rfl rfl (by decide) ?_
  refine JC.aload_n (q := 42) O dX9_init_41 rfl 0 rfl ?_
  refine JC.bipush (q := 44) (v := (24 : Int32)) O dX9_init_42 rfl (by decide) ?_
  refine JC.newI (q := 46) (N := 24) (o := 4) O dX9_init_44 rfl wd_1_42 (by decide) (by decide) (by decide) (by decide) (by decide) (by omega) ((hw (9) (by omega) (by omega)).trans (fe_9 G)) ?_
  refine JC.put (q := 49) (c9 := 4) (ci := 9) (k := 5) (code := 11) (B9 := (fun j => decide (j < 6))) (N9 := 12) O dX9_init_46 rfl hini wd_1_54 (by decide) (by decide) rfl (by omega) rfl rfl rfl rfl rfl (by decide) ?_
  refine JC.aload_n (q := 50) O dX9_init_49 rfl 0 rfl ?_
  refine JC.bipush (q := 52) (v := (24 : Int32)) O dX9_init_50 rfl (by decide) ?_
  refine JC.newI (q := 54) (N := 24) (o := 4) O dX9_init_52 rfl wd_1_42 (by decide) (by decide) (by decide) (by decide) (by decide) (by omega) ((hw (10) (by omega) (by omega)).trans (fe_10 G)) ?_
  refine JC.put (q := 57) (c9 := 4) (ci := 9) (k := 6) (code := 12) (B9 := (fun j => decide (j < 7))) (N9 := 12) O dX9_init_54 rfl hini wd_1_55 (by decide) (by decide) rfl (by omega) rfl rfl rfl rfl rfl (by decide) ?_
  refine JC.aload_n (q := 58) O dX9_init_57 rfl 0 rfl ?_
  refine JC.bipush (q := 60) (v := (24 : Int32)) O dX9_init_58 rfl (by decide) ?_
  refine JC.newI (q := 62) (N := 24) (o := 4) O dX9_init_60 rfl wd_1_42 (by decide) (by decide) (by decide) (by decide) (by decide) (by omega) ((hw (11) (by omega) (by omega)).trans (fe_11 G)) ?_
  refine JC.put (q := 65) (c9 := 4) (ci := 9) (k := 7) (code := 13) (B9 := (fun j => decide (j < 8))) (N9 := 12) O dX9_init_62 rfl hini wd_1_56 (by decide) (by decide) rfl (by omega) rfl rfl rfl rfl rfl (by decide) ?_
  refine JC.aload_n (q := 66) O dX9_init_65 rfl 0 rfl ?_
  refine JC.bipush (q := 68) (v := (24 : Int32)) O dX9_init_66 rfl (by decide) ?_
  refine JC.newI (q := 70) (N := 24) (o := 4) O dX9_init_68 rfl wd_1_42 (by decide) (by decide) (by decide) (by decide) (by decide) (by omega) ((hw (12) (by omega) (by omega)).trans (fe_12 G)) ?_
  refine JC.put (q := 73) (c9 := 4) (ci := 9) (k := 8) (code := 14) (B9 := (fun j => decide (j < 9))) (N9 := 12) O dX9_init_70 rfl hini wd_1_57 (by decide) (by decide) rfl (by omega) rfl rfl rfl rfl rfl (by decide) ?_
  refine JC.aload_n (q := 74) O dX9_init_73 rfl 0 rfl ?_
  refine JC.bipush (q := 76) (v := (24 : Int32)) O dX9_init_74 rfl (by decide) ?_
  refine JC.newI (q := 78) (N := 24) (o := 4) O dX9_init_76 rfl wd_1_42 (by decide) (by decide) (by decide) (by decide) (by decide) (by omega) ((hw (13) (by omega) (by omega)).trans (fe_13 G)) ?_
  refine JC.put (q := 81) (c9 := 4) (ci := 9) (k := 9) (code := 15) (B9 := (fun j => decide (j < 10))) (N9 := 12) O dX9_init_78 rfl hini wd_1_58 (by decide) (by decide) rfl (by omega) rfl rfl rfl rfl rfl (by decide) ?_
  refine JC.aload_n (q := 82) O dX9_init_81 rfl 0 rfl ?_
  refine JC.iconst (q := 83) (v := (4 : Int32)) O dX9_init_82 rfl (by decide) ?_
  refine JC.newIf (q := 85) (N := 4) O dX9_init_83 rfl wd_1_42 (by decide) (by decide) (by decide) (by decide) (by decide) ?_
  refine JC.dup (q := 86) O dX9_init_85 rfl rfl ?_
  refine JC.iconst (q := 87) (v := (0 : Int32)) O dX9_init_86 rfl (by decide) ?_
  refine JC.iconst (q := 88) (v := (1 : Int32)) O dX9_init_87 rfl (by decide) ?_
  refine JC.iast (q := 89) (c9 := 14) (N := 4) (i := (0 : Int32)) O dX9_init_88 rfl (by decide) (by unfold vp_in; decide) ?_
  refine JC.dup (q := 90) O dX9_init_89 rfl rfl ?_
  refine JC.iconst (q := 91) (v := (1 : Int32)) O dX9_init_90 rfl (by decide) ?_
  refine JC.iconst (q := 92) (v := (1 : Int32)) O dX9_init_91 rfl (by decide) ?_
  refine JC.iast (q := 93) (c9 := 14) (N := 4) (i := (1 : Int32)) O dX9_init_92 rfl (by decide) (by unfold vp_in; decide) ?_
  refine JC.dup (q := 94) O dX9_init_93 rfl rfl ?_
  refine JC.iconst (q := 95) (v := (2 : Int32)) O dX9_init_94 rfl (by decide) ?_
  refine JC.iconst (q := 96) (v := (1 : Int32)) O dX9_init_95 rfl (by decide) ?_
  refine JC.iast (q := 97) (c9 := 14) (N := 4) (i := (2 : Int32)) O dX9_init_96 rfl (by decide) (by unfold vp_in; decide) ?_
  refine JC.dup (q := 98) O dX9_init_97 rfl rfl ?_
  refine JC.iconst (q := 99) (v := (3 : Int32)) O dX9_init_98 rfl (by decide) ?_
  refine JC.iconst (q := 100) (v := (1 : Int32)) O dX9_init_99 rfl (by decide) ?_
  refine JC.iast (q := 101) (c9 := 14) (N := 4) (i := (3 : Int32)) O dX9_init_100 rfl (by decide) (by unfold vp_in; decide) ?_
  refine JC.close ((updE_ne _ _ (by decide)).trans ((hw (14) (by omega) (by omega)).trans (fe_14 G))) (by decide) ?_
  refine JC.put (q := 104) (c9 := 4) (ci := 9) (k := 10) (code := 16) (B9 := (fun j => decide (j < 11))) (N9 := 12) O dX9_init_101 rfl hini wd_1_59 (by decide) (by decide) rfl (by omega) rfl rfl rfl rfl rfl (by decide) ?_
  refine JC.aload_n (q := 105) O dX9_init_104 rfl 0 rfl ?_
  refine JC.bipush (q := 107) (v := (-9 : Int32)) O dX9_init_105 rfl (by decide) ?_
  refine JC.put (q := 110) (c9 := 4) (ci := 9) (k := 11) (code := 0) (B9 := (fun j => decide (j < 12))) (N9 := 12) O dX9_init_107 rfl hini wd_1_60 (by decide) (by decide) rfl (by omega) rfl rfl rfl rfl rfl (by decide) ?_
  refine JC.cast (updE_self ((hw (4) (by omega) (by omega)).trans (ob_end G shC_4 rfl rfl (by decide)))) ?_
  exact hret _ _ dX9_init_110
theorem n_X7 {l : Launch} {G : GX} (hA : ∀ q, G.2.2.1 ≤ q → G.2.2.2.1 q) {f : Nat → va_E} (hw : ∀ k, 45 ≤ k → k < 51 → f k = fE G k) : CC l G yX7_init cX7_init 1 1 5 84 [.ref (ad G 45)] 46 51 (updE f 45 (newE 7)) f := by
  refine CC.mk hA (by decide) rfl [(0, .ref (ad G 45))] rfl (Nat.le_of_ble_eq_true rfl) (fun X O hini hX hret => ?_)
  refine JC.cast (congrArg (updE f 45) (show newE 7 = obF G 7 (M0 45) fsC45 (fun _ => false) from rfl)) ?_
  refine JC.aload_n (q := 1) O dX7_init_0 rfl 0 rfl ?_
  refine JC.objInit (q := 4) O dX7_init_1 rfl wd_1_99 (by decide) (by decide) ?_
  refine JC.aload_n (q := 5) O dX7_init_4 rfl 0 rfl ?_
  refine JC.bipush (q := 7) (v := (6 : Int32)) O dX7_init_5 rfl (by decide) ?_
  refine JC.newI (q := 9) (N := 6) (o := 45) O dX7_init_7 rfl wd_1_42 (by decide) (by decide) (by decide) (by decide) (by decide) (by omega) ((hw (46) (by omega) (by omega)).trans (fe_46 G)) ?_
  refine JC.put (q := 12) (c9 := 45) (ci := 7) (k := 0) (code := 48) (B9 := (fun j => decide (j < 1))) (N9 := 10) O dX7_init_9 rfl hini wd_1_100 (by decide) (by decide) rfl (by omega) rfl rfl rfl rfl rfl (by decide) ?_
  refine JC.aload_n (q := 13) O dX7_init_12 rfl 0 rfl ?_
  refine JC.bipush (q := 15) (v := (60 : Int32)) O dX7_init_13 rfl (by decide) ?_
  refine JC.newB (q := 17) (N := 60) (o := 45) O dX7_init_15 rfl wd_1_132 (by decide) (by decide) (by decide) (by decide) (by decide) (by omega) ((hw (47) (by omega) (by omega)).trans (fe_47 G)) ?_
  refine JC.put (q := 20) (c9 := 45) (ci := 7) (k := 1) (code := 1) (B9 := (fun j => decide (j < 2))) (N9 := 10) O dX7_init_17 rfl hini wd_1_102 (by decide) (by decide) rfl (by omega) rfl (congrArg (fun z => Value.ref (ad G z)) (by decide)) rfl rfl rfl (by decide) ?_
  refine JC.aload_n (q := 21) O dX7_init_20 rfl 0 rfl ?_
  refine JC.iconst (q := 22) (v := (0 : Int32)) O dX7_init_21 rfl (by decide) ?_
  refine JC.put (q := 25) (c9 := 45) (ci := 7) (k := 2) (code := 0) (B9 := (fun j => decide (j < 3))) (N9 := 10) O dX7_init_22 rfl hini wd_1_103 (by decide) (by decide) rfl (by omega) rfl rfl rfl rfl rfl (by decide) ?_
  refine JC.aload_n (q := 26) O dX7_init_25 rfl 0 rfl ?_
  refine JC.iconst (q := 27) (v := (0 : Int32)) O dX7_init_26 rfl (by decide) ?_
  refine JC.put (q := 30) (c9 := 45) (ci := 7) (k := 3) (code := 0) (B9 := (fun j => decide (j < 4))) (N9 := 10) O dX7_init_27 rfl hini wd_1_104 (by decide) (by decide) rfl (by omega) rfl rfl rfl rfl rfl (by decide) ?_
  refine JC.aload_n (q := 31) O dX7_init_30 rfl 0 rfl ?_
  refine JC.bipush (q := 33) (v := (-9 : Int32)) O dX7_init_31 rfl (by decide) ?_
  refine JC.put (q := 36) (c9 := 45) (ci := 7) (k := 4) (code := 0) (B9 := (fun j => decide (j < 5))) (N9 := 10) O dX7_init_33 rfl hini wd_1_105 (by decide) (by decide) rfl (by omega) rfl rfl rfl rfl rfl (by decide) ?_
  refine JC.aload_n (q := 37) O dX7_init_36 rfl 0 rfl ?_
  refine JC.iconst (q := 38) (v := (0 : Int32)) O dX7_init_37 rfl (by decide) ?_
  refine JC.put (q := 41) (c9 := 45) (ci := 7) (k := 5) (code := 0) (B9 := (fun j => decide (j < 6))) (N9 := 10) O dX7_init_38 rfl hini wd_1_106 (by decide) (by decide) rfl (by omega) rfl rfl rfl rfl rfl (by decide) ?_
  refine JC.aload_n (q := 42) O dX7_init_41 rfl 0 rfl ?_
  refine JC.iconst (q := 43) (v := (0 : Int32)) O dX7_init_42 rfl (by decide) ?_
  refine JC.put (q := 46) (c9 := 45) (ci := 7) (k := 6) (code := 0) (B9 := (fun j => decide (j < 7))) (N9 := 10) O dX7_init_43 rfl hini wd_1_107 (by decide) (by decide) rfl (by omega) rfl rfl rfl rfl rfl (by decide) ?_
  refine JC.aload_n (q := 47) O dX7_init_46 rfl 0 rfl ?_
  refine JC.bipush (q := 49) (v := (6 : Int32)) O dX7_init_47 rfl (by decide) ?_
  refine JC.newZ (q := 51) (N := 6) (o := 45) O dX7_init_49 rfl wd_1_41 (by decide) (by decide) (by decide) (by decide) (by decide) (by omega) ((hw (48) (by omega) (by omega)).trans (fe_48 G)) ?_
  refine JC.put (q := 54) (c9 := 45) (ci := 7) (k := 7) (code := 50) (B9 := (fun j => decide (j < 8))) (N9 := 10) O dX7_init_51 rfl hini wd_1_108 (by decide) (by decide) rfl (by omega) rfl rfl rfl rfl rfl (by decide) ?_
  refine JC.aload_n (q := 55) O dX7_init_54 rfl 0 rfl ?_
  refine JC.bipush (q := 57) (v := (6 : Int32)) O dX7_init_55 rfl (by decide) ?_
  refine JC.newZ (q := 59) (N := 6) (o := 45) O dX7_init_57 rfl wd_1_41 (by decide) (by decide) (by decide) (by decide) (by decide) (by omega) ((hw (49) (by omega) (by omega)).trans (fe_49 G)) ?_
  refine JC.put (q := 62) (c9 := 45) (ci := 7) (k := 8) (code := 51) (B9 := (fun j => decide (j < 9))) (N9 := 10) O dX7_init_59 rfl hini wd_1_109 (by decide) (by decide) rfl (by omega) rfl rfl rfl rfl rfl (by decide) ?_
  refine JC.aload_n (q := 63) O dX7_init_62 rfl 0 rfl ?_
  refine JC.bipush (q := 65) (v := (6 : Int32)) O dX7_init_63 rfl (by decide) ?_
  refine JC.newI (q := 67) (N := 6) (o := 45) O dX7_init_65 rfl wd_1_42 (by decide) (by decide) (by decide) (by decide) (by decide) (by omega) ((hw (50) (by omega) (by omega)).trans (fe_50 G)) ?_
  refine JC.put (q := 70) (c9 := 45) (ci := 7) (k := 9) (code := 52) (B9 := (fun j => decide (j < 10))) (N9 := 10) O dX7_init_67 rfl hini wd_1_110 (by decide) (by decide) rfl (by omega) rfl rfl rfl rfl rfl (by decide) ?_
  refine JC.cast (updE_self ((hw (45) (by omega) (by omega)).trans (ob_end G shC_45 rfl rfl (by decide)))) ?_
  exact hret _ _ dX7_init_70
theorem n_X0 {l : Launch} {G : GX} (hA : ∀ q, G.2.2.1 ≤ q → G.2.2.2.1 q) {f : Nat → va_E} (hw : ∀ k, 15 ≤ k → k < 51 → f k = fE G k) : CC l G yX0_init cX0_init 1 2 35 1692 [.ref (ad G 15)] 16 51 (updE f 15 (newE 0)) f := by
  refine CC.mk hA (by decide) rfl [(0, .ref (ad G 15))] rfl (Nat.le_of_ble_eq_true rfl) (fun X O hini hX hret => ?_)
  refine JC.cast (congrArg (updE f 15) (show newE 0 = obF G 0 (M0 15) fsC15 (fun _ => false) from rfl)) ?_
  refine JC.aload_n (q := 1) O dX0_init_0 rfl 0 rfl ?_
  refine JC.objInit (q := 4) O dX0_init_1 rfl wd_1_91 (by decide) (by decide) ?_
  refine JC.aload_n (q := 5) O dX0_init_4 rfl 0 rfl ?_
  refine JC.iconst (q := 6) (v := (0 : Int32)) O dX0_init_5 rfl (by decide) ?_
  refine JC.put (q := 9) (c9 := 15) (ci := 0) (k := 0) (code := 0) (B9 := (fun j => decide (j < 1))) (N9 := 6) O dX0_init_6 rfl hini wd_1_133 (by decide) (by decide) rfl (by omega) rfl rfl rfl rfl rfl (by decide) ?_
  refine JC.aload_n (q := 10) O dX0_init_9 rfl 0 rfl ?_
  refine JC.bipush (q := 12) (v := (25 : Int32)) O dX0_init_10 rfl (by decide) ?_
  refine JC.bipush (q := 14) (v := (60 : Int32)) O dX0_init_12 rfl (by decide) ?_
  refine JC.multi (q := 18) (t := 1) (t1 := 2) (N := 25) (K := 60) (ty := .byte) O dX0_init_14 rfl (Or.inl ⟨rfl, rfl, rfl⟩) wd_1_92 (by decide) (by decide) (by decide) (by decide) (by decide) (by decide) (by decide) (by decide) ((updE_ne _ _ (by decide)).trans ((hw (16) (by omega) (by omega)).trans (fe_16 G))) (fun j hj => (updE_ne _ _ (by omega)).trans ((hw (16 + 1 + j) (by omega) (by omega)).trans (by rcases (show j = 0 ∨ j = 1 ∨ j = 2 ∨ j = 3 ∨ j = 4 ∨ j = 5 ∨ j = 6 ∨ j = 7 ∨ j = 8 ∨ j = 9 ∨ j = 10 ∨ j = 11 ∨ j = 12 ∨ j = 13 ∨ j = 14 ∨ j = 15 ∨ j = 16 ∨ j = 17 ∨ j = 18 ∨ j = 19 ∨ j = 20 ∨ j = 21 ∨ j = 22 ∨ j = 23 ∨ j = 24 by omega) with rfl | rfl | rfl | rfl | rfl | rfl | rfl | rfl | rfl | rfl | rfl | rfl | rfl | rfl | rfl | rfl | rfl | rfl | rfl | rfl | rfl | rfl | rfl | rfl | rfl <;> first | exact fe_17 G | exact fe_18 G | exact fe_19 G | exact fe_20 G | exact fe_21 G | exact fe_22 G | exact fe_23 G | exact fe_24 G | exact fe_25 G | exact fe_26 G | exact fe_27 G | exact fe_28 G | exact fe_29 G | exact fe_30 G | exact fe_31 G | exact fe_32 G | exact fe_33 G | exact fe_34 G | exact fe_35 G | exact fe_36 G | exact fe_37 G | exact fe_38 G | exact fe_39 G | exact fe_40 G | exact fe_41 G))) ?_
  refine JC.put (q := 21) (c9 := 15) (ci := 0) (k := 1) (code := 18) (B9 := (fun j => decide (j < 2))) (N9 := 6) O dX0_init_18 rfl hini wd_1_135 (by decide) (by decide) rfl (by omega) rfl rfl rfl rfl rfl (by decide) ?_
  refine JC.aload_n (q := 22) O dX0_init_21 rfl 0 rfl ?_
  refine JC.bipush (q := 24) (v := (25 : Int32)) O dX0_init_22 rfl (by decide) ?_
  refine JC.newI (q := 26) (N := 25) (o := 15) O dX0_init_24 rfl wd_1_42 (by decide) (by decide) (by decide) (by decide) (by decide) (by omega) ((hw (42) (by omega) (by omega)).trans (fe_42 G)) ?_
  refine JC.put (q := 29) (c9 := 15) (ci := 0) (k := 2) (code := 44) (B9 := (fun j => decide (j < 3))) (N9 := 6) O dX0_init_26 rfl hini wd_1_136 (by decide) (by decide) rfl (by omega) rfl rfl rfl rfl rfl (by decide) ?_
  refine JC.aload_n (q := 30) O dX0_init_29 rfl 0 rfl ?_
  refine JC.bipush (q := 32) (v := (24 : Int32)) O dX0_init_30 rfl (by decide) ?_
  refine JC.newI (q := 34) (N := 24) (o := 15) O dX0_init_32 rfl wd_1_42 (by decide) (by decide) (by decide) (by decide) (by decide) (by omega) ((hw (43) (by omega) (by omega)).trans (fe_43 G)) ?_
  refine JC.put (q := 37) (c9 := 15) (ci := 0) (k := 3) (code := 45) (B9 := (fun j => decide (j < 4))) (N9 := 6) O dX0_init_34 rfl hini wd_1_137 (by decide) (by decide) rfl (by omega) rfl rfl rfl rfl rfl (by decide) ?_
  refine JC.aload_n (q := 38) O dX0_init_37 rfl 0 rfl ?_
  refine JC.bipush (q := 40) (v := (24 : Int32)) O dX0_init_38 rfl (by decide) ?_
  refine JC.newI (q := 42) (N := 24) (o := 15) O dX0_init_40 rfl wd_1_42 (by decide) (by decide) (by decide) (by decide) (by decide) (by omega) ((hw (44) (by omega) (by omega)).trans (fe_44 G)) ?_
  refine JC.put (q := 45) (c9 := 15) (ci := 0) (k := 4) (code := 46) (B9 := (fun j => decide (j < 5))) (N9 := 6) O dX0_init_42 rfl hini wd_1_138 (by decide) (by decide) rfl (by omega) rfl rfl rfl rfl rfl (by decide) ?_
  refine JC.aload_n (q := 46) O dX0_init_45 rfl 0 rfl ?_
  refine JC.new (q := 49) (ci := 7) O dX0_init_46 rfl (by decide) wd_1_94 wd_1_95 wd_1_5 (by decide) (by decide) ?_
  refine JC.dup (q := 50) O dX0_init_49 rfl rfl ?_
  refine JC.callN (q := 53) (nL := 1) (lev' := 1) (na := 0) (mc' := 5) (ms' := 84) [] _ rfl O dX0_init_50 rfl (n_X7 O.hA (fun k9 h1 h2 => (updE_ne _ _ (by omega)).trans (hw (k9) (by omega) (by omega)))) (by decide) wd_1_5 wd_1_97 wd_1_98 rfl (by decide) (by decide) rfl (by decide) (Nat.le_of_ble_eq_true rfl) (by decide) (by decide) ?_
  refine JC.put (q := 56) (c9 := 15) (ci := 0) (k := 5) (code := 47) (B9 := (fun j => decide (j < 6))) (N9 := 6) O dX0_init_53 rfl hini wd_1_139 (by decide) (by decide) rfl (by omega) rfl rfl rfl rfl rfl (by decide) ?_
  refine JC.cast (updE_self ((hw (15) (by omega) (by omega)).trans (ob_end G shC_15 rfl rfl (by decide)))) ?_
  exact hret _ _ dX0_init_56
theorem n_X2 {l : Launch} {G : GX} (hA : ∀ q, G.2.2.1 ≤ q → G.2.2.2.1 q) {f : Nat → va_E} (hw : ∀ k, 51 ≤ k → k < 61 → f k = fE G k) : CC l G yX2_init cX2_init 1 1 9 180 [.ref (ad G 51)] 52 61 (updE f 51 (newE 2)) f := by
  refine CC.mk hA (by decide) rfl [(0, .ref (ad G 51))] rfl (Nat.le_of_ble_eq_true rfl) (fun X O hini hX hret => ?_)
  refine JC.cast (congrArg (updE f 51) (show newE 2 = obF G 2 (M0 51) fsC51 (fun _ => false) from rfl)) ?_
  refine JC.aload_n (q := 1) O dX2_init_0 rfl 0 rfl ?_
  refine JC.objInit (q := 4) O dX2_init_1 rfl wd_1_159 (by decide) (by decide) ?_
  refine JC.aload_n (q := 5) O dX2_init_4 rfl 0 rfl ?_
  refine JC.bipush (q := 7) (v := (6 : Int32)) O dX2_init_5 rfl (by decide) ?_
  refine JC.newI (q := 9) (N := 6) (o := 51) O dX2_init_7 rfl wd_1_42 (by decide) (by decide) (by decide) (by decide) (by decide) (by omega) ((hw (52) (by omega) (by omega)).trans (fe_52 G)) ?_
  refine JC.put (q := 12) (c9 := 51) (ci := 2) (k := 0) (code := 54) (B9 := (fun j => decide (j < 1))) (N9 := 11) O dX2_init_9 rfl hini wd_1_160 (by decide) (by decide) rfl (by omega) rfl rfl rfl rfl rfl (by decide) ?_
  refine JC.aload_n (q := 13) O dX2_init_12 rfl 0 rfl ?_
  refine JC.iconst (q := 14) (v := (0 : Int32)) O dX2_init_13 rfl (by decide) ?_
  refine JC.put (q := 17) (c9 := 51) (ci := 2) (k := 1) (code := 0) (B9 := (fun j => decide (j < 2))) (N9 := 11) O dX2_init_14 rfl hini wd_1_162 (by decide) (by decide) rfl (by omega) rfl rfl rfl rfl rfl (by decide) ?_
  refine JC.aload_n (q := 18) O dX2_init_17 rfl 0 rfl ?_
  refine JC.bipush (q := 20) (v := (9 : Int32)) O dX2_init_18 rfl (by decide) ?_
  refine JC.newI (q := 22) (N := 9) (o := 51) O dX2_init_20 rfl wd_1_42 (by decide) (by decide) (by decide) (by decide) (by decide) (by omega) ((hw (53) (by omega) (by omega)).trans (fe_53 G)) ?_
  refine JC.put (q := 25) (c9 := 51) (ci := 2) (k := 2) (code := 55) (B9 := (fun j => decide (j < 3))) (N9 := 11) O dX2_init_22 rfl hini wd_1_164 (by decide) (by decide) rfl (by omega) rfl rfl rfl rfl rfl (by decide) ?_
  refine JC.aload_n (q := 26) O dX2_init_25 rfl 0 rfl ?_
  refine JC.bipush (q := 28) (v := (9 : Int32)) O dX2_init_26 rfl (by decide) ?_
  refine JC.newI (q := 30) (N := 9) (o := 51) O dX2_init_28 rfl wd_1_42 (by decide) (by decide) (by decide) (by decide) (by decide) (by omega) ((hw (54) (by omega) (by omega)).trans (fe_54 G)) ?_
  refine JC.put (q := 33) (c9 := 51) (ci := 2) (k := 3) (code := 56) (B9 := (fun j => decide (j < 4))) (N9 := 11) O dX2_init_30 rfl hini wd_1_166 (by decide) (by decide) rfl (by omega) rfl rfl rfl rfl rfl (by decide) ?_
  refine JC.aload_n (q := 34) O dX2_init_33 rfl 0 rfl ?_
  refine JC.bipush (q := 36) (v := (6 : Int32)) O dX2_init_34 rfl (by decide) ?_
  refine JC.newI (q := 38) (N := 6) (o := 51) O dX2_init_36 rfl wd_1_42 (by decide) (by decide) (by decide) (by decide) (by decide) (by omega) ((hw (55) (by omega) (by omega)).trans (fe_55 G)) ?_
  refine JC.put (q := 41) (c9 := 51) (ci := 2) (k := 4) (code := 57) (B9 := (fun j => decide (j < 5))) (N9 := 11) O dX2_init_38 rfl hini wd_1_168 (by decide) (by decide) rfl (by omega) rfl rfl rfl rfl rfl (by decide) ?_
  refine JC.aload_n (q := 42) O dX2_init_41 rfl 0 rfl ?_
  refine JC.iconst (q := 43) (v := (0 : Int32)) O dX2_init_42 rfl (by decide) ?_
  refine JC.put (q := 46) (c9 := 51) (ci := 2) (k := 5) (code := 0) (B9 := (fun j => decide (j < 6))) (N9 := 11) O dX2_init_43 rfl hini wd_1_169 (by decide) (by decide) rfl (by omega) rfl rfl rfl rfl rfl (by decide) ?_
  refine JC.aload_n (q := 47) O dX2_init_46 rfl 0 rfl ?_
  refine JC.bipush (q := 49) (v := (30 : Int32)) O dX2_init_47 rfl (by decide) ?_
  refine JC.newI (q := 51) (N := 30) (o := 51) O dX2_init_49 rfl wd_1_42 (by decide) (by decide) (by decide) (by decide) (by decide) (by omega) ((hw (56) (by omega) (by omega)).trans (fe_56 G)) ?_
  refine JC.put (q := 54) (c9 := 51) (ci := 2) (k := 6) (code := 58) (B9 := (fun j => decide (j < 7))) (N9 := 11) O dX2_init_51 rfl hini wd_1_171 (by decide) (by decide) rfl (by omega) rfl rfl rfl rfl rfl (by decide) ?_
  refine JC.aload_n (q := 55) O dX2_init_54 rfl 0 rfl ?_
  refine JC.bipush (q := 57) (v := (30 : Int32)) O dX2_init_55 rfl (by decide) ?_
  refine JC.newI (q := 59) (N := 30) (o := 51) O dX2_init_57 rfl wd_1_42 (by decide) (by decide) (by decide) (by decide) (by decide) (by omega) ((hw (57) (by omega) (by omega)).trans (fe_57 G)) ?_
  refine JC.put (q := 62) (c9 := 51) (ci := 2) (k := 7) (code := 59) (B9 := (fun j => decide (j < 8))) (N9 := 11) O dX2_init_59 rfl hini wd_1_172 (by decide) (by decide) rfl (by omega) rfl rfl rfl rfl rfl (by decide) ?_
  refine JC.aload_n (q := 63) O dX2_init_62 rfl 0 rfl ?_
  refine JC.bipush (q := 65) (v := (30 : Int32)) O dX2_init_63 rfl (by decide) ?_
  refine JC.newZ (q := 67) (N := 30) (o := 51) O dX2_init_65 rfl wd_1_41 (by decide) (by decide) (by decide) (by decide) (by decide) (by omega) ((hw (58) (by omega) (by omega)).trans (fe_58 G)) ?_
  refine JC.put (q := 70) (c9 := 51) (ci := 2) (k := 8) (code := 60) (B9 := (fun j => decide (j < 9))) (N9 := 11) O dX2_init_67 rfl hini wd_1_173 (by decide) (by decide) rfl (by omega) rfl rfl rfl rfl rfl (by decide) ?_
  refine JC.aload_n (q := 71) O dX2_init_70 rfl 0 rfl ?_
  refine JC.bipush (q := 73) (v := (30 : Int32)) O dX2_init_71 rfl (by decide) ?_
  refine JC.newI (q := 75) (N := 30) (o := 51) O dX2_init_73 rfl wd_1_42 (by decide) (by decide) (by decide) (by decide) (by decide) (by omega) ((hw (59) (by omega) (by omega)).trans (fe_59 G)) ?_
  refine JC.put (q := 78) (c9 := 51) (ci := 2) (k := 9) (code := 61) (B9 := (fun j => decide (j < 10))) (N9 := 11) O dX2_init_75 rfl hini wd_1_174 (by decide) (by decide) rfl (by omega) rfl rfl rfl rfl rfl (by decide) ?_
  refine JC.aload_n (q := 79) O dX2_init_78 rfl 0 rfl ?_
  refine JC.bipush (q := 81) (v := (30 : Int32)) O dX2_init_79 rfl (by decide) ?_
  refine JC.newI (q := 83) (N := 30) (o := 51) O dX2_init_81 rfl wd_1_42 (by decide) (by decide) (by decide) (by decide) (by decide) (by omega) ((hw (60) (by omega) (by omega)).trans (fe_60 G)) ?_
  refine JC.put (q := 86) (c9 := 51) (ci := 2) (k := 10) (code := 62) (B9 := (fun j => decide (j < 11))) (N9 := 11) O dX2_init_83 rfl hini wd_1_175 (by decide) (by decide) rfl (by omega) rfl rfl rfl rfl rfl (by decide) ?_
  refine JC.cast (updE_self ((hw (51) (by omega) (by omega)).trans (ob_end G shC_51 rfl rfl (by decide)))) ?_
  exact hret _ _ dX2_init_86
theorem n_X1 {l : Launch} {G : GX} (hA : ∀ q, G.2.2.1 ≤ q → G.2.2.2.1 q) {f : Nat → va_E} (hw : ∀ k, 62 ≤ k → k < 72 → f k = fE G k) : CC l G yX1_init cX1_init 1 1 9 204 [.ref (ad G 62)] 63 72 (updE f 62 (newE 1)) f := by
  refine CC.mk hA (by decide) rfl [(0, .ref (ad G 62))] rfl (Nat.le_of_ble_eq_true rfl) (fun X O hini hX hret => ?_)
  refine JC.cast (congrArg (updE f 62) (show newE 1 = obF G 1 (M0 62) fsC62 (fun _ => false) from rfl)) ?_
  refine JC.aload_n (q := 1) O dX1_init_0 rfl 0 rfl ?_
  refine JC.objInit (q := 4) O dX1_init_1 rfl wd_1_206 (by decide) (by decide) ?_
  refine JC.aload_n (q := 5) O dX1_init_4 rfl 0 rfl ?_
  refine JC.iconst (q := 6) (v := (0 : Int32)) O dX1_init_5 rfl (by decide) ?_
  refine JC.put (q := 9) (c9 := 62) (ci := 1) (k := 0) (code := 0) (B9 := (fun j => decide (j < 1))) (N9 := 10) O dX1_init_6 rfl hini wd_1_207 (by decide) (by decide) rfl (by omega) rfl rfl rfl rfl rfl (by decide) ?_
  refine JC.aload_n (q := 10) O dX1_init_9 rfl 0 rfl ?_
  refine JC.bipush (q := 12) (v := (30 : Int32)) O dX1_init_10 rfl (by decide) ?_
  refine JC.newI (q := 14) (N := 30) (o := 62) O dX1_init_12 rfl wd_1_42 (by decide) (by decide) (by decide) (by decide) (by decide) (by omega) ((hw (63) (by omega) (by omega)).trans (fe_63 G)) ?_
  refine JC.put (q := 17) (c9 := 62) (ci := 1) (k := 1) (code := 65) (B9 := (fun j => decide (j < 2))) (N9 := 10) O dX1_init_14 rfl hini wd_1_209 (by decide) (by decide) rfl (by omega) rfl rfl rfl rfl rfl (by decide) ?_
  refine JC.aload_n (q := 18) O dX1_init_17 rfl 0 rfl ?_
  refine JC.bipush (q := 20) (v := (30 : Int32)) O dX1_init_18 rfl (by decide) ?_
  refine JC.newI (q := 22) (N := 30) (o := 62) O dX1_init_20 rfl wd_1_42 (by decide) (by decide) (by decide) (by decide) (by decide) (by omega) ((hw (64) (by omega) (by omega)).trans (fe_64 G)) ?_
  refine JC.put (q := 25) (c9 := 62) (ci := 1) (k := 2) (code := 66) (B9 := (fun j => decide (j < 3))) (N9 := 10) O dX1_init_22 rfl hini wd_1_211 (by decide) (by decide) rfl (by omega) rfl rfl rfl rfl rfl (by decide) ?_
  refine JC.aload_n (q := 26) O dX1_init_25 rfl 0 rfl ?_
  refine JC.bipush (q := 28) (v := (30 : Int32)) O dX1_init_26 rfl (by decide) ?_
  refine JC.newI (q := 30) (N := 30) (o := 62) O dX1_init_28 rfl wd_1_42 (by decide) (by decide) (by decide) (by decide) (by decide) (by omega) ((hw (65) (by omega) (by omega)).trans (fe_65 G)) ?_
  refine JC.put (q := 33) (c9 := 62) (ci := 1) (k := 3) (code := 67) (B9 := (fun j => decide (j < 4))) (N9 := 10) O dX1_init_30 rfl hini wd_1_212 (by decide) (by decide) rfl (by omega) rfl rfl rfl rfl rfl (by decide) ?_
  refine JC.aload_n (q := 34) O dX1_init_33 rfl 0 rfl ?_
  refine JC.bipush (q := 36) (v := (30 : Int32)) O dX1_init_34 rfl (by decide) ?_
  refine JC.newI (q := 38) (N := 30) (o := 62) O dX1_init_36 rfl wd_1_42 (by decide) (by decide) (by decide) (by decide) (by decide) (by omega) ((hw (66) (by omega) (by omega)).trans (fe_66 G)) ?_
  refine JC.put (q := 41) (c9 := 62) (ci := 1) (k := 4) (code := 68) (B9 := (fun j => decide (j < 5))) (N9 := 10) O dX1_init_38 rfl hini wd_1_213 (by decide) (by decide) rfl (by omega) rfl rfl rfl rfl rfl (by decide) ?_
  refine JC.aload_n (q := 42) O dX1_init_41 rfl 0 rfl ?_
  refine JC.bipush (q := 44) (v := (30 : Int32)) O dX1_init_42 rfl (by decide) ?_
  refine JC.newI (q := 46) (N := 30) (o := 62) O dX1_init_44 rfl wd_1_42 (by decide) (by decide) (by decide) (by decide) (by decide) (by omega) ((hw (67) (by omega) (by omega)).trans (fe_67 G)) ?_
  refine JC.put (q := 49) (c9 := 62) (ci := 1) (k := 5) (code := 69) (B9 := (fun j => decide (j < 6))) (N9 := 10) O dX1_init_46 rfl hini wd_1_214 (by decide) (by decide) rfl (by omega) rfl rfl rfl rfl rfl (by decide) ?_
  refine JC.aload_n (q := 50) O dX1_init_49 rfl 0 rfl ?_
  refine JC.bipush (q := 52) (v := (30 : Int32)) O dX1_init_50 rfl (by decide) ?_
  refine JC.newZ (q := 54) (N := 30) (o := 62) O dX1_init_52 rfl wd_1_41 (by decide) (by decide) (by decide) (by decide) (by decide) (by omega) ((hw (68) (by omega) (by omega)).trans (fe_68 G)) ?_
  refine JC.put (q := 57) (c9 := 62) (ci := 1) (k := 6) (code := 70) (B9 := (fun j => decide (j < 7))) (N9 := 10) O dX1_init_54 rfl hini wd_1_216 (by decide) (by decide) rfl (by omega) rfl rfl rfl rfl rfl (by decide) ?_
  refine JC.aload_n (q := 58) O dX1_init_57 rfl 0 rfl ?_
  refine JC.bipush (q := 60) (v := (8 : Int32)) O dX1_init_58 rfl (by decide) ?_
  refine JC.newIf (q := 62) (N := 8) O dX1_init_60 rfl wd_1_42 (by decide) (by decide) (by decide) (by decide) (by decide) ?_
  refine JC.dup (q := 63) O dX1_init_62 rfl rfl ?_
  refine JC.iconst (q := 64) (v := (0 : Int32)) O dX1_init_63 rfl (by decide) ?_
  refine JC.iconst (q := 65) (v := (-1 : Int32)) O dX1_init_64 rfl (by decide) ?_
  refine JC.iast (q := 66) (c9 := 69) (N := 8) (i := (0 : Int32)) O dX1_init_65 rfl (by decide) (by unfold vp_in; decide) ?_
  refine JC.dup (q := 67) O dX1_init_66 rfl rfl ?_
  refine JC.iconst (q := 68) (v := (1 : Int32)) O dX1_init_67 rfl (by decide) ?_
  refine JC.iconst (q := 69) (v := (-1 : Int32)) O dX1_init_68 rfl (by decide) ?_
  refine JC.iast (q := 70) (c9 := 69) (N := 8) (i := (1 : Int32)) O dX1_init_69 rfl (by decide) (by unfold vp_in; decide) ?_
  refine JC.dup (q := 71) O dX1_init_70 rfl rfl ?_
  refine JC.iconst (q := 72) (v := (2 : Int32)) O dX1_init_71 rfl (by decide) ?_
  refine JC.iconst (q := 73) (v := (-1 : Int32)) O dX1_init_72 rfl (by decide) ?_
  refine JC.iast (q := 74) (c9 := 69) (N := 8) (i := (2 : Int32)) O dX1_init_73 rfl (by decide) (by unfold vp_in; decide) ?_
  refine JC.dup (q := 75) O dX1_init_74 rfl rfl ?_
  refine JC.iconst (q := 76) (v := (3 : Int32)) O dX1_init_75 rfl (by decide) ?_
  refine JC.iconst (q := 77) (v := (-1 : Int32)) O dX1_init_76 rfl (by decide) ?_
  refine JC.iast (q := 78) (c9 := 69) (N := 8) (i := (3 : Int32)) O dX1_init_77 rfl (by decide) (by unfold vp_in; decide) ?_
  refine JC.dup (q := 79) O dX1_init_78 rfl rfl ?_
  refine JC.iconst (q := 80) (v := (4 : Int32)) O dX1_init_79 rfl (by decide) ?_
  refine JC.iconst (q := 81) (v := (-1 : Int32)) O dX1_init_80 rfl (by decide) ?_
  refine JC.iast (q := 82) (c9 := 69) (N := 8) (i := (4 : Int32)) O dX1_init_81 rfl (by decide) (by unfold vp_in; decide) ?_
  refine JC.dup (q := 83) O dX1_init_82 rfl rfl ?_
  refine JC.iconst (q := 84) (v := (5 : Int32)) O dX1_init_83 rfl (by decide) ?_
  refine JC.iconst (q := 85) (v := (-1 : Int32)) O dX1_init_84 rfl (by decide) ?_
  refine JC.iast (q := 86) (c9 := 69) (N := 8) (i := (5 : Int32)) O dX1_init_85 rfl (by decide) (by unfold vp_in; decide) ?_
  refine JC.dup (q := 87) O dX1_init_86 rfl rfl ?_
  refine JC.bipush (q := 89) (v := (6 : Int32)) O dX1_init_87 rfl (by decide) ?_
  refine JC.iconst (q := 90) (v := (-1 : Int32)) O dX1_init_89 rfl (by decide) ?_
  refine JC.iast (q := 91) (c9 := 69) (N := 8) (i := (6 : Int32)) O dX1_init_90 rfl (by decide) (by unfold vp_in; decide) ?_
  refine JC.dup (q := 92) O dX1_init_91 rfl rfl ?_
  refine JC.bipush (q := 94) (v := (7 : Int32)) O dX1_init_92 rfl (by decide) ?_
  refine JC.iconst (q := 95) (v := (-1 : Int32)) O dX1_init_94 rfl (by decide) ?_
  refine JC.iast (q := 96) (c9 := 69) (N := 8) (i := (7 : Int32)) O dX1_init_95 rfl (by decide) (by unfold vp_in; decide) ?_
  refine JC.close ((updE_ne _ _ (by decide)).trans ((hw (69) (by omega) (by omega)).trans (fe_69 G))) (by decide) ?_
  refine JC.put (q := 99) (c9 := 62) (ci := 1) (k := 7) (code := 71) (B9 := (fun j => decide (j < 8))) (N9 := 10) O dX1_init_96 rfl hini wd_1_217 (by decide) (by decide) rfl (by omega) rfl rfl rfl rfl rfl (by decide) ?_
  refine JC.aload_n (q := 100) O dX1_init_99 rfl 0 rfl ?_
  refine JC.bipush (q := 102) (v := (8 : Int32)) O dX1_init_100 rfl (by decide) ?_
  refine JC.newI (q := 104) (N := 8) (o := 62) O dX1_init_102 rfl wd_1_42 (by decide) (by decide) (by decide) (by decide) (by decide) (by omega) ((hw (70) (by omega) (by omega)).trans (fe_70 G)) ?_
  refine JC.put (q := 107) (c9 := 62) (ci := 1) (k := 8) (code := 72) (B9 := (fun j => decide (j < 9))) (N9 := 10) O dX1_init_104 rfl hini wd_1_218 (by decide) (by decide) rfl (by omega) rfl rfl rfl rfl rfl (by decide) ?_
  refine JC.aload_n (q := 108) O dX1_init_107 rfl 0 rfl ?_
  refine JC.bipush (q := 110) (v := (8 : Int32)) O dX1_init_108 rfl (by decide) ?_
  refine JC.newZ (q := 112) (N := 8) (o := 62) O dX1_init_110 rfl wd_1_41 (by decide) (by decide) (by decide) (by decide) (by decide) (by omega) ((hw (71) (by omega) (by omega)).trans (fe_71 G)) ?_
  refine JC.put (q := 115) (c9 := 62) (ci := 1) (k := 9) (code := 73) (B9 := (fun j => decide (j < 10))) (N9 := 10) O dX1_init_112 rfl hini wd_1_219 (by decide) (by decide) rfl (by omega) rfl rfl rfl rfl rfl (by decide) ?_
  refine JC.cast (updE_self ((hw (62) (by omega) (by omega)).trans (ob_end G shC_62 rfl rfl (by decide)))) ?_
  exact hret _ _ dX1_init_115
theorem n_X4 {l : Launch} {G : GX} (hA : ∀ q, G.2.2.1 ≤ q → G.2.2.2.1 q) {f : Nat → va_E} (hw : ∀ k, 72 ≤ k → k < 81 → f k = fE G k) : CC l G yX4_init cX4_init 1 1 8 600 [.ref (ad G 72)] 73 81 (updE f 72 (newE 4)) f := by
  refine CC.mk hA (by decide) rfl [(0, .ref (ad G 72))] rfl (Nat.le_of_ble_eq_true rfl) (fun X O hini hX hret => ?_)
  refine JC.cast (congrArg (updE f 72) (show newE 4 = obF G 4 (M0 72) fsC72 (fun _ => false) from rfl)) ?_
  refine JC.aload_n (q := 1) O dX4_init_0 rfl 0 rfl ?_
  refine JC.objInit (q := 4) O dX4_init_1 rfl wd_2_6 (by decide) (by decide) ?_
  refine JC.aload_n (q := 5) O dX4_init_4 rfl 0 rfl ?_
  refine JC.iconst (q := 6) (v := (0 : Int32)) O dX4_init_5 rfl (by decide) ?_
  refine JC.put (q := 9) (c9 := 72) (ci := 4) (k := 0) (code := 0) (B9 := (fun j => decide (j < 1))) (N9 := 10) O dX4_init_6 rfl hini wd_2_7 (by decide) (by decide) rfl (by omega) rfl rfl rfl rfl rfl (by decide) ?_
  refine JC.aload_n (q := 10) O dX4_init_9 rfl 0 rfl ?_
  refine JC.bipush (q := 12) (v := (60 : Int32)) O dX4_init_10 rfl (by decide) ?_
  refine JC.newI (q := 14) (N := 60) (o := 72) O dX4_init_12 rfl wd_1_42 (by decide) (by decide) (by decide) (by decide) (by decide) (by omega) ((hw (73) (by omega) (by omega)).trans (fe_73 G)) ?_
  refine JC.put (q := 17) (c9 := 72) (ci := 4) (k := 1) (code := 75) (B9 := (fun j => decide (j < 2))) (N9 := 10) O dX4_init_14 rfl hini wd_2_9 (by decide) (by decide) rfl (by omega) rfl rfl rfl rfl rfl (by decide) ?_
  refine JC.aload_n (q := 18) O dX4_init_17 rfl 0 rfl ?_
  refine JC.bipush (q := 20) (v := (60 : Int32)) O dX4_init_18 rfl (by decide) ?_
  refine JC.newI (q := 22) (N := 60) (o := 72) O dX4_init_20 rfl wd_1_42 (by decide) (by decide) (by decide) (by decide) (by decide) (by omega) ((hw (74) (by omega) (by omega)).trans (fe_74 G)) ?_
  refine JC.put (q := 25) (c9 := 72) (ci := 4) (k := 2) (code := 76) (B9 := (fun j => decide (j < 3))) (N9 := 10) O dX4_init_22 rfl hini wd_2_11 (by decide) (by decide) rfl (by omega) rfl rfl rfl rfl rfl (by decide) ?_
  refine JC.aload_n (q := 26) O dX4_init_25 rfl 0 rfl ?_
  refine JC.bipush (q := 28) (v := (60 : Int32)) O dX4_init_26 rfl (by decide) ?_
  refine JC.newI (q := 30) (N := 60) (o := 72) O dX4_init_28 rfl wd_1_42 (by decide) (by decide) (by decide) (by decide) (by decide) (by omega) ((hw (75) (by omega) (by omega)).trans (fe_75 G)) ?_
  refine JC.put (q := 33) (c9 := 72) (ci := 4) (k := 3) (code := 77) (B9 := (fun j => decide (j < 4))) (N9 := 10) O dX4_init_30 rfl hini wd_2_13 (by decide) (by decide) rfl (by omega) rfl rfl rfl rfl rfl (by decide) ?_
  refine JC.aload_n (q := 34) O dX4_init_33 rfl 0 rfl ?_
  refine JC.bipush (q := 36) (v := (60 : Int32)) O dX4_init_34 rfl (by decide) ?_
  refine JC.newI (q := 38) (N := 60) (o := 72) O dX4_init_36 rfl wd_1_42 (by decide) (by decide) (by decide) (by decide) (by decide) (by omega) ((hw (76) (by omega) (by omega)).trans (fe_76 G)) ?_
  refine JC.put (q := 41) (c9 := 72) (ci := 4) (k := 4) (code := 78) (B9 := (fun j => decide (j < 5))) (N9 := 10) O dX4_init_38 rfl hini wd_2_15 (by decide) (by decide) rfl (by omega) rfl rfl rfl rfl rfl (by decide) ?_
  refine JC.aload_n (q := 42) O dX4_init_41 rfl 0 rfl ?_
  refine JC.bipush (q := 44) (v := (60 : Int32)) O dX4_init_42 rfl (by decide) ?_
  refine JC.newZ (q := 46) (N := 60) (o := 72) O dX4_init_44 rfl wd_1_41 (by decide) (by decide) (by decide) (by decide) (by decide) (by omega) ((hw (77) (by omega) (by omega)).trans (fe_77 G)) ?_
  refine JC.put (q := 49) (c9 := 72) (ci := 4) (k := 5) (code := 79) (B9 := (fun j => decide (j < 6))) (N9 := 10) O dX4_init_46 rfl hini wd_2_17 (by decide) (by decide) rfl (by omega) rfl rfl rfl rfl rfl (by decide) ?_
  refine JC.aload_n (q := 50) O dX4_init_49 rfl 0 rfl ?_
  refine JC.iconst (q := 51) (v := (0 : Int32)) O dX4_init_50 rfl (by decide) ?_
  refine JC.put (q := 54) (c9 := 72) (ci := 4) (k := 6) (code := 0) (B9 := (fun j => decide (j < 7))) (N9 := 10) O dX4_init_51 rfl hini wd_2_19 (by decide) (by decide) rfl (by omega) rfl rfl rfl rfl rfl (by decide) ?_
  refine JC.aload_n (q := 55) O dX4_init_54 rfl 0 rfl ?_
  refine JC.bipush (q := 57) (v := (100 : Int32)) O dX4_init_55 rfl (by decide) ?_
  refine JC.newI (q := 59) (N := 100) (o := 72) O dX4_init_57 rfl wd_1_42 (by decide) (by decide) (by decide) (by decide) (by decide) (by omega) ((hw (78) (by omega) (by omega)).trans (fe_78 G)) ?_
  refine JC.put (q := 62) (c9 := 72) (ci := 4) (k := 7) (code := 80) (B9 := (fun j => decide (j < 8))) (N9 := 10) O dX4_init_59 rfl hini wd_2_20 (by decide) (by decide) rfl (by omega) rfl rfl rfl rfl rfl (by decide) ?_
  refine JC.aload_n (q := 63) O dX4_init_62 rfl 0 rfl ?_
  refine JC.bipush (q := 65) (v := (100 : Int32)) O dX4_init_63 rfl (by decide) ?_
  refine JC.newI (q := 67) (N := 100) (o := 72) O dX4_init_65 rfl wd_1_42 (by decide) (by decide) (by decide) (by decide) (by decide) (by omega) ((hw (79) (by omega) (by omega)).trans (fe_79 G)) ?_
  refine JC.put (q := 70) (c9 := 72) (ci := 4) (k := 8) (code := 81) (B9 := (fun j => decide (j < 9))) (N9 := 10) O dX4_init_67 rfl hini wd_2_21 (by decide) (by decide) rfl (by omega) rfl rfl rfl rfl rfl (by decide) ?_
  refine JC.aload_n (q := 71) O dX4_init_70 rfl 0 rfl ?_
  refine JC.bipush (q := 73) (v := (100 : Int32)) O dX4_init_71 rfl (by decide) ?_
  refine JC.newI (q := 75) (N := 100) (o := 72) O dX4_init_73 rfl wd_1_42 (by decide) (by decide) (by decide) (by decide) (by decide) (by omega) ((hw (80) (by omega) (by omega)).trans (fe_80 G)) ?_
  refine JC.put (q := 78) (c9 := 72) (ci := 4) (k := 9) (code := 82) (B9 := (fun j => decide (j < 10))) (N9 := 10) O dX4_init_75 rfl hini wd_2_22 (by decide) (by decide) rfl (by omega) rfl rfl rfl rfl rfl (by decide) ?_
  refine JC.cast (updE_self ((hw (72) (by omega) (by omega)).trans (ob_end G shC_72 rfl rfl (by decide)))) ?_
  exact hret _ _ dX4_init_78
theorem n_X8 {l : Launch} {G : GX} (hA : ∀ q, G.2.2.1 ≤ q → G.2.2.2.1 q) {f : Nat → va_E} (hw : ∀ k, 81 ≤ k → k < 97 → f k = fE G k) : CC l G yX8_init cX8_init 1 1 15 2240 [.ref (ad G 81)] 82 97 (updE f 81 (newE 8)) f := by
  refine CC.mk hA (by decide) rfl [(0, .ref (ad G 81))] rfl (Nat.le_of_ble_eq_true rfl) (fun X O hini hX hret => ?_)
  refine JC.cast (congrArg (updE f 81) (show newE 8 = obF G 8 (M0 81) fsC81 (fun _ => false) from rfl)) ?_
  refine JC.aload_n (q := 1) O dX8_init_0 rfl 0 rfl ?_
  refine JC.objInit (q := 4) O dX8_init_1 rfl wd_2_49 (by decide) (by decide) ?_
  refine JC.aload_n (q := 5) O dX8_init_4 rfl 0 rfl ?_
  refine JC.iconst (q := 6) (v := (3 : Int32)) O dX8_init_5 rfl (by decide) ?_
  refine JC.newIf (q := 8) (N := 3) O dX8_init_6 rfl wd_1_42 (by decide) (by decide) (by decide) (by decide) (by decide) ?_
  refine JC.dup (q := 9) O dX8_init_8 rfl rfl ?_
  refine JC.iconst (q := 10) (v := (0 : Int32)) O dX8_init_9 rfl (by decide) ?_
  refine JC.iconst (q := 11) (v := (1 : Int32)) O dX8_init_10 rfl (by decide) ?_
  refine JC.iast (q := 12) (c9 := 82) (N := 3) (i := (0 : Int32)) O dX8_init_11 rfl (by decide) (by unfold vp_in; decide) ?_
  refine JC.dup (q := 13) O dX8_init_12 rfl rfl ?_
  refine JC.iconst (q := 14) (v := (1 : Int32)) O dX8_init_13 rfl (by decide) ?_
  refine JC.iconst (q := 15) (v := (1 : Int32)) O dX8_init_14 rfl (by decide) ?_
  refine JC.iast (q := 16) (c9 := 82) (N := 3) (i := (1 : Int32)) O dX8_init_15 rfl (by decide) (by unfold vp_in; decide) ?_
  refine JC.dup (q := 17) O dX8_init_16 rfl rfl ?_
  refine JC.iconst (q := 18) (v := (2 : Int32)) O dX8_init_17 rfl (by decide) ?_
  refine JC.iconst (q := 19) (v := (1 : Int32)) O dX8_init_18 rfl (by decide) ?_
  refine JC.iast (q := 20) (c9 := 82) (N := 3) (i := (2 : Int32)) O dX8_init_19 rfl (by decide) (by unfold vp_in; decide) ?_
  refine JC.close ((updE_ne _ _ (by decide)).trans ((hw (82) (by omega) (by omega)).trans (fe_82 G))) (by decide) ?_
  refine JC.put (q := 23) (c9 := 81) (ci := 8) (k := 0) (code := 84) (B9 := (fun j => decide (j < 1))) (N9 := 17) O dX8_init_20 rfl hini wd_2_52 (by decide) (by decide) rfl (by omega) rfl rfl rfl rfl rfl (by decide) ?_
  refine JC.aload_n (q := 24) O dX8_init_23 rfl 0 rfl ?_
  refine JC.iconst (q := 25) (v := (4 : Int32)) O dX8_init_24 rfl (by decide) ?_
  refine JC.newI (q := 27) (N := 4) (o := 81) O dX8_init_25 rfl wd_1_42 (by decide) (by decide) (by decide) (by decide) (by decide) (by omega) ((hw (83) (by omega) (by omega)).trans (fe_83 G)) ?_
  refine JC.put (q := 30) (c9 := 81) (ci := 8) (k := 1) (code := 85) (B9 := (fun j => decide (j < 2))) (N9 := 17) O dX8_init_27 rfl hini wd_2_53 (by decide) (by decide) rfl (by omega) rfl rfl rfl rfl rfl (by decide) ?_
  refine JC.aload_n (q := 31) O dX8_init_30 rfl 0 rfl ?_
  refine JC.iconst (q := 32) (v := (0 : Int32)) O dX8_init_31 rfl (by decide) ?_
  refine JC.put (q := 35) (c9 := 81) (ci := 8) (k := 2) (code := 0) (B9 := (fun j => decide (j < 3))) (N9 := 17) O dX8_init_32 rfl hini wd_2_54 (by decide) (by decide) rfl (by omega) rfl rfl rfl rfl rfl (by decide) ?_
  refine JC.aload_n (q := 36) O dX8_init_35 rfl 0 rfl ?_
  refine JC.iconst (q := 37) (v := (0 : Int32)) O dX8_init_36 rfl (by decide) ?_
  refine JC.put (q := 40) (c9 := 81) (ci := 8) (k := 3) (code := 0) (B9 := (fun j => decide (j < 4))) (N9 := 17) O dX8_init_37 rfl hini wd_2_55 (by decide) (by decide) rfl (by omega) rfl rfl rfl rfl rfl (by decide) ?_
  refine JC.aload_n (q := 41) O dX8_init_40 rfl 0 rfl ?_
  refine JC.iconst (q := 42) (v := (0 : Int32)) O dX8_init_41 rfl (by decide) ?_
  refine JC.put (q := 45) (c9 := 81) (ci := 8) (k := 4) (code := 0) (B9 := (fun j => decide (j < 5))) (N9 := 17) O dX8_init_42 rfl hini wd_2_56 (by decide) (by decide) rfl (by omega) rfl rfl rfl rfl rfl (by decide) ?_
  refine JC.aload_n (q := 46) O dX8_init_45 rfl 0 rfl ?_
  refine JC.bipush (q := 48) (v := (24 : Int32)) O dX8_init_46 rfl (by decide) ?_
  refine JC.newI (q := 50) (N := 24) (o := 81) O dX8_init_48 rfl wd_1_42 (by decide) (by decide) (by decide) (by decide) (by decide) (by omega) ((hw (84) (by omega) (by omega)).trans (fe_84 G)) ?_
  refine JC.put (q := 53) (c9 := 81) (ci := 8) (k := 5) (code := 86) (B9 := (fun j => decide (j < 6))) (N9 := 17) O dX8_init_50 rfl hini wd_2_57 (by decide) (by decide) rfl (by omega) rfl rfl rfl rfl rfl (by decide) ?_
  refine JC.aload_n (q := 54) O dX8_init_53 rfl 0 rfl ?_
  refine JC.bipush (q := 56) (v := (24 : Int32)) O dX8_init_54 rfl (by decide) ?_
  refine JC.newI (q := 58) (N := 24) (o := 81) O dX8_init_56 rfl wd_1_42 (by decide) (by decide) (by decide) (by decide) (by decide) (by omega) ((hw (85) (by omega) (by omega)).trans (fe_85 G)) ?_
  refine JC.put (q := 61) (c9 := 81) (ci := 8) (k := 6) (code := 87) (B9 := (fun j => decide (j < 7))) (N9 := 17) O dX8_init_58 rfl hini wd_2_58 (by decide) (by decide) rfl (by omega) rfl rfl rfl rfl rfl (by decide) ?_
  refine JC.aload_n (q := 62) O dX8_init_61 rfl 0 rfl ?_
  refine JC.bipush (q := 64) (v := (24 : Int32)) O dX8_init_62 rfl (by decide) ?_
  refine JC.newI (q := 66) (N := 24) (o := 81) O dX8_init_64 rfl wd_1_42 (by decide) (by decide) (by decide) (by decide) (by decide) (by omega) ((hw (86) (by omega) (by omega)).trans (fe_86 G)) ?_
  refine JC.put (q := 69) (c9 := 81) (ci := 8) (k := 7) (code := 88) (B9 := (fun j => decide (j < 8))) (N9 := 17) O dX8_init_66 rfl hini wd_2_59 (by decide) (by decide) rfl (by omega) rfl rfl rfl rfl rfl (by decide) ?_
  refine JC.aload_n (q := 70) O dX8_init_69 rfl 0 rfl ?_
  refine JC.iconst (q := 71) (v := (4 : Int32)) O dX8_init_70 rfl (by decide) ?_
  refine JC.bipush (q := 73) (v := (24 : Int32)) O dX8_init_71 rfl (by decide) ?_
  refine JC.multi (q := 77) (t := 2) (t1 := 0) (N := 4) (K := 24) (ty := .int) O dX8_init_73 rfl (Or.inr ⟨rfl, rfl, rfl⟩) wd_2_50 (by decide) (by decide) (by decide) (by decide) (by decide) (by decide) (by decide) (by decide) ((updE_ne _ _ (by decide)).trans ((hw (87) (by omega) (by omega)).trans (fe_87 G))) (fun j hj => (updE_ne _ _ (by omega)).trans ((hw (87 + 1 + j) (by omega) (by omega)).trans (by rcases (show j = 0 ∨ j = 1 ∨ j = 2 ∨ j = 3 by omega) with rfl | rfl | rfl | rfl <;> first | exact fe_88 G | exact fe_89 G | exact fe_90 G | exact fe_91 G))) ?_
  refine JC.put (q := 80) (c9 := 81) (ci := 8) (k := 8) (code := 89) (B9 := (fun j => decide (j < 9))) (N9 := 17) O dX8_init_77 rfl hini wd_2_60 (by decide) (by decide) rfl (by omega) rfl rfl rfl rfl rfl (by decide) ?_
  refine JC.aload_n (q := 81) O dX8_init_80 rfl 0 rfl ?_
  refine JC.iconst (q := 82) (v := (5 : Int32)) O dX8_init_81 rfl (by decide) ?_
  refine JC.newI (q := 84) (N := 5) (o := 81) O dX8_init_82 rfl wd_1_42 (by decide) (by decide) (by decide) (by decide) (by decide) (by omega) ((hw (92) (by omega) (by omega)).trans (fe_92 G)) ?_
  refine JC.put (q := 87) (c9 := 81) (ci := 8) (k := 9) (code := 94) (B9 := (fun j => decide (j < 10))) (N9 := 17) O dX8_init_84 rfl hini wd_2_61 (by decide) (by decide) rfl (by omega) rfl rfl rfl rfl rfl (by decide) ?_
  refine JC.aload_n (q := 88) O dX8_init_87 rfl 0 rfl ?_
  refine JC.iconst (q := 89) (v := (4 : Int32)) O dX8_init_88 rfl (by decide) ?_
  refine JC.newI (q := 91) (N := 4) (o := 81) O dX8_init_89 rfl wd_1_42 (by decide) (by decide) (by decide) (by decide) (by decide) (by omega) ((hw (93) (by omega) (by omega)).trans (fe_93 G)) ?_
  refine JC.put (q := 94) (c9 := 81) (ci := 8) (k := 10) (code := 95) (B9 := (fun j => decide (j < 11))) (N9 := 17) O dX8_init_91 rfl hini wd_2_62 (by decide) (by decide) rfl (by omega) rfl rfl rfl rfl rfl (by decide) ?_
  refine JC.aload_n (q := 95) O dX8_init_94 rfl 0 rfl ?_
  refine JC.iconst (q := 96) (v := (4 : Int32)) O dX8_init_95 rfl (by decide) ?_
  refine JC.newI (q := 98) (N := 4) (o := 81) O dX8_init_96 rfl wd_1_42 (by decide) (by decide) (by decide) (by decide) (by decide) (by omega) ((hw (94) (by omega) (by omega)).trans (fe_94 G)) ?_
  refine JC.put (q := 101) (c9 := 81) (ci := 8) (k := 11) (code := 96) (B9 := (fun j => decide (j < 12))) (N9 := 17) O dX8_init_98 rfl hini wd_2_63 (by decide) (by decide) rfl (by omega) rfl rfl rfl rfl rfl (by decide) ?_
  refine JC.aload_n (q := 102) O dX8_init_101 rfl 0 rfl ?_
  refine JC.bipush (q := 104) (v := (-9 : Int32)) O dX8_init_102 rfl (by decide) ?_
  refine JC.put (q := 107) (c9 := 81) (ci := 8) (k := 12) (code := 0) (B9 := (fun j => decide (j < 13))) (N9 := 17) O dX8_init_104 rfl hini wd_2_64 (by decide) (by decide) rfl (by omega) rfl rfl rfl rfl rfl (by decide) ?_
  refine JC.aload_n (q := 108) O dX8_init_107 rfl 0 rfl ?_
  refine JC.sipush (q := 111) (v := (1024 : Int32)) O dX8_init_108 rfl (by decide) ?_
  refine JC.newJ (q := 113) (N := 1024) (o := 81) O dX8_init_111 rfl wd_2_104 (by decide) (by decide) (by decide) (by decide) (by decide) (by omega) ((hw (95) (by omega) (by omega)).trans (fe_95 G)) ?_
  refine JC.put (q := 116) (c9 := 81) (ci := 8) (k := 13) (code := 97) (B9 := (fun j => decide (j < 14))) (N9 := 17) O dX8_init_113 rfl hini wd_2_65 (by decide) (by decide) rfl (by omega) rfl rfl rfl rfl rfl (by decide) ?_
  refine JC.aload_n (q := 117) O dX8_init_116 rfl 0 rfl ?_
  refine JC.sipush (q := 120) (v := (1024 : Int32)) O dX8_init_117 rfl (by decide) ?_
  refine JC.newI (q := 122) (N := 1024) (o := 81) O dX8_init_120 rfl wd_1_42 (by decide) (by decide) (by decide) (by decide) (by decide) (by omega) ((hw (96) (by omega) (by omega)).trans (fe_96 G)) ?_
  refine JC.put (q := 125) (c9 := 81) (ci := 8) (k := 14) (code := 98) (B9 := (fun j => decide (j < 15))) (N9 := 17) O dX8_init_122 rfl hini wd_2_66 (by decide) (by decide) rfl (by omega) rfl rfl rfl rfl rfl (by decide) ?_
  refine JC.aload_n (q := 126) O dX8_init_125 rfl 0 rfl ?_
  refine JC.iconst (q := 127) (v := (0 : Int32)) O dX8_init_126 rfl (by decide) ?_
  refine JC.put (q := 130) (c9 := 81) (ci := 8) (k := 15) (code := 0) (B9 := (fun j => decide (j < 16))) (N9 := 17) O dX8_init_127 rfl hini wd_2_67 (by decide) (by decide) rfl (by omega) rfl rfl rfl rfl rfl (by decide) ?_
  refine JC.aload_n (q := 131) O dX8_init_130 rfl 0 rfl ?_
  refine JC.bipush (q := 133) (v := (-9 : Int32)) O dX8_init_131 rfl (by decide) ?_
  refine JC.put (q := 136) (c9 := 81) (ci := 8) (k := 16) (code := 0) (B9 := (fun j => decide (j < 17))) (N9 := 17) O dX8_init_133 rfl hini wd_2_68 (by decide) (by decide) rfl (by omega) rfl rfl rfl rfl rfl (by decide) ?_
  refine JC.cast (updE_self ((hw (81) (by omega) (by omega)).trans (ob_end G shC_81 rfl rfl (by decide)))) ?_
  exact hret _ _ dX8_init_136
theorem n_X10 {l : Launch} {G : GX} (hA : ∀ q, G.2.2.1 ≤ q → G.2.2.2.1 q) {f : Nat → va_E} (hw : ∀ k, 97 ≤ k → k < 111 → f k = fE G k) : CC l G yX10_init cX10_init 1 1 13 135 [.ref (ad G 97)] 98 111 (updE f 97 (newE 10)) f := by
  refine CC.mk hA (by decide) rfl [(0, .ref (ad G 97))] rfl (Nat.le_of_ble_eq_true rfl) (fun X O hini hX hret => ?_)
  refine JC.cast (congrArg (updE f 97) (show newE 10 = obF G 10 (M0 97) fsC97 (fun _ => false) from rfl)) ?_
  refine JC.aload_n (q := 1) O dX10_init_0 rfl 0 rfl ?_
  refine JC.objInit (q := 4) O dX10_init_1 rfl wd_2_110 (by decide) (by decide) ?_
  refine JC.aload_n (q := 5) O dX10_init_4 rfl 0 rfl ?_
  refine JC.iconst (q := 6) (v := (5 : Int32)) O dX10_init_5 rfl (by decide) ?_
  refine JC.newI (q := 8) (N := 5) (o := 97) O dX10_init_6 rfl wd_1_42 (by decide) (by decide) (by decide) (by decide) (by decide) (by omega) ((hw (98) (by omega) (by omega)).trans (fe_98 G)) ?_
  refine JC.put (q := 11) (c9 := 97) (ci := 10) (k := 0) (code := 100) (B9 := (fun j => decide (j < 1))) (N9 := 3) O dX10_init_8 rfl hini wd_2_112 (by decide) (by decide) rfl (by omega) rfl rfl rfl rfl rfl (by decide) ?_
  refine JC.aload_n (q := 12) O dX10_init_11 rfl 0 rfl ?_
  refine JC.iconst (q := 13) (v := (5 : Int32)) O dX10_init_12 rfl (by decide) ?_
  refine JC.bipush (q := 15) (v := (12 : Int32)) O dX10_init_13 rfl (by decide) ?_
  refine JC.multi (q := 19) (t := 2) (t1 := 0) (N := 5) (K := 12) (ty := .int) O dX10_init_15 rfl (Or.inr ⟨rfl, rfl, rfl⟩) wd_2_111 (by decide) (by decide) (by decide) (by decide) (by decide) (by decide) (by decide) (by decide) ((updE_ne _ _ (by decide)).trans ((hw (99) (by omega) (by omega)).trans (fe_99 G))) (fun j hj => (updE_ne _ _ (by omega)).trans ((hw (99 + 1 + j) (by omega) (by omega)).trans (by rcases (show j = 0 ∨ j = 1 ∨ j = 2 ∨ j = 3 ∨ j = 4 by omega) with rfl | rfl | rfl | rfl | rfl <;> first | exact fe_100 G | exact fe_101 G | exact fe_102 G | exact fe_103 G | exact fe_104 G))) ?_
  refine JC.put (q := 22) (c9 := 97) (ci := 10) (k := 1) (code := 101) (B9 := (fun j => decide (j < 2))) (N9 := 3) O dX10_init_19 rfl hini wd_2_113 (by decide) (by decide) rfl (by omega) rfl rfl rfl rfl rfl (by decide) ?_
  refine JC.aload_n (q := 23) O dX10_init_22 rfl 0 rfl ?_
  refine JC.iconst (q := 24) (v := (5 : Int32)) O dX10_init_23 rfl (by decide) ?_
  refine JC.bipush (q := 26) (v := (12 : Int32)) O dX10_init_24 rfl (by decide) ?_
  refine JC.multi (q := 30) (t := 2) (t1 := 0) (N := 5) (K := 12) (ty := .int) O dX10_init_26 rfl (Or.inr ⟨rfl, rfl, rfl⟩) wd_2_111 (by decide) (by decide) (by decide) (by decide) (by decide) (by decide) (by decide) (by decide) ((updE_ne _ _ (by decide)).trans ((hw (105) (by omega) (by omega)).trans (fe_105 G))) (fun j hj => (updE_ne _ _ (by omega)).trans ((hw (105 + 1 + j) (by omega) (by omega)).trans (by rcases (show j = 0 ∨ j = 1 ∨ j = 2 ∨ j = 3 ∨ j = 4 by omega) with rfl | rfl | rfl | rfl | rfl <;> first | exact fe_106 G | exact fe_107 G | exact fe_108 G | exact fe_109 G | exact fe_110 G))) ?_
  refine JC.put (q := 33) (c9 := 97) (ci := 10) (k := 2) (code := 107) (B9 := (fun j => decide (j < 3))) (N9 := 3) O dX10_init_30 rfl hini wd_2_114 (by decide) (by decide) rfl (by omega) rfl rfl rfl rfl rfl (by decide) ?_
  refine JC.cast (updE_self ((hw (97) (by omega) (by omega)).trans (ob_end G shC_97 rfl rfl (by decide)))) ?_
  exact hret _ _ dX10_init_33
theorem n_X6 {l : Launch} {G : GX} (hA : ∀ q, G.2.2.1 ≤ q → G.2.2.2.1 q) {f : Nat → va_E} (hw : ∀ k, 111 ≤ k → k < 118 → f k = fE G k) : CC l G yX6_init cX6_init 1 1 6 42 [.ref (ad G 111)] 112 118 (updE f 111 (newE 6)) f := by
  refine CC.mk hA (by decide) rfl [(0, .ref (ad G 111))] rfl (Nat.le_of_ble_eq_true rfl) (fun X O hini hX hret => ?_)
  refine JC.cast (congrArg (updE f 111) (show newE 6 = obF G 6 (M0 111) fsC111 (fun _ => false) from rfl)) ?_
  refine JC.aload_n (q := 1) O dX6_init_0 rfl 0 rfl ?_
  refine JC.objInit (q := 4) O dX6_init_1 rfl wd_2_127 (by decide) (by decide) ?_
  refine JC.aload_n (q := 5) O dX6_init_4 rfl 0 rfl ?_
  refine JC.iconst (q := 6) (v := (0 : Int32)) O dX6_init_5 rfl (by decide) ?_
  refine JC.put (q := 9) (c9 := 111) (ci := 6) (k := 0) (code := 0) (B9 := (fun j => decide (j < 1))) (N9 := 9) O dX6_init_6 rfl hini wd_2_128 (by decide) (by decide) rfl (by omega) rfl rfl rfl rfl rfl (by decide) ?_
  refine JC.aload_n (q := 10) O dX6_init_9 rfl 0 rfl ?_
  refine JC.bipush (q := 12) (v := (7 : Int32)) O dX6_init_10 rfl (by decide) ?_
  refine JC.newI (q := 14) (N := 7) (o := 111) O dX6_init_12 rfl wd_1_42 (by decide) (by decide) (by decide) (by decide) (by decide) (by omega) ((hw (112) (by omega) (by omega)).trans (fe_112 G)) ?_
  refine JC.put (q := 17) (c9 := 111) (ci := 6) (k := 1) (code := 114) (B9 := (fun j => decide (j < 2))) (N9 := 9) O dX6_init_14 rfl hini wd_2_129 (by decide) (by decide) rfl (by omega) rfl rfl rfl rfl rfl (by decide) ?_
  refine JC.aload_n (q := 18) O dX6_init_17 rfl 0 rfl ?_
  refine JC.bipush (q := 20) (v := (7 : Int32)) O dX6_init_18 rfl (by decide) ?_
  refine JC.newI (q := 22) (N := 7) (o := 111) O dX6_init_20 rfl wd_1_42 (by decide) (by decide) (by decide) (by decide) (by decide) (by omega) ((hw (113) (by omega) (by omega)).trans (fe_113 G)) ?_
  refine JC.put (q := 25) (c9 := 111) (ci := 6) (k := 2) (code := 115) (B9 := (fun j => decide (j < 3))) (N9 := 9) O dX6_init_22 rfl hini wd_2_130 (by decide) (by decide) rfl (by omega) rfl rfl rfl rfl rfl (by decide) ?_
  refine JC.aload_n (q := 26) O dX6_init_25 rfl 0 rfl ?_
  refine JC.bipush (q := 28) (v := (7 : Int32)) O dX6_init_26 rfl (by decide) ?_
  refine JC.newI (q := 30) (N := 7) (o := 111) O dX6_init_28 rfl wd_1_42 (by decide) (by decide) (by decide) (by decide) (by decide) (by omega) ((hw (114) (by omega) (by omega)).trans (fe_114 G)) ?_
  refine JC.put (q := 33) (c9 := 111) (ci := 6) (k := 3) (code := 116) (B9 := (fun j => decide (j < 4))) (N9 := 9) O dX6_init_30 rfl hini wd_2_131 (by decide) (by decide) rfl (by omega) rfl rfl rfl rfl rfl (by decide) ?_
  refine JC.aload_n (q := 34) O dX6_init_33 rfl 0 rfl ?_
  refine JC.bipush (q := 36) (v := (7 : Int32)) O dX6_init_34 rfl (by decide) ?_
  refine JC.newI (q := 38) (N := 7) (o := 111) O dX6_init_36 rfl wd_1_42 (by decide) (by decide) (by decide) (by decide) (by decide) (by omega) ((hw (115) (by omega) (by omega)).trans (fe_115 G)) ?_
  refine JC.put (q := 41) (c9 := 111) (ci := 6) (k := 4) (code := 117) (B9 := (fun j => decide (j < 5))) (N9 := 9) O dX6_init_38 rfl hini wd_2_132 (by decide) (by decide) rfl (by omega) rfl rfl rfl rfl rfl (by decide) ?_
  refine JC.aload_n (q := 42) O dX6_init_41 rfl 0 rfl ?_
  refine JC.bipush (q := 44) (v := (7 : Int32)) O dX6_init_42 rfl (by decide) ?_
  refine JC.newI (q := 46) (N := 7) (o := 111) O dX6_init_44 rfl wd_1_42 (by decide) (by decide) (by decide) (by decide) (by decide) (by omega) ((hw (116) (by omega) (by omega)).trans (fe_116 G)) ?_
  refine JC.put (q := 49) (c9 := 111) (ci := 6) (k := 5) (code := 118) (B9 := (fun j => decide (j < 6))) (N9 := 9) O dX6_init_46 rfl hini wd_2_133 (by decide) (by decide) rfl (by omega) rfl rfl rfl rfl rfl (by decide) ?_
  refine JC.aload_n (q := 50) O dX6_init_49 rfl 0 rfl ?_
  refine JC.bipush (q := 52) (v := (7 : Int32)) O dX6_init_50 rfl (by decide) ?_
  refine JC.newI (q := 54) (N := 7) (o := 111) O dX6_init_52 rfl wd_1_42 (by decide) (by decide) (by decide) (by decide) (by decide) (by omega) ((hw (117) (by omega) (by omega)).trans (fe_117 G)) ?_
  refine JC.put (q := 57) (c9 := 111) (ci := 6) (k := 6) (code := 119) (B9 := (fun j => decide (j < 7))) (N9 := 9) O dX6_init_54 rfl hini wd_2_134 (by decide) (by decide) rfl (by omega) rfl rfl rfl rfl rfl (by decide) ?_
  refine JC.aload_n (q := 58) O dX6_init_57 rfl 0 rfl ?_
  refine JC.bipush (q := 60) (v := (-9 : Int32)) O dX6_init_58 rfl (by decide) ?_
  refine JC.put (q := 63) (c9 := 111) (ci := 6) (k := 7) (code := 0) (B9 := (fun j => decide (j < 8))) (N9 := 9) O dX6_init_60 rfl hini wd_2_135 (by decide) (by decide) rfl (by omega) rfl rfl rfl rfl rfl (by decide) ?_
  refine JC.aload_n (q := 64) O dX6_init_63 rfl 0 rfl ?_
  refine JC.bipush (q := 66) (v := (-9 : Int32)) O dX6_init_64 rfl (by decide) ?_
  refine JC.put (q := 69) (c9 := 111) (ci := 6) (k := 8) (code := 0) (B9 := (fun j => decide (j < 9))) (N9 := 9) O dX6_init_66 rfl hini wd_2_136 (by decide) (by decide) rfl (by omega) rfl rfl rfl rfl rfl (by decide) ?_
  refine JC.cast (updE_self ((hw (111) (by omega) (by omega)).trans (ob_end G shC_111 rfl rfl (by decide)))) ?_
  exact hret _ _ dX6_init_69
theorem n_X5 {l : Launch} {G : GX} (hA : ∀ q, G.2.2.1 ≤ q → G.2.2.2.1 q) {f : Nat → va_E} {i : Nat} (hi : i < 40) (hw : ∀ k, 127 + 4 * i ≤ k → k < 127 + 4 * i + 4 → f k = fE G k) : CC l G yX5_init cX5_init 3 1 3 90 [.ref (ad G (127 + 4 * i)), .ref (ad G 1), .ref (ad G 51)] (127 + 4 * i + 1) (127 + 4 * i + 4) (updE f (127 + 4 * i) (newE 5)) f := by
  refine CC.mk hA (by decide) rfl [(0, .ref (ad G (127 + 4 * i))), (1, .ref (ad G 1)), (2, .ref (ad G 51))] rfl (Nat.le_of_ble_eq_true rfl) (fun X O hini hX hret => ?_)
  refine JC.cast (congrArg (updE f (127 + 4 * i)) (show newE 5 = obF G 5 mt0 (fsM (127 + 4 * i)) (fun _ => false) from rfl)) ?_
  refine JC.aload_n (q := 1) O dX5_init_0 rfl 0 rfl ?_
  refine JC.objInit (q := 4) O dX5_init_1 rfl wd_2_161 (by decide) (by decide) ?_
  refine JC.aload_n (q := 5) O dX5_init_4 rfl 0 rfl ?_
  refine JC.iconst (q := 6) (v := (0 : Int32)) O dX5_init_5 rfl (by decide) ?_
  refine JC.put (q := 9) (c9 := 127 + 4 * i) (ci := 5) (k := 2) (code := 0) (B9 := (fun j => decide (2 ≤ j ∧ j < 3))) (N9 := 15) O dX5_init_6 rfl hini wd_2_164 (by decide) (by decide) rfl (by omega) rfl rfl rfl rfl rfl (by decide) ?_
  refine JC.aload_n (q := 10) O dX5_init_9 rfl 0 rfl ?_
  refine JC.iconst (q := 11) (v := (0 : Int32)) O dX5_init_10 rfl (by decide) ?_
  refine JC.put (q := 14) (c9 := 127 + 4 * i) (ci := 5) (k := 3) (code := 0) (B9 := (fun j => decide (2 ≤ j ∧ j < 4))) (N9 := 15) O dX5_init_11 rfl hini wd_2_165 (by decide) (by decide) rfl (by omega) rfl rfl rfl rfl rfl (by decide) ?_
  refine JC.aload_n (q := 15) O dX5_init_14 rfl 0 rfl ?_
  refine JC.iconst (q := 16) (v := (0 : Int32)) O dX5_init_15 rfl (by decide) ?_
  refine JC.put (q := 19) (c9 := 127 + 4 * i) (ci := 5) (k := 4) (code := 0) (B9 := (fun j => decide (2 ≤ j ∧ j < 5))) (N9 := 15) O dX5_init_16 rfl hini wd_2_167 (by decide) (by decide) rfl (by omega) rfl rfl rfl rfl rfl (by decide) ?_
  refine JC.aload_n (q := 20) O dX5_init_19 rfl 0 rfl ?_
  refine JC.bipush (q := 22) (v := (-9 : Int32)) O dX5_init_20 rfl (by decide) ?_
  refine JC.put (q := 25) (c9 := 127 + 4 * i) (ci := 5) (k := 5) (code := 0) (B9 := (fun j => decide (2 ≤ j ∧ j < 6))) (N9 := 15) O dX5_init_22 rfl hini wd_2_169 (by decide) (by decide) rfl (by omega) rfl rfl rfl rfl rfl (by decide) ?_
  refine JC.aload_n (q := 26) O dX5_init_25 rfl 0 rfl ?_
  refine JC.iconst (q := 27) (v := (0 : Int32)) O dX5_init_26 rfl (by decide) ?_
  refine JC.put (q := 30) (c9 := 127 + 4 * i) (ci := 5) (k := 6) (code := 0) (B9 := (fun j => decide (2 ≤ j ∧ j < 7))) (N9 := 15) O dX5_init_27 rfl hini wd_2_171 (by decide) (by decide) rfl (by omega) rfl rfl rfl rfl rfl (by decide) ?_
  refine JC.aload_n (q := 31) O dX5_init_30 rfl 0 rfl ?_
  refine JC.iconst (q := 32) (v := (0 : Int32)) O dX5_init_31 rfl (by decide) ?_
  refine JC.put (q := 35) (c9 := 127 + 4 * i) (ci := 5) (k := 7) (code := 0) (B9 := (fun j => decide (2 ≤ j ∧ j < 8))) (N9 := 15) O dX5_init_32 rfl hini wd_2_173 (by decide) (by decide) rfl (by omega) rfl rfl rfl rfl rfl (by decide) ?_
  refine JC.aload_n (q := 36) O dX5_init_35 rfl 0 rfl ?_
  refine JC.iconst (q := 37) (v := (0 : Int32)) O dX5_init_36 rfl (by decide) ?_
  refine JC.put (q := 40) (c9 := 127 + 4 * i) (ci := 5) (k := 8) (code := 0) (B9 := (fun j => decide (2 ≤ j ∧ j < 9))) (N9 := 15) O dX5_init_37 rfl hini wd_2_175 (by decide) (by decide) rfl (by omega) rfl rfl rfl rfl rfl (by decide) ?_
  refine JC.aload_n (q := 41) O dX5_init_40 rfl 0 rfl ?_
  refine JC.iconst (q := 42) (v := (0 : Int32)) O dX5_init_41 rfl (by decide) ?_
  refine JC.put (q := 45) (c9 := 127 + 4 * i) (ci := 5) (k := 9) (code := 0) (B9 := (fun j => decide (2 ≤ j ∧ j < 10))) (N9 := 15) O dX5_init_42 rfl hini wd_2_176 (by decide) (by decide) rfl (by omega) rfl rfl rfl rfl rfl (by decide) ?_
  refine JC.aload_n (q := 46) O dX5_init_45 rfl 0 rfl ?_
  refine JC.iconst (q := 47) (v := (0 : Int32)) O dX5_init_46 rfl (by decide) ?_
  refine JC.put (q := 50) (c9 := 127 + 4 * i) (ci := 5) (k := 10) (code := 0) (B9 := (fun j => decide (2 ≤ j ∧ j < 11))) (N9 := 15) O dX5_init_47 rfl hini wd_2_177 (by decide) (by decide) rfl (by omega) rfl rfl rfl rfl rfl (by decide) ?_
  refine JC.aload_n (q := 51) O dX5_init_50 rfl 0 rfl ?_
  refine JC.iconst (q := 52) (v := (0 : Int32)) O dX5_init_51 rfl (by decide) ?_
  refine JC.put (q := 55) (c9 := 127 + 4 * i) (ci := 5) (k := 11) (code := 0) (B9 := (fun j => decide (2 ≤ j ∧ j < 12))) (N9 := 15) O dX5_init_52 rfl hini wd_2_178 (by decide) (by decide) rfl (by omega) rfl rfl rfl rfl rfl (by decide) ?_
  refine JC.aload_n (q := 56) O dX5_init_55 rfl 0 rfl ?_
  refine JC.bipush (q := 58) (v := (30 : Int32)) O dX5_init_56 rfl (by decide) ?_
  refine JC.newI (q := 60) (N := 30) (o := 127 + 4 * i) O dX5_init_58 rfl wd_1_42 (by decide) (by decide) (by decide) (by decide) (by decide) (by omega) ((hw (127 + 4 * i + 1) (by omega) (by omega)).trans (fe_m G hi (j := 1) (by decide) (by decide))) ?_
  refine JC.put (q := 63) (c9 := 127 + 4 * i) (ci := 5) (k := 12) (code := (127 + 4 * i + 3)) (B9 := (fun j => decide (2 ≤ j ∧ j < 13))) (N9 := 15) O dX5_init_60 rfl hini wd_2_180 (by decide) (by decide) rfl (by omega) rfl rfl rfl rfl rfl (by decide) ?_
  refine JC.aload_n (q := 64) O dX5_init_63 rfl 0 rfl ?_
  refine JC.bipush (q := 66) (v := (30 : Int32)) O dX5_init_64 rfl (by decide) ?_
  refine JC.newI (q := 68) (N := 30) (o := 127 + 4 * i) O dX5_init_66 rfl wd_1_42 (by decide) (by decide) (by decide) (by decide) (by decide) (by omega) ((hw (127 + 4 * i + 2) (by omega) (by omega)).trans (fe_m G hi (j := 2) (by decide) (by decide))) ?_
  refine JC.put (q := 71) (c9 := 127 + 4 * i) (ci := 5) (k := 13) (code := (127 + 4 * i + 4)) (B9 := (fun j => decide (2 ≤ j ∧ j < 14))) (N9 := 15) O dX5_init_68 rfl hini wd_2_181 (by decide) (by decide) rfl (by omega) rfl rfl rfl rfl rfl (by decide) ?_
  refine JC.aload_n (q := 72) O dX5_init_71 rfl 0 rfl ?_
  refine JC.bipush (q := 74) (v := (30 : Int32)) O dX5_init_72 rfl (by decide) ?_
  refine JC.newI (q := 76) (N := 30) (o := 127 + 4 * i) O dX5_init_74 rfl wd_1_42 (by decide) (by decide) (by decide) (by decide) (by decide) (by omega) ((hw (127 + 4 * i + 3) (by omega) (by omega)).trans (fe_m G hi (j := 3) (by decide) (by decide))) ?_
  refine JC.put (q := 79) (c9 := 127 + 4 * i) (ci := 5) (k := 14) (code := (127 + 4 * i + 5)) (B9 := (fun j => decide (2 ≤ j ∧ j < 15))) (N9 := 15) O dX5_init_76 rfl hini wd_2_182 (by decide) (by decide) rfl (by omega) rfl rfl rfl rfl rfl (by decide) ?_
  refine JC.aload_n (q := 80) O dX5_init_79 rfl 0 rfl ?_
  refine JC.aload_n (q := 81) O dX5_init_80 rfl 1 rfl ?_
  refine JC.put (q := 84) (c9 := 127 + 4 * i) (ci := 5) (k := 0) (code := 3) (B9 := (fun j => decide (j = 0 ∨ (2 ≤ j ∧ j < 15)))) (N9 := 15) O dX5_init_81 rfl hini wd_2_162 (by decide) (by decide) rfl (by omega) rfl rfl rfl rfl rfl (by decide) ?_
  refine JC.aload_n (q := 85) O dX5_init_84 rfl 0 rfl ?_
  refine JC.aload_n (q := 86) O dX5_init_85 rfl 2 rfl ?_
  refine JC.put (q := 89) (c9 := 127 + 4 * i) (ci := 5) (k := 1) (code := 53) (B9 := (fun j => decide (j < 15))) (N9 := 15) O dX5_init_86 rfl hini wd_2_163 (by decide) (by decide) rfl (by omega) rfl rfl rfl rfl rfl (by decide) ?_
  refine JC.cast (updE_self ((hw (127 + 4 * i) (by omega) (by omega)).trans (ob_end G (N9 := 15) (shpM hi) (M0_m hi) rfl (fun j hj => Or.inl (decide_eq_true hj))))) ?_
  exact hret _ _ dX5_init_89
