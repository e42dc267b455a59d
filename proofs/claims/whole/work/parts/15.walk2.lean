set_option maxHeartbeats 4000000 in
set_option maxRecDepth 20000 in
theorem c_X11_hang {l : Launch} {G : GX} (hG : Gd G) {a1 : Int32} {a2 : Int32} {M : Mem} {K : Int32 → Mem → Prop} (h : f_X11_hang a1 a2 M K) : CI l G yX11_hang cX11_hang 4 (some .int) 2 [.ref (ad G 0), .int a1, .int a2] M K := by
  unfold f_X11_hang at h
  refine CI.mk hG (by decide) [(0, .ref (ad G 0)), (1, .int a1), (2, .int a2)] rfl (Nat.le_of_ble_eq_true rfl) (fun X O hlX hR => ?_)
  subst hlX
  refine J.aload_n (q := 1) O dX11_hang_0 rfl 0 rfl ?_
  refine J.getR (q := 4) (c' := 0) (ci := 11) (k := 7) (r := 72) O dX11_hang_1 rfl wd_3_9 (by decide) if_0_7 ?_
  refine J.iload_n (q := 5) O dX11_hang_4 rfl 1 rfl ?_
  refine J.callVI (q := 8) [.int a1] [] [.int a1, .ref (ad G 72)] rfl O dX11_hang_5 rfl (c_X4_has hG h) wd_5_19 mw_X4_has io_72 rfl (by decide) (Nat.le_of_ble_eq_true rfl) (fun v1 M1 h => ?_)
  refine J.if_ne (q := 11) (tgt := 17) O dX11_hang_8 rfl (by decide) (fun z2 => ?_) (fun z2 => ?_)
  · replace h := h.1 z2
    refine J.iload_n (q := 18) O dX11_hang_17 rfl 2 rfl ?_
    refine J.iconst (q := 19) (v := (1 : Int32)) O dX11_hang_18 rfl rfl ?_
    refine J.sipush (q := 22) (v := (9999 : Int32)) O dX11_hang_19 rfl rfl ?_
    refine J.callSI (q := 25) [.int a2, .int (1 : Int32), .int (9999 : Int32)] [] [.int (9999 : Int32), .int (1 : Int32), .int a2] rfl O dX11_hang_22 rfl (c_X11_outside hG h) wd_3_63 mw_X11_outside rfl (by decide) (Nat.le_of_ble_eq_true rfl) (fun v3 M3 h => ?_)
    refine J.aload_n (q := 26) O dX11_hang_25 rfl 0 rfl ?_
    refine J.getR (q := 29) (c' := 0) (ci := 11) (k := 7) (r := 72) O dX11_hang_26 rfl wd_3_9 (by decide) if_0_7 ?_
    refine J.getI (q := 32) (c' := 72) (ci := 4) (k := 6) (M3 72 6) rfl O dX11_hang_29 rfl wd_2_42 (by decide) if_72_6 ?_
    refine J.bipush (q := 34) (v := (100 : Int32)) O dX11_hang_32 rfl rfl ?_
    refine J.callSI (q := 37) [.int (M3 72 6), .int (100 : Int32)] [.int v3] [.int (100 : Int32), .int (M3 72 6), .int v3] rfl O dX11_hang_34 rfl (c_X11_fullAt hG h) wd_3_91 mw_X11_fullAt rfl (by decide) (Nat.le_of_ble_eq_true rfl) (fun v4 M4 h => ?_)
    refine J.callSI (q := 40) [.int v3, .int v4] [] [.int v4, .int v3] rfl O dX11_hang_37 rfl (c_X11_worse hG h) wd_3_74 mw_X11_worse rfl (by decide) (Nat.le_of_ble_eq_true rfl) (fun v5 M5 h => ?_)
    refine J.istore_n (q := 41) O dX11_hang_40 rfl [(3, .int v5), (0, .ref (ad G 0)), (1, .int a1), (2, .int a2)] (by decide) rfl ?_
    refine J.iload_n (q := 42) O dX11_hang_41 rfl 0 rfl ?_
    refine J.if_eq (q := 45) (tgt := 51) O dX11_hang_42 rfl (by decide) (fun z6 => ?_) (fun z6 => ?_)
    · replace h := h.1 z6
      refine J.aload_n (q := 52) O dX11_hang_51 rfl 1 rfl ?_
      refine J.getR (q := 55) (c' := 0) (ci := 11) (k := 7) (r := 72) O dX11_hang_52 rfl wd_3_9 (by decide) if_0_7 ?_
      refine J.iload_n (q := 56) O dX11_hang_55 rfl 2 rfl ?_
      refine J.iload_n (q := 57) O dX11_hang_56 rfl 3 rfl ?_
      refine J.aload_n (q := 58) O dX11_hang_57 rfl 1 rfl ?_
      refine J.getR (q := 61) (c' := 0) (ci := 11) (k := 0) (r := 1) O dX11_hang_58 rfl wd_3_2 (by decide) if_0_0 ?_
      refine J.getI (q := 64) (c' := 1) (ci := 3) (k := 0) (M5 1 0) rfl O dX11_hang_61 rfl wd_1_31 (by decide) if_1_0 ?_
      refine J.callVI (q := 67) [.int a1, .int a2, .int (M5 1 0)] [] [.int (M5 1 0), .int a2, .int a1, .ref (ad G 72)] rfl O dX11_hang_64 rfl (c_X4_hangOn hG h) wd_5_50 mw_X4_hangOn io_72 rfl (by decide) (Nat.le_of_ble_eq_true rfl) (fun v7 M7 h => ?_)
      exact hR _ _ _ _ dX11_hang_67 h
    · replace h := h.2 z6
      refine J.aload_n (q := 46) O dX11_hang_45 rfl 1 rfl ?_
      refine J.iload_n (q := 47) O dX11_hang_46 rfl 0 rfl ?_
      refine J.callVI (q := 50) [.int v5] [] [.int v5, .ref (ad G 0)] rfl O dX11_hang_47 rfl (c_X11_refuse hG h) wd_3_55 mw_X11_refuse io_0 rfl (by decide) (Nat.le_of_ble_eq_true rfl) (fun v8 M8 h => ?_)
      exact hR _ _ _ _ dX11_hang_50 h
  · replace h := h.2 z2
    refine J.aload_n (q := 12) O dX11_hang_11 rfl 0 rfl ?_
    refine J.iconst (q := 13) (v := (-1 : Int32)) O dX11_hang_12 rfl rfl ?_
    refine J.callVI (q := 16) [.int (-1 : Int32)] [] [.int (-1 : Int32), .ref (ad G 0)] rfl O dX11_hang_13 rfl (c_X11_refuse hG h) wd_3_55 mw_X11_refuse io_0 rfl (by decide) (Nat.le_of_ble_eq_true rfl) (fun v9 M9 h => ?_)
    exact hR _ _ _ _ dX11_hang_16 h
set_option maxHeartbeats 4000000 in
set_option maxRecDepth 20000 in
theorem j_X11_need_b9 {X : CX} {G : GX} {K : Int32 → Mem → Prop} (hG : Gd G) (O : Ok X G cX11_need 5 RX11 2) (hR : RetI X G cX11_need K) {M : Mem} (h : f_X11_need_b9 K  M) : J X G M 9 [(0, .ref (ad G 0))] [] := by
  unfold f_X11_need_b9 at h
  refine J.aload_n (q := 10) O dX11_need_9 rfl 0 rfl ?_
  refine J.bipush (q := 12) (v := (-2 : Int32)) O dX11_need_10 rfl rfl ?_
  refine J.callVI (q := 15) [.int (-2 : Int32)] [] [.int (-2 : Int32), .ref (ad G 0)] rfl O dX11_need_12 rfl (c_X11_refuse hG h) wd_3_55 mw_X11_refuse io_0 rfl (by decide) (Nat.le_of_ble_eq_true rfl) (fun v3 M3 h => ?_)
  exact hR _ _ _ _ dX11_need_15 h
set_option maxHeartbeats 4000000 in
set_option maxRecDepth 20000 in
theorem c_X11_need {l : Launch} {G : GX} (hG : Gd G) {a1 : Int32} {a2 : Int32} {M : Mem} {K : Int32 → Mem → Prop} (h : f_X11_need a1 a2 M K) : CI l G yX11_need cX11_need 5 (some .int) 2 [.ref (ad G 0), .int a1, .int a2] M K := by
  unfold f_X11_need at h
  refine CI.mk hG (by decide) [(0, .ref (ad G 0)), (1, .int a1), (2, .int a2)] rfl (Nat.le_of_ble_eq_true rfl) (fun X O hlX hR => ?_)
  subst hlX
  refine J.iload_n (q := 1) O dX11_need_0 rfl 1 rfl ?_
  refine J.if_lt (q := 4) (tgt := 9) O dX11_need_1 rfl (by decide) (fun z4 => ?_) (fun z4 => ?_)
  · replace h := h.1 z4
    exact J.sub [0] rfl (j_X11_need_b9 hG O hR h)
  · replace h := h.2 z4
    refine J.iload_n (q := 5) O dX11_need_4 rfl 1 rfl ?_
    refine J.iconst (q := 6) (v := (2 : Int32)) O dX11_need_5 rfl rfl ?_
    refine J.icmp_le (q := 9) (tgt := 16) O dX11_need_6 rfl (by decide) (fun z5 => ?_) (fun z5 => ?_)
    · replace h := h.1 z5
      refine J.iload_n (q := 17) O dX11_need_16 rfl 2 rfl ?_
      refine J.iconst (q := 18) (v := (0 : Int32)) O dX11_need_17 rfl rfl ?_
      refine J.iconst (q := 19) (v := (2 : Int32)) O dX11_need_18 rfl rfl ?_
      refine J.callSI (q := 22) [.int a2, .int (0 : Int32), .int (2 : Int32)] [] [.int (2 : Int32), .int (0 : Int32), .int a2] rfl O dX11_need_19 rfl (c_X11_outside hG h) wd_3_63 mw_X11_outside rfl (by decide) (Nat.le_of_ble_eq_true rfl) (fun v6 M6 h => ?_)
      refine J.istore_n (q := 23) O dX11_need_22 rfl [(3, .int v6), (0, .ref (ad G 0)), (1, .int a1), (2, .int a2)] (by decide) rfl ?_
      refine J.iload_n (q := 24) O dX11_need_23 rfl 0 rfl ?_
      refine J.if_eq (q := 27) (tgt := 33) O dX11_need_24 rfl (by decide) (fun z7 => ?_) (fun z7 => ?_)
      · replace h := h.1 z7
        refine J.aload_n (q := 34) O dX11_need_33 rfl 1 rfl ?_
        refine J.getR (q := 37) (c' := 0) (ci := 11) (k := 8) (r := 81) O dX11_need_34 rfl wd_3_10 (by decide) if_0_8 ?_
        refine J.getR (q := 40) (c' := 81) (ci := 8) (k := 0) (r := 82) O dX11_need_37 rfl wd_2_76 (by decide) if_81_0 ?_
        refine J.iload_n (q := 41) O dX11_need_40 rfl 2 rfl ?_
        obtain ⟨hv8, h⟩ := h
        refine J.iald (q := 42) (c' := 82) (j := a1.toNatClampNeg) (M6 82 a1.toNatClampNeg) rfl O dX11_need_41 rfl ar_82 hv8 rfl ?_
        refine J.istore (q := 44) O dX11_need_42 rfl [(4, .int (M6 82 a1.toNatClampNeg)), (3, .int v6), (0, .ref (ad G 0)), (1, .int a1), (2, .int a2)] (by decide) rfl ?_
        refine J.aload_n (q := 45) O dX11_need_44 rfl 2 rfl ?_
        refine J.getR (q := 48) (c' := 0) (ci := 11) (k := 8) (r := 81) O dX11_need_45 rfl wd_3_10 (by decide) if_0_8 ?_
        refine J.getR (q := 51) (c' := 81) (ci := 8) (k := 0) (r := 82) O dX11_need_48 rfl wd_2_76 (by decide) if_81_0 ?_
        refine J.iload_n (q := 52) O dX11_need_51 rfl 3 rfl ?_
        refine J.iload_n (q := 53) O dX11_need_52 rfl 4 rfl ?_
        obtain ⟨hv9, h⟩ := h
        refine J.iast (q := 54) (c' := 82) (j := a1.toNatClampNeg) O dX11_need_53 rfl ar_82 hv9 rfl ?_
        refine J.aload_n (q := 55) O dX11_need_54 rfl 2 rfl ?_
        refine J.getR (q := 58) (c' := 0) (ci := 11) (k := 8) (r := 81) O dX11_need_55 rfl wd_3_10 (by decide) if_0_8 ?_
        refine J.callVV (q := 61) [] [] [.ref (ad G 81)] rfl O dX11_need_58 rfl (c_X8_forget hG h) wd_3_94 mw_X8_forget io_81 rfl (by decide) (Nat.le_of_ble_eq_true rfl) (fun M10 h => ?_)
        refine J.iload (q := 63) O dX11_need_61 rfl 0 rfl ?_
        exact hR _ _ _ _ dX11_need_63 h
      · replace h := h.2 z7
        refine J.aload_n (q := 28) O dX11_need_27 rfl 1 rfl ?_
        refine J.iload_n (q := 29) O dX11_need_28 rfl 0 rfl ?_
        refine J.callVI (q := 32) [.int v6] [] [.int v6, .ref (ad G 0)] rfl O dX11_need_29 rfl (c_X11_refuse hG h) wd_3_55 mw_X11_refuse io_0 rfl (by decide) (Nat.le_of_ble_eq_true rfl) (fun v11 M11 h => ?_)
        exact hR _ _ _ _ dX11_need_32 h
    · replace h := h.2 z5
      exact J.sub [0] rfl (j_X11_need_b9 hG O hR h)
set_option maxHeartbeats 4000000 in
set_option maxRecDepth 20000 in
theorem j_X9_wishesAgainst_b23 {X : CX} {G : GX} {K : Int32 → Mem → Prop} (hG : Gd G) (O : Ok X G cX9_wishesAgainst 4 RX9 1) (hR : RetZ X G cX9_wishesAgainst K) {s0 : Int32} {M : Mem} (h : f_X9_wishesAgainst_b23 K s0 M) : J X G M 23 [] [.int s0] := by
  unfold f_X9_wishesAgainst_b23 at h
  exact hR _ _ _ _ dX9_wishesAgainst_23 h.1 h.2
set_option maxHeartbeats 4000000 in
set_option maxRecDepth 20000 in
theorem c_X9_wishesAgainst {l : Launch} {G : GX} (hG : Gd G) {a1 : Int32} {a2 : Int32} {a3 : Int32} {M : Mem} {K : Int32 → Mem → Prop} (h : f_X9_wishesAgainst a1 a2 a3 M K) : CI l G yX9_wishesAgainst cX9_wishesAgainst 4 (some .boolean) 1 [.ref (ad G 4), .int a1, .int a2, .int a3] M K := by
  unfold f_X9_wishesAgainst at h
  refine CZ.mk hG (by decide) [(0, .ref (ad G 4)), (1, .int a1), (2, .int a2), (3, .int a3)] rfl (Nat.le_of_ble_eq_true rfl) (fun X O hlX hR => ?_)
  subst hlX
  refine J.aload_n (q := 1) O dX9_wishesAgainst_0 rfl 0 rfl ?_
  refine J.getR (q := 4) (c' := 4) (ci := 9) (k := 9) (r := 13) O dX9_wishesAgainst_1 rfl wd_1_65 (by decide) if_4_9 ?_
  refine J.iload_n (q := 5) O dX9_wishesAgainst_4 rfl 1 rfl ?_
  obtain ⟨hv3, h⟩ := h
  refine J.iald (q := 6) (c' := 13) (j := a1.toNatClampNeg) (M 13 a1.toNatClampNeg) rfl O dX9_wishesAgainst_5 rfl ar_13 hv3 rfl ?_
  refine J.iconst (q := 7) (v := (3 : Int32)) O dX9_wishesAgainst_6 rfl rfl ?_
  refine J.iload_n (q := 8) O dX9_wishesAgainst_7 rfl 2 rfl ?_
  refine J.imul (q := 9) O dX9_wishesAgainst_8 rfl ?_
  refine J.iload_n (q := 10) O dX9_wishesAgainst_9 rfl 3 rfl ?_
  refine J.iadd (q := 11) O dX9_wishesAgainst_10 rfl ?_
  refine J.ishr (q := 12) O dX9_wishesAgainst_11 rfl ?_
  refine J.iconst (q := 13) (v := (1 : Int32)) O dX9_wishesAgainst_12 rfl rfl ?_
  refine J.iand (q := 14) O dX9_wishesAgainst_13 rfl ?_
  refine J.iconst (q := 15) (v := (1 : Int32)) O dX9_wishesAgainst_14 rfl rfl ?_
  refine J.icmp_ne (q := 18) (tgt := 22) O dX9_wishesAgainst_15 rfl (by decide) (fun z4 => ?_) (fun z4 => ?_)
  · replace h := h.1 z4
    refine J.iconst (q := 23) (v := (0 : Int32)) O dX9_wishesAgainst_22 rfl rfl ?_
    exact J.sub [] rfl (j_X9_wishesAgainst_b23 hG O hR h)
  · replace h := h.2 z4
    refine J.iconst (q := 19) (v := (1 : Int32)) O dX9_wishesAgainst_18 rfl rfl ?_
    refine J.goto (q := 23) O dX9_wishesAgainst_19 (by decide) ?_
    exact J.sub [] rfl (j_X9_wishesAgainst_b23 hG O hR h)
set_option maxHeartbeats 4000000 in
set_option maxRecDepth 20000 in
theorem c_X9_turnWish {l : Launch} {G : GX} (hG : Gd G) {a1 : Int32} {a2 : Int32} {a3 : Int32} {M : Mem} {K : Mem → Prop} (h : f_X9_turnWish a1 a2 a3 M K) : CV l G yX9_turnWish cX9_turnWish 4 1 [.ref (ad G 4), .int a1, .int a2, .int a3] M K := by
  unfold f_X9_turnWish at h
  refine CV.mk hG (by decide) [(0, .ref (ad G 4)), (1, .int a1), (2, .int a2), (3, .int a3)] rfl (Nat.le_of_ble_eq_true rfl) (fun X O hlX hR => ?_)
  subst hlX
  refine J.aload_n (q := 1) O dX9_turnWish_0 rfl 0 rfl ?_
  refine J.getR (q := 4) (c' := 4) (ci := 9) (k := 9) (r := 13) O dX9_turnWish_1 rfl wd_1_65 (by decide) if_4_9 ?_
  refine J.iload_n (q := 5) O dX9_turnWish_4 rfl 1 rfl ?_
  refine J.dup2 (q := 6) O dX9_turnWish_5 rfl rfl rfl ?_
  obtain ⟨hv3, h⟩ := h
  refine J.iald (q := 7) (c' := 13) (j := a1.toNatClampNeg) (M 13 a1.toNatClampNeg) rfl O dX9_turnWish_6 rfl ar_13 hv3 rfl ?_
  refine J.iconst (q := 8) (v := (1 : Int32)) O dX9_turnWish_7 rfl rfl ?_
  refine J.iconst (q := 9) (v := (3 : Int32)) O dX9_turnWish_8 rfl rfl ?_
  refine J.iload_n (q := 10) O dX9_turnWish_9 rfl 2 rfl ?_
  refine J.imul (q := 11) O dX9_turnWish_10 rfl ?_
  refine J.iload_n (q := 12) O dX9_turnWish_11 rfl 3 rfl ?_
  refine J.iadd (q := 13) O dX9_turnWish_12 rfl ?_
  refine J.ishl (q := 14) O dX9_turnWish_13 rfl ?_
  refine J.ixor (q := 15) O dX9_turnWish_14 rfl ?_
  obtain ⟨hv4, h⟩ := h
  refine J.iast (q := 16) (c' := 13) (j := a1.toNatClampNeg) O dX9_turnWish_15 rfl ar_13 hv4 rfl ?_
  exact hR _ _ _ dX9_turnWish_16 h
set_option maxHeartbeats 4000000 in
set_option maxRecDepth 20000 in
theorem j_X11_wish_b26 {X : CX} {G : GX} {K : Int32 → Mem → Prop} (hG : Gd G) (O : Ok X G cX11_wish 5 RX11 2) (hR : RetI X G cX11_wish K) {M : Mem} (h : f_X11_wish_b26 K  M) : J X G M 26 [(0, .ref (ad G 0))] [] := by
  unfold f_X11_wish_b26 at h
  refine J.aload_n (q := 27) O dX11_wish_26 rfl 0 rfl ?_
  refine J.bipush (q := 29) (v := (-2 : Int32)) O dX11_wish_27 rfl rfl ?_
  refine J.callVI (q := 32) [.int (-2 : Int32)] [] [.int (-2 : Int32), .ref (ad G 0)] rfl O dX11_wish_29 rfl (c_X11_refuse hG h) wd_3_55 mw_X11_refuse io_0 rfl (by decide) (Nat.le_of_ble_eq_true rfl) (fun v1 M1 h => ?_)
  exact hR _ _ _ _ dX11_wish_32 h
set_option maxHeartbeats 4000000 in
set_option maxRecDepth 20000 in
theorem j_X11_wish_b42 {X : CX} {G : GX} {K : Int32 → Mem → Prop} (hG : Gd G) (O : Ok X G cX11_wish 5 RX11 2) (hR : RetI X G cX11_wish K) {M : Mem} (h : f_X11_wish_b42 K  M) : J X G M 42 [(0, .ref (ad G 0))] [] := by
  unfold f_X11_wish_b42 at h
  refine J.aload_n (q := 43) O dX11_wish_42 rfl 0 rfl ?_
  refine J.bipush (q := 45) (v := (-3 : Int32)) O dX11_wish_43 rfl rfl ?_
  refine J.callVI (q := 48) [.int (-3 : Int32)] [] [.int (-3 : Int32), .ref (ad G 0)] rfl O dX11_wish_45 rfl (c_X11_refuse hG h) wd_3_55 mw_X11_refuse io_0 rfl (by decide) (Nat.le_of_ble_eq_true rfl) (fun v2 M2 h => ?_)
  exact hR _ _ _ _ dX11_wish_48 h
set_option maxHeartbeats 4000000 in
set_option maxRecDepth 20000 in
theorem c_X11_wish {l : Launch} {G : GX} (hG : Gd G) {a1 : Int32} {a2 : Int32} {a3 : Int32} {a4 : Int32} {M : Mem} {K : Int32 → Mem → Prop} (h : f_X11_wish a1 a2 a3 a4 M K) : CI l G yX11_wish cX11_wish 5 (some .int) 2 [.ref (ad G 0), .int a1, .int a2, .int a3, .int a4] M K := by
  unfold f_X11_wish at h
  refine CI.mk hG (by decide) [(0, .ref (ad G 0)), (1, .int a1), (2, .int a2), (3, .int a3), (4, .int a4)] rfl (Nat.le_of_ble_eq_true rfl) (fun X O hlX hR => ?_)
  subst hlX
  refine J.aload_n (q := 1) O dX11_wish_0 rfl 0 rfl ?_
  refine J.getR (q := 4) (c' := 0) (ci := 11) (k := 1) (r := 4) O dX11_wish_1 rfl wd_3_3 (by decide) if_0_1 ?_
  refine J.iload_n (q := 5) O dX11_wish_4 rfl 1 rfl ?_
  refine J.callVI (q := 8) [.int a1] [] [.int a1, .ref (ad G 4)] rfl O dX11_wish_5 rfl (c_X9_has hG h) wd_3_106 mw_X9_has io_4 rfl (by decide) (Nat.le_of_ble_eq_true rfl) (fun v3 M3 h => ?_)
  refine J.if_ne (q := 11) (tgt := 17) O dX11_wish_8 rfl (by decide) (fun z4 => ?_) (fun z4 => ?_)
  · replace h := h.1 z4
    refine J.iload_n (q := 18) O dX11_wish_17 rfl 3 rfl ?_
    refine J.if_lt (q := 21) (tgt := 26) O dX11_wish_18 rfl (by decide) (fun z5 => ?_) (fun z5 => ?_)
    · replace h := h.1 z5
      exact J.sub [0] rfl (j_X11_wish_b26 hG O hR h)
    · replace h := h.2 z5
      refine J.iload_n (q := 22) O dX11_wish_21 rfl 3 rfl ?_
      refine J.iconst (q := 23) (v := (2 : Int32)) O dX11_wish_22 rfl rfl ?_
      refine J.icmp_le (q := 26) (tgt := 33) O dX11_wish_23 rfl (by decide) (fun z6 => ?_) (fun z6 => ?_)
      · replace h := h.1 z6
        refine J.iload_n (q := 34) O dX11_wish_33 rfl 2 rfl ?_
        refine J.if_lt (q := 37) (tgt := 42) O dX11_wish_34 rfl (by decide) (fun z7 => ?_) (fun z7 => ?_)
        · replace h := h.1 z7
          exact J.sub [0] rfl (j_X11_wish_b42 hG O hR h)
        · replace h := h.2 z7
          refine J.iload_n (q := 38) O dX11_wish_37 rfl 2 rfl ?_
          refine J.iconst (q := 39) (v := (4 : Int32)) O dX11_wish_38 rfl rfl ?_
          refine J.icmp_lt (q := 42) (tgt := 49) O dX11_wish_39 rfl (by decide) (fun z8 => ?_) (fun z8 => ?_)
          · replace h := h.1 z8
            refine J.aload_n (q := 50) O dX11_wish_49 rfl 0 rfl ?_
            refine J.getR (q := 53) (c' := 0) (ci := 11) (k := 1) (r := 4) O dX11_wish_50 rfl wd_3_3 (by decide) if_0_1 ?_
            refine J.iload_n (q := 54) O dX11_wish_53 rfl 1 rfl ?_
            refine J.iload_n (q := 55) O dX11_wish_54 rfl 2 rfl ?_
            refine J.iload_n (q := 56) O dX11_wish_55 rfl 3 rfl ?_
            refine J.callVI (q := 59) [.int a1, .int a2, .int a3] [] [.int a3, .int a2, .int a1, .ref (ad G 4)] rfl O dX11_wish_56 rfl (c_X9_wishesAgainst hG h) wd_5_62 mw_X9_wishesAgainst io_4 rfl (by decide) (Nat.le_of_ble_eq_true rfl) (fun v9 M9 h => ?_)
            refine J.iload (q := 61) O dX11_wish_59 rfl 4 rfl ?_
            refine J.icmp_ne (q := 64) (tgt := 66) O dX11_wish_61 rfl (by decide) (fun z10 => ?_) (fun z10 => ?_)
            · replace h := h.1 z10
              refine J.aload_n (q := 67) O dX11_wish_66 rfl 0 rfl ?_
              refine J.getR (q := 70) (c' := 0) (ci := 11) (k := 1) (r := 4) O dX11_wish_67 rfl wd_3_3 (by decide) if_0_1 ?_
              refine J.iload_n (q := 71) O dX11_wish_70 rfl 1 rfl ?_
              refine J.iload_n (q := 72) O dX11_wish_71 rfl 2 rfl ?_
              refine J.iload_n (q := 73) O dX11_wish_72 rfl 3 rfl ?_
              refine J.callVV (q := 76) [.int a1, .int a2, .int a3] [] [.int a3, .int a2, .int a1, .ref (ad G 4)] rfl O dX11_wish_73 rfl (c_X9_turnWish hG h) wd_5_66 mw_X9_turnWish io_4 rfl (by decide) (Nat.le_of_ble_eq_true rfl) (fun M11 h => ?_)
              refine J.aload_n (q := 77) O dX11_wish_76 rfl 0 rfl ?_
              refine J.getR (q := 80) (c' := 0) (ci := 11) (k := 8) (r := 81) O dX11_wish_77 rfl wd_3_10 (by decide) if_0_8 ?_
              refine J.callVV (q := 83) [] [] [.ref (ad G 81)] rfl O dX11_wish_80 rfl (c_X8_forget hG h) wd_3_94 mw_X8_forget io_81 rfl (by decide) (Nat.le_of_ble_eq_true rfl) (fun M12 h => ?_)
              refine J.iconst (q := 84) (v := (1 : Int32)) O dX11_wish_83 rfl rfl ?_
              exact hR _ _ _ _ dX11_wish_84 h
            · replace h := h.2 z10
              refine J.iconst (q := 65) (v := (0 : Int32)) O dX11_wish_64 rfl rfl ?_
              exact hR _ _ _ _ dX11_wish_65 h
          · replace h := h.2 z8
            exact J.sub [0] rfl (j_X11_wish_b42 hG O hR h)
      · replace h := h.2 z6
        exact J.sub [0] rfl (j_X11_wish_b26 hG O hR h)
  · replace h := h.2 z4
    refine J.aload_n (q := 12) O dX11_wish_11 rfl 0 rfl ?_
    refine J.iconst (q := 13) (v := (-1 : Int32)) O dX11_wish_12 rfl rfl ?_
    refine J.callVI (q := 16) [.int (-1 : Int32)] [] [.int (-1 : Int32), .ref (ad G 0)] rfl O dX11_wish_13 rfl (c_X11_refuse hG h) wd_3_55 mw_X11_refuse io_0 rfl (by decide) (Nat.le_of_ble_eq_true rfl) (fun v13 M13 h => ?_)
    exact hR _ _ _ _ dX11_wish_16 h
set_option maxHeartbeats 4000000 in
set_option maxRecDepth 20000 in
theorem j_X8_findTeam_b51 {X : CX} {G : GX} {K : Int32 → Mem → Prop} (hG : Gd G) (O : Ok X G cX8_findTeam 5 RX8 1) (hR : RetZ X G cX8_findTeam K) {r5 : Int32 × Int32 × Int32 × Mem → Prop} (hr5 : ∀ a : Int32 × Int32 × Int32 × Mem, r5 a → J X G a.2.2.2 5 [(0, .ref (ad G 81)), (1, .ref (ad G 4)), (2, .int a.1), (3, .int a.2.1), (4, .int a.2.2.1)] []) {x2 : Int32} {x3 : Int32} {x4 : Int32} {M : Mem} (h : f_X8_findTeam_b51 r5 K x2 x3 x4 M) : J X G M 51 [(0, .ref (ad G 81)), (1, .ref (ad G 4)), (2, .int x2), (3, .int x3), (4, .int x4)] [] := by
  unfold f_X8_findTeam_b51 at h
  refine J.iinc (q := 54) O dX8_findTeam_51 rfl [(4, .int (x4 + (1 : Int32))), (0, .ref (ad G 81)), (1, .ref (ad G 4)), (2, .int x2), (3, .int x3)] 4 rfl rfl (by decide) rfl ?_
  refine J.goto (q := 5) O dX8_findTeam_54 (by decide) ?_
  exact J.sub [1, 2, 3, 4, 0] rfl (hr5 _ h)
set_option maxHeartbeats 4000000 in
set_option maxRecDepth 20000 in
theorem j_X8_findTeam_b67 {X : CX} {G : GX} {K : Int32 → Mem → Prop} (hG : Gd G) (O : Ok X G cX8_findTeam 5 RX8 1) (hR : RetZ X G cX8_findTeam K) {s0 : Int32} {M : Mem} (h : f_X8_findTeam_b67 K s0 M) : J X G M 67 [] [.int s0] := by
  unfold f_X8_findTeam_b67 at h
  exact hR _ _ _ _ dX8_findTeam_67 h.1 h.2
set_option maxHeartbeats 4000000 in
set_option maxRecDepth 20000 in
theorem j_X8_findTeam_b57 {X : CX} {G : GX} {K : Int32 → Mem → Prop} (hG : Gd G) (O : Ok X G cX8_findTeam 5 RX8 1) (hR : RetZ X G cX8_findTeam K) {x3 : Int32} {M : Mem} (h : f_X8_findTeam_b57 K x3 M) : J X G M 57 [(3, .int x3)] [] := by
  unfold f_X8_findTeam_b57 at h
  refine J.iload_n (q := 58) O dX8_findTeam_57 rfl 0 rfl ?_
  refine J.iconst (q := 59) (v := (4 : Int32)) O dX8_findTeam_58 rfl rfl ?_
  refine J.icmp_ne (q := 62) (tgt := 66) O dX8_findTeam_59 rfl (by decide) (fun z5 => ?_) (fun z5 => ?_)
  · replace h := h.1 z5
    refine J.iconst (q := 67) (v := (0 : Int32)) O dX8_findTeam_66 rfl rfl ?_
    exact J.sub [] rfl (j_X8_findTeam_b67 hG O hR h)
  · replace h := h.2 z5
    refine J.iconst (q := 63) (v := (1 : Int32)) O dX8_findTeam_62 rfl rfl ?_
    refine J.goto (q := 67) O dX8_findTeam_63 (by decide) ?_
    exact J.sub [] rfl (j_X8_findTeam_b67 hG O hR h)
set_option maxHeartbeats 4000000 in
set_option maxRecDepth 20000 in
theorem j_X8_findTeam_c5 {X : CX} {G : GX} {K : Int32 → Mem → Prop} (hG : Gd G) (O : Ok X G cX8_findTeam 5 RX8 1) (hR : RetZ X G cX8_findTeam K) {a : Int32 × Int32 × Int32 × Mem} (h : Lp (fun (r5 : Int32 × Int32 × Int32 × Mem → Prop) a => f_X8_findTeam_c5 K r5 a.1 a.2.1 a.2.2.1 a.2.2.2) a) : J X G a.2.2.2 5 [(0, .ref (ad G 81)), (1, .ref (ad G 4)), (2, .int a.1), (3, .int a.2.1), (4, .int a.2.2.1)] [] := by
  refine Lp.elim (P := fun a => J X G a.2.2.2 5 [(0, .ref (ad G 81)), (1, .ref (ad G 4)), (2, .int a.1), (3, .int a.2.1), (4, .int a.2.2.1)] []) ?_ h
  clear h
  intro r5 hr5 a h
  obtain ⟨x2, x3, x4, M⟩ := a
  unfold f_X8_findTeam_c5 at h
  (try dsimp only at h ⊢)
  refine J.iload (q := 7) O dX8_findTeam_5 rfl 4 rfl ?_
  refine J.aload_n (q := 8) O dX8_findTeam_7 rfl 1 rfl ?_
  refine J.getI (q := 11) (c' := 4) (ci := 9) (k := 0) (M 4 0) rfl O dX8_findTeam_8 rfl wd_1_52 (by decide) if_4_0 ?_
  refine J.icmp_ge (q := 14) (tgt := 57) O dX8_findTeam_11 rfl (by decide) (fun z6 => ?_) (fun z6 => ?_)
  · replace h := h.1 z6
    exact J.sub [3] rfl (j_X8_findTeam_b57 hG O hR h)
  · replace h := h.2 z6
    refine J.iload_n (q := 15) O dX8_findTeam_14 rfl 3 rfl ?_
    refine J.iconst (q := 16) (v := (4 : Int32)) O dX8_findTeam_15 rfl rfl ?_
    refine J.icmp_ge (q := 19) (tgt := 57) O dX8_findTeam_16 rfl (by decide) (fun z7 => ?_) (fun z7 => ?_)
    · replace h := h.1 z7
      exact J.sub [3] rfl (j_X8_findTeam_b57 hG O hR h)
    · replace h := h.2 z7
      refine J.aload_n (q := 20) O dX8_findTeam_19 rfl 1 rfl ?_
      refine J.getR (q := 23) (c' := 4) (ci := 9) (k := 2) (r := 6) O dX8_findTeam_20 rfl wd_1_57 (by decide) if_4_2 ?_
      refine J.iload (q := 25) O dX8_findTeam_23 rfl 4 rfl ?_
      obtain ⟨hv8, h⟩ := h
      refine J.zald (q := 26) (c' := 6) (j := x4.toNatClampNeg) (M 6 x4.toNatClampNeg) rfl O dX8_findTeam_25 rfl ar_6 hv8 rfl ?_
      refine J.if_eq (q := 29) (tgt := 51) O dX8_findTeam_26 rfl (by decide) (fun z9 => ?_) (fun z9 => ?_)
      · replace h := h.1 z9
        exact J.sub [0, 1, 2, 3, 4] rfl (j_X8_findTeam_b51 hG O hR hr5 h)
      · replace h := h.2 z9
        refine J.aload_n (q := 30) O dX8_findTeam_29 rfl 1 rfl ?_
        refine J.getR (q := 33) (c' := 4) (ci := 9) (k := 1) (r := 5) O dX8_findTeam_30 rfl wd_1_54 (by decide) if_4_1 ?_
        refine J.iload (q := 35) O dX8_findTeam_33 rfl 4 rfl ?_
        obtain ⟨hv10, h⟩ := h
        refine J.iald (q := 36) (c' := 5) (j := x4.toNatClampNeg) (M 5 x4.toNatClampNeg) rfl O dX8_findTeam_35 rfl ar_5 hv10 rfl ?_
        refine J.iload_n (q := 37) O dX8_findTeam_36 rfl 2 rfl ?_
        refine J.icmp_ne (q := 40) (tgt := 51) O dX8_findTeam_37 rfl (by decide) (fun z11 => ?_) (fun z11 => ?_)
        · replace h := h.1 z11
          exact J.sub [0, 1, 2, 3, 4] rfl (j_X8_findTeam_b51 hG O hR hr5 h)
        · replace h := h.2 z11
          refine J.aload_n (q := 41) O dX8_findTeam_40 rfl 0 rfl ?_
          refine J.getR (q := 44) (c' := 81) (ci := 8) (k := 1) (r := 83) O dX8_findTeam_41 rfl wd_2_77 (by decide) if_81_1 ?_
          refine J.iload_n (q := 45) O dX8_findTeam_44 rfl 3 rfl ?_
          refine J.iload (q := 47) O dX8_findTeam_45 rfl 4 rfl ?_
          obtain ⟨hv12, h⟩ := h
          refine J.iast (q := 48) (c' := 83) (j := x3.toNatClampNeg) O dX8_findTeam_47 rfl ar_83 hv12 rfl ?_
          refine J.iinc (q := 51) O dX8_findTeam_48 rfl [(3, .int (x3 + (1 : Int32))), (0, .ref (ad G 81)), (1, .ref (ad G 4)), (2, .int x2), (4, .int x4)] 3 rfl rfl (by decide) rfl ?_
          exact J.sub [1, 2, 3, 0, 4] rfl (j_X8_findTeam_b51 hG O hR hr5 h)
set_option maxHeartbeats 4000000 in
set_option maxRecDepth 20000 in
theorem c_X8_findTeam {l : Launch} {G : GX} (hG : Gd G) {a2 : Int32} {M : Mem} {K : Int32 → Mem → Prop} (h : f_X8_findTeam a2 M K) : CI l G yX8_findTeam cX8_findTeam 5 (some .boolean) 1 [.ref (ad G 81), .ref (ad G 4), .int a2] M K := by
  unfold f_X8_findTeam at h
  refine CZ.mk hG (by decide) [(0, .ref (ad G 81)), (1, .ref (ad G 4)), (2, .int a2)] rfl (Nat.le_of_ble_eq_true rfl) (fun X O hlX hR => ?_)
  subst hlX
  refine J.iconst (q := 1) (v := (0 : Int32)) O dX8_findTeam_0 rfl rfl ?_
  refine J.istore_n (q := 2) O dX8_findTeam_1 rfl [(3, .int (0 : Int32)), (0, .ref (ad G 81)), (1, .ref (ad G 4)), (2, .int a2)] (by decide) rfl ?_
  refine J.iconst (q := 3) (v := (0 : Int32)) O dX8_findTeam_2 rfl rfl ?_
  refine J.istore (q := 5) O dX8_findTeam_3 rfl [(4, .int (0 : Int32)), (3, .int (0 : Int32)), (0, .ref (ad G 81)), (1, .ref (ad G 4)), (2, .int a2)] (by decide) rfl ?_
  exact J.sub [2, 3, 4, 1, 0] rfl (j_X8_findTeam_c5 hG O hR h)
set_option maxHeartbeats 4000000 in
set_option maxRecDepth 20000 in
theorem c_X8_shiftIn {l : Launch} {G : GX} (hG : Gd G) {a1 : Int32} {a2 : Int32} {M : Mem} {K : Int32 → Mem → Prop} (h : f_X8_shiftIn a1 a2 M K) : CI l G yX8_shiftIn cX8_shiftIn 2 (some .int) 1 [.int a1, .int a2] M K := by
  unfold f_X8_shiftIn at h
  refine CI.mk hG (by decide) [(0, .int a1), (1, .int a2)] rfl (Nat.le_of_ble_eq_true rfl) (fun X O hlX hR => ?_)
  subst hlX
  refine J.iload_n (q := 1) O dX8_shiftIn_0 rfl 0 rfl ?_
  refine J.iconst (q := 2) (v := (2 : Int32)) O dX8_shiftIn_1 rfl rfl ?_
  refine J.iconst (q := 3) (v := (3 : Int32)) O dX8_shiftIn_2 rfl rfl ?_
  refine J.iload_n (q := 4) O dX8_shiftIn_3 rfl 1 rfl ?_
  refine J.isub (q := 5) O dX8_shiftIn_4 rfl ?_
  refine J.imul (q := 6) O dX8_shiftIn_5 rfl ?_
  refine J.ishr (q := 7) O dX8_shiftIn_6 rfl ?_
  refine J.iconst (q := 8) (v := (3 : Int32)) O dX8_shiftIn_7 rfl rfl ?_
  refine J.iand (q := 9) O dX8_shiftIn_8 rfl ?_
  exact hR _ _ _ _ dX8_shiftIn_9 h
set_option maxHeartbeats 4000000 in
set_option maxRecDepth 20000 in
theorem j_X8_meetsNeed_b34 {X : CX} {G : GX} {K : Int32 → Mem → Prop} (hG : Gd G) (O : Ok X G cX8_meetsNeed 5 RX8 2) (hR : RetZ X G cX8_meetsNeed K) {r2 : Int32 × Int32 × Mem → Prop} (hr2 : ∀ a : Int32 × Int32 × Mem, r2 a → J X G a.2.2 2 [(0, .ref (ad G 81)), (1, .int a.1), (2, .int a.2.1)] []) {r12 : Int32 × Int32 × Int32 × Int32 × Mem → Prop} (hr12 : ∀ a : Int32 × Int32 × Int32 × Int32 × Mem, r12 a → J X G a.2.2.2.2 12 [(0, .ref (ad G 81)), (1, .int a.1), (2, .int a.2.1), (3, .int a.2.2.1), (4, .int a.2.2.2.1)] []) {x1 : Int32} {x2 : Int32} {x4 : Int32} {s0 : Int32} {s1 : Int32} {M : Mem} (h : f_X8_meetsNeed_b34 r2 r12 K x1 x2 x4 s0 s1 M) : J X G M 34 [(0, .ref (ad G 81)), (1, .int x1), (2, .int x2), (4, .int x4)] [.int s0, .int s1] := by
  unfold f_X8_meetsNeed_b34 at h
  refine J.iadd (q := 35) O dX8_meetsNeed_34 rfl ?_
  refine J.istore_n (q := 36) O dX8_meetsNeed_35 rfl [(3, .int (s1 + s0)), (0, .ref (ad G 81)), (1, .int x1), (2, .int x2), (4, .int x4)] (by decide) rfl ?_
  refine J.iinc (q := 39) O dX8_meetsNeed_36 rfl [(4, .int (x4 + (1 : Int32))), (3, .int (s1 + s0)), (0, .ref (ad G 81)), (1, .int x1), (2, .int x2)] 4 rfl rfl (by decide) rfl ?_
  refine J.goto (q := 12) O dX8_meetsNeed_39 (by decide) ?_
  exact J.sub [2, 3, 4, 1, 0] rfl (hr12 _ h)
set_option maxHeartbeats 4000000 in
set_option maxRecDepth 20000 in
theorem j_X8_meetsNeed_c12 {X : CX} {G : GX} {K : Int32 → Mem → Prop} (hG : Gd G) (O : Ok X G cX8_meetsNeed 5 RX8 2) (hR : RetZ X G cX8_meetsNeed K) {r2 : Int32 × Int32 × Mem → Prop} (hr2 : ∀ a : Int32 × Int32 × Mem, r2 a → J X G a.2.2 2 [(0, .ref (ad G 81)), (1, .int a.1), (2, .int a.2.1)] []) {a : Int32 × Int32 × Int32 × Int32 × Mem} (h : Lp (fun (r12 : Int32 × Int32 × Int32 × Int32 × Mem → Prop) a => f_X8_meetsNeed_c12 r2 K r12 a.1 a.2.1 a.2.2.1 a.2.2.2.1 a.2.2.2.2) a) : J X G a.2.2.2.2 12 [(0, .ref (ad G 81)), (1, .int a.1), (2, .int a.2.1), (3, .int a.2.2.1), (4, .int a.2.2.2.1)] [] := by
  refine Lp.elim (P := fun a => J X G a.2.2.2.2 12 [(0, .ref (ad G 81)), (1, .int a.1), (2, .int a.2.1), (3, .int a.2.2.1), (4, .int a.2.2.2.1)] []) ?_ h
  clear h
  intro r12 hr12 a h
  obtain ⟨x1, x2, x3, x4, M⟩ := a
  unfold f_X8_meetsNeed_c12 at h
  (try dsimp only at h ⊢)
  refine J.iload (q := 14) O dX8_meetsNeed_12 rfl 4 rfl ?_
  refine J.iconst (q := 15) (v := (4 : Int32)) O dX8_meetsNeed_14 rfl rfl ?_
  refine J.icmp_ge (q := 18) (tgt := 42) O dX8_meetsNeed_15 rfl (by decide) (fun z2 => ?_) (fun z2 => ?_)
  · replace h := h.1 z2
    refine J.iload_n (q := 43) O dX8_meetsNeed_42 rfl 3 rfl ?_
    refine J.aload_n (q := 44) O dX8_meetsNeed_43 rfl 0 rfl ?_
    refine J.getR (q := 47) (c' := 81) (ci := 8) (k := 0) (r := 82) O dX8_meetsNeed_44 rfl wd_2_75 (by decide) if_81_0 ?_
    refine J.iload_n (q := 48) O dX8_meetsNeed_47 rfl 2 rfl ?_
    obtain ⟨hv3, h⟩ := h
    refine J.iald (q := 49) (c' := 82) (j := x2.toNatClampNeg) (M 82 x2.toNatClampNeg) rfl O dX8_meetsNeed_48 rfl ar_82 hv3 rfl ?_
    refine J.icmp_eq (q := 52) (tgt := 54) O dX8_meetsNeed_49 rfl (by decide) (fun z4 => ?_) (fun z4 => ?_)
    · replace h := h.1 z4
      refine J.iinc (q := 57) O dX8_meetsNeed_54 rfl [(2, .int (x2 + (1 : Int32))), (0, .ref (ad G 81)), (1, .int x1), (3, .int x3), (4, .int x4)] 2 rfl rfl (by decide) rfl ?_
      refine J.goto (q := 2) O dX8_meetsNeed_57 (by decide) ?_
      exact J.sub [1, 2, 0] rfl (hr2 _ h)
    · replace h := h.2 z4
      refine J.iconst (q := 53) (v := (0 : Int32)) O dX8_meetsNeed_52 rfl rfl ?_
      exact hR _ _ _ _ dX8_meetsNeed_53 (Or.inl rfl) h
  · replace h := h.2 z2
    refine J.iload_n (q := 19) O dX8_meetsNeed_18 rfl 3 rfl ?_
    refine J.iload_n (q := 20) O dX8_meetsNeed_19 rfl 1 rfl ?_
    refine J.iload (q := 22) O dX8_meetsNeed_20 rfl 4 rfl ?_
    refine J.callSI (q := 25) [.int x1, .int x4] [.int x3] [.int x4, .int x1, .int x3] rfl O dX8_meetsNeed_22 rfl (c_X8_shiftIn hG h) wd_5_94 mw_X8_shiftIn rfl (by decide) (Nat.le_of_ble_eq_true rfl) (fun v5 M5 h => ?_)
    refine J.iload_n (q := 26) O dX8_meetsNeed_25 rfl 2 rfl ?_
    refine J.icmp_ne (q := 29) (tgt := 33) O dX8_meetsNeed_26 rfl (by decide) (fun z6 => ?_) (fun z6 => ?_)
    · replace h := h.1 z6
      refine J.iconst (q := 34) (v := (0 : Int32)) O dX8_meetsNeed_33 rfl rfl ?_
      exact J.sub [0, 1, 2, 4] rfl (j_X8_meetsNeed_b34 hG O hR hr2 hr12 h)
    · replace h := h.2 z6
      refine J.iconst (q := 30) (v := (1 : Int32)) O dX8_meetsNeed_29 rfl rfl ?_
      refine J.goto (q := 34) O dX8_meetsNeed_30 (by decide) ?_
      exact J.sub [0, 1, 2, 4] rfl (j_X8_meetsNeed_b34 hG O hR hr2 hr12 h)
set_option maxHeartbeats 4000000 in
set_option maxRecDepth 20000 in
theorem j_X8_meetsNeed_c2 {X : CX} {G : GX} {K : Int32 → Mem → Prop} (hG : Gd G) (O : Ok X G cX8_meetsNeed 5 RX8 2) (hR : RetZ X G cX8_meetsNeed K) {a : Int32 × Int32 × Mem} (h : Lp (fun (r2 : Int32 × Int32 × Mem → Prop) a => f_X8_meetsNeed_c2 K r2 a.1 a.2.1 a.2.2) a) : J X G a.2.2 2 [(0, .ref (ad G 81)), (1, .int a.1), (2, .int a.2.1)] [] := by
  refine Lp.elim (P := fun a => J X G a.2.2 2 [(0, .ref (ad G 81)), (1, .int a.1), (2, .int a.2.1)] []) ?_ h
  clear h
  intro r2 hr2 a h
  obtain ⟨x1, x2, M⟩ := a
  unfold f_X8_meetsNeed_c2 at h
  (try dsimp only at h ⊢)
  refine J.iload_n (q := 3) O dX8_meetsNeed_2 rfl 2 rfl ?_
  refine J.iconst (q := 4) (v := (3 : Int32)) O dX8_meetsNeed_3 rfl rfl ?_
  refine J.icmp_ge (q := 7) (tgt := 60) O dX8_meetsNeed_4 rfl (by decide) (fun z7 => ?_) (fun z7 => ?_)
  · replace h := h.1 z7
    refine J.iconst (q := 61) (v := (1 : Int32)) O dX8_meetsNeed_60 rfl rfl ?_
    exact hR _ _ _ _ dX8_meetsNeed_61 (Or.inr rfl) h
  · replace h := h.2 z7
    refine J.iconst (q := 8) (v := (0 : Int32)) O dX8_meetsNeed_7 rfl rfl ?_
    refine J.istore_n (q := 9) O dX8_meetsNeed_8 rfl [(3, .int (0 : Int32)), (0, .ref (ad G 81)), (1, .int x1), (2, .int x2)] (by decide) rfl ?_
    refine J.iconst (q := 10) (v := (0 : Int32)) O dX8_meetsNeed_9 rfl rfl ?_
    refine J.istore (q := 12) O dX8_meetsNeed_10 rfl [(4, .int (0 : Int32)), (3, .int (0 : Int32)), (0, .ref (ad G 81)), (1, .int x1), (2, .int x2)] (by decide) rfl ?_
    exact J.sub [2, 3, 4, 1, 0] rfl (j_X8_meetsNeed_c12 hG O hR hr2 h)
set_option maxHeartbeats 4000000 in
set_option maxRecDepth 20000 in
theorem c_X8_meetsNeed {l : Launch} {G : GX} (hG : Gd G) {a1 : Int32} {M : Mem} {K : Int32 → Mem → Prop} (h : f_X8_meetsNeed a1 M K) : CI l G yX8_meetsNeed cX8_meetsNeed 5 (some .boolean) 2 [.ref (ad G 81), .int a1] M K := by
  unfold f_X8_meetsNeed at h
  refine CZ.mk hG (by decide) [(0, .ref (ad G 81)), (1, .int a1)] rfl (Nat.le_of_ble_eq_true rfl) (fun X O hlX hR => ?_)
  subst hlX
  refine J.iconst (q := 1) (v := (0 : Int32)) O dX8_meetsNeed_0 rfl rfl ?_
  refine J.istore_n (q := 2) O dX8_meetsNeed_1 rfl [(2, .int (0 : Int32)), (0, .ref (ad G 81)), (1, .int a1)] (by decide) rfl ?_
  exact J.sub [1, 2, 0] rfl (j_X8_meetsNeed_c2 hG O hR h)
set_option maxHeartbeats 4000000 in
set_option maxRecDepth 20000 in
theorem j_X8_markShifts_b71 {X : CX} {G : GX} {K : Mem → Prop} (hG : Gd G) (O : Ok X G cX8_markShifts 5 RX8 2) (hR : RetV X G cX8_markShifts K) {r16 : Int32 × Int32 × Int32 × Mem → Prop} (hr16 : ∀ a : Int32 × Int32 × Int32 × Mem, r16 a → J X G a.2.2.2 16 [(0, .ref (ad G 81)), (1, .int a.1), (2, .int a.2.1), (3, .int a.2.2.1)] []) {x1 : Int32} {x2 : Int32} {x3 : Int32} {M : Mem} (h : f_X8_markShifts_b71 r16 K x1 x2 x3 M) : J X G M 71 [(0, .ref (ad G 81)), (1, .int x1), (2, .int x2), (3, .int x3)] [] := by
  unfold f_X8_markShifts_b71 at h
  refine J.iinc (q := 74) O dX8_markShifts_71 rfl [(3, .int (x3 + (1 : Int32))), (0, .ref (ad G 81)), (1, .int x1), (2, .int x2)] 3 rfl rfl (by decide) rfl ?_
  refine J.goto (q := 16) O dX8_markShifts_74 (by decide) ?_
  exact J.sub [1, 2, 3, 0] rfl (hr16 _ h)
set_option maxHeartbeats 4000000 in
set_option maxRecDepth 20000 in
theorem j_X8_markShifts_c16 {X : CX} {G : GX} {K : Mem → Prop} (hG : Gd G) (O : Ok X G cX8_markShifts 5 RX8 2) (hR : RetV X G cX8_markShifts K) {a : Int32 × Int32 × Int32 × Mem} (h : Lp (fun (r16 : Int32 × Int32 × Int32 × Mem → Prop) a => f_X8_markShifts_c16 K r16 a.1 a.2.1 a.2.2.1 a.2.2.2) a) : J X G a.2.2.2 16 [(0, .ref (ad G 81)), (1, .int a.1), (2, .int a.2.1), (3, .int a.2.2.1)] [] := by
  refine Lp.elim (P := fun a => J X G a.2.2.2 16 [(0, .ref (ad G 81)), (1, .int a.1), (2, .int a.2.1), (3, .int a.2.2.1)] []) ?_ h
  clear h
  intro r16 hr16 a h
  obtain ⟨x1, x2, x3, M⟩ := a
  unfold f_X8_markShifts_c16 at h
  (try dsimp only at h ⊢)
  refine J.iload_n (q := 17) O dX8_markShifts_16 rfl 3 rfl ?_
  refine J.iconst (q := 18) (v := (4 : Int32)) O dX8_markShifts_17 rfl rfl ?_
  refine J.icmp_ge (q := 21) (tgt := 77) O dX8_markShifts_18 rfl (by decide) (fun z7 => ?_) (fun z7 => ?_)
  · replace h := h.1 z7
    exact hR _ _ _ dX8_markShifts_77 h
  · replace h := h.2 z7
    refine J.iload_n (q := 22) O dX8_markShifts_21 rfl 2 rfl ?_
    refine J.iload_n (q := 23) O dX8_markShifts_22 rfl 3 rfl ?_
    refine J.callSI (q := 26) [.int x2, .int x3] [] [.int x3, .int x2] rfl O dX8_markShifts_23 rfl (c_X8_shiftIn hG h) wd_5_94 mw_X8_shiftIn rfl (by decide) (Nat.le_of_ble_eq_true rfl) (fun v8 M8 h => ?_)
    refine J.istore (q := 28) O dX8_markShifts_26 rfl [(4, .int v8), (0, .ref (ad G 81)), (1, .int x1), (2, .int x2), (3, .int x3)] (by decide) rfl ?_
    refine J.iload (q := 30) O dX8_markShifts_28 rfl 0 rfl ?_
    refine J.iconst (q := 31) (v := (2 : Int32)) O dX8_markShifts_30 rfl rfl ?_
    refine J.icmp_ne (q := 34) (tgt := 51) O dX8_markShifts_31 rfl (by decide) (fun z9 => ?_) (fun z9 => ?_)
    · replace h := h.1 z9
      refine J.iload (q := 53) O dX8_markShifts_51 rfl 0 rfl ?_
      refine J.iconst (q := 54) (v := (3 : Int32)) O dX8_markShifts_53 rfl rfl ?_
      refine J.icmp_eq (q := 57) (tgt := 71) O dX8_markShifts_54 rfl (by decide) (fun z10 => ?_) (fun z10 => ?_)
      · replace h := h.1 z10
        exact J.sub [1, 2, 3, 4] rfl (j_X8_markShifts_b71 hG O hR hr16 h)
      · replace h := h.2 z10
        refine J.aload_n (q := 58) O dX8_markShifts_57 rfl 1 rfl ?_
        refine J.getR (q := 61) (c' := 81) (ci := 8) (k := 7) (r := 86) O dX8_markShifts_58 rfl wd_2_83 (by decide) if_81_7 ?_
        refine J.iload_n (q := 62) O dX8_markShifts_61 rfl 2 rfl ?_
        refine J.dup2 (q := 63) O dX8_markShifts_62 rfl rfl rfl ?_
        obtain ⟨hv11, h⟩ := h
        refine J.iald (q := 64) (c' := 86) (j := x1.toNatClampNeg) (M8 86 x1.toNatClampNeg) rfl O dX8_markShifts_63 rfl ar_86 hv11 rfl ?_
        refine J.iconst (q := 65) (v := (1 : Int32)) O dX8_markShifts_64 rfl rfl ?_
        refine J.iconst (q := 66) (v := (3 : Int32)) O dX8_markShifts_65 rfl rfl ?_
        refine J.iload_n (q := 67) O dX8_markShifts_66 rfl 4 rfl ?_
        refine J.imul (q := 68) O dX8_markShifts_67 rfl ?_
        refine J.ishl (q := 69) O dX8_markShifts_68 rfl ?_
        refine J.ior (q := 70) O dX8_markShifts_69 rfl ?_
        obtain ⟨hv12, h⟩ := h
        refine J.iast (q := 71) (c' := 86) (j := x1.toNatClampNeg) O dX8_markShifts_70 rfl ar_86 hv12 rfl ?_
        exact J.sub [1, 2, 3, 4] rfl (j_X8_markShifts_b71 hG O hR hr16 h)
    · replace h := h.2 z9
      refine J.aload_n (q := 35) O dX8_markShifts_34 rfl 1 rfl ?_
      refine J.getR (q := 38) (c' := 81) (ci := 8) (k := 6) (r := 85) O dX8_markShifts_35 rfl wd_2_82 (by decide) if_81_6 ?_
      refine J.iload_n (q := 39) O dX8_markShifts_38 rfl 2 rfl ?_
      refine J.dup2 (q := 40) O dX8_markShifts_39 rfl rfl rfl ?_
      obtain ⟨hv13, h⟩ := h
      refine J.iald (q := 41) (c' := 85) (j := x1.toNatClampNeg) (M8 85 x1.toNatClampNeg) rfl O dX8_markShifts_40 rfl ar_85 hv13 rfl ?_
      refine J.iconst (q := 42) (v := (1 : Int32)) O dX8_markShifts_41 rfl rfl ?_
      refine J.iconst (q := 43) (v := (3 : Int32)) O dX8_markShifts_42 rfl rfl ?_
      refine J.iload_n (q := 44) O dX8_markShifts_43 rfl 4 rfl ?_
      refine J.imul (q := 45) O dX8_markShifts_44 rfl ?_
      refine J.ishl (q := 46) O dX8_markShifts_45 rfl ?_
      refine J.ior (q := 47) O dX8_markShifts_46 rfl ?_
      obtain ⟨hv14, h⟩ := h
      refine J.iast (q := 48) (c' := 85) (j := x1.toNatClampNeg) O dX8_markShifts_47 rfl ar_85 hv14 rfl ?_
      refine J.goto (q := 71) O dX8_markShifts_48 (by decide) ?_
      exact J.sub [1, 2, 3, 4] rfl (j_X8_markShifts_b71 hG O hR hr16 h)
set_option maxHeartbeats 4000000 in
set_option maxRecDepth 20000 in
theorem c_X8_markShifts {l : Launch} {G : GX} (hG : Gd G) {a1 : Int32} {a2 : Int32} {M : Mem} {K : Mem → Prop} (h : f_X8_markShifts a1 a2 M K) : CV l G yX8_markShifts cX8_markShifts 5 2 [.ref (ad G 81), .int a1, .int a2] M K := by
  unfold f_X8_markShifts at h
  refine CV.mk hG (by decide) [(0, .ref (ad G 81)), (1, .int a1), (2, .int a2)] rfl (Nat.le_of_ble_eq_true rfl) (fun X O hlX hR => ?_)
  subst hlX
  refine J.aload_n (q := 1) O dX8_markShifts_0 rfl 0 rfl ?_
  refine J.getR (q := 4) (c' := 81) (ci := 8) (k := 6) (r := 85) O dX8_markShifts_1 rfl wd_2_82 (by decide) if_81_6 ?_
  refine J.iload_n (q := 5) O dX8_markShifts_4 rfl 1 rfl ?_
  refine J.iconst (q := 6) (v := (0 : Int32)) O dX8_markShifts_5 rfl rfl ?_
  obtain ⟨hv15, h⟩ := h
  refine J.iast (q := 7) (c' := 85) (j := a1.toNatClampNeg) O dX8_markShifts_6 rfl ar_85 hv15 rfl ?_
  refine J.aload_n (q := 8) O dX8_markShifts_7 rfl 0 rfl ?_
  refine J.getR (q := 11) (c' := 81) (ci := 8) (k := 7) (r := 86) O dX8_markShifts_8 rfl wd_2_83 (by decide) if_81_7 ?_
  refine J.iload_n (q := 12) O dX8_markShifts_11 rfl 1 rfl ?_
  refine J.iconst (q := 13) (v := (0 : Int32)) O dX8_markShifts_12 rfl rfl ?_
  obtain ⟨hv16, h⟩ := h
  refine J.iast (q := 14) (c' := 86) (j := a1.toNatClampNeg) O dX8_markShifts_13 rfl ar_86 hv16 rfl ?_
  refine J.iconst (q := 15) (v := (0 : Int32)) O dX8_markShifts_14 rfl rfl ?_
  refine J.istore_n (q := 16) O dX8_markShifts_15 rfl [(3, .int (0 : Int32)), (0, .ref (ad G 81)), (1, .int a1), (2, .int a2)] (by decide) rfl ?_
  exact J.sub [1, 2, 3, 0] rfl (j_X8_markShifts_c16 hG O hR h)
set_option maxHeartbeats 4000000 in
set_option maxRecDepth 20000 in
theorem j_X8_listArrangements_b60 {X : CX} {G : GX} {K : Mem → Prop} (hG : Gd G) (O : Ok X G cX8_listArrangements 2 RX8 3) (hR : RetV X G cX8_listArrangements K) {r7 : Int32 × Mem → Prop} (hr7 : ∀ a : Int32 × Mem, r7 a → J X G a.2 7 [(0, .ref (ad G 81)), (1, .int a.1)] []) {x1 : Int32} {M : Mem} (h : f_X8_listArrangements_b60 r7 K x1 M) : J X G M 60 [(0, .ref (ad G 81)), (1, .int x1)] [] := by
  unfold f_X8_listArrangements_b60 at h
  refine J.iinc (q := 63) O dX8_listArrangements_60 rfl [(1, .int (x1 + (1 : Int32))), (0, .ref (ad G 81))] 1 rfl rfl (by decide) rfl ?_
  refine J.goto (q := 7) O dX8_listArrangements_63 (by decide) ?_
  exact J.sub [1, 0] rfl (hr7 _ h)
set_option maxHeartbeats 4000000 in
set_option maxRecDepth 20000 in
theorem j_X8_listArrangements_c7 {X : CX} {G : GX} {K : Mem → Prop} (hG : Gd G) (O : Ok X G cX8_listArrangements 2 RX8 3) (hR : RetV X G cX8_listArrangements K) {a : Int32 × Mem} (h : Lp (fun (r7 : Int32 × Mem → Prop) a => f_X8_listArrangements_c7 K r7 a.1 a.2) a) : J X G a.2 7 [(0, .ref (ad G 81)), (1, .int a.1)] [] := by
  refine Lp.elim (P := fun a => J X G a.2 7 [(0, .ref (ad G 81)), (1, .int a.1)] []) ?_ h
  clear h
  intro r7 hr7 a h
  obtain ⟨x1, M⟩ := a
  unfold f_X8_listArrangements_c7 at h
  (try dsimp only at h ⊢)
  refine J.iload_n (q := 8) O dX8_listArrangements_7 rfl 1 rfl ?_
  refine J.sipush (q := 11) (v := (256 : Int32)) O dX8_listArrangements_8 rfl rfl ?_
  refine J.icmp_ge (q := 14) (tgt := 66) O dX8_listArrangements_11 rfl (by decide) (fun z2 => ?_) (fun z2 => ?_)
  · replace h := h.1 z2
    exact hR _ _ _ dX8_listArrangements_66 h
  · replace h := h.2 z2
    refine J.aload_n (q := 15) O dX8_listArrangements_14 rfl 0 rfl ?_
    refine J.getI (q := 18) (c' := 81) (ci := 8) (k := 4) (M 81 4) rfl O dX8_listArrangements_15 rfl wd_2_80 (by decide) if_81_4 ?_
    refine J.bipush (q := 20) (v := (24 : Int32)) O dX8_listArrangements_18 rfl rfl ?_
    refine J.icmp_ge (q := 23) (tgt := 66) O dX8_listArrangements_20 rfl (by decide) (fun z3 => ?_) (fun z3 => ?_)
    · replace h := h.1 z3
      exact hR _ _ _ dX8_listArrangements_66 h
    · replace h := h.2 z3
      refine J.aload_n (q := 24) O dX8_listArrangements_23 rfl 0 rfl ?_
      refine J.iload_n (q := 25) O dX8_listArrangements_24 rfl 1 rfl ?_
      refine J.callVI (q := 28) [.int x1] [] [.int x1, .ref (ad G 81)] rfl O dX8_listArrangements_25 rfl (c_X8_meetsNeed hG h) wd_5_90 mw_X8_meetsNeed io_81 rfl (by decide) (Nat.le_of_ble_eq_true rfl) (fun v4 M4 h => ?_)
      refine J.if_eq (q := 31) (tgt := 60) O dX8_listArrangements_28 rfl (by decide) (fun z5 => ?_) (fun z5 => ?_)
      · replace h := h.1 z5
        exact J.sub [0, 1] rfl (j_X8_listArrangements_b60 hG O hR hr7 h)
      · replace h := h.2 z5
        refine J.aload_n (q := 32) O dX8_listArrangements_31 rfl 0 rfl ?_
        refine J.getR (q := 35) (c' := 81) (ci := 8) (k := 5) (r := 84) O dX8_listArrangements_32 rfl wd_2_81 (by decide) if_81_5 ?_
        refine J.aload_n (q := 36) O dX8_listArrangements_35 rfl 0 rfl ?_
        refine J.getI (q := 39) (c' := 81) (ci := 8) (k := 4) (M4 81 4) rfl O dX8_listArrangements_36 rfl wd_2_80 (by decide) if_81_4 ?_
        refine J.iload_n (q := 40) O dX8_listArrangements_39 rfl 1 rfl ?_
        obtain ⟨hv6, h⟩ := h
        refine J.iast (q := 41) (c' := 84) (j := (M4 81 4).toNatClampNeg) O dX8_listArrangements_40 rfl ar_84 hv6 rfl ?_
        refine J.aload_n (q := 42) O dX8_listArrangements_41 rfl 0 rfl ?_
        refine J.aload_n (q := 43) O dX8_listArrangements_42 rfl 0 rfl ?_
        refine J.getI (q := 46) (c' := 81) (ci := 8) (k := 4) (M4 81 4) rfl O dX8_listArrangements_43 rfl wd_2_80 (by decide) if_81_4 ?_
        refine J.iload_n (q := 47) O dX8_listArrangements_46 rfl 1 rfl ?_
        refine J.callVV (q := 50) [.int (M4 81 4), .int x1] [] [.int x1, .int (M4 81 4), .ref (ad G 81)] rfl O dX8_listArrangements_47 rfl (c_X8_markShifts hG h) wd_5_97 mw_X8_markShifts io_81 rfl (by decide) (Nat.le_of_ble_eq_true rfl) (fun M7 h => ?_)
        refine J.aload_n (q := 51) O dX8_listArrangements_50 rfl 0 rfl ?_
        refine J.dup (q := 52) O dX8_listArrangements_51 rfl rfl ?_
        refine J.getI (q := 55) (c' := 81) (ci := 8) (k := 4) (M7 81 4) rfl O dX8_listArrangements_52 rfl wd_2_80 (by decide) if_81_4 ?_
        refine J.iconst (q := 56) (v := (1 : Int32)) O dX8_listArrangements_55 rfl rfl ?_
        refine J.iadd (q := 57) O dX8_listArrangements_56 rfl ?_
        refine J.putI (q := 60) (c' := 81) (ci := 8) (k := 4) O dX8_listArrangements_57 rfl wd_2_80 (by decide) if_81_4 rfl rfl ?_
        exact J.sub [0, 1] rfl (j_X8_listArrangements_b60 hG O hR hr7 h)
set_option maxHeartbeats 4000000 in
set_option maxRecDepth 20000 in
theorem c_X8_listArrangements {l : Launch} {G : GX} (hG : Gd G) {M : Mem} {K : Mem → Prop} (h : f_X8_listArrangements  M K) : CV l G yX8_listArrangements cX8_listArrangements 2 3 [.ref (ad G 81)] M K := by
  unfold f_X8_listArrangements at h
  refine CV.mk hG (by decide) [(0, .ref (ad G 81))] rfl (Nat.le_of_ble_eq_true rfl) (fun X O hlX hR => ?_)
  subst hlX
  refine J.aload_n (q := 1) O dX8_listArrangements_0 rfl 0 rfl ?_
  refine J.iconst (q := 2) (v := (0 : Int32)) O dX8_listArrangements_1 rfl rfl ?_
  refine J.putI (q := 5) (c' := 81) (ci := 8) (k := 4) O dX8_listArrangements_2 rfl wd_2_80 (by decide) if_81_4 rfl rfl ?_
  refine J.iconst (q := 6) (v := (0 : Int32)) O dX8_listArrangements_5 rfl rfl ?_
  refine J.istore_n (q := 7) O dX8_listArrangements_6 rfl [(1, .int (0 : Int32)), (0, .ref (ad G 81))] (by decide) rfl ?_
  exact J.sub [1, 0] rfl (j_X8_listArrangements_c7 hG O hR h)
set_option maxHeartbeats 4000000 in
set_option maxRecDepth 20000 in
theorem j_X8_brokenOn_b50 {X : CX} {G : GX} {K : Int32 → Mem → Prop} (hG : Gd G) (O : Ok X G cX8_brokenOn 7 RX8 2) (hR : RetI X G cX8_brokenOn K) {r6 : Int32 × Int32 × Int32 × Int32 × Mem → Prop} (hr6 : ∀ a : Int32 × Int32 × Int32 × Int32 × Mem, r6 a → J X G a.2.2.2.2 6 [(0, .ref (ad G 81)), (1, .ref (ad G 4)), (2, .int a.1), (3, .int a.2.1), (4, .int a.2.2.1), (5, .int a.2.2.2.1)] []) {x2 : Int32} {x3 : Int32} {x5 : Int32} {s0 : Int32} {s1 : Int32} {M : Mem} (h : f_X8_brokenOn_b50 r6 K x2 x3 x5 s0 s1 M) : J X G M 50 [(0, .ref (ad G 81)), (1, .ref (ad G 4)), (2, .int x2), (3, .int x3), (5, .int x5)] [.int s0, .int s1] := by
  unfold f_X8_brokenOn_b50 at h
  refine J.iadd (q := 51) O dX8_brokenOn_50 rfl ?_
  refine J.istore (q := 53) O dX8_brokenOn_51 rfl [(4, .int (s1 + s0)), (0, .ref (ad G 81)), (1, .ref (ad G 4)), (2, .int x2), (3, .int x3), (5, .int x5)] (by decide) rfl ?_
  refine J.iinc (q := 56) O dX8_brokenOn_53 rfl [(5, .int (x5 + (1 : Int32))), (4, .int (s1 + s0)), (0, .ref (ad G 81)), (1, .ref (ad G 4)), (2, .int x2), (3, .int x3)] 5 rfl rfl (by decide) rfl ?_
  refine J.goto (q := 6) O dX8_brokenOn_56 (by decide) ?_
  exact J.sub [2, 3, 4, 5, 1, 0] rfl (hr6 _ h)
set_option maxHeartbeats 4000000 in
set_option maxRecDepth 20000 in
theorem j_X8_brokenOn_b49 {X : CX} {G : GX} {K : Int32 → Mem → Prop} (hG : Gd G) (O : Ok X G cX8_brokenOn 7 RX8 2) (hR : RetI X G cX8_brokenOn K) {r6 : Int32 × Int32 × Int32 × Int32 × Mem → Prop} (hr6 : ∀ a : Int32 × Int32 × Int32 × Int32 × Mem, r6 a → J X G a.2.2.2.2 6 [(0, .ref (ad G 81)), (1, .ref (ad G 4)), (2, .int a.1), (3, .int a.2.1), (4, .int a.2.2.1), (5, .int a.2.2.2.1)] []) {x2 : Int32} {x3 : Int32} {x5 : Int32} {s0 : Int32} {M : Mem} (h : f_X8_brokenOn_b49 r6 K x2 x3 x5 s0 M) : J X G M 49 [(0, .ref (ad G 81)), (1, .ref (ad G 4)), (2, .int x2), (3, .int x3), (5, .int x5)] [.int s0] := by
  unfold f_X8_brokenOn_b49 at h
  refine J.iconst (q := 50) (v := (0 : Int32)) O dX8_brokenOn_49 rfl rfl ?_
  exact J.sub [0, 1, 2, 3, 4] rfl (j_X8_brokenOn_b50 hG O hR hr6 h)
set_option maxHeartbeats 4000000 in
set_option maxRecDepth 20000 in
theorem j_X8_brokenOn_c6 {X : CX} {G : GX} {K : Int32 → Mem → Prop} (hG : Gd G) (O : Ok X G cX8_brokenOn 7 RX8 2) (hR : RetI X G cX8_brokenOn K) {a : Int32 × Int32 × Int32 × Int32 × Mem} (h : Lp (fun (r6 : Int32 × Int32 × Int32 × Int32 × Mem → Prop) a => f_X8_brokenOn_c6 K r6 a.1 a.2.1 a.2.2.1 a.2.2.2.1 a.2.2.2.2) a) : J X G a.2.2.2.2 6 [(0, .ref (ad G 81)), (1, .ref (ad G 4)), (2, .int a.1), (3, .int a.2.1), (4, .int a.2.2.1), (5, .int a.2.2.2.1)] [] := by
  refine Lp.elim (P := fun a => J X G a.2.2.2.2 6 [(0, .ref (ad G 81)), (1, .ref (ad G 4)), (2, .int a.1), (3, .int a.2.1), (4, .int a.2.2.1), (5, .int a.2.2.2.1)] []) ?_ h
  clear h
  intro r6 hr6 a h
  obtain ⟨x2, x3, x4, x5, M⟩ := a
  unfold f_X8_brokenOn_c6 at h
  (try dsimp only at h ⊢)
  refine J.iload (q := 8) O dX8_brokenOn_6 rfl 5 rfl ?_
  refine J.iconst (q := 9) (v := (4 : Int32)) O dX8_brokenOn_8 rfl rfl ?_
  refine J.icmp_ge (q := 12) (tgt := 59) O dX8_brokenOn_9 rfl (by decide) (fun z2 => ?_) (fun z2 => ?_)
  · replace h := h.1 z2
    refine J.iload (q := 61) O dX8_brokenOn_59 rfl 4 rfl ?_
    exact hR _ _ _ _ dX8_brokenOn_61 h
  · replace h := h.2 z2
    refine J.iload_n (q := 13) O dX8_brokenOn_12 rfl 3 rfl ?_
    refine J.iload (q := 15) O dX8_brokenOn_13 rfl 5 rfl ?_
    refine J.callSI (q := 18) [.int x3, .int x5] [] [.int x5, .int x3] rfl O dX8_brokenOn_15 rfl (c_X8_shiftIn hG h) wd_5_94 mw_X8_shiftIn rfl (by decide) (Nat.le_of_ble_eq_true rfl) (fun v3 M3 h => ?_)
    refine J.istore (q := 20) O dX8_brokenOn_18 rfl [(6, .int v3), (0, .ref (ad G 81)), (1, .ref (ad G 4)), (2, .int x2), (3, .int x3), (4, .int x4), (5, .int x5)] (by decide) rfl ?_
    refine J.iload (q := 22) O dX8_brokenOn_20 rfl 5 rfl ?_
    refine J.iload (q := 24) O dX8_brokenOn_22 rfl 0 rfl ?_
    refine J.iconst (q := 25) (v := (3 : Int32)) O dX8_brokenOn_24 rfl rfl ?_
    refine J.icmp_eq (q := 28) (tgt := 49) O dX8_brokenOn_25 rfl (by decide) (fun z4 => ?_) (fun z4 => ?_)
    · replace h := h.1 z4
      exact J.sub [1, 2, 3, 4, 6] rfl (j_X8_brokenOn_b49 hG O hR hr6 h)
    · replace h := h.2 z4
      refine J.aload_n (q := 29) O dX8_brokenOn_28 rfl 2 rfl ?_
      refine J.aload_n (q := 30) O dX8_brokenOn_29 rfl 1 rfl ?_
      refine J.getR (q := 33) (c' := 81) (ci := 8) (k := 1) (r := 83) O dX8_brokenOn_30 rfl wd_2_77 (by decide) if_81_1 ?_
      refine J.iload (q := 35) O dX8_brokenOn_33 rfl 6 rfl ?_
      obtain ⟨hv5, h⟩ := h
      refine J.iald (q := 36) (c' := 83) (j := x5.toNatClampNeg) (M3 83 x5.toNatClampNeg) rfl O dX8_brokenOn_35 rfl ar_83 hv5 rfl ?_
      refine J.iload_n (q := 37) O dX8_brokenOn_36 rfl 3 rfl ?_
      refine J.iload (q := 39) O dX8_brokenOn_37 rfl 0 rfl ?_
      refine J.callVI (q := 42) [.int (M3 83 x5.toNatClampNeg), .int x2, .int v3] [.int x4] [.int v3, .int x2, .int (M3 83 x5.toNatClampNeg), .ref (ad G 4), .int x4] rfl O dX8_brokenOn_39 rfl (c_X9_wishesAgainst hG h) wd_5_109 mw_X9_wishesAgainst io_4 rfl (by decide) (Nat.le_of_ble_eq_true rfl) (fun v6 M6 h => ?_)
      refine J.if_eq (q := 45) (tgt := 49) O dX8_brokenOn_42 rfl (by decide) (fun z7 => ?_) (fun z7 => ?_)
      · replace h := h.1 z7
        exact J.sub [1, 2, 3, 4, 6] rfl (j_X8_brokenOn_b49 hG O hR hr6 h)
      · replace h := h.2 z7
        refine J.iconst (q := 46) (v := (1 : Int32)) O dX8_brokenOn_45 rfl rfl ?_
        refine J.goto (q := 50) O dX8_brokenOn_46 (by decide) ?_
        exact J.sub [1, 2, 3, 4, 6] rfl (j_X8_brokenOn_b50 hG O hR hr6 h)
set_option maxHeartbeats 4000000 in
set_option maxRecDepth 20000 in
theorem c_X8_brokenOn {l : Launch} {G : GX} (hG : Gd G) {a2 : Int32} {a3 : Int32} {M : Mem} {K : Int32 → Mem → Prop} (h : f_X8_brokenOn a2 a3 M K) : CI l G yX8_brokenOn cX8_brokenOn 7 (some .int) 2 [.ref (ad G 81), .ref (ad G 4), .int a2, .int a3] M K := by
  unfold f_X8_brokenOn at h
  refine CI.mk hG (by decide) [(0, .ref (ad G 81)), (1, .ref (ad G 4)), (2, .int a2), (3, .int a3)] rfl (Nat.le_of_ble_eq_true rfl) (fun X O hlX hR => ?_)
  subst hlX
  refine J.iconst (q := 1) (v := (0 : Int32)) O dX8_brokenOn_0 rfl rfl ?_
  refine J.istore (q := 3) O dX8_brokenOn_1 rfl [(4, .int (0 : Int32)), (0, .ref (ad G 81)), (1, .ref (ad G 4)), (2, .int a2), (3, .int a3)] (by decide) rfl ?_
  refine J.iconst (q := 4) (v := (0 : Int32)) O dX8_brokenOn_3 rfl rfl ?_
  refine J.istore (q := 6) O dX8_brokenOn_4 rfl [(5, .int (0 : Int32)), (4, .int (0 : Int32)), (0, .ref (ad G 81)), (1, .ref (ad G 4)), (2, .int a2), (3, .int a3)] (by decide) rfl ?_
  exact J.sub [2, 3, 4, 5, 1, 0] rfl (j_X8_brokenOn_c6 hG O hR h)
set_option maxHeartbeats 4000000 in
set_option maxRecDepth 20000 in
theorem j_X8_countBroken_c18 {X : CX} {G : GX} {K : Mem → Prop} (hG : Gd G) (O : Ok X G cX8_countBroken 5 RX8 3) (hR : RetV X G cX8_countBroken K) {r9 : Int32 × Mem → Prop} (hr9 : ∀ a : Int32 × Mem, r9 a → J X G a.2 9 [(0, .ref (ad G 81)), (1, .ref (ad G 4)), (2, .int a.1)] []) {a : Int32 × Int32 × Int32 × Mem} (h : Lp (fun (r18 : Int32 × Int32 × Int32 × Mem → Prop) a => f_X8_countBroken_c18 r9 K r18 a.1 a.2.1 a.2.2.1 a.2.2.2) a) : J X G a.2.2.2 18 [(0, .ref (ad G 81)), (1, .ref (ad G 4)), (2, .int a.1), (3, .int a.2.1), (4, .int a.2.2.1)] [] := by
  refine Lp.elim (P := fun a => J X G a.2.2.2 18 [(0, .ref (ad G 81)), (1, .ref (ad G 4)), (2, .int a.1), (3, .int a.2.1), (4, .int a.2.2.1)] []) ?_ h
  clear h
  intro r18 hr18 a h
  obtain ⟨x2, x3, x4, M⟩ := a
  unfold f_X8_countBroken_c18 at h
  (try dsimp only at h ⊢)
  refine J.iload (q := 20) O dX8_countBroken_18 rfl 4 rfl ?_
  refine J.aload_n (q := 21) O dX8_countBroken_20 rfl 0 rfl ?_
  refine J.getI (q := 24) (c' := 81) (ci := 8) (k := 4) (M 81 4) rfl O dX8_countBroken_21 rfl wd_2_80 (by decide) if_81_4 ?_
  refine J.icmp_ge (q := 27) (tgt := 69) O dX8_countBroken_24 rfl (by decide) (fun z8 => ?_) (fun z8 => ?_)
  · replace h := h.1 z8
    refine J.aload_n (q := 70) O dX8_countBroken_69 rfl 0 rfl ?_
    refine J.getR (q := 73) (c' := 81) (ci := 8) (k := 9) (r := 92) O dX8_countBroken_70 rfl wd_2_85 (by decide) if_81_9 ?_
    refine J.iload_n (q := 74) O dX8_countBroken_73 rfl 2 rfl ?_
    refine J.aload_n (q := 75) O dX8_countBroken_74 rfl 0 rfl ?_
    refine J.getR (q := 78) (c' := 81) (ci := 8) (k := 9) (r := 92) O dX8_countBroken_75 rfl wd_2_85 (by decide) if_81_9 ?_
    refine J.iload_n (q := 79) O dX8_countBroken_78 rfl 2 rfl ?_
    refine J.iconst (q := 80) (v := (1 : Int32)) O dX8_countBroken_79 rfl rfl ?_
    refine J.iadd (q := 81) O dX8_countBroken_80 rfl ?_
    obtain ⟨hv9, h⟩ := h
    refine J.iald (q := 82) (c' := 92) (j := (x2 + (1 : Int32)).toNatClampNeg) (M 92 ((x2 + (1 : Int32)).toNatClampNeg)) rfl O dX8_countBroken_81 rfl ar_92 hv9 rfl ?_
    refine J.iload_n (q := 83) O dX8_countBroken_82 rfl 3 rfl ?_
    refine J.iadd (q := 84) O dX8_countBroken_83 rfl ?_
    obtain ⟨hv10, h⟩ := h
    refine J.iast (q := 85) (c' := 92) (j := x2.toNatClampNeg) O dX8_countBroken_84 rfl ar_92 hv10 rfl ?_
    refine J.iinc (q := 88) O dX8_countBroken_85 rfl [(2, .int (x2 + (-1 : Int32))), (0, .ref (ad G 81)), (1, .ref (ad G 4)), (3, .int x3), (4, .int x4)] 2 rfl rfl (by decide) rfl ?_
    refine J.goto (q := 9) O dX8_countBroken_88 (by decide) ?_
    exact J.sub [1, 2, 0] rfl (hr9 _ h)
  · replace h := h.2 z8
    refine J.aload_n (q := 28) O dX8_countBroken_27 rfl 0 rfl ?_
    refine J.getR (q := 31) (c' := 81) (ci := 8) (k := 8) (r := 87) O dX8_countBroken_28 rfl wd_2_84 (by decide) if_81_8 ?_
    refine J.iload_n (q := 32) O dX8_countBroken_31 rfl 2 rfl ?_
    obtain ⟨hv11, h⟩ := h
    refine J.aald (q := 33) (t := 2) (c' := 87) (b := 88) (d := 1) O dX8_countBroken_32 rfl ar_87 hv11 ?_
    refine J.iload (q := 35) O dX8_countBroken_33 rfl 4 rfl ?_
    refine J.aload_n (q := 36) O dX8_countBroken_35 rfl 0 rfl ?_
    refine J.aload_n (q := 37) O dX8_countBroken_36 rfl 1 rfl ?_
    refine J.iload_n (q := 38) O dX8_countBroken_37 rfl 2 rfl ?_
    refine J.aload_n (q := 39) O dX8_countBroken_38 rfl 0 rfl ?_
    refine J.getR (q := 42) (c' := 81) (ci := 8) (k := 5) (r := 84) O dX8_countBroken_39 rfl wd_2_81 (by decide) if_81_5 ?_
    refine J.iload (q := 44) O dX8_countBroken_42 rfl 4 rfl ?_
    obtain ⟨hv12, h⟩ := h
    refine J.iald (q := 45) (c' := 84) (j := x4.toNatClampNeg) (M 84 x4.toNatClampNeg) rfl O dX8_countBroken_44 rfl ar_84 hv12 rfl ?_
    refine J.callVI (q := 48) [.ref (ad G 4), .int x2, .int (M 84 x4.toNatClampNeg)] [.int x4, .ref (ad G (88 + 1 * x2.toNatClampNeg))] [.int (M 84 x4.toNatClampNeg), .int x2, .ref (ad G 4), .ref (ad G 81), .int x4, .ref (ad G (88 + 1 * x2.toNatClampNeg))] rfl O dX8_countBroken_45 rfl (c_X8_brokenOn hG h) wd_5_105 mw_X8_brokenOn io_81 rfl (by decide) (Nat.le_of_ble_eq_true rfl) (fun v13 M13 h => ?_)
    obtain ⟨hv14, h⟩ := h
    refine J.iast (q := 49) (c' := (88 + 1 * x2.toNatClampNeg)) (j := x4.toNatClampNeg) O dX8_countBroken_48 rfl (row_87 hv11) hv14 rfl ?_
    refine J.iload_n (q := 50) O dX8_countBroken_49 rfl 3 rfl ?_
    refine J.aload_n (q := 51) O dX8_countBroken_50 rfl 0 rfl ?_
    refine J.getR (q := 54) (c' := 81) (ci := 8) (k := 8) (r := 87) O dX8_countBroken_51 rfl wd_2_84 (by decide) if_81_8 ?_
    refine J.iload_n (q := 55) O dX8_countBroken_54 rfl 2 rfl ?_
    obtain ⟨hv15, h⟩ := h
    refine J.aald (q := 56) (t := 2) (c' := 87) (b := 88) (d := 1) O dX8_countBroken_55 rfl ar_87 hv15 ?_
    refine J.iload (q := 58) O dX8_countBroken_56 rfl 4 rfl ?_
    obtain ⟨hv16, h⟩ := h
    refine J.iald (q := 59) (c' := (88 + 1 * x2.toNatClampNeg)) (j := x4.toNatClampNeg) ((mset M13 (88 + 1 * x2.toNatClampNeg) x4.toNatClampNeg v13) (88 + 1 * x2.toNatClampNeg) x4.toNatClampNeg) rfl O dX8_countBroken_58 rfl (row_87 hv15) hv16 rfl ?_
    refine J.mmin (q := 62) O dX8_countBroken_59 rfl wd_5_110 (by decide) (Nat.le_of_ble_eq_true rfl) ?_
    refine J.istore_n (q := 63) O dX8_countBroken_62 rfl [(3, .int (if ((mset M13 (88 + 1 * x2.toNatClampNeg) x4.toNatClampNeg v13) (88 + 1 * x2.toNatClampNeg) x4.toNatClampNeg) < x3 then ((mset M13 (88 + 1 * x2.toNatClampNeg) x4.toNatClampNeg v13) (88 + 1 * x2.toNatClampNeg) x4.toNatClampNeg) else x3)), (0, .ref (ad G 81)), (1, .ref (ad G 4)), (2, .int x2), (4, .int x4)] (by decide) rfl ?_
    refine J.iinc (q := 66) O dX8_countBroken_63 rfl [(4, .int (x4 + (1 : Int32))), (3, .int (if ((mset M13 (88 + 1 * x2.toNatClampNeg) x4.toNatClampNeg v13) (88 + 1 * x2.toNatClampNeg) x4.toNatClampNeg) < x3 then ((mset M13 (88 + 1 * x2.toNatClampNeg) x4.toNatClampNeg v13) (88 + 1 * x2.toNatClampNeg) x4.toNatClampNeg) else x3)), (0, .ref (ad G 81)), (1, .ref (ad G 4)), (2, .int x2)] 4 rfl rfl (by decide) rfl ?_
    refine J.goto (q := 18) O dX8_countBroken_66 (by decide) ?_
    exact J.sub [2, 3, 4, 1, 0] rfl (hr18 _ h)
set_option maxHeartbeats 4000000 in
set_option maxRecDepth 20000 in
theorem j_X8_countBroken_c9 {X : CX} {G : GX} {K : Mem → Prop} (hG : Gd G) (O : Ok X G cX8_countBroken 5 RX8 3) (hR : RetV X G cX8_countBroken K) {a : Int32 × Mem} (h : Lp (fun (r9 : Int32 × Mem → Prop) a => f_X8_countBroken_c9 K r9 a.1 a.2) a) : J X G a.2 9 [(0, .ref (ad G 81)), (1, .ref (ad G 4)), (2, .int a.1)] [] := by
  refine Lp.elim (P := fun a => J X G a.2 9 [(0, .ref (ad G 81)), (1, .ref (ad G 4)), (2, .int a.1)] []) ?_ h
  clear h
  intro r9 hr9 a h
  obtain ⟨x2, M⟩ := a
  unfold f_X8_countBroken_c9 at h
  (try dsimp only at h ⊢)
  refine J.iload_n (q := 10) O dX8_countBroken_9 rfl 2 rfl ?_
  refine J.if_lt (q := 13) (tgt := 91) O dX8_countBroken_10 rfl (by decide) (fun z17 => ?_) (fun z17 => ?_)
  · replace h := h.1 z17
    exact hR _ _ _ dX8_countBroken_91 h
  · replace h := h.2 z17
    refine J.iconst (q := 14) (v := (4 : Int32)) O dX8_countBroken_13 rfl rfl ?_
    refine J.istore_n (q := 15) O dX8_countBroken_14 rfl [(3, .int (4 : Int32)), (0, .ref (ad G 81)), (1, .ref (ad G 4)), (2, .int x2)] (by decide) rfl ?_
    refine J.iconst (q := 16) (v := (0 : Int32)) O dX8_countBroken_15 rfl rfl ?_
    refine J.istore (q := 18) O dX8_countBroken_16 rfl [(4, .int (0 : Int32)), (3, .int (4 : Int32)), (0, .ref (ad G 81)), (1, .ref (ad G 4)), (2, .int x2)] (by decide) rfl ?_
    exact J.sub [2, 3, 4, 1, 0] rfl (j_X8_countBroken_c18 hG O hR hr9 h)
set_option maxHeartbeats 4000000 in
set_option maxRecDepth 20000 in
theorem c_X8_countBroken {l : Launch} {G : GX} (hG : Gd G) {M : Mem} {K : Mem → Prop} (h : f_X8_countBroken  M K) : CV l G yX8_countBroken cX8_countBroken 5 3 [.ref (ad G 81), .ref (ad G 4)] M K := by
  unfold f_X8_countBroken at h
  refine CV.mk hG (by decide) [(0, .ref (ad G 81)), (1, .ref (ad G 4))] rfl (Nat.le_of_ble_eq_true rfl) (fun X O hlX hR => ?_)
  subst hlX
  refine J.aload_n (q := 1) O dX8_countBroken_0 rfl 0 rfl ?_
  refine J.getR (q := 4) (c' := 81) (ci := 8) (k := 9) (r := 92) O dX8_countBroken_1 rfl wd_2_85 (by decide) if_81_9 ?_
  refine J.iconst (q := 5) (v := (4 : Int32)) O dX8_countBroken_4 rfl rfl ?_
  refine J.iconst (q := 6) (v := (0 : Int32)) O dX8_countBroken_5 rfl rfl ?_
  refine J.iast (q := 7) (c' := 92) (j := 4) O dX8_countBroken_6 rfl ar_92 (vin_lit (by decide)) (by decide) ?_
  refine J.iconst (q := 8) (v := (3 : Int32)) O dX8_countBroken_7 rfl rfl ?_
  refine J.istore_n (q := 9) O dX8_countBroken_8 rfl [(2, .int (3 : Int32)), (0, .ref (ad G 81)), (1, .ref (ad G 4))] (by decide) rfl ?_
  exact J.sub [1, 2, 0] rfl (j_X8_countBroken_c9 hG O hR h)
set_option maxHeartbeats 4000000 in
set_option maxRecDepth 20000 in
theorem j_X8_keepChosen_c7 {X : CX} {G : GX} {K : Mem → Prop} (hG : Gd G) (O : Ok X G cX8_keepChosen 3 RX8 1) (hR : RetV X G cX8_keepChosen K) {a : Int32 × Mem} (h : Lp (fun (r7 : Int32 × Mem → Prop) a => f_X8_keepChosen_c7 K r7 a.1 a.2) a) : J X G a.2 7 [(0, .ref (ad G 81)), (2, .int a.1)] [] := by
  refine Lp.elim (P := fun a => J X G a.2 7 [(0, .ref (ad G 81)), (2, .int a.1)] []) ?_ h
  clear h
  intro r7 hr7 a h
  obtain ⟨x2, M⟩ := a
  unfold f_X8_keepChosen_c7 at h
  (try dsimp only at h ⊢)
  refine J.iload_n (q := 8) O dX8_keepChosen_7 rfl 1 rfl ?_
  refine J.iconst (q := 9) (v := (4 : Int32)) O dX8_keepChosen_8 rfl rfl ?_
  refine J.icmp_ge (q := 12) (tgt := 30) O dX8_keepChosen_9 rfl (by decide) (fun z3 => ?_) (fun z3 => ?_)
  · replace h := h.1 z3
    exact hR _ _ _ dX8_keepChosen_30 h
  · replace h := h.2 z3
    refine J.aload_n (q := 13) O dX8_keepChosen_12 rfl 0 rfl ?_
    refine J.getR (q := 16) (c' := 81) (ci := 8) (k := 11) (r := 94) O dX8_keepChosen_13 rfl wd_2_87 (by decide) if_81_11 ?_
    refine J.iload_n (q := 17) O dX8_keepChosen_16 rfl 1 rfl ?_
    refine J.aload_n (q := 18) O dX8_keepChosen_17 rfl 0 rfl ?_
    refine J.getR (q := 21) (c' := 81) (ci := 8) (k := 10) (r := 93) O dX8_keepChosen_18 rfl wd_2_86 (by decide) if_81_10 ?_
    refine J.iload_n (q := 22) O dX8_keepChosen_21 rfl 1 rfl ?_
    obtain ⟨hv4, h⟩ := h
    refine J.iald (q := 23) (c' := 93) (j := x2.toNatClampNeg) (M 93 x2.toNatClampNeg) rfl O dX8_keepChosen_22 rfl ar_93 hv4 rfl ?_
    obtain ⟨hv5, h⟩ := h
    refine J.iast (q := 24) (c' := 94) (j := x2.toNatClampNeg) O dX8_keepChosen_23 rfl ar_94 hv5 rfl ?_
    refine J.iinc (q := 27) O dX8_keepChosen_24 rfl [(2, .int (x2 + (1 : Int32))), (0, .ref (ad G 81))] 1 rfl rfl (by decide) rfl ?_
    refine J.goto (q := 7) O dX8_keepChosen_27 (by decide) ?_
    exact J.sub [1, 0] rfl (hr7 _ h)
set_option maxHeartbeats 4000000 in
set_option maxRecDepth 20000 in
theorem c_X8_keepChosen {l : Launch} {G : GX} (hG : Gd G) {a1 : Int32} {M : Mem} {K : Mem → Prop} (h : f_X8_keepChosen a1 M K) : CV l G yX8_keepChosen cX8_keepChosen 3 1 [.ref (ad G 81), .int a1] M K := by
  unfold f_X8_keepChosen at h
  refine CV.mk hG (by decide) [(0, .ref (ad G 81)), (1, .int a1)] rfl (Nat.le_of_ble_eq_true rfl) (fun X O hlX hR => ?_)
  subst hlX
  refine J.aload_n (q := 1) O dX8_keepChosen_0 rfl 0 rfl ?_
  refine J.iload_n (q := 2) O dX8_keepChosen_1 rfl 1 rfl ?_
  refine J.putI (q := 5) (c' := 81) (ci := 8) (k := 12) O dX8_keepChosen_2 rfl wd_2_88 (by decide) if_81_12 rfl rfl ?_
  refine J.iconst (q := 6) (v := (0 : Int32)) O dX8_keepChosen_5 rfl rfl ?_
  refine J.istore_n (q := 7) O dX8_keepChosen_6 rfl [(2, .int (0 : Int32)), (0, .ref (ad G 81)), (1, .int a1)] (by decide) rfl ?_
  exact J.sub [1, 0] rfl (j_X8_keepChosen_c7 hG O hR h)
set_option maxHeartbeats 4000000 in
set_option maxRecDepth 20000 in
theorem j_X8_isSeen_b77 {X : CX} {G : GX} {K : Int32 → Mem → Prop} (hG : Gd G) (O : Ok X G cX8_isSeen 6 RX8 1) (hR : RetZ X G cX8_isSeen K) {x1 : Int64} {x3 : Int32} {x4 : Int32} {M : Mem} (h : f_X8_isSeen_b77 K x1 x3 x4 M) : J X G M 77 [(0, .ref (ad G 81)), (1, .long x1), (3, .int x3), (4, .int x4)] [] := by
  unfold f_X8_isSeen_b77 at h
  refine J.aload_n (q := 78) O dX8_isSeen_77 rfl 0 rfl ?_
  refine J.getR (q := 81) (c' := 81) (ci := 8) (k := 13) (r := 95) O dX8_isSeen_78 rfl wd_2_89 (by decide) if_81_13 ?_
  refine J.iload (q := 83) O dX8_isSeen_81 rfl 3 rfl ?_
  refine J.lload_n (q := 84) O dX8_isSeen_83 rfl 1 rfl ?_
  obtain ⟨hv7, h⟩ := h
  refine J.last (q := 85) (c' := 95) O dX8_isSeen_84 rfl ar_95 hv7 ?_
  refine J.aload_n (q := 86) O dX8_isSeen_85 rfl 0 rfl ?_
  refine J.getR (q := 89) (c' := 81) (ci := 8) (k := 14) (r := 96) O dX8_isSeen_86 rfl wd_2_90 (by decide) if_81_14 ?_
  refine J.iload (q := 91) O dX8_isSeen_89 rfl 3 rfl ?_
  refine J.iload_n (q := 92) O dX8_isSeen_91 rfl 2 rfl ?_
  obtain ⟨hv8, h⟩ := h
  refine J.iast (q := 93) (c' := 96) (j := x4.toNatClampNeg) O dX8_isSeen_92 rfl ar_96 hv8 rfl ?_
  refine J.iconst (q := 94) (v := (0 : Int32)) O dX8_isSeen_93 rfl rfl ?_
  exact hR _ _ _ _ dX8_isSeen_94 (Or.inl rfl) h
set_option maxHeartbeats 4000000 in
set_option maxRecDepth 20000 in
theorem j_X8_isSeen_b51 {X : CX} {G : GX} {K : Int32 → Mem → Prop} (hG : Gd G) (O : Ok X G cX8_isSeen 6 RX8 1) (hR : RetZ X G cX8_isSeen K) {r18 : Int64 × Int32 × Int32 × Int32 × Mem → Prop} (hr18 : ∀ a : Int64 × Int32 × Int32 × Int32 × Mem, r18 a → J X G a.2.2.2.2 18 [(0, .ref (ad G 81)), (1, .long a.1), (3, .int a.2.1), (4, .int a.2.2.1), (5, .int a.2.2.2.1)] []) {x1 : Int64} {x3 : Int32} {x4 : Int32} {x5 : Int32} {M : Mem} (h : f_X8_isSeen_b51 r18 K x1 x3 x4 x5 M) : J X G M 51 [(0, .ref (ad G 81)), (1, .long x1), (3, .int x3), (4, .int x4), (5, .int x5)] [] := by
  unfold f_X8_isSeen_b51 at h
  refine J.aload_n (q := 52) O dX8_isSeen_51 rfl 0 rfl ?_
  refine J.getR (q := 55) (c' := 81) (ci := 8) (k := 13) (r := 95) O dX8_isSeen_52 rfl wd_2_89 (by decide) if_81_13 ?_
  refine J.iload (q := 57) O dX8_isSeen_55 rfl 3 rfl ?_
  obtain ⟨hv9, h⟩ := h
  refine J.lald (q := 58) (c' := 95) O dX8_isSeen_57 rfl ar_95 hv9 ?_
  refine J.lload_n (q := 59) O dX8_isSeen_58 rfl 1 rfl ?_
  refine J.lcmp (q := 60) O dX8_isSeen_59 rfl ?_
  refine J.if_eq (q := 63) (tgt := 77) O dX8_isSeen_60 rfl (by decide) (fun z10 => ?_) (fun z10 => ?_)
  · replace h := h.1 z10
    exact J.sub [0, 1, 2, 3] rfl (j_X8_isSeen_b77 hG O hR h)
  · replace h := h.2 z10
    refine J.aload_n (q := 64) O dX8_isSeen_63 rfl 0 rfl ?_
    refine J.getR (q := 67) (c' := 81) (ci := 8) (k := 13) (r := 95) O dX8_isSeen_64 rfl wd_2_89 (by decide) if_81_13 ?_
    refine J.iload (q := 69) O dX8_isSeen_67 rfl 3 rfl ?_
    obtain ⟨hv11, h⟩ := h
    refine J.lald (q := 70) (c' := 95) O dX8_isSeen_69 rfl ar_95 hv11 ?_
    refine J.ldc2 (q := 73) O dX8_isSeen_70 rfl wd_5_115 ?_
    refine J.lcmp (q := 74) O dX8_isSeen_73 rfl ?_
    refine J.if_ne (q := 77) (tgt := 95) O dX8_isSeen_74 rfl (by decide) (fun z12 => ?_) (fun z12 => ?_)
    · replace h := h.1 z12
      refine J.iload (q := 97) O dX8_isSeen_95 rfl 3 rfl ?_
      refine J.iconst (q := 98) (v := (1 : Int32)) O dX8_isSeen_97 rfl rfl ?_
      refine J.iadd (q := 99) O dX8_isSeen_98 rfl ?_
      refine J.sipush (q := 102) (v := (1023 : Int32)) O dX8_isSeen_99 rfl rfl ?_
      refine J.iand (q := 103) O dX8_isSeen_102 rfl ?_
      refine J.istore (q := 105) O dX8_isSeen_103 rfl [(4, .int ((x4 + (1 : Int32)) &&& (1023 : Int32))), (0, .ref (ad G 81)), (1, .long x1), (3, .int x3), (5, .int x5)] (by decide) rfl ?_
      refine J.iinc (q := 108) O dX8_isSeen_105 rfl [(5, .int (x5 + (1 : Int32))), (4, .int ((x4 + (1 : Int32)) &&& (1023 : Int32))), (0, .ref (ad G 81)), (1, .long x1), (3, .int x3)] 4 rfl rfl (by decide) rfl ?_
      refine J.goto (q := 18) O dX8_isSeen_108 (by decide) ?_
      exact J.sub [2, 3, 4, 1, 0] rfl (hr18 _ h)
    · replace h := h.2 z12
      exact J.sub [0, 1, 2, 3] rfl (j_X8_isSeen_b77 hG O hR h)
set_option maxHeartbeats 4000000 in
set_option maxRecDepth 20000 in
theorem j_X8_isSeen_c18 {X : CX} {G : GX} {K : Int32 → Mem → Prop} (hG : Gd G) (O : Ok X G cX8_isSeen 6 RX8 1) (hR : RetZ X G cX8_isSeen K) {a : Int64 × Int32 × Int32 × Int32 × Mem} (h : Lp (fun (r18 : Int64 × Int32 × Int32 × Int32 × Mem → Prop) a => f_X8_isSeen_c18 K r18 a.1 a.2.1 a.2.2.1 a.2.2.2.1 a.2.2.2.2) a) : J X G a.2.2.2.2 18 [(0, .ref (ad G 81)), (1, .long a.1), (3, .int a.2.1), (4, .int a.2.2.1), (5, .int a.2.2.2.1)] [] := by
  refine Lp.elim (P := fun a => J X G a.2.2.2.2 18 [(0, .ref (ad G 81)), (1, .long a.1), (3, .int a.2.1), (4, .int a.2.2.1), (5, .int a.2.2.2.1)] []) ?_ h
  clear h
  intro r18 hr18 a h
  obtain ⟨x1, x3, x4, x5, M⟩ := a
  unfold f_X8_isSeen_c18 at h
  (try dsimp only at h ⊢)
  refine J.iload (q := 20) O dX8_isSeen_18 rfl 4 rfl ?_
  refine J.sipush (q := 23) (v := (1024 : Int32)) O dX8_isSeen_20 rfl rfl ?_
  refine J.icmp_ge (q := 26) (tgt := 111) O dX8_isSeen_23 rfl (by decide) (fun z13 => ?_) (fun z13 => ?_)
  · replace h := h.1 z13
    refine J.iconst (q := 112) (v := (0 : Int32)) O dX8_isSeen_111 rfl rfl ?_
    exact hR _ _ _ _ dX8_isSeen_112 (Or.inl rfl) h
  · replace h := h.2 z13
    refine J.aload_n (q := 27) O dX8_isSeen_26 rfl 0 rfl ?_
    refine J.getR (q := 30) (c' := 81) (ci := 8) (k := 13) (r := 95) O dX8_isSeen_27 rfl wd_2_89 (by decide) if_81_13 ?_
    refine J.iload (q := 32) O dX8_isSeen_30 rfl 3 rfl ?_
    obtain ⟨hv14, h⟩ := h
    refine J.lald (q := 33) (c' := 95) O dX8_isSeen_32 rfl ar_95 hv14 ?_
    refine J.lload_n (q := 34) O dX8_isSeen_33 rfl 1 rfl ?_
    refine J.lcmp (q := 35) O dX8_isSeen_34 rfl ?_
    refine J.if_ne (q := 38) (tgt := 51) O dX8_isSeen_35 rfl (by decide) (fun z15 => ?_) (fun z15 => ?_)
    · replace h := h.1 z15
      exact J.sub [0, 1, 2, 3, 4] rfl (j_X8_isSeen_b51 hG O hR hr18 h)
    · replace h := h.2 z15
      refine J.aload_n (q := 39) O dX8_isSeen_38 rfl 0 rfl ?_
      refine J.getR (q := 42) (c' := 81) (ci := 8) (k := 14) (r := 96) O dX8_isSeen_39 rfl wd_2_90 (by decide) if_81_14 ?_
      refine J.iload (q := 44) O dX8_isSeen_42 rfl 3 rfl ?_
      obtain ⟨hv16, h⟩ := h
      refine J.iald (q := 45) (c' := 96) (j := x4.toNatClampNeg) (M 96 x4.toNatClampNeg) rfl O dX8_isSeen_44 rfl ar_96 hv16 rfl ?_
      refine J.iload_n (q := 46) O dX8_isSeen_45 rfl 2 rfl ?_
      refine J.icmp_gt (q := 49) (tgt := 51) O dX8_isSeen_46 rfl (by decide) (fun z17 => ?_) (fun z17 => ?_)
      · replace h := h.1 z17
        exact J.sub [0, 1, 2, 3, 4] rfl (j_X8_isSeen_b51 hG O hR hr18 h)
      · replace h := h.2 z17
        refine J.iconst (q := 50) (v := (1 : Int32)) O dX8_isSeen_49 rfl rfl ?_
        exact hR _ _ _ _ dX8_isSeen_50 (Or.inr rfl) h
set_option maxHeartbeats 4000000 in
set_option maxRecDepth 20000 in
theorem c_X8_isSeen {l : Launch} {G : GX} (hG : Gd G) {a1 : Int64} {a2 : Int32} {M : Mem} {K : Int32 → Mem → Prop} (h : f_X8_isSeen a1 a2 M K) : CI l G yX8_isSeen cX8_isSeen 6 (some .boolean) 1 [.ref (ad G 81), .long a1, .int a2] M K := by
  unfold f_X8_isSeen at h
  refine CZ.mk hG (by decide) [(0, .ref (ad G 81)), (1, .long a1), (3, .int a2)] rfl (Nat.le_of_ble_eq_true rfl) (fun X O hlX hR => ?_)
  subst hlX
  refine J.lload_n (q := 1) O dX8_isSeen_0 rfl 1 rfl ?_
  refine J.ldc2 (q := 4) O dX8_isSeen_1 rfl wd_5_129 ?_
  refine J.lmul (q := 5) O dX8_isSeen_4 rfl ?_
  refine J.bipush (q := 7) (v := (40 : Int32)) O dX8_isSeen_5 rfl rfl ?_
  refine J.lushr (q := 8) O dX8_isSeen_7 rfl ?_
  refine J.ldc2 (q := 11) O dX8_isSeen_8 rfl wd_5_130 ?_
  refine J.land (q := 12) O dX8_isSeen_11 rfl ?_
  refine J.l2i (q := 13) O dX8_isSeen_12 rfl ?_
  refine J.istore (q := 15) O dX8_isSeen_13 rfl [(4, .int (((a1 * (-7046029254386353131 : Int64)).toUInt64 >>> ((40 : Int32).toInt64.toUInt64 &&& Int64.toUInt64 63)).toInt64 &&& (1023 : Int64)).toInt32), (0, .ref (ad G 81)), (1, .long a1), (3, .int a2)] (by decide) rfl ?_
  refine J.iconst (q := 16) (v := (0 : Int32)) O dX8_isSeen_15 rfl rfl ?_
  refine J.istore (q := 18) O dX8_isSeen_16 rfl [(5, .int (0 : Int32)), (4, .int (((a1 * (-7046029254386353131 : Int64)).toUInt64 >>> ((40 : Int32).toInt64.toUInt64 &&& Int64.toUInt64 63)).toInt64 &&& (1023 : Int64)).toInt32), (0, .ref (ad G 81)), (1, .long a1), (3, .int a2)] (by decide) rfl ?_
  exact J.sub [2, 3, 4, 1, 0] rfl (j_X8_isSeen_c18 hG O hR h)
set_option maxHeartbeats 4000000 in
set_option maxRecDepth 20000 in
theorem j_X8_countedBy_b51 {X : CX} {G : GX} {K : Int32 → Mem → Prop} (hG : Gd G) (O : Ok X G cX8_countedBy 3 RX8 1) (hR : RetI X G cX8_countedBy K) {s0 : Int32} {M : Mem} (h : f_X8_countedBy_b51 K s0 M) : J X G M 51 [] [.int s0] := by
  unfold f_X8_countedBy_b51 at h
  exact hR _ _ _ _ dX8_countedBy_51 h
set_option maxHeartbeats 4000000 in
set_option maxRecDepth 20000 in
theorem j_X8_countedBy_b19 {X : CX} {G : GX} {K : Int32 → Mem → Prop} (hG : Gd G) (O : Ok X G cX8_countedBy 3 RX8 1) (hR : RetI X G cX8_countedBy K) {x1 : Int32} {s0 : Int32} {M : Mem} (h : f_X8_countedBy_b19 K x1 s0 M) : J X G M 19 [(0, .ref (ad G 81)), (1, .int x1)] [.int s0] := by
  unfold f_X8_countedBy_b19 at h
  refine J.istore_n (q := 20) O dX8_countedBy_19 rfl [(2, .int s0), (0, .ref (ad G 81)), (1, .int x1)] (by decide) rfl ?_
  refine J.aload_n (q := 21) O dX8_countedBy_20 rfl 1 rfl ?_
  refine J.getI (q := 24) (c' := 81) (ci := 8) (k := 2) (M 81 2) rfl O dX8_countedBy_21 rfl wd_2_78 (by decide) if_81_2 ?_
  refine J.iconst (q := 25) (v := (2 : Int32)) O dX8_countedBy_24 rfl rfl ?_
  refine J.iand (q := 26) O dX8_countedBy_25 rfl ?_
  refine J.if_eq (q := 29) (tgt := 50) O dX8_countedBy_26 rfl (by decide) (fun z4 => ?_) (fun z4 => ?_)
  · replace h := h.1 z4
    refine J.iload_n (q := 51) O dX8_countedBy_50 rfl 0 rfl ?_
    exact J.sub [] rfl (j_X8_countedBy_b51 hG O hR h)
  · replace h := h.2 z4
    refine J.iload_n (q := 30) O dX8_countedBy_29 rfl 0 rfl ?_
    refine J.aload_n (q := 31) O dX8_countedBy_30 rfl 1 rfl ?_
    refine J.getR (q := 34) (c' := 81) (ci := 8) (k := 6) (r := 85) O dX8_countedBy_31 rfl wd_2_82 (by decide) if_81_6 ?_
    refine J.iload_n (q := 35) O dX8_countedBy_34 rfl 2 rfl ?_
    obtain ⟨hv5, h⟩ := h
    refine J.iald (q := 36) (c' := 85) (j := x1.toNatClampNeg) (M 85 x1.toNatClampNeg) rfl O dX8_countedBy_35 rfl ar_85 hv5 rfl ?_
    refine J.aload_n (q := 37) O dX8_countedBy_36 rfl 1 rfl ?_
    refine J.getR (q := 40) (c' := 81) (ci := 8) (k := 7) (r := 86) O dX8_countedBy_37 rfl wd_2_83 (by decide) if_81_7 ?_
    refine J.iload_n (q := 41) O dX8_countedBy_40 rfl 2 rfl ?_
    obtain ⟨hv6, h⟩ := h
    refine J.iald (q := 42) (c' := 86) (j := x1.toNatClampNeg) (M 86 x1.toNatClampNeg) rfl O dX8_countedBy_41 rfl ar_86 hv6 rfl ?_
    refine J.ior (q := 43) O dX8_countedBy_42 rfl ?_
    refine J.bipush (q := 45) (v := (12 : Int32)) O dX8_countedBy_43 rfl rfl ?_
    refine J.ishl (q := 46) O dX8_countedBy_45 rfl ?_
    refine J.ior (q := 47) O dX8_countedBy_46 rfl ?_
    refine J.goto (q := 51) O dX8_countedBy_47 (by decide) ?_
    exact J.sub [] rfl (j_X8_countedBy_b51 hG O hR h)
set_option maxHeartbeats 4000000 in
set_option maxRecDepth 20000 in
theorem c_X8_countedBy {l : Launch} {G : GX} (hG : Gd G) {a1 : Int32} {M : Mem} {K : Int32 → Mem → Prop} (h : f_X8_countedBy a1 M K) : CI l G yX8_countedBy cX8_countedBy 3 (some .int) 1 [.ref (ad G 81), .int a1] M K := by
  unfold f_X8_countedBy at h
  refine CI.mk hG (by decide) [(0, .ref (ad G 81)), (1, .int a1)] rfl (Nat.le_of_ble_eq_true rfl) (fun X O hlX hR => ?_)
  subst hlX
  refine J.aload_n (q := 1) O dX8_countedBy_0 rfl 0 rfl ?_
  refine J.getI (q := 4) (c' := 81) (ci := 8) (k := 2) (M 81 2) rfl O dX8_countedBy_1 rfl wd_2_78 (by decide) if_81_2 ?_
  refine J.iconst (q := 5) (v := (4 : Int32)) O dX8_countedBy_4 rfl rfl ?_
  refine J.iand (q := 6) O dX8_countedBy_5 rfl ?_
  refine J.if_eq (q := 9) (tgt := 18) O dX8_countedBy_6 rfl (by decide) (fun z7 => ?_) (fun z7 => ?_)
  · replace h := h.1 z7
    refine J.iconst (q := 19) (v := (0 : Int32)) O dX8_countedBy_18 rfl rfl ?_
    exact J.sub [0, 1] rfl (j_X8_countedBy_b19 hG O hR h)
  · replace h := h.2 z7
    refine J.aload_n (q := 10) O dX8_countedBy_9 rfl 0 rfl ?_
    refine J.getR (q := 13) (c' := 81) (ci := 8) (k := 6) (r := 85) O dX8_countedBy_10 rfl wd_2_82 (by decide) if_81_6 ?_
    refine J.iload_n (q := 14) O dX8_countedBy_13 rfl 1 rfl ?_
    obtain ⟨hv8, h⟩ := h
    refine J.iald (q := 15) (c' := 85) (j := a1.toNatClampNeg) (M 85 a1.toNatClampNeg) rfl O dX8_countedBy_14 rfl ar_85 hv8 rfl ?_
    refine J.goto (q := 19) O dX8_countedBy_15 (by decide) ?_
    exact J.sub [0, 1] rfl (j_X8_countedBy_b19 hG O hR h)
set_option maxHeartbeats 4000000 in
set_option maxRecDepth 20000 in
theorem j_X8_hasTooMany_c2 {X : CX} {G : GX} {K : Int32 → Mem → Prop} (hG : Gd G) (O : Ok X G cX8_hasTooMany 3 RX8 1) (hR : RetZ X G cX8_hasTooMany K) {a : Int32 × Int32 × Mem} (h : Lp (fun (r2 : Int32 × Int32 × Mem → Prop) a => f_X8_hasTooMany_c2 K r2 a.1 a.2.1 a.2.2) a) : J X G a.2.2 2 [(0, .ref (ad G 81)), (1, .int a.1), (2, .int a.2.1)] [] := by
  refine Lp.elim (P := fun a => J X G a.2.2 2 [(0, .ref (ad G 81)), (1, .int a.1), (2, .int a.2.1)] []) ?_ h
  clear h
  intro r2 hr2 a h
  obtain ⟨x1, x2, M⟩ := a
  unfold f_X8_hasTooMany_c2 at h
  (try dsimp only at h ⊢)
  refine J.iload_n (q := 3) O dX8_hasTooMany_2 rfl 2 rfl ?_
  refine J.iconst (q := 4) (v := (4 : Int32)) O dX8_hasTooMany_3 rfl rfl ?_
  refine J.icmp_ge (q := 7) (tgt := 33) O dX8_hasTooMany_4 rfl (by decide) (fun z1 => ?_) (fun z1 => ?_)
  · replace h := h.1 z1
    refine J.iconst (q := 34) (v := (0 : Int32)) O dX8_hasTooMany_33 rfl rfl ?_
    exact hR _ _ _ _ dX8_hasTooMany_34 (Or.inl rfl) h
  · replace h := h.2 z1
    refine J.iload_n (q := 8) O dX8_hasTooMany_7 rfl 1 rfl ?_
    refine J.bipush (q := 10) (v := (12 : Int32)) O dX8_hasTooMany_8 rfl rfl ?_
    refine J.iconst (q := 11) (v := (3 : Int32)) O dX8_hasTooMany_10 rfl rfl ?_
    refine J.iload_n (q := 12) O dX8_hasTooMany_11 rfl 2 rfl ?_
    refine J.imul (q := 13) O dX8_hasTooMany_12 rfl ?_
    refine J.iadd (q := 14) O dX8_hasTooMany_13 rfl ?_
    refine J.ishr (q := 15) O dX8_hasTooMany_14 rfl ?_
    refine J.bipush (q := 17) (v := (7 : Int32)) O dX8_hasTooMany_15 rfl rfl ?_
    refine J.iand (q := 18) O dX8_hasTooMany_17 rfl ?_
    refine J.aload_n (q := 19) O dX8_hasTooMany_18 rfl 0 rfl ?_
    refine J.getI (q := 22) (c' := 81) (ci := 8) (k := 3) (M 81 3) rfl O dX8_hasTooMany_19 rfl wd_2_79 (by decide) if_81_3 ?_
    refine J.icmp_le (q := 25) (tgt := 27) O dX8_hasTooMany_22 rfl (by decide) (fun z2 => ?_) (fun z2 => ?_)
    · replace h := h.1 z2
      refine J.iinc (q := 30) O dX8_hasTooMany_27 rfl [(2, .int (x2 + (1 : Int32))), (0, .ref (ad G 81)), (1, .int x1)] 2 rfl rfl (by decide) rfl ?_
      refine J.goto (q := 2) O dX8_hasTooMany_30 (by decide) ?_
      exact J.sub [1, 2, 0] rfl (hr2 _ h)
    · replace h := h.2 z2
      refine J.iconst (q := 26) (v := (1 : Int32)) O dX8_hasTooMany_25 rfl rfl ?_
      exact hR _ _ _ _ dX8_hasTooMany_26 (Or.inr rfl) h
set_option maxHeartbeats 4000000 in
set_option maxRecDepth 20000 in
theorem c_X8_hasTooMany {l : Launch} {G : GX} (hG : Gd G) {a1 : Int32} {M : Mem} {K : Int32 → Mem → Prop} (h : f_X8_hasTooMany a1 M K) : CI l G yX8_hasTooMany cX8_hasTooMany 3 (some .boolean) 1 [.ref (ad G 81), .int a1] M K := by
  unfold f_X8_hasTooMany at h
  refine CZ.mk hG (by decide) [(0, .ref (ad G 81)), (1, .int a1)] rfl (Nat.le_of_ble_eq_true rfl) (fun X O hlX hR => ?_)
  subst hlX
  refine J.iconst (q := 1) (v := (0 : Int32)) O dX8_hasTooMany_0 rfl rfl ?_
  refine J.istore_n (q := 2) O dX8_hasTooMany_1 rfl [(2, .int (0 : Int32)), (0, .ref (ad G 81)), (1, .int a1)] (by decide) rfl ?_
  exact J.sub [1, 2, 0] rfl (j_X8_hasTooMany_c2 hG O hR h)
set_option maxHeartbeats 4000000 in
set_option maxRecDepth 20000 in
theorem j_X8_isUnfair_b61 {X : CX} {G : GX} {K : Int32 → Mem → Prop} (hG : Gd G) (O : Ok X G cX8_isUnfair 6 RX8 1) (hR : RetZ X G cX8_isUnfair K) {s0 : Int32} {M : Mem} (h : f_X8_isUnfair_b61 K s0 M) : J X G M 61 [] [.int s0] := by
  unfold f_X8_isUnfair_b61 at h
  exact hR _ _ _ _ dX8_isUnfair_61 h.1 h.2
set_option maxHeartbeats 4000000 in
set_option maxRecDepth 20000 in
theorem j_X8_isUnfair_c10 {X : CX} {G : GX} {K : Int32 → Mem → Prop} (hG : Gd G) (O : Ok X G cX8_isUnfair 6 RX8 1) (hR : RetZ X G cX8_isUnfair K) {a : Int32 × Int32 × Int32 × Int32 × Int32 × Mem} (h : Lp (fun (r10 : Int32 × Int32 × Int32 × Int32 × Int32 × Mem → Prop) a => f_X8_isUnfair_c10 K r10 a.1 a.2.1 a.2.2.1 a.2.2.2.1 a.2.2.2.2.1 a.2.2.2.2.2) a) : J X G a.2.2.2.2.2 10 [(0, .int a.1), (1, .int a.2.1), (2, .int a.2.2.1), (3, .int a.2.2.2.1), (4, .int a.2.2.2.2.1)] [] := by
  refine Lp.elim (P := fun a => J X G a.2.2.2.2.2 10 [(0, .int a.1), (1, .int a.2.1), (2, .int a.2.2.1), (3, .int a.2.2.2.1), (4, .int a.2.2.2.2.1)] []) ?_ h
  clear h
  intro r10 hr10 a h
  obtain ⟨x0, x1, x2, x3, x4, M⟩ := a
  unfold f_X8_isUnfair_c10 at h
  (try dsimp only at h ⊢)
  refine J.iload (q := 12) O dX8_isUnfair_10 rfl 4 rfl ?_
  refine J.iconst (q := 13) (v := (4 : Int32)) O dX8_isUnfair_12 rfl rfl ?_
  refine J.icmp_ge (q := 16) (tgt := 47) O dX8_isUnfair_13 rfl (by decide) (fun z2 => ?_) (fun z2 => ?_)
  · replace h := h.1 z2
    refine J.iload_n (q := 48) O dX8_isUnfair_47 rfl 3 rfl ?_
    refine J.iload_n (q := 49) O dX8_isUnfair_48 rfl 2 rfl ?_
    refine J.isub (q := 50) O dX8_isUnfair_49 rfl ?_
    refine J.iconst (q := 51) (v := (2 : Int32)) O dX8_isUnfair_50 rfl rfl ?_
    refine J.iload_n (q := 52) O dX8_isUnfair_51 rfl 1 rfl ?_
    refine J.iadd (q := 53) O dX8_isUnfair_52 rfl ?_
    refine J.icmp_lt (q := 56) (tgt := 60) O dX8_isUnfair_53 rfl (by decide) (fun z3 => ?_) (fun z3 => ?_)
    · replace h := h.1 z3
      refine J.iconst (q := 61) (v := (0 : Int32)) O dX8_isUnfair_60 rfl rfl ?_
      exact J.sub [] rfl (j_X8_isUnfair_b61 hG O hR h)
    · replace h := h.2 z3
      refine J.iconst (q := 57) (v := (1 : Int32)) O dX8_isUnfair_56 rfl rfl ?_
      refine J.goto (q := 61) O dX8_isUnfair_57 (by decide) ?_
      exact J.sub [] rfl (j_X8_isUnfair_b61 hG O hR h)
  · replace h := h.2 z2
    refine J.iload_n (q := 17) O dX8_isUnfair_16 rfl 0 rfl ?_
    refine J.iconst (q := 18) (v := (3 : Int32)) O dX8_isUnfair_17 rfl rfl ?_
    refine J.iload (q := 20) O dX8_isUnfair_18 rfl 4 rfl ?_
    refine J.imul (q := 21) O dX8_isUnfair_20 rfl ?_
    refine J.ishr (q := 22) O dX8_isUnfair_21 rfl ?_
    refine J.bipush (q := 24) (v := (7 : Int32)) O dX8_isUnfair_22 rfl rfl ?_
    refine J.iand (q := 25) O dX8_isUnfair_24 rfl ?_
    refine J.istore (q := 27) O dX8_isUnfair_25 rfl [(5, .int ((x0 >>> (((3 : Int32) * x4) &&& 31)) &&& (7 : Int32))), (0, .int x0), (1, .int x1), (2, .int x2), (3, .int x3), (4, .int x4)] (by decide) rfl ?_
    refine J.iload_n (q := 28) O dX8_isUnfair_27 rfl 3 rfl ?_
    refine J.iload (q := 30) O dX8_isUnfair_28 rfl 0 rfl ?_
    refine J.mmin (q := 33) O dX8_isUnfair_30 rfl wd_5_110 (by decide) (Nat.le_of_ble_eq_true rfl) ?_
    refine J.istore_n (q := 34) O dX8_isUnfair_33 rfl [(2, .int (if ((x0 >>> (((3 : Int32) * x4) &&& 31)) &&& (7 : Int32)) < x2 then ((x0 >>> (((3 : Int32) * x4) &&& 31)) &&& (7 : Int32)) else x2)), (5, .int ((x0 >>> (((3 : Int32) * x4) &&& 31)) &&& (7 : Int32))), (0, .int x0), (1, .int x1), (3, .int x3), (4, .int x4)] (by decide) rfl ?_
    refine J.iload_n (q := 35) O dX8_isUnfair_34 rfl 4 rfl ?_
    refine J.iload (q := 37) O dX8_isUnfair_35 rfl 1 rfl ?_
    refine J.mmax (q := 40) O dX8_isUnfair_37 rfl wd_5_146 (by decide) (Nat.le_of_ble_eq_true rfl) ?_
    refine J.istore_n (q := 41) O dX8_isUnfair_40 rfl [(3, .int (if x3 < ((x0 >>> (((3 : Int32) * x4) &&& 31)) &&& (7 : Int32)) then ((x0 >>> (((3 : Int32) * x4) &&& 31)) &&& (7 : Int32)) else x3)), (2, .int (if ((x0 >>> (((3 : Int32) * x4) &&& 31)) &&& (7 : Int32)) < x2 then ((x0 >>> (((3 : Int32) * x4) &&& 31)) &&& (7 : Int32)) else x2)), (5, .int ((x0 >>> (((3 : Int32) * x4) &&& 31)) &&& (7 : Int32))), (0, .int x0), (1, .int x1), (4, .int x4)] (by decide) rfl ?_
    refine J.iinc (q := 44) O dX8_isUnfair_41 rfl [(4, .int (x4 + (1 : Int32))), (3, .int (if x3 < ((x0 >>> (((3 : Int32) * x4) &&& 31)) &&& (7 : Int32)) then ((x0 >>> (((3 : Int32) * x4) &&& 31)) &&& (7 : Int32)) else x3)), (2, .int (if ((x0 >>> (((3 : Int32) * x4) &&& 31)) &&& (7 : Int32)) < x2 then ((x0 >>> (((3 : Int32) * x4) &&& 31)) &&& (7 : Int32)) else x2)), (5, .int ((x0 >>> (((3 : Int32) * x4) &&& 31)) &&& (7 : Int32))), (0, .int x0), (1, .int x1)] 5 rfl rfl (by decide) rfl ?_
    refine J.goto (q := 10) O dX8_isUnfair_44 (by decide) ?_
    exact J.sub [4, 5, 2, 1, 0] rfl (hr10 _ h)
set_option maxHeartbeats 4000000 in
set_option maxRecDepth 20000 in
theorem c_X8_isUnfair {l : Launch} {G : GX} (hG : Gd G) {a1 : Int32} {a2 : Int32} {M : Mem} {K : Int32 → Mem → Prop} (h : f_X8_isUnfair a1 a2 M K) : CI l G yX8_isUnfair cX8_isUnfair 6 (some .boolean) 1 [.int a1, .int a2] M K := by
  unfold f_X8_isUnfair at h
  refine CZ.mk hG (by decide) [(0, .int a1), (1, .int a2)] rfl (Nat.le_of_ble_eq_true rfl) (fun X O hlX hR => ?_)
  subst hlX
  refine J.iload_n (q := 1) O dX8_isUnfair_0 rfl 0 rfl ?_
  refine J.bipush (q := 3) (v := (7 : Int32)) O dX8_isUnfair_1 rfl rfl ?_
  refine J.iand (q := 4) O dX8_isUnfair_3 rfl ?_
  refine J.istore_n (q := 5) O dX8_isUnfair_4 rfl [(2, .int (a1 &&& (7 : Int32))), (0, .int a1), (1, .int a2)] (by decide) rfl ?_
  refine J.iload_n (q := 6) O dX8_isUnfair_5 rfl 0 rfl ?_
  refine J.istore_n (q := 7) O dX8_isUnfair_6 rfl [(3, .int (a1 &&& (7 : Int32))), (2, .int (a1 &&& (7 : Int32))), (0, .int a1), (1, .int a2)] (by decide) rfl ?_
  refine J.iconst (q := 8) (v := (1 : Int32)) O dX8_isUnfair_7 rfl rfl ?_
  refine J.istore (q := 10) O dX8_isUnfair_8 rfl [(4, .int (1 : Int32)), (3, .int (a1 &&& (7 : Int32))), (2, .int (a1 &&& (7 : Int32))), (0, .int a1), (1, .int a2)] (by decide) rfl ?_
  exact J.sub [3, 4, 2, 1, 0] rfl (j_X8_isUnfair_c10 hG O hR h)
set_option maxHeartbeats 4000000 in
set_option maxRecDepth 20000 in
theorem j_X8_searchOn_b113 {nf : Nat} {rec : Int32 → Int32 → Int32 → Int32 → Mem → (Mem → Prop) → Prop} {X : CX} {G : GX} {K : Mem → Prop} (hG : Gd G) (O : Ok X G cX8_searchOn 8 RX8 (3 + 2 * nf)) (hR : RetV X G cX8_searchOn K) (hrec : ∀ {a1 a2 a3 a4 : Int32} {M : Mem} {K : Mem → Prop}, rec a1 a2 a3 a4 M K → CV (lX X) G yX8_searchFrom cX8_searchFrom 5 (2 + 2 * nf) [.ref (ad G 81), .int a1, .int a2, .int a3, .int a4] M K) {r3 : Int32 × Int32 × Int32 × Int32 × Int32 × Mem → Prop} (hr3 : ∀ a : Int32 × Int32 × Int32 × Int32 × Int32 × Mem, r3 a → J X G a.2.2.2.2.2 3 [(0, .ref (ad G 81)), (1, .int a.1), (2, .int a.2.1), (3, .int a.2.2.1), (4, .int a.2.2.2.1), (5, .int a.2.2.2.2.1)] []) {x1 : Int32} {x2 : Int32} {x3 : Int32} {x4 : Int32} {x5 : Int32} {M : Mem} (h : f_X8_searchOn_b113 rec r3 K x1 x2 x3 x4 x5 M) : J X G M 113 [(0, .ref (ad G 81)), (1, .int x1), (2, .int x2), (3, .int x3), (4, .int x4), (5, .int x5)] [] := by
  unfold f_X8_searchOn_b113 at h
  refine J.iinc (q := 116) O dX8_searchOn_113 rfl [(5, .int (x5 + (1 : Int32))), (0, .ref (ad G 81)), (1, .int x1), (2, .int x2), (3, .int x3), (4, .int x4)] 5 rfl rfl (by decide) rfl ?_
  refine J.goto (q := 3) O dX8_searchOn_116 (by decide) ?_
  exact J.sub [1, 2, 3, 4, 5, 0] rfl (hr3 _ h)
set_option maxHeartbeats 4000000 in
set_option maxRecDepth 20000 in
theorem j_X8_searchOn_b88 {nf : Nat} {rec : Int32 → Int32 → Int32 → Int32 → Mem → (Mem → Prop) → Prop} {X : CX} {G : GX} {K : Mem → Prop} (hG : Gd G) (O : Ok X G cX8_searchOn 8 RX8 (3 + 2 * nf)) (hR : RetV X G cX8_searchOn K) (hrec : ∀ {a1 a2 a3 a4 : Int32} {M : Mem} {K : Mem → Prop}, rec a1 a2 a3 a4 M K → CV (lX X) G yX8_searchFrom cX8_searchFrom 5 (2 + 2 * nf) [.ref (ad G 81), .int a1, .int a2, .int a3, .int a4] M K) {r3 : Int32 × Int32 × Int32 × Int32 × Int32 × Mem → Prop} (hr3 : ∀ a : Int32 × Int32 × Int32 × Int32 × Int32 × Mem, r3 a → J X G a.2.2.2.2.2 3 [(0, .ref (ad G 81)), (1, .int a.1), (2, .int a.2.1), (3, .int a.2.2.1), (4, .int a.2.2.2.1), (5, .int a.2.2.2.2.1)] []) {x1 : Int32} {x2 : Int32} {x3 : Int32} {x4 : Int32} {x5 : Int32} {x6 : Int32} {s0 : Int32} {M : Mem} (h : f_X8_searchOn_b88 rec r3 K x1 x2 x3 x4 x5 x6 s0 M) : J X G M 88 [(0, .ref (ad G 81)), (1, .int x1), (2, .int x2), (3, .int x3), (4, .int x4), (5, .int x5), (6, .int x6)] [.int s0] := by
  unfold f_X8_searchOn_b88 at h
  refine J.istore (q := 90) O dX8_searchOn_88 rfl [(7, .int s0), (0, .ref (ad G 81)), (1, .int x1), (2, .int x2), (3, .int x3), (4, .int x4), (5, .int x5), (6, .int x6)] (by decide) rfl ?_
  refine J.aload_n (q := 91) O dX8_searchOn_90 rfl 1 rfl ?_
  refine J.iload_n (q := 92) O dX8_searchOn_91 rfl 2 rfl ?_
  refine J.iconst (q := 93) (v := (1 : Int32)) O dX8_searchOn_92 rfl rfl ?_
  refine J.iadd (q := 94) O dX8_searchOn_93 rfl ?_
  refine J.iload (q := 96) O dX8_searchOn_94 rfl 7 rfl ?_
  refine J.iload (q := 98) O dX8_searchOn_96 rfl 0 rfl ?_
  refine J.iload (q := 100) O dX8_searchOn_98 rfl 5 rfl ?_
  refine J.aload_n (q := 101) O dX8_searchOn_100 rfl 1 rfl ?_
  refine J.getR (q := 104) (c' := 81) (ci := 8) (k := 8) (r := 87) O dX8_searchOn_101 rfl wd_2_84 (by decide) if_81_8 ?_
  refine J.iload_n (q := 105) O dX8_searchOn_104 rfl 2 rfl ?_
  obtain ⟨hv6, h⟩ := h
  refine J.aald (q := 106) (t := 2) (c' := 87) (b := 88) (d := 1) O dX8_searchOn_105 rfl ar_87 hv6 ?_
  refine J.iload (q := 108) O dX8_searchOn_106 rfl 6 rfl ?_
  obtain ⟨hv7, h⟩ := h
  refine J.iald (q := 109) (c' := (88 + 1 * x1.toNatClampNeg)) (j := x5.toNatClampNeg) (M (88 + 1 * x1.toNatClampNeg) x5.toNatClampNeg) rfl O dX8_searchOn_108 rfl (row_87 hv6) hv7 rfl ?_
  refine J.iadd (q := 110) O dX8_searchOn_109 rfl ?_
  refine J.callVV (q := 113) [.int (x1 + (1 : Int32)), .int x6, .int s0, .int (x4 + (M (88 + 1 * x1.toNatClampNeg) x5.toNatClampNeg))] [] [.int (x4 + (M (88 + 1 * x1.toNatClampNeg) x5.toNatClampNeg)), .int s0, .int x6, .int (x1 + (1 : Int32)), .ref (ad G 81)] rfl O dX8_searchOn_110 rfl (hrec h) wd_5_116 mw_X8_searchFrom io_81 rfl (by omega) (Nat.le_of_ble_eq_true rfl) (fun M8 h => ?_)
  exact J.sub [1, 2, 3, 4, 5, 6] rfl (j_X8_searchOn_b113 hG O hR hrec hr3 h)
set_option maxHeartbeats 4000000 in
set_option maxRecDepth 20000 in
theorem j_X8_searchOn_c3 {nf : Nat} {rec : Int32 → Int32 → Int32 → Int32 → Mem → (Mem → Prop) → Prop} {X : CX} {G : GX} {K : Mem → Prop} (hG : Gd G) (O : Ok X G cX8_searchOn 8 RX8 (3 + 2 * nf)) (hR : RetV X G cX8_searchOn K) (hrec : ∀ {a1 a2 a3 a4 : Int32} {M : Mem} {K : Mem → Prop}, rec a1 a2 a3 a4 M K → CV (lX X) G yX8_searchFrom cX8_searchFrom 5 (2 + 2 * nf) [.ref (ad G 81), .int a1, .int a2, .int a3, .int a4] M K) {a : Int32 × Int32 × Int32 × Int32 × Int32 × Mem} (h : Lp (fun (r3 : Int32 × Int32 × Int32 × Int32 × Int32 × Mem → Prop) a => f_X8_searchOn_c3 rec K r3 a.1 a.2.1 a.2.2.1 a.2.2.2.1 a.2.2.2.2.1 a.2.2.2.2.2) a) : J X G a.2.2.2.2.2 3 [(0, .ref (ad G 81)), (1, .int a.1), (2, .int a.2.1), (3, .int a.2.2.1), (4, .int a.2.2.2.1), (5, .int a.2.2.2.2.1)] [] := by
  refine Lp.elim (P := fun a => J X G a.2.2.2.2.2 3 [(0, .ref (ad G 81)), (1, .int a.1), (2, .int a.2.1), (3, .int a.2.2.1), (4, .int a.2.2.2.1), (5, .int a.2.2.2.2.1)] []) ?_ h
  clear h
  intro r3 hr3 a h
  obtain ⟨x1, x2, x3, x4, x5, M⟩ := a
  unfold f_X8_searchOn_c3 at h
  (try dsimp only at h ⊢)
  refine J.iload (q := 5) O dX8_searchOn_3 rfl 5 rfl ?_
  refine J.aload_n (q := 6) O dX8_searchOn_5 rfl 0 rfl ?_
  refine J.getI (q := 9) (c' := 81) (ci := 8) (k := 4) (M 81 4) rfl O dX8_searchOn_6 rfl wd_2_80 (by decide) if_81_4 ?_
  refine J.icmp_ge (q := 12) (tgt := 119) O dX8_searchOn_9 rfl (by decide) (fun z9 => ?_) (fun z9 => ?_)
  · replace h := h.1 z9
    exact hR _ _ _ dX8_searchOn_119 h
  · replace h := h.2 z9
    refine J.iload_n (q := 13) O dX8_searchOn_12 rfl 3 rfl ?_
    refine J.aload_n (q := 14) O dX8_searchOn_13 rfl 0 rfl ?_
    refine J.getR (q := 17) (c' := 81) (ci := 8) (k := 7) (r := 86) O dX8_searchOn_14 rfl wd_2_83 (by decide) if_81_7 ?_
    refine J.iload (q := 19) O dX8_searchOn_17 rfl 5 rfl ?_
    obtain ⟨hv10, h⟩ := h
    refine J.iald (q := 20) (c' := 86) (j := x5.toNatClampNeg) (M 86 x5.toNatClampNeg) rfl O dX8_searchOn_19 rfl ar_86 hv10 rfl ?_
    refine J.iand (q := 21) O dX8_searchOn_20 rfl ?_
    refine J.if_eq (q := 24) (tgt := 27) O dX8_searchOn_21 rfl (by decide) (fun z11 => ?_) (fun z11 => ?_)
    · replace h := h.1 z11
      refine J.iload_n (q := 28) O dX8_searchOn_27 rfl 2 rfl ?_
      refine J.aload_n (q := 29) O dX8_searchOn_28 rfl 0 rfl ?_
      refine J.iload (q := 31) O dX8_searchOn_29 rfl 5 rfl ?_
      refine J.callVI (q := 34) [.int x5] [.int x2] [.int x5, .ref (ad G 81), .int x2] rfl O dX8_searchOn_31 rfl (c_X8_countedBy hG h) wd_5_135 mw_X8_countedBy io_81 rfl (by omega) (Nat.le_of_ble_eq_true rfl) (fun v12 M12 h => ?_)
      refine J.iadd (q := 35) O dX8_searchOn_34 rfl ?_
      refine J.istore (q := 37) O dX8_searchOn_35 rfl [(6, .int (x2 + v12)), (0, .ref (ad G 81)), (1, .int x1), (2, .int x2), (3, .int x3), (4, .int x4), (5, .int x5)] (by decide) rfl ?_
      refine J.aload_n (q := 38) O dX8_searchOn_37 rfl 1 rfl ?_
      refine J.iload (q := 40) O dX8_searchOn_38 rfl 0 rfl ?_
      refine J.callVI (q := 43) [.int (x2 + v12)] [] [.int (x2 + v12), .ref (ad G 81)] rfl O dX8_searchOn_40 rfl (c_X8_hasTooMany hG h) wd_5_139 mw_X8_hasTooMany io_81 rfl (by omega) (Nat.le_of_ble_eq_true rfl) (fun v13 M13 h => ?_)
      refine J.if_ne (q := 46) (tgt := 113) O dX8_searchOn_43 rfl (by decide) (fun z14 => ?_) (fun z14 => ?_)
      · replace h := h.1 z14
        exact J.sub [1, 2, 3, 4, 5, 6] rfl (j_X8_searchOn_b113 hG O hR hrec hr3 h)
      · replace h := h.2 z14
        refine J.iload (q := 48) O dX8_searchOn_46 rfl 0 rfl ?_
        refine J.iconst (q := 49) (v := (3 : Int32)) O dX8_searchOn_48 rfl rfl ?_
        refine J.iload_n (q := 50) O dX8_searchOn_49 rfl 2 rfl ?_
        refine J.isub (q := 51) O dX8_searchOn_50 rfl ?_
        refine J.callSI (q := 54) [.int (x2 + v12), .int ((3 : Int32) - x1)] [] [.int ((3 : Int32) - x1), .int (x2 + v12)] rfl O dX8_searchOn_51 rfl (c_X8_isUnfair hG h) wd_5_143 mw_X8_isUnfair rfl (by omega) (Nat.le_of_ble_eq_true rfl) (fun v15 M15 h => ?_)
        refine J.if_eq (q := 57) (tgt := 60) O dX8_searchOn_54 rfl (by decide) (fun z16 => ?_) (fun z16 => ?_)
        · replace h := h.1 z16
          refine J.aload_n (q := 61) O dX8_searchOn_60 rfl 1 rfl ?_
          refine J.getR (q := 64) (c' := 81) (ci := 8) (k := 10) (r := 93) O dX8_searchOn_61 rfl wd_2_86 (by decide) if_81_10 ?_
          refine J.iload_n (q := 65) O dX8_searchOn_64 rfl 2 rfl ?_
          refine J.iload (q := 67) O dX8_searchOn_65 rfl 6 rfl ?_
          obtain ⟨hv17, h⟩ := h
          refine J.iast (q := 68) (c' := 93) (j := x1.toNatClampNeg) O dX8_searchOn_67 rfl ar_93 hv17 rfl ?_
          refine J.aload_n (q := 69) O dX8_searchOn_68 rfl 1 rfl ?_
          refine J.getI (q := 72) (c' := 81) (ci := 8) (k := 2) (M15 81 2) rfl O dX8_searchOn_69 rfl wd_2_78 (by decide) if_81_2 ?_
          refine J.iconst (q := 73) (v := (1 : Int32)) O dX8_searchOn_72 rfl rfl ?_
          refine J.iand (q := 74) O dX8_searchOn_73 rfl ?_
          refine J.if_eq (q := 77) (tgt := 87) O dX8_searchOn_74 rfl (by decide) (fun z18 => ?_) (fun z18 => ?_)
          · replace h := h.1 z18
            refine J.iconst (q := 88) (v := (0 : Int32)) O dX8_searchOn_87 rfl rfl ?_
            exact J.sub [1, 2, 3, 4, 5, 6, 0] rfl (j_X8_searchOn_b88 hG O hR hrec hr3 h)
          · replace h := h.2 z18
            refine J.aload_n (q := 78) O dX8_searchOn_77 rfl 1 rfl ?_
            refine J.getR (q := 81) (c' := 81) (ci := 8) (k := 6) (r := 85) O dX8_searchOn_78 rfl wd_2_82 (by decide) if_81_6 ?_
            refine J.iload (q := 83) O dX8_searchOn_81 rfl 6 rfl ?_
            obtain ⟨hv19, h⟩ := h
            refine J.iald (q := 84) (c' := 85) (j := x5.toNatClampNeg) (M15 85 x5.toNatClampNeg) rfl O dX8_searchOn_83 rfl ar_85 hv19 rfl ?_
            refine J.goto (q := 88) O dX8_searchOn_84 (by decide) ?_
            exact J.sub [1, 2, 3, 4, 5, 6, 0] rfl (j_X8_searchOn_b88 hG O hR hrec hr3 h)
        · replace h := h.2 z16
          refine J.goto (q := 113) O dX8_searchOn_57 (by decide) ?_
          exact J.sub [1, 2, 3, 4, 5, 6] rfl (j_X8_searchOn_b113 hG O hR hrec hr3 h)
    · replace h := h.2 z11
      refine J.goto (q := 113) O dX8_searchOn_24 (by decide) ?_
      exact J.sub [0, 1, 2, 3, 4, 5] rfl (j_X8_searchOn_b113 hG O hR hrec hr3 h)
set_option maxHeartbeats 4000000 in
set_option maxRecDepth 20000 in
theorem c_X8_searchOn {l : Launch} {G : GX} {nf : Nat} {rec : Int32 → Int32 → Int32 → Int32 → Mem → (Mem → Prop) → Prop} (hrec : ∀ {a1 a2 a3 a4 : Int32} {M : Mem} {K : Mem → Prop}, rec a1 a2 a3 a4 M K → CV l G yX8_searchFrom cX8_searchFrom 5 (2 + 2 * nf) [.ref (ad G 81), .int a1, .int a2, .int a3, .int a4] M K) (hG : Gd G) {a1 : Int32} {a2 : Int32} {a3 : Int32} {a4 : Int32} {M : Mem} {K : Mem → Prop} (h : f_X8_searchOn rec a1 a2 a3 a4 M K) : CV l G yX8_searchOn cX8_searchOn 8 (3 + 2 * nf) [.ref (ad G 81), .int a1, .int a2, .int a3, .int a4] M K := by
  unfold f_X8_searchOn at h
  refine CV.mk hG (by decide) [(0, .ref (ad G 81)), (1, .int a1), (2, .int a2), (3, .int a3), (4, .int a4)] rfl (Nat.le_of_ble_eq_true rfl) (fun X O hlX hR => ?_)
  subst hlX
  refine J.iconst (q := 1) (v := (0 : Int32)) O dX8_searchOn_0 rfl rfl ?_
  refine J.istore (q := 3) O dX8_searchOn_1 rfl [(5, .int (0 : Int32)), (0, .ref (ad G 81)), (1, .int a1), (2, .int a2), (3, .int a3), (4, .int a4)] (by decide) rfl ?_
  exact J.sub [1, 2, 3, 4, 5, 0] rfl (j_X8_searchOn_c3 hG O hR hrec h)
set_option maxHeartbeats 4000000 in
set_option maxRecDepth 20000 in
theorem j_X8_searchFrom_b31 {nf : Nat} {rec : Int32 → Int32 → Int32 → Int32 → Mem → (Mem → Prop) → Prop} {X : CX} {G : GX} {K : Mem → Prop} (hG : Gd G) (O : Ok X G cX8_searchFrom 5 RX8 (4 + 2 * nf)) (hR : RetV X G cX8_searchFrom K) (hrec : ∀ {a1 a2 a3 a4 : Int32} {M : Mem} {K : Mem → Prop}, rec a1 a2 a3 a4 M K → CV (lX X) G yX8_searchFrom cX8_searchFrom 5 (2 + 2 * nf) [.ref (ad G 81), .int a1, .int a2, .int a3, .int a4] M K) {x1 : Int32} {x2 : Int32} {x3 : Int32} {x4 : Int32} {M : Mem} (h : f_X8_searchFrom_b31 rec K x1 x2 x3 x4 M) : J X G M 31 [(0, .ref (ad G 81)), (1, .int x1), (2, .int x2), (3, .int x3), (4, .int x4)] [] := by
  unfold f_X8_searchFrom_b31 at h
  refine J.iload_n (q := 32) O dX8_searchFrom_31 rfl 1 rfl ?_
  refine J.iconst (q := 33) (v := (4 : Int32)) O dX8_searchFrom_32 rfl rfl ?_
  refine J.icmp_ne (q := 36) (tgt := 45) O dX8_searchFrom_33 rfl (by decide) (fun z2 => ?_) (fun z2 => ?_)
  · replace h := h.1 z2
    refine J.aload_n (q := 46) O dX8_searchFrom_45 rfl 0 rfl ?_
    refine J.iload_n (q := 47) O dX8_searchFrom_46 rfl 3 rfl ?_
    refine J.i2l (q := 48) O dX8_searchFrom_47 rfl ?_
    refine J.bipush (q := 50) (v := (24 : Int32)) O dX8_searchFrom_48 rfl rfl ?_
    refine J.lshl (q := 51) O dX8_searchFrom_50 rfl ?_
    refine J.iload_n (q := 52) O dX8_searchFrom_51 rfl 2 rfl ?_
    refine J.i2l (q := 53) O dX8_searchFrom_52 rfl ?_
    refine J.lor (q := 54) O dX8_searchFrom_53 rfl ?_
    refine J.ldc2 (q := 57) O dX8_searchFrom_54 rfl wd_5_124 ?_
    refine J.lmul (q := 58) O dX8_searchFrom_57 rfl ?_
    refine J.iload_n (q := 59) O dX8_searchFrom_58 rfl 1 rfl ?_
    refine J.i2l (q := 60) O dX8_searchFrom_59 rfl ?_
    refine J.ladd (q := 61) O dX8_searchFrom_60 rfl ?_
    refine J.iload (q := 63) O dX8_searchFrom_61 rfl 4 rfl ?_
    refine J.callVI (q := 66) [.long ((((x3.toInt64 <<< ((24 : Int32).toInt64 &&& 63)) ||| x2.toInt64) * (4 : Int64)) + x1.toInt64), .int x4] [] [.int x4, .long ((((x3.toInt64 <<< ((24 : Int32).toInt64 &&& 63)) ||| x2.toInt64) * (4 : Int64)) + x1.toInt64), .ref (ad G 81)] rfl O dX8_searchFrom_63 rfl (c_X8_isSeen hG h) wd_5_125 mw_X8_isSeen io_81 rfl (by omega) (Nat.le_of_ble_eq_true rfl) (fun v3 M3 h => ?_)
    refine J.if_ne (q := 69) (tgt := 78) O dX8_searchFrom_66 rfl (by decide) (fun z4 => ?_) (fun z4 => ?_)
    · replace h := h.1 z4
      exact hR _ _ _ dX8_searchFrom_78 h
    · replace h := h.2 z4
      refine J.aload_n (q := 70) O dX8_searchFrom_69 rfl 0 rfl ?_
      refine J.iload_n (q := 71) O dX8_searchFrom_70 rfl 1 rfl ?_
      refine J.iload_n (q := 72) O dX8_searchFrom_71 rfl 2 rfl ?_
      refine J.iload_n (q := 73) O dX8_searchFrom_72 rfl 3 rfl ?_
      refine J.iload (q := 75) O dX8_searchFrom_73 rfl 4 rfl ?_
      refine J.callVV (q := 78) [.int x1, .int x2, .int x3, .int x4] [] [.int x4, .int x3, .int x2, .int x1, .ref (ad G 81)] rfl O dX8_searchFrom_75 rfl (c_X8_searchOn hrec hG h) wd_5_131 mw_X8_searchOn io_81 rfl (by omega) (Nat.le_of_ble_eq_true rfl) (fun M5 h => ?_)
      exact hR _ _ _ dX8_searchFrom_78 h
  · replace h := h.2 z2
    refine J.aload_n (q := 37) O dX8_searchFrom_36 rfl 0 rfl ?_
    refine J.iload (q := 39) O dX8_searchFrom_37 rfl 4 rfl ?_
    refine J.callVV (q := 42) [.int x4] [] [.int x4, .ref (ad G 81)] rfl O dX8_searchFrom_39 rfl (c_X8_keepChosen hG h) wd_5_120 mw_X8_keepChosen io_81 rfl (by omega) (Nat.le_of_ble_eq_true rfl) (fun M6 h => ?_)
    refine J.goto (q := 78) O dX8_searchFrom_42 (by decide) ?_
    exact hR _ _ _ dX8_searchFrom_78 h
set_option maxHeartbeats 4000000 in
set_option maxRecDepth 20000 in
theorem c_X8_searchFrom {l : Launch} {G : GX} {nf : Nat} {rec : Int32 → Int32 → Int32 → Int32 → Mem → (Mem → Prop) → Prop} (hrec : ∀ {a1 a2 a3 a4 : Int32} {M : Mem} {K : Mem → Prop}, rec a1 a2 a3 a4 M K → CV l G yX8_searchFrom cX8_searchFrom 5 (2 + 2 * nf) [.ref (ad G 81), .int a1, .int a2, .int a3, .int a4] M K) (hG : Gd G) {a1 : Int32} {a2 : Int32} {a3 : Int32} {a4 : Int32} {M : Mem} {K : Mem → Prop} (h : f_X8_searchFrom rec a1 a2 a3 a4 M K) : CV l G yX8_searchFrom cX8_searchFrom 5 (4 + 2 * nf) [.ref (ad G 81), .int a1, .int a2, .int a3, .int a4] M K := by
  unfold f_X8_searchFrom at h
  refine CV.mk hG (by decide) [(0, .ref (ad G 81)), (1, .int a1), (2, .int a2), (3, .int a3), (4, .int a4)] rfl (Nat.le_of_ble_eq_true rfl) (fun X O hlX hR => ?_)
  subst hlX
  refine J.iload_n (q := 1) O dX8_searchFrom_0 rfl 1 rfl ?_
  refine J.iconst (q := 2) (v := (4 : Int32)) O dX8_searchFrom_1 rfl rfl ?_
  refine J.icmp_gt (q := 5) (tgt := 30) O dX8_searchFrom_2 rfl (by decide) (fun z7 => ?_) (fun z7 => ?_)
  · replace h := h.1 z7
    exact hR _ _ _ dX8_searchFrom_30 h
  · replace h := h.2 z7
    refine J.aload_n (q := 6) O dX8_searchFrom_5 rfl 0 rfl ?_
    refine J.getI (q := 9) (c' := 81) (ci := 8) (k := 12) (M 81 12) rfl O dX8_searchFrom_6 rfl wd_2_88 (by decide) if_81_12 ?_
    refine J.bipush (q := 11) (v := (-9 : Int32)) O dX8_searchFrom_9 rfl rfl ?_
    refine J.icmp_eq (q := 14) (tgt := 31) O dX8_searchFrom_11 rfl (by decide) (fun z8 => ?_) (fun z8 => ?_)
    · replace h := h.1 z8
      exact J.sub [0, 1, 2, 3, 4] rfl (j_X8_searchFrom_b31 hG O hR hrec h)
    · replace h := h.2 z8
      refine J.iload (q := 16) O dX8_searchFrom_14 rfl 4 rfl ?_
      refine J.aload_n (q := 17) O dX8_searchFrom_16 rfl 0 rfl ?_
      refine J.getR (q := 20) (c' := 81) (ci := 8) (k := 9) (r := 92) O dX8_searchFrom_17 rfl wd_2_85 (by decide) if_81_9 ?_
      refine J.iload_n (q := 21) O dX8_searchFrom_20 rfl 1 rfl ?_
      obtain ⟨hv9, h⟩ := h
      refine J.iald (q := 22) (c' := 92) (j := a1.toNatClampNeg) (M 92 a1.toNatClampNeg) rfl O dX8_searchFrom_21 rfl ar_92 hv9 rfl ?_
      refine J.iadd (q := 23) O dX8_searchFrom_22 rfl ?_
      refine J.aload_n (q := 24) O dX8_searchFrom_23 rfl 0 rfl ?_
      refine J.getI (q := 27) (c' := 81) (ci := 8) (k := 12) (M 81 12) rfl O dX8_searchFrom_24 rfl wd_2_88 (by decide) if_81_12 ?_
      refine J.icmp_lt (q := 30) (tgt := 31) O dX8_searchFrom_27 rfl (by decide) (fun z10 => ?_) (fun z10 => ?_)
      · replace h := h.1 z10
        exact J.sub [0, 1, 2, 3, 4] rfl (j_X8_searchFrom_b31 hG O hR hrec h)
      · replace h := h.2 z10
        exact hR _ _ _ dX8_searchFrom_30 h
theorem cn_rs {l : Launch} {G : GX} (hG : Gd G) : ∀ (n : Nat) {a1 a2 a3 a4 : Int32} {M : Mem} {K : Mem → Prop}, fr_rs n a1 a2 a3 a4 M K → CV l G yX8_searchFrom cX8_searchFrom 5 (2 + 2 * n) [.ref (ad G 81), .int a1, .int a2, .int a3, .int a4] M K
  | 0, _, _, _, _, _, _, h => h.elim
  | n + 1, _, _, _, _, _, _, h => by
    have := c_X8_searchFrom (l := l) (nf := n) (rec := fr_rs n) (cn_rs hG n) hG h
    rwa [show 2 + 2 + 2 * n = 2 + 2 * (n + 1) by omega] at this
theorem cr_rs {l : Launch} {G : GX} (hG : Gd G) {a1 a2 a3 a4 : Int32} {M : Mem} {K : Mem → Prop} (h : fr_rs 8 a1 a2 a3 a4 M K) : CV l G yX8_searchFrom cX8_searchFrom 5 18 [.ref (ad G 81), .int a1, .int a2, .int a3, .int a4] M K := cn_rs hG 8 h
set_option maxHeartbeats 4000000 in
set_option maxRecDepth 20000 in
theorem j_X8_search_c8 {X : CX} {G : GX} {K : Mem → Prop} (hG : Gd G) (O : Ok X G cX8_search 2 RX8 19) (hR : RetV X G cX8_search K) {a : Int32 × Mem} (h : Lp (fun (r8 : Int32 × Mem → Prop) a => f_X8_search_c8 K r8 a.1 a.2) a) : J X G a.2 8 [(0, .ref (ad G 81)), (1, .int a.1)] [] := by
  refine Lp.elim (P := fun a => J X G a.2 8 [(0, .ref (ad G 81)), (1, .int a.1)] []) ?_ h
  clear h
  intro r8 hr8 a h
  obtain ⟨x1, M⟩ := a
  unfold f_X8_search_c8 at h
  (try dsimp only at h ⊢)
  refine J.iload_n (q := 9) O dX8_search_8 rfl 1 rfl ?_
  refine J.sipush (q := 12) (v := (1024 : Int32)) O dX8_search_9 rfl rfl ?_
  refine J.icmp_ge (q := 15) (tgt := 30) O dX8_search_12 rfl (by decide) (fun z2 => ?_) (fun z2 => ?_)
  · replace h := h.1 z2
    refine J.aload_n (q := 31) O dX8_search_30 rfl 0 rfl ?_
    refine J.iconst (q := 32) (v := (0 : Int32)) O dX8_search_31 rfl rfl ?_
    refine J.iconst (q := 33) (v := (0 : Int32)) O dX8_search_32 rfl rfl ?_
    refine J.iconst (q := 34) (v := (0 : Int32)) O dX8_search_33 rfl rfl ?_
    refine J.iconst (q := 35) (v := (0 : Int32)) O dX8_search_34 rfl rfl ?_
    refine J.callVV (q := 38) [.int (0 : Int32), .int (0 : Int32), .int (0 : Int32), .int (0 : Int32)] [] [.int (0 : Int32), .int (0 : Int32), .int (0 : Int32), .int (0 : Int32), .ref (ad G 81)] rfl O dX8_search_35 rfl (cr_rs hG h) wd_5_116 mw_X8_searchFrom io_81 rfl (by decide) (Nat.le_of_ble_eq_true rfl) (fun M3 h => ?_)
    exact hR _ _ _ dX8_search_38 h
  · replace h := h.2 z2
    refine J.aload_n (q := 16) O dX8_search_15 rfl 0 rfl ?_
    refine J.getR (q := 19) (c' := 81) (ci := 8) (k := 13) (r := 95) O dX8_search_16 rfl wd_2_89 (by decide) if_81_13 ?_
    refine J.iload_n (q := 20) O dX8_search_19 rfl 1 rfl ?_
    refine J.ldc2 (q := 23) O dX8_search_20 rfl wd_5_115 ?_
    obtain ⟨hv4, h⟩ := h
    refine J.last (q := 24) (c' := 95) O dX8_search_23 rfl ar_95 hv4 ?_
    refine J.iinc (q := 27) O dX8_search_24 rfl [(1, .int (x1 + (1 : Int32))), (0, .ref (ad G 81))] 1 rfl rfl (by decide) rfl ?_
    refine J.goto (q := 8) O dX8_search_27 (by decide) ?_
    exact J.sub [1, 0] rfl (hr8 _ h)
set_option maxHeartbeats 4000000 in
set_option maxRecDepth 20000 in
theorem c_X8_search {l : Launch} {G : GX} (hG : Gd G) {M : Mem} {K : Mem → Prop} (h : f_X8_search  M K) : CV l G yX8_search cX8_search 2 19 [.ref (ad G 81)] M K := by
  unfold f_X8_search at h
  refine CV.mk hG (by decide) [(0, .ref (ad G 81))] rfl (Nat.le_of_ble_eq_true rfl) (fun X O hlX hR => ?_)
  subst hlX
  refine J.aload_n (q := 1) O dX8_search_0 rfl 0 rfl ?_
  refine J.bipush (q := 3) (v := (-9 : Int32)) O dX8_search_1 rfl rfl ?_
  refine J.putI (q := 6) (c' := 81) (ci := 8) (k := 12) O dX8_search_3 rfl wd_2_88 (by decide) if_81_12 rfl rfl ?_
  refine J.iconst (q := 7) (v := (0 : Int32)) O dX8_search_6 rfl rfl ?_
  refine J.istore_n (q := 8) O dX8_search_7 rfl [(1, .int (0 : Int32)), (0, .ref (ad G 81))] (by decide) rfl ?_
  exact J.sub [1, 0] rfl (j_X8_search_c8 hG O hR h)
set_option maxHeartbeats 4000000 in
set_option maxRecDepth 20000 in
theorem j_X8_fewestBroken_b76 {X : CX} {G : GX} {K : Int32 → Mem → Prop} (hG : Gd G) (O : Ok X G cX8_fewestBroken 5 RX8 20) (hR : RetI X G cX8_fewestBroken K) {x2 : Int32} {M : Mem} (h : f_X8_fewestBroken_b76 K x2 M) : J X G M 76 [(0, .ref (ad G 81)), (2, .int x2)] [] := by
  unfold f_X8_fewestBroken_b76 at h
  refine J.aload_n (q := 77) O dX8_fewestBroken_76 rfl 0 rfl ?_
  refine J.iconst (q := 78) (v := (1 : Int32)) O dX8_fewestBroken_77 rfl rfl ?_
  refine J.putZ (q := 81) (c' := 81) (ci := 8) (k := 15) O dX8_fewestBroken_78 rfl wd_2_91 (by decide) if_81_15 rfl rfl (Or.inr rfl) ?_
  refine J.aload_n (q := 82) O dX8_fewestBroken_81 rfl 0 rfl ?_
  refine J.iload_n (q := 83) O dX8_fewestBroken_82 rfl 1 rfl ?_
  refine J.putI (q := 86) (c' := 81) (ci := 8) (k := 16) O dX8_fewestBroken_83 rfl wd_2_92 (by decide) if_81_16 rfl rfl ?_
  refine J.aload_n (q := 87) O dX8_fewestBroken_86 rfl 0 rfl ?_
  refine J.getI (q := 90) (c' := 81) (ci := 8) (k := 12) (M 81 12) rfl O dX8_fewestBroken_87 rfl wd_2_88 (by decide) if_81_12 ?_
  exact hR _ _ _ _ dX8_fewestBroken_90 h
set_option maxHeartbeats 4000000 in
set_option maxRecDepth 20000 in
theorem j_X8_fewestBroken_b37 {X : CX} {G : GX} {K : Int32 → Mem → Prop} (hG : Gd G) (O : Ok X G cX8_fewestBroken 5 RX8 20) (hR : RetI X G cX8_fewestBroken K) {x2 : Int32} {x3 : Int32} {x4 : Int32} {M : Mem} (h : f_X8_fewestBroken_b37 K x2 x3 x4 M) : J X G M 37 [(0, .ref (ad G 81)), (1, .ref (ad G 4)), (2, .int x2), (3, .int x3), (4, .int x4)] [] := by
  unfold f_X8_fewestBroken_b37 at h
  refine J.aload_n (q := 38) O dX8_fewestBroken_37 rfl 0 rfl ?_
  refine J.bipush (q := 40) (v := (-9 : Int32)) O dX8_fewestBroken_38 rfl rfl ?_
  refine J.putI (q := 43) (c' := 81) (ci := 8) (k := 12) O dX8_fewestBroken_40 rfl wd_2_88 (by decide) if_81_12 rfl rfl ?_
  refine J.aload_n (q := 44) O dX8_fewestBroken_43 rfl 0 rfl ?_
  refine J.iload_n (q := 45) O dX8_fewestBroken_44 rfl 3 rfl ?_
  refine J.putI (q := 48) (c' := 81) (ci := 8) (k := 2) O dX8_fewestBroken_45 rfl wd_2_78 (by decide) if_81_2 rfl rfl ?_
  refine J.aload_n (q := 49) O dX8_fewestBroken_48 rfl 0 rfl ?_
  refine J.iload (q := 51) O dX8_fewestBroken_49 rfl 4 rfl ?_
  refine J.putI (q := 54) (c' := 81) (ci := 8) (k := 3) O dX8_fewestBroken_51 rfl wd_2_79 (by decide) if_81_3 rfl rfl ?_
  refine J.aload_n (q := 55) O dX8_fewestBroken_54 rfl 0 rfl ?_
  refine J.aload_n (q := 56) O dX8_fewestBroken_55 rfl 1 rfl ?_
  refine J.iload_n (q := 57) O dX8_fewestBroken_56 rfl 2 rfl ?_
  refine J.callVI (q := 60) [.ref (ad G 4), .int x2] [] [.int x2, .ref (ad G 4), .ref (ad G 81)] rfl O dX8_fewestBroken_57 rfl (c_X8_findTeam hG h) wd_5_82 mw_X8_findTeam io_81 rfl (by decide) (Nat.le_of_ble_eq_true rfl) (fun v1 M1 h => ?_)
  refine J.if_eq (q := 63) (tgt := 76) O dX8_fewestBroken_60 rfl (by decide) (fun z2 => ?_) (fun z2 => ?_)
  · replace h := h.1 z2
    exact J.sub [0, 2] rfl (j_X8_fewestBroken_b76 hG O hR h)
  · replace h := h.2 z2
    refine J.aload_n (q := 64) O dX8_fewestBroken_63 rfl 0 rfl ?_
    refine J.callVV (q := 67) [] [] [.ref (ad G 81)] rfl O dX8_fewestBroken_64 rfl (c_X8_listArrangements hG h) wd_5_86 mw_X8_listArrangements io_81 rfl (by decide) (Nat.le_of_ble_eq_true rfl) (fun M3 h => ?_)
    refine J.aload_n (q := 68) O dX8_fewestBroken_67 rfl 0 rfl ?_
    refine J.aload_n (q := 69) O dX8_fewestBroken_68 rfl 1 rfl ?_
    refine J.callVV (q := 72) [.ref (ad G 4)] [] [.ref (ad G 4), .ref (ad G 81)] rfl O dX8_fewestBroken_69 rfl (c_X8_countBroken hG h) wd_5_101 mw_X8_countBroken io_81 rfl (by decide) (Nat.le_of_ble_eq_true rfl) (fun M4 h => ?_)
    refine J.aload_n (q := 73) O dX8_fewestBroken_72 rfl 0 rfl ?_
    refine J.callVV (q := 76) [] [] [.ref (ad G 81)] rfl O dX8_fewestBroken_73 rfl (c_X8_search hG h) wd_5_111 mw_X8_search io_81 rfl (by decide) (Nat.le_of_ble_eq_true rfl) (fun M5 h => ?_)
    exact J.sub [0, 2] rfl (j_X8_fewestBroken_b76 hG O hR h)
set_option maxHeartbeats 4000000 in
set_option maxRecDepth 20000 in
theorem c_X8_fewestBroken {l : Launch} {G : GX} (hG : Gd G) {a2 : Int32} {a3 : Int32} {a4 : Int32} {M : Mem} {K : Int32 → Mem → Prop} (h : f_X8_fewestBroken a2 a3 a4 M K) : CI l G yX8_fewestBroken cX8_fewestBroken 5 (some .int) 20 [.ref (ad G 81), .ref (ad G 4), .int a2, .int a3, .int a4] M K := by
  unfold f_X8_fewestBroken at h
  refine CI.mk hG (by decide) [(0, .ref (ad G 81)), (1, .ref (ad G 4)), (2, .int a2), (3, .int a3), (4, .int a4)] rfl (Nat.le_of_ble_eq_true rfl) (fun X O hlX hR => ?_)
  subst hlX
  refine J.aload_n (q := 1) O dX8_fewestBroken_0 rfl 0 rfl ?_
  refine J.getI (q := 4) (c' := 81) (ci := 8) (k := 15) (M 81 15) rfl O dX8_fewestBroken_1 rfl wd_2_91 (by decide) if_81_15 ?_
  refine J.if_eq (q := 7) (tgt := 37) O dX8_fewestBroken_4 rfl (by decide) (fun z6 => ?_) (fun z6 => ?_)
  · replace h := h.1 z6
    exact J.sub [0, 1, 2, 3, 4] rfl (j_X8_fewestBroken_b37 hG O hR h)
  · replace h := h.2 z6
    refine J.aload_n (q := 8) O dX8_fewestBroken_7 rfl 0 rfl ?_
    refine J.getI (q := 11) (c' := 81) (ci := 8) (k := 16) (M 81 16) rfl O dX8_fewestBroken_8 rfl wd_2_92 (by decide) if_81_16 ?_
    refine J.iload_n (q := 12) O dX8_fewestBroken_11 rfl 2 rfl ?_
    refine J.icmp_ne (q := 15) (tgt := 37) O dX8_fewestBroken_12 rfl (by decide) (fun z7 => ?_) (fun z7 => ?_)
    · replace h := h.1 z7
      exact J.sub [0, 1, 2, 3, 4] rfl (j_X8_fewestBroken_b37 hG O hR h)
    · replace h := h.2 z7
      refine J.aload_n (q := 16) O dX8_fewestBroken_15 rfl 0 rfl ?_
      refine J.getI (q := 19) (c' := 81) (ci := 8) (k := 2) (M 81 2) rfl O dX8_fewestBroken_16 rfl wd_2_78 (by decide) if_81_2 ?_
      refine J.iload_n (q := 20) O dX8_fewestBroken_19 rfl 3 rfl ?_
      refine J.icmp_ne (q := 23) (tgt := 37) O dX8_fewestBroken_20 rfl (by decide) (fun z8 => ?_) (fun z8 => ?_)
      · replace h := h.1 z8
        exact J.sub [0, 1, 2, 3, 4] rfl (j_X8_fewestBroken_b37 hG O hR h)
      · replace h := h.2 z8
        refine J.aload_n (q := 24) O dX8_fewestBroken_23 rfl 0 rfl ?_
        refine J.getI (q := 27) (c' := 81) (ci := 8) (k := 3) (M 81 3) rfl O dX8_fewestBroken_24 rfl wd_2_79 (by decide) if_81_3 ?_
        refine J.iload (q := 29) O dX8_fewestBroken_27 rfl 4 rfl ?_
        refine J.icmp_ne (q := 32) (tgt := 37) O dX8_fewestBroken_29 rfl (by decide) (fun z9 => ?_) (fun z9 => ?_)
        · replace h := h.1 z9
          exact J.sub [0, 1, 2, 3, 4] rfl (j_X8_fewestBroken_b37 hG O hR h)
        · replace h := h.2 z9
          refine J.aload_n (q := 33) O dX8_fewestBroken_32 rfl 0 rfl ?_
          refine J.getI (q := 36) (c' := 81) (ci := 8) (k := 12) (M 81 12) rfl O dX8_fewestBroken_33 rfl wd_2_88 (by decide) if_81_12 ?_
          exact hR _ _ _ _ dX8_fewestBroken_36 h
set_option maxHeartbeats 4000000 in
set_option maxRecDepth 20000 in
theorem c_X11_bestShifts {l : Launch} {G : GX} (hG : Gd G) {a1 : Int32} {a2 : Int32} {M : Mem} {K : Int32 → Mem → Prop} (h : f_X11_bestShifts a1 a2 M K) : CI l G yX11_bestShifts cX11_bestShifts 3 (some .int) 21 [.ref (ad G 0), .int a1, .int a2] M K := by
  unfold f_X11_bestShifts at h
  refine CI.mk hG (by decide) [(0, .ref (ad G 0)), (1, .int a1), (2, .int a2)] rfl (Nat.le_of_ble_eq_true rfl) (fun X O hlX hR => ?_)
  subst hlX
  refine J.aload_n (q := 1) O dX11_bestShifts_0 rfl 0 rfl ?_
  refine J.getR (q := 4) (c' := 0) (ci := 11) (k := 8) (r := 81) O dX11_bestShifts_1 rfl wd_3_10 (by decide) if_0_8 ?_
  refine J.aload_n (q := 5) O dX11_bestShifts_4 rfl 0 rfl ?_
  refine J.getR (q := 8) (c' := 0) (ci := 11) (k := 1) (r := 4) O dX11_bestShifts_5 rfl wd_3_3 (by decide) if_0_1 ?_
  refine J.iload_n (q := 9) O dX11_bestShifts_8 rfl 1 rfl ?_
  refine J.iload_n (q := 10) O dX11_bestShifts_9 rfl 2 rfl ?_
  refine J.aload_n (q := 11) O dX11_bestShifts_10 rfl 0 rfl ?_
  refine J.getR (q := 14) (c' := 0) (ci := 11) (k := 12) (r := 124) O dX11_bestShifts_11 rfl wd_3_14 (by decide) if_0_12 ?_
  refine J.iconst (q := 15) (v := (4 : Int32)) O dX11_bestShifts_14 rfl rfl ?_
  refine J.iald (q := 16) (c' := 124) (j := 4) (M 124 4) rfl O dX11_bestShifts_15 rfl ar_124 (vin_lit (by decide)) (by decide) ?_
  refine J.callVI (q := 19) [.ref (ad G 4), .int a1, .int a2, .int (M 124 4)] [] [.int (M 124 4), .int a2, .int a1, .ref (ad G 4), .ref (ad G 81)] rfl O dX11_bestShifts_16 rfl (c_X8_fewestBroken hG h) wd_5_78 mw_X8_fewestBroken io_81 rfl (by decide) (Nat.le_of_ble_eq_true rfl) (fun v1 M1 h => ?_)
  exact hR _ _ _ _ dX11_bestShifts_19 h
set_option maxHeartbeats 4000000 in
set_option maxRecDepth 20000 in
theorem j_X11_shifts_b23 {X : CX} {G : GX} {K : Int32 → Mem → Prop} (hG : Gd G) (O : Ok X G cX11_shifts 3 RX11 22) (hR : RetI X G cX11_shifts K) {M : Mem} (h : f_X11_shifts_b23 K  M) : J X G M 23 [(0, .ref (ad G 0))] [] := by
  unfold f_X11_shifts_b23 at h
  refine J.aload_n (q := 24) O dX11_shifts_23 rfl 0 rfl ?_
  refine J.bipush (q := 26) (v := (-2 : Int32)) O dX11_shifts_24 rfl rfl ?_
  refine J.callVI (q := 29) [.int (-2 : Int32)] [] [.int (-2 : Int32), .ref (ad G 0)] rfl O dX11_shifts_26 rfl (c_X11_refuse hG h) wd_3_55 mw_X11_refuse io_0 rfl (by decide) (Nat.le_of_ble_eq_true rfl) (fun v1 M1 h => ?_)
  exact hR _ _ _ _ dX11_shifts_29 h
set_option maxHeartbeats 4000000 in
set_option maxRecDepth 20000 in
theorem c_X11_shifts {l : Launch} {G : GX} (hG : Gd G) {a1 : Int32} {a2 : Int32} {M : Mem} {K : Int32 → Mem → Prop} (h : f_X11_shifts a1 a2 M K) : CI l G yX11_shifts cX11_shifts 3 (some .int) 22 [.ref (ad G 0), .int a1, .int a2] M K := by
  unfold f_X11_shifts at h
  refine CI.mk hG (by decide) [(0, .ref (ad G 0)), (1, .int a1), (2, .int a2)] rfl (Nat.le_of_ble_eq_true rfl) (fun X O hlX hR => ?_)
  subst hlX
  refine J.iload_n (q := 1) O dX11_shifts_0 rfl 1 rfl ?_
  refine J.callSI (q := 4) [.int a1] [] [.int a1] rfl O dX11_shifts_1 rfl (c_X11_isShop hG h) wd_3_88 mw_X11_isShop rfl (by decide) (Nat.le_of_ble_eq_true rfl) (fun v2 M2 h => ?_)
  refine J.if_ne (q := 7) (tgt := 13) O dX11_shifts_4 rfl (by decide) (fun z3 => ?_) (fun z3 => ?_)
  · replace h := h.1 z3
    refine J.iload_n (q := 14) O dX11_shifts_13 rfl 2 rfl ?_
    refine J.if_lt (q := 17) (tgt := 23) O dX11_shifts_14 rfl (by decide) (fun z4 => ?_) (fun z4 => ?_)
    · replace h := h.1 z4
      exact J.sub [0] rfl (j_X11_shifts_b23 hG O hR h)
    · replace h := h.2 z4
      refine J.iload_n (q := 18) O dX11_shifts_17 rfl 2 rfl ?_
      refine J.bipush (q := 20) (v := (7 : Int32)) O dX11_shifts_18 rfl rfl ?_
      refine J.icmp_le (q := 23) (tgt := 30) O dX11_shifts_20 rfl (by decide) (fun z5 => ?_) (fun z5 => ?_)
      · replace h := h.1 z5
        refine J.aload_n (q := 31) O dX11_shifts_30 rfl 0 rfl ?_
        refine J.iload_n (q := 32) O dX11_shifts_31 rfl 1 rfl ?_
        refine J.iload_n (q := 33) O dX11_shifts_32 rfl 2 rfl ?_
        refine J.callVI (q := 36) [.int a1, .int a2] [] [.int a2, .int a1, .ref (ad G 0)] rfl O dX11_shifts_33 rfl (c_X11_bestShifts hG h) wd_5_74 mw_X11_bestShifts io_0 rfl (by decide) (Nat.le_of_ble_eq_true rfl) (fun v6 M6 h => ?_)
        exact hR _ _ _ _ dX11_shifts_36 h
      · replace h := h.2 z5
        exact J.sub [0] rfl (j_X11_shifts_b23 hG O hR h)
  · replace h := h.2 z3
    refine J.aload_n (q := 8) O dX11_shifts_7 rfl 0 rfl ?_
    refine J.iconst (q := 9) (v := (-1 : Int32)) O dX11_shifts_8 rfl rfl ?_
    refine J.callVI (q := 12) [.int (-1 : Int32)] [] [.int (-1 : Int32), .ref (ad G 0)] rfl O dX11_shifts_9 rfl (c_X11_refuse hG h) wd_3_55 mw_X11_refuse io_0 rfl (by decide) (Nat.le_of_ble_eq_true rfl) (fun v7 M7 h => ?_)
    exact hR _ _ _ _ dX11_shifts_12 h
set_option maxHeartbeats 4000000 in
set_option maxRecDepth 20000 in
theorem j_X8_bestShift_b51 {X : CX} {G : GX} {K : Int32 → Mem → Prop} (hG : Gd G) (O : Ok X G cX8_bestShift 4 RX8 2) (hR : RetI X G cX8_bestShift K) {r2 : Int32 × Int32 × Int32 × Mem → Prop} (hr2 : ∀ a : Int32 × Int32 × Int32 × Mem, r2 a → J X G a.2.2.2 2 [(0, .ref (ad G 81)), (1, .int a.1), (2, .int a.2.1), (3, .int a.2.2.1)] []) {x1 : Int32} {x2 : Int32} {x3 : Int32} {M : Mem} (h : f_X8_bestShift_b51 r2 K x1 x2 x3 M) : J X G M 51 [(0, .ref (ad G 81)), (1, .int x1), (2, .int x2), (3, .int x3)] [] := by
  unfold f_X8_bestShift_b51 at h
  refine J.iinc (q := 54) O dX8_bestShift_51 rfl [(3, .int (x3 + (1 : Int32))), (0, .ref (ad G 81)), (1, .int x1), (2, .int x2)] 3 rfl rfl (by decide) rfl ?_
  refine J.goto (q := 2) O dX8_bestShift_54 (by decide) ?_
  exact J.sub [1, 2, 3, 0] rfl (hr2 _ h)
set_option maxHeartbeats 4000000 in
set_option maxRecDepth 20000 in
theorem j_X8_bestShift_c2 {X : CX} {G : GX} {K : Int32 → Mem → Prop} (hG : Gd G) (O : Ok X G cX8_bestShift 4 RX8 2) (hR : RetI X G cX8_bestShift K) {a : Int32 × Int32 × Int32 × Mem} (h : Lp (fun (r2 : Int32 × Int32 × Int32 × Mem → Prop) a => f_X8_bestShift_c2 K r2 a.1 a.2.1 a.2.2.1 a.2.2.2) a) : J X G a.2.2.2 2 [(0, .ref (ad G 81)), (1, .int a.1), (2, .int a.2.1), (3, .int a.2.2.1)] [] := by
  refine Lp.elim (P := fun a => J X G a.2.2.2 2 [(0, .ref (ad G 81)), (1, .int a.1), (2, .int a.2.1), (3, .int a.2.2.1)] []) ?_ h
  clear h
  intro r2 hr2 a h
  obtain ⟨x1, x2, x3, M⟩ := a
  unfold f_X8_bestShift_c2 at h
  (try dsimp only at h ⊢)
  refine J.iload_n (q := 3) O dX8_bestShift_2 rfl 3 rfl ?_
  refine J.iconst (q := 4) (v := (4 : Int32)) O dX8_bestShift_3 rfl rfl ?_
  refine J.icmp_ge (q := 7) (tgt := 57) O dX8_bestShift_4 rfl (by decide) (fun z4 => ?_) (fun z4 => ?_)
  · replace h := h.1 z4
    refine J.bipush (q := 59) (v := (-9 : Int32)) O dX8_bestShift_57 rfl rfl ?_
    exact hR _ _ _ _ dX8_bestShift_59 h
  · replace h := h.2 z4
    refine J.aload_n (q := 8) O dX8_bestShift_7 rfl 0 rfl ?_
    refine J.getR (q := 11) (c' := 81) (ci := 8) (k := 1) (r := 83) O dX8_bestShift_8 rfl wd_2_77 (by decide) if_81_1 ?_
    refine J.iload_n (q := 12) O dX8_bestShift_11 rfl 3 rfl ?_
    obtain ⟨hv5, h⟩ := h
    refine J.iald (q := 13) (c' := 83) (j := x3.toNatClampNeg) (M 83 x3.toNatClampNeg) rfl O dX8_bestShift_12 rfl ar_83 hv5 rfl ?_
    refine J.iload_n (q := 14) O dX8_bestShift_13 rfl 1 rfl ?_
    refine J.icmp_ne (q := 17) (tgt := 51) O dX8_bestShift_14 rfl (by decide) (fun z6 => ?_) (fun z6 => ?_)
    · replace h := h.1 z6
      exact J.sub [0, 1, 2, 3] rfl (j_X8_bestShift_b51 hG O hR hr2 h)
    · replace h := h.2 z6
      refine J.iload_n (q := 18) O dX8_bestShift_17 rfl 2 rfl ?_
      refine J.if_lt (q := 21) (tgt := 51) O dX8_bestShift_18 rfl (by decide) (fun z7 => ?_) (fun z7 => ?_)
      · replace h := h.1 z7
        exact J.sub [0, 1, 2, 3] rfl (j_X8_bestShift_b51 hG O hR hr2 h)
      · replace h := h.2 z7
        refine J.iload_n (q := 22) O dX8_bestShift_21 rfl 2 rfl ?_
        refine J.iconst (q := 23) (v := (4 : Int32)) O dX8_bestShift_22 rfl rfl ?_
        refine J.icmp_ge (q := 26) (tgt := 51) O dX8_bestShift_23 rfl (by decide) (fun z8 => ?_) (fun z8 => ?_)
        · replace h := h.1 z8
          exact J.sub [0, 1, 2, 3] rfl (j_X8_bestShift_b51 hG O hR hr2 h)
        · replace h := h.2 z8
          refine J.aload_n (q := 27) O dX8_bestShift_26 rfl 0 rfl ?_
          refine J.getI (q := 30) (c' := 81) (ci := 8) (k := 12) (M 81 12) rfl O dX8_bestShift_27 rfl wd_2_88 (by decide) if_81_12 ?_
          refine J.bipush (q := 32) (v := (-9 : Int32)) O dX8_bestShift_30 rfl rfl ?_
          refine J.icmp_eq (q := 35) (tgt := 51) O dX8_bestShift_32 rfl (by decide) (fun z9 => ?_) (fun z9 => ?_)
          · replace h := h.1 z9
            exact J.sub [0, 1, 2, 3] rfl (j_X8_bestShift_b51 hG O hR hr2 h)
          · replace h := h.2 z9
            refine J.aload_n (q := 36) O dX8_bestShift_35 rfl 0 rfl ?_
            refine J.getR (q := 39) (c' := 81) (ci := 8) (k := 5) (r := 84) O dX8_bestShift_36 rfl wd_2_81 (by decide) if_81_5 ?_
            refine J.aload_n (q := 40) O dX8_bestShift_39 rfl 0 rfl ?_
            refine J.getR (q := 43) (c' := 81) (ci := 8) (k := 11) (r := 94) O dX8_bestShift_40 rfl wd_2_87 (by decide) if_81_11 ?_
            refine J.iload_n (q := 44) O dX8_bestShift_43 rfl 2 rfl ?_
            obtain ⟨hv10, h⟩ := h
            refine J.iald (q := 45) (c' := 94) (j := x2.toNatClampNeg) (M 94 x2.toNatClampNeg) rfl O dX8_bestShift_44 rfl ar_94 hv10 rfl ?_
            obtain ⟨hv11, h⟩ := h
            refine J.iald (q := 46) (c' := 84) (j := (M 94 x2.toNatClampNeg).toNatClampNeg) (M 84 ((M 94 x2.toNatClampNeg).toNatClampNeg)) rfl O dX8_bestShift_45 rfl ar_84 hv11 rfl ?_
            refine J.iload_n (q := 47) O dX8_bestShift_46 rfl 3 rfl ?_
            refine J.callSI (q := 50) [.int (M 84 ((M 94 x2.toNatClampNeg).toNatClampNeg)), .int x3] [] [.int x3, .int (M 84 ((M 94 x2.toNatClampNeg).toNatClampNeg))] rfl O dX8_bestShift_47 rfl (c_X8_shiftIn hG h) wd_5_94 mw_X8_shiftIn rfl (by decide) (Nat.le_of_ble_eq_true rfl) (fun v12 M12 h => ?_)
            exact hR _ _ _ _ dX8_bestShift_50 h
set_option maxHeartbeats 4000000 in
set_option maxRecDepth 20000 in
theorem c_X8_bestShift {l : Launch} {G : GX} (hG : Gd G) {a1 : Int32} {a2 : Int32} {M : Mem} {K : Int32 → Mem → Prop} (h : f_X8_bestShift a1 a2 M K) : CI l G yX8_bestShift cX8_bestShift 4 (some .int) 2 [.ref (ad G 81), .int a1, .int a2] M K := by
  unfold f_X8_bestShift at h
  refine CI.mk hG (by decide) [(0, .ref (ad G 81)), (1, .int a1), (2, .int a2)] rfl (Nat.le_of_ble_eq_true rfl) (fun X O hlX hR => ?_)
  subst hlX
  refine J.iconst (q := 1) (v := (0 : Int32)) O dX8_bestShift_0 rfl rfl ?_
  refine J.istore_n (q := 2) O dX8_bestShift_1 rfl [(3, .int (0 : Int32)), (0, .ref (ad G 81)), (1, .int a1), (2, .int a2)] (by decide) rfl ?_
  exact J.sub [1, 2, 3, 0] rfl (j_X8_bestShift_c2 hG O hR h)
set_option maxHeartbeats 4000000 in
set_option maxRecDepth 20000 in
theorem j_X11_shiftOf_b18 {X : CX} {G : GX} {K : Int32 → Mem → Prop} (hG : Gd G) (O : Ok X G cX11_shiftOf 5 RX11 22) (hR : RetI X G cX11_shiftOf K) {M : Mem} (h : f_X11_shiftOf_b18 K  M) : J X G M 18 [(0, .ref (ad G 0))] [] := by
  unfold f_X11_shiftOf_b18 at h
  refine J.aload_n (q := 19) O dX11_shiftOf_18 rfl 0 rfl ?_
  refine J.iconst (q := 20) (v := (-1 : Int32)) O dX11_shiftOf_19 rfl rfl ?_
  refine J.callVI (q := 23) [.int (-1 : Int32)] [] [.int (-1 : Int32), .ref (ad G 0)] rfl O dX11_shiftOf_20 rfl (c_X11_refuse hG h) wd_3_55 mw_X11_refuse io_0 rfl (by decide) (Nat.le_of_ble_eq_true rfl) (fun v1 M1 h => ?_)
  exact hR _ _ _ _ dX11_shiftOf_23 h
set_option maxHeartbeats 4000000 in
set_option maxRecDepth 20000 in
theorem j_X11_shiftOf_b34 {X : CX} {G : GX} {K : Int32 → Mem → Prop} (hG : Gd G) (O : Ok X G cX11_shiftOf 5 RX11 22) (hR : RetI X G cX11_shiftOf K) {M : Mem} (h : f_X11_shiftOf_b34 K  M) : J X G M 34 [(0, .ref (ad G 0))] [] := by
  unfold f_X11_shiftOf_b34 at h
  refine J.aload_n (q := 35) O dX11_shiftOf_34 rfl 0 rfl ?_
  refine J.bipush (q := 37) (v := (-2 : Int32)) O dX11_shiftOf_35 rfl rfl ?_
  refine J.callVI (q := 40) [.int (-2 : Int32)] [] [.int (-2 : Int32), .ref (ad G 0)] rfl O dX11_shiftOf_37 rfl (c_X11_refuse hG h) wd_3_55 mw_X11_refuse io_0 rfl (by decide) (Nat.le_of_ble_eq_true rfl) (fun v2 M2 h => ?_)
  exact hR _ _ _ _ dX11_shiftOf_40 h
set_option maxHeartbeats 4000000 in
set_option maxRecDepth 20000 in
theorem j_X11_shiftOf_b52 {X : CX} {G : GX} {K : Int32 → Mem → Prop} (hG : Gd G) (O : Ok X G cX11_shiftOf 5 RX11 22) (hR : RetI X G cX11_shiftOf K) {M : Mem} (h : f_X11_shiftOf_b52 K  M) : J X G M 52 [(0, .ref (ad G 0))] [] := by
  unfold f_X11_shiftOf_b52 at h
  refine J.aload_n (q := 53) O dX11_shiftOf_52 rfl 0 rfl ?_
  refine J.bipush (q := 55) (v := (-3 : Int32)) O dX11_shiftOf_53 rfl rfl ?_
  refine J.callVI (q := 58) [.int (-3 : Int32)] [] [.int (-3 : Int32), .ref (ad G 0)] rfl O dX11_shiftOf_55 rfl (c_X11_refuse hG h) wd_3_55 mw_X11_refuse io_0 rfl (by decide) (Nat.le_of_ble_eq_true rfl) (fun v3 M3 h => ?_)
  exact hR _ _ _ _ dX11_shiftOf_58 h
set_option maxHeartbeats 4000000 in
set_option maxRecDepth 20000 in
theorem j_X11_shiftOf_b85 {X : CX} {G : GX} {K : Int32 → Mem → Prop} (hG : Gd G) (O : Ok X G cX11_shiftOf 5 RX11 22) (hR : RetI X G cX11_shiftOf K) {s0 : Int32} {M : Mem} (h : f_X11_shiftOf_b85 K s0 M) : J X G M 85 [] [.int s0] := by
  unfold f_X11_shiftOf_b85 at h
  exact hR _ _ _ _ dX11_shiftOf_85 h
set_option maxHeartbeats 4000000 in
set_option maxRecDepth 20000 in
theorem c_X11_shiftOf {l : Launch} {G : GX} (hG : Gd G) {a1 : Int32} {a2 : Int32} {a3 : Int32} {a4 : Int32} {M : Mem} {K : Int32 → Mem → Prop} (h : f_X11_shiftOf a1 a2 a3 a4 M K) : CI l G yX11_shiftOf cX11_shiftOf 5 (some .int) 22 [.ref (ad G 0), .int a1, .int a2, .int a3, .int a4] M K := by
  unfold f_X11_shiftOf at h
  refine CI.mk hG (by decide) [(0, .ref (ad G 0)), (1, .int a1), (2, .int a2), (3, .int a3), (4, .int a4)] rfl (Nat.le_of_ble_eq_true rfl) (fun X O hlX hR => ?_)
  subst hlX
  refine J.iload_n (q := 1) O dX11_shiftOf_0 rfl 1 rfl ?_
  refine J.callSI (q := 4) [.int a1] [] [.int a1] rfl O dX11_shiftOf_1 rfl (c_X11_isShop hG h) wd_3_88 mw_X11_isShop rfl (by decide) (Nat.le_of_ble_eq_true rfl) (fun v4 M4 h => ?_)
  refine J.if_eq (q := 7) (tgt := 18) O dX11_shiftOf_4 rfl (by decide) (fun z5 => ?_) (fun z5 => ?_)
  · replace h := h.1 z5
    exact J.sub [0] rfl (j_X11_shiftOf_b18 hG O hR h)
  · replace h := h.2 z5
    refine J.aload_n (q := 8) O dX11_shiftOf_7 rfl 0 rfl ?_
    refine J.getR (q := 11) (c' := 0) (ci := 11) (k := 1) (r := 4) O dX11_shiftOf_8 rfl wd_3_3 (by decide) if_0_1 ?_
    refine J.iload_n (q := 12) O dX11_shiftOf_11 rfl 3 rfl ?_
    refine J.callVI (q := 15) [.int a3] [] [.int a3, .ref (ad G 4)] rfl O dX11_shiftOf_12 rfl (c_X9_has hG h) wd_3_106 mw_X9_has io_4 rfl (by decide) (Nat.le_of_ble_eq_true rfl) (fun v6 M6 h => ?_)
    refine J.if_ne (q := 18) (tgt := 24) O dX11_shiftOf_15 rfl (by decide) (fun z7 => ?_) (fun z7 => ?_)
    · replace h := h.1 z7
      refine J.iload_n (q := 25) O dX11_shiftOf_24 rfl 2 rfl ?_
      refine J.if_lt (q := 28) (tgt := 34) O dX11_shiftOf_25 rfl (by decide) (fun z8 => ?_) (fun z8 => ?_)
      · replace h := h.1 z8
        exact J.sub [0] rfl (j_X11_shiftOf_b34 hG O hR h)
      · replace h := h.2 z8
        refine J.iload_n (q := 29) O dX11_shiftOf_28 rfl 2 rfl ?_
        refine J.bipush (q := 31) (v := (7 : Int32)) O dX11_shiftOf_29 rfl rfl ?_
        refine J.icmp_le (q := 34) (tgt := 41) O dX11_shiftOf_31 rfl (by decide) (fun z9 => ?_) (fun z9 => ?_)
        · replace h := h.1 z9
          refine J.iload (q := 43) O dX11_shiftOf_41 rfl 4 rfl ?_
          refine J.if_lt (q := 46) (tgt := 52) O dX11_shiftOf_43 rfl (by decide) (fun z10 => ?_) (fun z10 => ?_)
          · replace h := h.1 z10
            exact J.sub [0] rfl (j_X11_shiftOf_b52 hG O hR h)
          · replace h := h.2 z10
            refine J.iload (q := 48) O dX11_shiftOf_46 rfl 4 rfl ?_
            refine J.iconst (q := 49) (v := (4 : Int32)) O dX11_shiftOf_48 rfl rfl ?_
            refine J.icmp_lt (q := 52) (tgt := 59) O dX11_shiftOf_49 rfl (by decide) (fun z11 => ?_) (fun z11 => ?_)
            · replace h := h.1 z11
              refine J.aload_n (q := 60) O dX11_shiftOf_59 rfl 0 rfl ?_
              refine J.iload_n (q := 61) O dX11_shiftOf_60 rfl 1 rfl ?_
              refine J.iload_n (q := 62) O dX11_shiftOf_61 rfl 2 rfl ?_
              refine J.callVI (q := 65) [.int a1, .int a2] [] [.int a2, .int a1, .ref (ad G 0)] rfl O dX11_shiftOf_62 rfl (c_X11_bestShifts hG h) wd_5_74 mw_X11_bestShifts io_0 rfl (by decide) (Nat.le_of_ble_eq_true rfl) (fun v12 M12 h => ?_)
              refine J.bipush (q := 67) (v := (-9 : Int32)) O dX11_shiftOf_65 rfl rfl ?_
              refine J.icmp_ne (q := 70) (tgt := 75) O dX11_shiftOf_67 rfl (by decide) (fun z13 => ?_) (fun z13 => ?_)
              · replace h := h.1 z13
                refine J.aload_n (q := 76) O dX11_shiftOf_75 rfl 0 rfl ?_
                refine J.getR (q := 79) (c' := 0) (ci := 11) (k := 8) (r := 81) O dX11_shiftOf_76 rfl wd_3_10 (by decide) if_0_8 ?_
                refine J.iload_n (q := 80) O dX11_shiftOf_79 rfl 3 rfl ?_
                refine J.iload (q := 82) O dX11_shiftOf_80 rfl 4 rfl ?_
                refine J.callVI (q := 85) [.int a3, .int a4] [] [.int a4, .int a3, .ref (ad G 81)] rfl O dX11_shiftOf_82 rfl (c_X8_bestShift hG h) wd_5_151 mw_X8_bestShift io_81 rfl (by decide) (Nat.le_of_ble_eq_true rfl) (fun v14 M14 h => ?_)
                exact J.sub [] rfl (j_X11_shiftOf_b85 hG O hR h)
              · replace h := h.2 z13
                refine J.bipush (q := 72) (v := (-9 : Int32)) O dX11_shiftOf_70 rfl rfl ?_
                refine J.goto (q := 85) O dX11_shiftOf_72 (by decide) ?_
                exact J.sub [] rfl (j_X11_shiftOf_b85 hG O hR h)
            · replace h := h.2 z11
              exact J.sub [0] rfl (j_X11_shiftOf_b52 hG O hR h)
        · replace h := h.2 z9
          exact J.sub [0] rfl (j_X11_shiftOf_b34 hG O hR h)
    · replace h := h.2 z7
      exact J.sub [0] rfl (j_X11_shiftOf_b18 hG O hR h)
set_option maxHeartbeats 4000000 in
set_option maxRecDepth 20000 in
theorem j_X8_countNoneBroken_c16 {X : CX} {G : GX} {K : Mem → Prop} (hG : Gd G) (O : Ok X G cX8_countNoneBroken 3 RX8 1) (hR : RetV X G cX8_countNoneBroken K) {r2 : Int32 × Mem → Prop} (hr2 : ∀ a : Int32 × Mem, r2 a → J X G a.2 2 [(0, .ref (ad G 81)), (1, .int a.1)] []) {a : Int32 × Int32 × Mem} (h : Lp (fun (r16 : Int32 × Int32 × Mem → Prop) a => f_X8_countNoneBroken_c16 r2 K r16 a.1 a.2.1 a.2.2) a) : J X G a.2.2 16 [(0, .ref (ad G 81)), (1, .int a.1), (2, .int a.2.1)] [] := by
  refine Lp.elim (P := fun a => J X G a.2.2 16 [(0, .ref (ad G 81)), (1, .int a.1), (2, .int a.2.1)] []) ?_ h
  clear h
  intro r16 hr16 a h
  obtain ⟨x1, x2, M⟩ := a
  unfold f_X8_countNoneBroken_c16 at h
  (try dsimp only at h ⊢)
  refine J.iload_n (q := 17) O dX8_countNoneBroken_16 rfl 2 rfl ?_
  refine J.aload_n (q := 18) O dX8_countNoneBroken_17 rfl 0 rfl ?_
  refine J.getI (q := 21) (c' := 81) (ci := 8) (k := 4) (M 81 4) rfl O dX8_countNoneBroken_18 rfl wd_2_80 (by decide) if_81_4 ?_
  refine J.icmp_ge (q := 24) (tgt := 39) O dX8_countNoneBroken_21 rfl (by decide) (fun z4 => ?_) (fun z4 => ?_)
  · replace h := h.1 z4
    refine J.iinc (q := 42) O dX8_countNoneBroken_39 rfl [(1, .int (x1 + (1 : Int32))), (0, .ref (ad G 81)), (2, .int x2)] 1 rfl rfl (by decide) rfl ?_
    refine J.goto (q := 2) O dX8_countNoneBroken_42 (by decide) ?_
    exact J.sub [1, 0] rfl (hr2 _ h)
  · replace h := h.2 z4
    refine J.aload_n (q := 25) O dX8_countNoneBroken_24 rfl 0 rfl ?_
    refine J.getR (q := 28) (c' := 81) (ci := 8) (k := 8) (r := 87) O dX8_countNoneBroken_25 rfl wd_2_84 (by decide) if_81_8 ?_
    refine J.iload_n (q := 29) O dX8_countNoneBroken_28 rfl 1 rfl ?_
    obtain ⟨hv5, h⟩ := h
    refine J.aald (q := 30) (t := 2) (c' := 87) (b := 88) (d := 1) O dX8_countNoneBroken_29 rfl ar_87 hv5 ?_
    refine J.iload_n (q := 31) O dX8_countNoneBroken_30 rfl 2 rfl ?_
    refine J.iconst (q := 32) (v := (0 : Int32)) O dX8_countNoneBroken_31 rfl rfl ?_
    obtain ⟨hv6, h⟩ := h
    refine J.iast (q := 33) (c' := (88 + 1 * x1.toNatClampNeg)) (j := x2.toNatClampNeg) O dX8_countNoneBroken_32 rfl (row_87 hv5) hv6 rfl ?_
    refine J.iinc (q := 36) O dX8_countNoneBroken_33 rfl [(2, .int (x2 + (1 : Int32))), (0, .ref (ad G 81)), (1, .int x1)] 2 rfl rfl (by decide) rfl ?_
    refine J.goto (q := 16) O dX8_countNoneBroken_36 (by decide) ?_
    exact J.sub [1, 2, 0] rfl (hr16 _ h)
set_option maxHeartbeats 4000000 in
set_option maxRecDepth 20000 in
theorem j_X8_countNoneBroken_c2 {X : CX} {G : GX} {K : Mem → Prop} (hG : Gd G) (O : Ok X G cX8_countNoneBroken 3 RX8 1) (hR : RetV X G cX8_countNoneBroken K) {a : Int32 × Mem} (h : Lp (fun (r2 : Int32 × Mem → Prop) a => f_X8_countNoneBroken_c2 K r2 a.1 a.2) a) : J X G a.2 2 [(0, .ref (ad G 81)), (1, .int a.1)] [] := by
  refine Lp.elim (P := fun a => J X G a.2 2 [(0, .ref (ad G 81)), (1, .int a.1)] []) ?_ h
  clear h
  intro r2 hr2 a h
  obtain ⟨x1, M⟩ := a
  unfold f_X8_countNoneBroken_c2 at h
  (try dsimp only at h ⊢)
  refine J.iload_n (q := 3) O dX8_countNoneBroken_2 rfl 1 rfl ?_
  refine J.iconst (q := 4) (v := (4 : Int32)) O dX8_countNoneBroken_3 rfl rfl ?_
  refine J.icmp_ge (q := 7) (tgt := 45) O dX8_countNoneBroken_4 rfl (by decide) (fun z7 => ?_) (fun z7 => ?_)
  · replace h := h.1 z7
    refine J.aload_n (q := 46) O dX8_countNoneBroken_45 rfl 0 rfl ?_
    refine J.getR (q := 49) (c' := 81) (ci := 8) (k := 9) (r := 92) O dX8_countNoneBroken_46 rfl wd_2_85 (by decide) if_81_9 ?_
    refine J.iconst (q := 50) (v := (4 : Int32)) O dX8_countNoneBroken_49 rfl rfl ?_
    refine J.iconst (q := 51) (v := (0 : Int32)) O dX8_countNoneBroken_50 rfl rfl ?_
    refine J.iast (q := 52) (c' := 92) (j := 4) O dX8_countNoneBroken_51 rfl ar_92 (vin_lit (by decide)) (by decide) ?_
    exact hR _ _ _ dX8_countNoneBroken_52 h
  · replace h := h.2 z7
    refine J.aload_n (q := 8) O dX8_countNoneBroken_7 rfl 0 rfl ?_
    refine J.getR (q := 11) (c' := 81) (ci := 8) (k := 9) (r := 92) O dX8_countNoneBroken_8 rfl wd_2_85 (by decide) if_81_9 ?_
    refine J.iload_n (q := 12) O dX8_countNoneBroken_11 rfl 1 rfl ?_
    refine J.iconst (q := 13) (v := (0 : Int32)) O dX8_countNoneBroken_12 rfl rfl ?_
    obtain ⟨hv8, h⟩ := h
    refine J.iast (q := 14) (c' := 92) (j := x1.toNatClampNeg) O dX8_countNoneBroken_13 rfl ar_92 hv8 rfl ?_
    refine J.iconst (q := 15) (v := (0 : Int32)) O dX8_countNoneBroken_14 rfl rfl ?_
    refine J.istore_n (q := 16) O dX8_countNoneBroken_15 rfl [(2, .int (0 : Int32)), (0, .ref (ad G 81)), (1, .int x1)] (by decide) rfl ?_
    exact J.sub [1, 2, 0] rfl (j_X8_countNoneBroken_c16 hG O hR hr2 h)
set_option maxHeartbeats 4000000 in
set_option maxRecDepth 20000 in
theorem c_X8_countNoneBroken {l : Launch} {G : GX} (hG : Gd G) {M : Mem} {K : Mem → Prop} (h : f_X8_countNoneBroken  M K) : CV l G yX8_countNoneBroken cX8_countNoneBroken 3 1 [.ref (ad G 81)] M K := by
  unfold f_X8_countNoneBroken at h
  refine CV.mk hG (by decide) [(0, .ref (ad G 81))] rfl (Nat.le_of_ble_eq_true rfl) (fun X O hlX hR => ?_)
  subst hlX
  refine J.iconst (q := 1) (v := (0 : Int32)) O dX8_countNoneBroken_0 rfl rfl ?_
  refine J.istore_n (q := 2) O dX8_countNoneBroken_1 rfl [(1, .int (0 : Int32)), (0, .ref (ad G 81))] (by decide) rfl ?_
  exact J.sub [1, 0] rfl (j_X8_countNoneBroken_c2 hG O hR h)
set_option maxHeartbeats 4000000 in
set_option maxRecDepth 20000 in
theorem j_X8_canBe_b40 {X : CX} {G : GX} {K : Int32 → Mem → Prop} (hG : Gd G) (O : Ok X G cX8_canBe 3 RX8 20) (hR : RetZ X G cX8_canBe K) {s0 : Int32} {M : Mem} (h : f_X8_canBe_b40 K s0 M) : J X G M 40 [] [.int s0] := by
  unfold f_X8_canBe_b40 at h
  exact hR _ _ _ _ dX8_canBe_40 h.1 h.2
set_option maxHeartbeats 4000000 in
set_option maxRecDepth 20000 in
theorem c_X8_canBe {l : Launch} {G : GX} (hG : Gd G) {a1 : Int32} {a2 : Int32} {M : Mem} {K : Int32 → Mem → Prop} (h : f_X8_canBe a1 a2 M K) : CI l G yX8_canBe cX8_canBe 3 (some .boolean) 20 [.ref (ad G 81), .int a1, .int a2] M K := by
  unfold f_X8_canBe at h
  refine CZ.mk hG (by decide) [(0, .ref (ad G 81)), (1, .int a1), (2, .int a2)] rfl (Nat.le_of_ble_eq_true rfl) (fun X O hlX hR => ?_)
  subst hlX
  refine J.aload_n (q := 1) O dX8_canBe_0 rfl 0 rfl ?_
  refine J.callVV (q := 4) [] [] [.ref (ad G 81)] rfl O dX8_canBe_1 rfl (c_X8_forget hG h) wd_5_163 mw_X8_forget io_81 rfl (by decide) (Nat.le_of_ble_eq_true rfl) (fun M2 h => ?_)
  refine J.aload_n (q := 5) O dX8_canBe_4 rfl 0 rfl ?_
  refine J.iload_n (q := 6) O dX8_canBe_5 rfl 1 rfl ?_
  refine J.putI (q := 9) (c' := 81) (ci := 8) (k := 2) O dX8_canBe_6 rfl wd_2_78 (by decide) if_81_2 rfl rfl ?_
  refine J.aload_n (q := 10) O dX8_canBe_9 rfl 0 rfl ?_
  refine J.iload_n (q := 11) O dX8_canBe_10 rfl 2 rfl ?_
  refine J.putI (q := 14) (c' := 81) (ci := 8) (k := 3) O dX8_canBe_11 rfl wd_2_79 (by decide) if_81_3 rfl rfl ?_
  refine J.aload_n (q := 15) O dX8_canBe_14 rfl 0 rfl ?_
  refine J.callVV (q := 18) [] [] [.ref (ad G 81)] rfl O dX8_canBe_15 rfl (c_X8_listArrangements hG h) wd_5_86 mw_X8_listArrangements io_81 rfl (by decide) (Nat.le_of_ble_eq_true rfl) (fun M3 h => ?_)
  refine J.aload_n (q := 19) O dX8_canBe_18 rfl 0 rfl ?_
  refine J.callVV (q := 22) [] [] [.ref (ad G 81)] rfl O dX8_canBe_19 rfl (c_X8_countNoneBroken hG h) wd_5_164 mw_X8_countNoneBroken io_81 rfl (by decide) (Nat.le_of_ble_eq_true rfl) (fun M4 h => ?_)
  refine J.aload_n (q := 23) O dX8_canBe_22 rfl 0 rfl ?_
  refine J.callVV (q := 26) [] [] [.ref (ad G 81)] rfl O dX8_canBe_23 rfl (c_X8_search hG h) wd_5_111 mw_X8_search io_81 rfl (by decide) (Nat.le_of_ble_eq_true rfl) (fun M5 h => ?_)
  refine J.aload_n (q := 27) O dX8_canBe_26 rfl 0 rfl ?_
  refine J.getI (q := 30) (c' := 81) (ci := 8) (k := 12) (M5 81 12) rfl O dX8_canBe_27 rfl wd_2_88 (by decide) if_81_12 ?_
  refine J.bipush (q := 32) (v := (-9 : Int32)) O dX8_canBe_30 rfl rfl ?_
  refine J.icmp_eq (q := 35) (tgt := 39) O dX8_canBe_32 rfl (by decide) (fun z6 => ?_) (fun z6 => ?_)
  · replace h := h.1 z6
    refine J.iconst (q := 40) (v := (0 : Int32)) O dX8_canBe_39 rfl rfl ?_
    exact J.sub [] rfl (j_X8_canBe_b40 hG O hR h)
  · replace h := h.2 z6
    refine J.iconst (q := 36) (v := (1 : Int32)) O dX8_canBe_35 rfl rfl ?_
    refine J.goto (q := 40) O dX8_canBe_36 (by decide) ?_
    exact J.sub [] rfl (j_X8_canBe_b40 hG O hR h)
set_option maxHeartbeats 4000000 in
set_option maxRecDepth 20000 in
theorem j_X11_bars_c53 {X : CX} {G : GX} {K : Int32 → Mem → Prop} (hG : Gd G) (O : Ok X G cX11_bars 3 RX11 21) (hR : RetI X G cX11_bars K) {a : Int32 × Mem} (h : Lp (fun (r53 : Int32 × Mem → Prop) a => f_X11_bars_c53 K r53 a.1 a.2) a) : J X G a.2 53 [(0, .ref (ad G 0)), (2, .int a.1)] [] := by
  refine Lp.elim (P := fun a => J X G a.2 53 [(0, .ref (ad G 0)), (2, .int a.1)] []) ?_ h
  clear h
  intro r53 hr53 a h
  obtain ⟨x2, M⟩ := a
  unfold f_X11_bars_c53 at h
  (try dsimp only at h ⊢)
  refine J.iload_n (q := 54) O dX11_bars_53 rfl 1 rfl ?_
  refine J.gets (q := 57) (k := 3) O dX11_bars_54 rfl (by decide) wd_5_168 ?_
  refine J.slen (q := 58) O dX11_bars_57 rfl (by decide) ?_
  refine J.icmp_ge (q := 61) (tgt := 94) O dX11_bars_58 rfl (by decide) (fun z3 => ?_) (fun z3 => ?_)
  · replace h := h.1 z3
    refine J.bipush (q := 96) (v := (7 : Int32)) O dX11_bars_94 rfl rfl ?_
    exact hR _ _ _ _ dX11_bars_96 h
  · replace h := h.2 z3
    refine J.aload_n (q := 62) O dX11_bars_61 rfl 0 rfl ?_
    refine J.getR (q := 65) (c' := 0) (ci := 11) (k := 8) (r := 81) O dX11_bars_62 rfl wd_3_10 (by decide) if_0_8 ?_
    refine J.gets (q := 68) (k := 3) O dX11_bars_65 rfl (by decide) wd_5_168 ?_
    refine J.iload_n (q := 69) O dX11_bars_68 rfl 1 rfl ?_
    obtain ⟨hv4, h⟩ := h
    refine J.sald (q := 70) O dX11_bars_69 rfl (by decide) hv4 ?_
    refine J.aload_n (q := 71) O dX11_bars_70 rfl 0 rfl ?_
    refine J.getR (q := 74) (c' := 0) (ci := 11) (k := 12) (r := 124) O dX11_bars_71 rfl wd_3_14 (by decide) if_0_12 ?_
    refine J.iconst (q := 75) (v := (4 : Int32)) O dX11_bars_74 rfl rfl ?_
    refine J.iald (q := 76) (c' := 124) (j := 4) (M 124 4) rfl O dX11_bars_75 rfl ar_124 (vin_lit (by decide)) (by decide) ?_
    refine J.callVI (q := 79) [.int (sv 3 x2.toNatClampNeg), .int (M 124 4)] [] [.int (M 124 4), .int (sv 3 x2.toNatClampNeg), .ref (ad G 81)] rfl O dX11_bars_76 rfl (c_X8_canBe hG h) wd_5_159 mw_X8_canBe io_81 rfl (by decide) (Nat.le_of_ble_eq_true rfl) (fun v5 M5 h => ?_)
    refine J.if_ne (q := 82) (tgt := 88) O dX11_bars_79 rfl (by decide) (fun z6 => ?_) (fun z6 => ?_)
    · replace h := h.1 z6
      refine J.iinc (q := 91) O dX11_bars_88 rfl [(2, .int (x2 + (1 : Int32))), (0, .ref (ad G 0))] 1 rfl rfl (by decide) rfl ?_
      refine J.goto (q := 53) O dX11_bars_91 (by decide) ?_
      exact J.sub [1, 0] rfl (hr53 _ h)
    · replace h := h.2 z6
      refine J.gets (q := 85) (k := 3) O dX11_bars_82 rfl (by decide) wd_5_168 ?_
      refine J.iload_n (q := 86) O dX11_bars_85 rfl 1 rfl ?_
      obtain ⟨hv7, h⟩ := h
      refine J.sald (q := 87) O dX11_bars_86 rfl (by decide) hv7 ?_
      exact hR _ _ _ _ dX11_bars_87 h
set_option maxHeartbeats 4000000 in
set_option maxRecDepth 20000 in
theorem c_X11_bars {l : Launch} {G : GX} (hG : Gd G) {a1 : Int32} {M : Mem} {K : Int32 → Mem → Prop} (h : f_X11_bars a1 M K) : CI l G yX11_bars cX11_bars 3 (some .int) 21 [.ref (ad G 0), .int a1] M K := by
  unfold f_X11_bars at h
  refine CI.mk hG (by decide) [(0, .ref (ad G 0)), (1, .int a1)] rfl (Nat.le_of_ble_eq_true rfl) (fun X O hlX hR => ?_)
  subst hlX
  refine J.iload_n (q := 1) O dX11_bars_0 rfl 1 rfl ?_
  refine J.callSI (q := 4) [.int a1] [] [.int a1] rfl O dX11_bars_1 rfl (c_X11_isShop hG h) wd_3_88 mw_X11_isShop rfl (by decide) (Nat.le_of_ble_eq_true rfl) (fun v8 M8 h => ?_)
  refine J.if_ne (q := 7) (tgt := 13) O dX11_bars_4 rfl (by decide) (fun z9 => ?_) (fun z9 => ?_)
  · replace h := h.1 z9
    refine J.aload_n (q := 14) O dX11_bars_13 rfl 0 rfl ?_
    refine J.getR (q := 17) (c' := 0) (ci := 11) (k := 1) (r := 4) O dX11_bars_14 rfl wd_3_3 (by decide) if_0_1 ?_
    refine J.iconst (q := 18) (v := (1 : Int32)) O dX11_bars_17 rfl rfl ?_
    refine J.iload_n (q := 19) O dX11_bars_18 rfl 1 rfl ?_
    refine J.ishl (q := 20) O dX11_bars_19 rfl ?_
    refine J.callVI (q := 23) [.int ((1 : Int32) <<< (a1 &&& 31))] [] [.int ((1 : Int32) <<< (a1 &&& 31)), .ref (ad G 4)] rfl O dX11_bars_20 rfl (c_X9_hereIn hG h) wd_3_218 mw_X9_hereIn io_4 rfl (by decide) (Nat.le_of_ble_eq_true rfl) (fun v10 M10 h => ?_)
    refine J.iconst (q := 24) (v := (4 : Int32)) O dX11_bars_23 rfl rfl ?_
    refine J.icmp_ge (q := 27) (tgt := 30) O dX11_bars_24 rfl (by decide) (fun z11 => ?_) (fun z11 => ?_)
    · replace h := h.1 z11
      refine J.aload_n (q := 31) O dX11_bars_30 rfl 0 rfl ?_
      refine J.getR (q := 34) (c' := 0) (ci := 11) (k := 8) (r := 81) O dX11_bars_31 rfl wd_3_10 (by decide) if_0_8 ?_
      refine J.bipush (q := 36) (v := (7 : Int32)) O dX11_bars_34 rfl rfl ?_
      refine J.aload_n (q := 37) O dX11_bars_36 rfl 0 rfl ?_
      refine J.getR (q := 40) (c' := 0) (ci := 11) (k := 12) (r := 124) O dX11_bars_37 rfl wd_3_14 (by decide) if_0_12 ?_
      refine J.iconst (q := 41) (v := (4 : Int32)) O dX11_bars_40 rfl rfl ?_
      refine J.iald (q := 42) (c' := 124) (j := 4) (M10 124 4) rfl O dX11_bars_41 rfl ar_124 (vin_lit (by decide)) (by decide) ?_
      refine J.callVI (q := 45) [.int (7 : Int32), .int (M10 124 4)] [] [.int (M10 124 4), .int (7 : Int32), .ref (ad G 81)] rfl O dX11_bars_42 rfl (c_X8_canBe hG h) wd_5_159 mw_X8_canBe io_81 rfl (by decide) (Nat.le_of_ble_eq_true rfl) (fun v12 M12 h => ?_)
      refine J.if_eq (q := 48) (tgt := 51) O dX11_bars_45 rfl (by decide) (fun z13 => ?_) (fun z13 => ?_)
      · replace h := h.1 z13
        refine J.iconst (q := 52) (v := (0 : Int32)) O dX11_bars_51 rfl rfl ?_
        refine J.istore_n (q := 53) O dX11_bars_52 rfl [(2, .int (0 : Int32)), (0, .ref (ad G 0)), (1, .int a1)] (by decide) rfl ?_
        exact J.sub [1, 0] rfl (j_X11_bars_c53 hG O hR h)
      · replace h := h.2 z13
        refine J.bipush (q := 50) (v := (-9 : Int32)) O dX11_bars_48 rfl rfl ?_
        exact hR _ _ _ _ dX11_bars_50 h
    · replace h := h.2 z11
      refine J.bipush (q := 29) (v := (-8 : Int32)) O dX11_bars_27 rfl rfl ?_
      exact hR _ _ _ _ dX11_bars_29 h
  · replace h := h.2 z9
    refine J.aload_n (q := 8) O dX11_bars_7 rfl 0 rfl ?_
    refine J.iconst (q := 9) (v := (-1 : Int32)) O dX11_bars_8 rfl rfl ?_
    refine J.callVI (q := 12) [.int (-1 : Int32)] [] [.int (-1 : Int32), .ref (ad G 0)] rfl O dX11_bars_9 rfl (c_X11_refuse hG h) wd_3_55 mw_X11_refuse io_0 rfl (by decide) (Nat.le_of_ble_eq_true rfl) (fun v14 M14 h => ?_)
    exact hR _ _ _ _ dX11_bars_12 h
set_option maxHeartbeats 4000000 in
set_option maxRecDepth 20000 in
theorem c_X10_add {l : Launch} {G : GX} (hG : Gd G) {a1 : Int32} {a2 : Int32} {a3 : Int32} {M : Mem} {K : Int32 → Mem → Prop} (h : f_X10_add a1 a2 a3 M K) : CI l G yX10_add cX10_add 4 (some .int) 1 [.ref (ad G 97), .int a1, .int a2, .int a3] M K := by
  unfold f_X10_add at h
  refine CI.mk hG (by decide) [(0, .ref (ad G 97)), (1, .int a1), (2, .int a2), (3, .int a3)] rfl (Nat.le_of_ble_eq_true rfl) (fun X O hlX hR => ?_)
  subst hlX
  refine J.aload_n (q := 1) O dX10_add_0 rfl 0 rfl ?_
  refine J.getR (q := 4) (c' := 97) (ci := 10) (k := 0) (r := 98) O dX10_add_1 rfl wd_2_136 (by decide) if_97_0 ?_
  refine J.iload_n (q := 5) O dX10_add_4 rfl 1 rfl ?_
  obtain ⟨hv11, h⟩ := h
  refine J.iald (q := 6) (c' := 98) (j := a1.toNatClampNeg) (M 98 a1.toNatClampNeg) rfl O dX10_add_5 rfl ar_98 hv11 rfl ?_
  refine J.bipush (q := 8) (v := (12 : Int32)) O dX10_add_6 rfl rfl ?_
  refine J.icmp_lt (q := 11) (tgt := 14) O dX10_add_8 rfl (by decide) (fun z12 => ?_) (fun z12 => ?_)
  · replace h := h.1 z12
    refine J.aload_n (q := 15) O dX10_add_14 rfl 0 rfl ?_
    refine J.getR (q := 18) (c' := 97) (ci := 10) (k := 1) (r := 99) O dX10_add_15 rfl wd_2_138 (by decide) if_97_1 ?_
    refine J.iload_n (q := 19) O dX10_add_18 rfl 1 rfl ?_
    obtain ⟨hv13, h⟩ := h
    refine J.aald (q := 20) (t := 2) (c' := 99) (b := 100) (d := 1) O dX10_add_19 rfl ar_99 hv13 ?_
    refine J.aload_n (q := 21) O dX10_add_20 rfl 0 rfl ?_
    refine J.getR (q := 24) (c' := 97) (ci := 10) (k := 0) (r := 98) O dX10_add_21 rfl wd_2_136 (by decide) if_97_0 ?_
    refine J.iload_n (q := 25) O dX10_add_24 rfl 1 rfl ?_
    obtain ⟨hv14, h⟩ := h
    refine J.iald (q := 26) (c' := 98) (j := a1.toNatClampNeg) (M 98 a1.toNatClampNeg) rfl O dX10_add_25 rfl ar_98 hv14 rfl ?_
    refine J.iload_n (q := 27) O dX10_add_26 rfl 2 rfl ?_
    obtain ⟨hv15, h⟩ := h
    refine J.iast (q := 28) (c' := (100 + 1 * a1.toNatClampNeg)) (j := (M 98 a1.toNatClampNeg).toNatClampNeg) O dX10_add_27 rfl (row_99 hv13) hv15 rfl ?_
    refine J.aload_n (q := 29) O dX10_add_28 rfl 0 rfl ?_
    refine J.getR (q := 32) (c' := 97) (ci := 10) (k := 2) (r := 105) O dX10_add_29 rfl wd_2_139 (by decide) if_97_2 ?_
    refine J.iload_n (q := 33) O dX10_add_32 rfl 1 rfl ?_
    obtain ⟨hv16, h⟩ := h
    refine J.aald (q := 34) (t := 2) (c' := 105) (b := 106) (d := 1) O dX10_add_33 rfl ar_105 hv16 ?_
    refine J.aload_n (q := 35) O dX10_add_34 rfl 0 rfl ?_
    refine J.getR (q := 38) (c' := 97) (ci := 10) (k := 0) (r := 98) O dX10_add_35 rfl wd_2_136 (by decide) if_97_0 ?_
    refine J.iload_n (q := 39) O dX10_add_38 rfl 1 rfl ?_
    obtain ⟨hv17, h⟩ := h
    refine J.iald (q := 40) (c' := 98) (j := a1.toNatClampNeg) ((mset M (100 + 1 * a1.toNatClampNeg) ((M 98 a1.toNatClampNeg).toNatClampNeg) a2) 98 a1.toNatClampNeg) rfl O dX10_add_39 rfl ar_98 hv17 rfl ?_
    refine J.iload_n (q := 41) O dX10_add_40 rfl 3 rfl ?_
    obtain ⟨hv18, h⟩ := h
    refine J.iast (q := 42) (c' := (106 + 1 * a1.toNatClampNeg)) (j := ((mset M (100 + 1 * a1.toNatClampNeg) ((M 98 a1.toNatClampNeg).toNatClampNeg) a2) 98 a1.toNatClampNeg).toNatClampNeg) O dX10_add_41 rfl (row_105 hv16) hv18 rfl ?_
    refine J.aload_n (q := 43) O dX10_add_42 rfl 0 rfl ?_
    refine J.getR (q := 46) (c' := 97) (ci := 10) (k := 0) (r := 98) O dX10_add_43 rfl wd_2_136 (by decide) if_97_0 ?_
    refine J.iload_n (q := 47) O dX10_add_46 rfl 1 rfl ?_
    refine J.dup2 (q := 48) O dX10_add_47 rfl rfl rfl ?_
    obtain ⟨hv19, h⟩ := h
    refine J.iald (q := 49) (c' := 98) (j := a1.toNatClampNeg) ((mset (mset M (100 + 1 * a1.toNatClampNeg) ((M 98 a1.toNatClampNeg).toNatClampNeg) a2) (106 + 1 * a1.toNatClampNeg) (((mset M (100 + 1 * a1.toNatClampNeg) ((M 98 a1.toNatClampNeg).toNatClampNeg) a2) 98 a1.toNatClampNeg).toNatClampNeg) a3) 98 a1.toNatClampNeg) rfl O dX10_add_48 rfl ar_98 hv19 rfl ?_
    refine J.iconst (q := 50) (v := (1 : Int32)) O dX10_add_49 rfl rfl ?_
    refine J.iadd (q := 51) O dX10_add_50 rfl ?_
    obtain ⟨hv20, h⟩ := h
    refine J.iast (q := 52) (c' := 98) (j := a1.toNatClampNeg) O dX10_add_51 rfl ar_98 hv20 rfl ?_
    refine J.aload_n (q := 53) O dX10_add_52 rfl 0 rfl ?_
    refine J.getR (q := 56) (c' := 97) (ci := 10) (k := 0) (r := 98) O dX10_add_53 rfl wd_2_136 (by decide) if_97_0 ?_
    refine J.iload_n (q := 57) O dX10_add_56 rfl 1 rfl ?_
    obtain ⟨hv21, h⟩ := h
    refine J.iald (q := 58) (c' := 98) (j := a1.toNatClampNeg) ((mset (mset (mset M (100 + 1 * a1.toNatClampNeg) ((M 98 a1.toNatClampNeg).toNatClampNeg) a2) (106 + 1 * a1.toNatClampNeg) (((mset M (100 + 1 * a1.toNatClampNeg) ((M 98 a1.toNatClampNeg).toNatClampNeg) a2) 98 a1.toNatClampNeg).toNatClampNeg) a3) 98 a1.toNatClampNeg (((mset (mset M (100 + 1 * a1.toNatClampNeg) ((M 98 a1.toNatClampNeg).toNatClampNeg) a2) (106 + 1 * a1.toNatClampNeg) (((mset M (100 + 1 * a1.toNatClampNeg) ((M 98 a1.toNatClampNeg).toNatClampNeg) a2) 98 a1.toNatClampNeg).toNatClampNeg) a3) 98 a1.toNatClampNeg) + (1 : Int32))) 98 a1.toNatClampNeg) rfl O dX10_add_57 rfl ar_98 hv21 rfl ?_
    exact hR _ _ _ _ dX10_add_58 h
  · replace h := h.2 z12
    refine J.bipush (q := 13) (v := (-6 : Int32)) O dX10_add_11 rfl rfl ?_
    exact hR _ _ _ _ dX10_add_13 h
set_option maxHeartbeats 4000000 in
set_option maxRecDepth 20000 in
theorem j_X11_study_b9 {X : CX} {G : GX} {K : Int32 → Mem → Prop} (hG : Gd G) (O : Ok X G cX11_study 4 RX11 2) (hR : RetI X G cX11_study K) {M : Mem} (h : f_X11_study_b9 K  M) : J X G M 9 [(0, .ref (ad G 0))] [] := by
  unfold f_X11_study_b9 at h
  refine J.aload_n (q := 10) O dX11_study_9 rfl 0 rfl ?_
  refine J.iconst (q := 11) (v := (-1 : Int32)) O dX11_study_10 rfl rfl ?_
  refine J.callVI (q := 14) [.int (-1 : Int32)] [] [.int (-1 : Int32), .ref (ad G 0)] rfl O dX11_study_11 rfl (c_X11_refuse hG h) wd_3_55 mw_X11_refuse io_0 rfl (by decide) (Nat.le_of_ble_eq_true rfl) (fun v2 M2 h => ?_)
  exact hR _ _ _ _ dX11_study_14 h
set_option maxHeartbeats 4000000 in
set_option maxRecDepth 20000 in
theorem c_X11_study {l : Launch} {G : GX} (hG : Gd G) {a1 : Int32} {a2 : Int32} {M : Mem} {K : Int32 → Mem → Prop} (h : f_X11_study a1 a2 M K) : CI l G yX11_study cX11_study 4 (some .int) 2 [.ref (ad G 0), .int a1, .int a2] M K := by
  unfold f_X11_study at h
  refine CI.mk hG (by decide) [(0, .ref (ad G 0)), (1, .int a1), (2, .int a2)] rfl (Nat.le_of_ble_eq_true rfl) (fun X O hlX hR => ?_)
  subst hlX
  refine J.iload_n (q := 1) O dX11_study_0 rfl 1 rfl ?_
  refine J.if_lt (q := 4) (tgt := 9) O dX11_study_1 rfl (by decide) (fun z3 => ?_) (fun z3 => ?_)
  · replace h := h.1 z3
    exact J.sub [0] rfl (j_X11_study_b9 hG O hR h)
  · replace h := h.2 z3
    refine J.iload_n (q := 5) O dX11_study_4 rfl 1 rfl ?_
    refine J.iconst (q := 6) (v := (5 : Int32)) O dX11_study_5 rfl rfl ?_
    refine J.icmp_lt (q := 9) (tgt := 15) O dX11_study_6 rfl (by decide) (fun z4 => ?_) (fun z4 => ?_)
    · replace h := h.1 z4
      refine J.iload_n (q := 16) O dX11_study_15 rfl 2 rfl ?_
      refine J.iconst (q := 17) (v := (1 : Int32)) O dX11_study_16 rfl rfl ?_
      refine J.sipush (q := 20) (v := (999 : Int32)) O dX11_study_17 rfl rfl ?_
      refine J.callSI (q := 23) [.int a2, .int (1 : Int32), .int (999 : Int32)] [] [.int (999 : Int32), .int (1 : Int32), .int a2] rfl O dX11_study_20 rfl (c_X11_outside hG h) wd_3_63 mw_X11_outside rfl (by decide) (Nat.le_of_ble_eq_true rfl) (fun v5 M5 h => ?_)
      refine J.aload_n (q := 24) O dX11_study_23 rfl 0 rfl ?_
      refine J.getR (q := 27) (c' := 0) (ci := 11) (k := 9) (r := 97) O dX11_study_24 rfl wd_3_11 (by decide) if_0_9 ?_
      refine J.getR (q := 30) (c' := 97) (ci := 10) (k := 0) (r := 98) O dX11_study_27 rfl wd_2_137 (by decide) if_97_0 ?_
      refine J.iload_n (q := 31) O dX11_study_30 rfl 1 rfl ?_
      obtain ⟨hv6, h⟩ := h
      refine J.iald (q := 32) (c' := 98) (j := a1.toNatClampNeg) (M5 98 a1.toNatClampNeg) rfl O dX11_study_31 rfl ar_98 hv6 rfl ?_
      refine J.bipush (q := 34) (v := (12 : Int32)) O dX11_study_32 rfl rfl ?_
      refine J.callSI (q := 37) [.int (M5 98 a1.toNatClampNeg), .int (12 : Int32)] [.int v5] [.int (12 : Int32), .int (M5 98 a1.toNatClampNeg), .int v5] rfl O dX11_study_34 rfl (c_X11_fullAt hG h) wd_3_91 mw_X11_fullAt rfl (by decide) (Nat.le_of_ble_eq_true rfl) (fun v7 M7 h => ?_)
      refine J.callSI (q := 40) [.int v5, .int v7] [] [.int v7, .int v5] rfl O dX11_study_37 rfl (c_X11_worse hG h) wd_3_74 mw_X11_worse rfl (by decide) (Nat.le_of_ble_eq_true rfl) (fun v8 M8 h => ?_)
      refine J.istore_n (q := 41) O dX11_study_40 rfl [(3, .int v8), (0, .ref (ad G 0)), (1, .int a1), (2, .int a2)] (by decide) rfl ?_
      refine J.iload_n (q := 42) O dX11_study_41 rfl 0 rfl ?_
      refine J.if_eq (q := 45) (tgt := 51) O dX11_study_42 rfl (by decide) (fun z9 => ?_) (fun z9 => ?_)
      · replace h := h.1 z9
        refine J.aload_n (q := 52) O dX11_study_51 rfl 1 rfl ?_
        refine J.getR (q := 55) (c' := 0) (ci := 11) (k := 9) (r := 97) O dX11_study_52 rfl wd_3_11 (by decide) if_0_9 ?_
        refine J.iload_n (q := 56) O dX11_study_55 rfl 2 rfl ?_
        refine J.iload_n (q := 57) O dX11_study_56 rfl 3 rfl ?_
        refine J.aload_n (q := 58) O dX11_study_57 rfl 1 rfl ?_
        refine J.getR (q := 61) (c' := 0) (ci := 11) (k := 0) (r := 1) O dX11_study_58 rfl wd_3_2 (by decide) if_0_0 ?_
        refine J.getI (q := 64) (c' := 1) (ci := 3) (k := 0) (M8 1 0) rfl O dX11_study_61 rfl wd_1_31 (by decide) if_1_0 ?_
        refine J.callVI (q := 67) [.int a1, .int a2, .int (M8 1 0)] [] [.int (M8 1 0), .int a2, .int a1, .ref (ad G 97)] rfl O dX11_study_64 rfl (c_X10_add hG h) wd_5_174 mw_X10_add io_97 rfl (by decide) (Nat.le_of_ble_eq_true rfl) (fun v10 M10 h => ?_)
        exact hR _ _ _ _ dX11_study_67 h
      · replace h := h.2 z9
        refine J.aload_n (q := 46) O dX11_study_45 rfl 1 rfl ?_
        refine J.iload_n (q := 47) O dX11_study_46 rfl 0 rfl ?_
        refine J.callVI (q := 50) [.int v8] [] [.int v8, .ref (ad G 0)] rfl O dX11_study_47 rfl (c_X11_refuse hG h) wd_3_55 mw_X11_refuse io_0 rfl (by decide) (Nat.le_of_ble_eq_true rfl) (fun v11 M11 h => ?_)
        exact hR _ _ _ _ dX11_study_50 h
    · replace h := h.2 z4
      exact J.sub [0] rfl (j_X11_study_b9 hG O hR h)
set_option maxHeartbeats 4000000 in
set_option maxRecDepth 20000 in
theorem j_X10_timeOn_b88 {X : CX} {G : GX} {K : Int32 → Mem → Prop} (hG : Gd G) (O : Ok X G cX10_timeOn 8 RX10 1) (hR : RetI X G cX10_timeOn K) {r15 : Int32 × Int32 × Int32 × Int32 × Int32 × Int32 × Int32 × Mem → Prop} (hr15 : ∀ a : Int32 × Int32 × Int32 × Int32 × Int32 × Int32 × Int32 × Mem, r15 a → J X G a.2.2.2.2.2.2.2 15 [(0, .ref (ad G 97)), (1, .int a.1), (2, .int a.2.1), (3, .int a.2.2.1), (4, .int a.2.2.2.1), (5, .int a.2.2.2.2.1), (6, .int a.2.2.2.2.2.1), (7, .int a.2.2.2.2.2.2.1)] []) {x1 : Int32} {x2 : Int32} {x3 : Int32} {x4 : Int32} {x5 : Int32} {x6 : Int32} {x7 : Int32} {M : Mem} (h : f_X10_timeOn_b88 r15 K x1 x2 x3 x4 x5 x6 x7 M) : J X G M 88 [(0, .ref (ad G 97)), (1, .int x1), (2, .int x2), (3, .int x3), (4, .int x4), (5, .int x5), (6, .int x6), (7, .int x7)] [] := by
  unfold f_X10_timeOn_b88 at h
  refine J.iinc (q := 91) O dX10_timeOn_88 rfl [(7, .int (x7 + (1 : Int32))), (0, .ref (ad G 97)), (1, .int x1), (2, .int x2), (3, .int x3), (4, .int x4), (5, .int x5), (6, .int x6)] 7 rfl rfl (by decide) rfl ?_
  refine J.goto (q := 15) O dX10_timeOn_91 (by decide) ?_
  exact J.sub [1, 2, 3, 4, 5, 6, 7, 0] rfl (hr15 _ h)
set_option maxHeartbeats 4000000 in
set_option maxRecDepth 20000 in
theorem j_X10_timeOn_b116 {X : CX} {G : GX} {K : Int32 → Mem → Prop} (hG : Gd G) (O : Ok X G cX10_timeOn 8 RX10 1) (hR : RetI X G cX10_timeOn K) {s0 : Int32} {M : Mem} (h : f_X10_timeOn_b116 K s0 M) : J X G M 116 [] [.int s0] := by
  unfold f_X10_timeOn_b116 at h
  exact hR _ _ _ _ dX10_timeOn_116 h
set_option maxHeartbeats 4000000 in
set_option maxRecDepth 20000 in
theorem j_X10_timeOn_c15 {X : CX} {G : GX} {K : Int32 → Mem → Prop} (hG : Gd G) (O : Ok X G cX10_timeOn 8 RX10 1) (hR : RetI X G cX10_timeOn K) {a : Int32 × Int32 × Int32 × Int32 × Int32 × Int32 × Int32 × Mem} (h : Lp (fun (r15 : Int32 × Int32 × Int32 × Int32 × Int32 × Int32 × Int32 × Mem → Prop) a => f_X10_timeOn_c15 K r15 a.1 a.2.1 a.2.2.1 a.2.2.2.1 a.2.2.2.2.1 a.2.2.2.2.2.1 a.2.2.2.2.2.2.1 a.2.2.2.2.2.2.2) a) : J X G a.2.2.2.2.2.2.2 15 [(0, .ref (ad G 97)), (1, .int a.1), (2, .int a.2.1), (3, .int a.2.2.1), (4, .int a.2.2.2.1), (5, .int a.2.2.2.2.1), (6, .int a.2.2.2.2.2.1), (7, .int a.2.2.2.2.2.2.1)] [] := by
  refine Lp.elim (P := fun a => J X G a.2.2.2.2.2.2.2 15 [(0, .ref (ad G 97)), (1, .int a.1), (2, .int a.2.1), (3, .int a.2.2.1), (4, .int a.2.2.2.1), (5, .int a.2.2.2.2.1), (6, .int a.2.2.2.2.2.1), (7, .int a.2.2.2.2.2.2.1)] []) ?_ h
  clear h
  intro r15 hr15 a h
  obtain ⟨x1, x2, x3, x4, x5, x6, x7, M⟩ := a
  unfold f_X10_timeOn_c15 at h
  (try dsimp only at h ⊢)
  refine J.iload (q := 17) O dX10_timeOn_15 rfl 7 rfl ?_
  refine J.aload_n (q := 18) O dX10_timeOn_17 rfl 0 rfl ?_
  refine J.getR (q := 21) (c' := 97) (ci := 10) (k := 0) (r := 98) O dX10_timeOn_18 rfl wd_2_136 (by decide) if_97_0 ?_
  refine J.iload_n (q := 22) O dX10_timeOn_21 rfl 1 rfl ?_
  obtain ⟨hv11, h⟩ := h
  refine J.iald (q := 23) (c' := 98) (j := x1.toNatClampNeg) (M 98 x1.toNatClampNeg) rfl O dX10_timeOn_22 rfl ar_98 hv11 rfl ?_
  refine J.icmp_ge (q := 26) (tgt := 94) O dX10_timeOn_23 rfl (by decide) (fun z12 => ?_) (fun z12 => ?_)
  · replace h := h.1 z12
    refine J.iload_n (q := 95) O dX10_timeOn_94 rfl 3 rfl ?_
    refine J.iconst (q := 96) (v := (3 : Int32)) O dX10_timeOn_95 rfl rfl ?_
    refine J.icmp_ge (q := 99) (tgt := 104) O dX10_timeOn_96 rfl (by decide) (fun z13 => ?_) (fun z13 => ?_)
    · replace h := h.1 z13
      refine J.iload (q := 106) O dX10_timeOn_104 rfl 4 rfl ?_
      refine J.iload (q := 108) O dX10_timeOn_106 rfl 5 rfl ?_
      refine J.isub (q := 109) O dX10_timeOn_108 rfl ?_
      refine J.iload (q := 111) O dX10_timeOn_109 rfl 6 rfl ?_
      refine J.isub (q := 112) O dX10_timeOn_111 rfl ?_
      refine J.iload_n (q := 113) O dX10_timeOn_112 rfl 3 rfl ?_
      refine J.iconst (q := 114) (v := (2 : Int32)) O dX10_timeOn_113 rfl rfl ?_
      refine J.isub (q := 115) O dX10_timeOn_114 rfl ?_
      obtain ⟨hz14, h⟩ := h
      refine J.idiv (q := 116) O dX10_timeOn_115 rfl hz14 ?_
      exact J.sub [] rfl (j_X10_timeOn_b116 hG O hR h)
    · replace h := h.2 z13
      refine J.bipush (q := 101) (v := (-9 : Int32)) O dX10_timeOn_99 rfl rfl ?_
      refine J.goto (q := 116) O dX10_timeOn_101 (by decide) ?_
      exact J.sub [] rfl (j_X10_timeOn_b116 hG O hR h)
  · replace h := h.2 z12
    refine J.aload_n (q := 27) O dX10_timeOn_26 rfl 0 rfl ?_
    refine J.getR (q := 30) (c' := 97) (ci := 10) (k := 2) (r := 105) O dX10_timeOn_27 rfl wd_2_139 (by decide) if_97_2 ?_
    refine J.iload_n (q := 31) O dX10_timeOn_30 rfl 1 rfl ?_
    obtain ⟨hv15, h⟩ := h
    refine J.aald (q := 32) (t := 2) (c' := 105) (b := 106) (d := 1) O dX10_timeOn_31 rfl ar_105 hv15 ?_
    refine J.iload (q := 34) O dX10_timeOn_32 rfl 7 rfl ?_
    obtain ⟨hv16, h⟩ := h
    refine J.iald (q := 35) (c' := (106 + 1 * x1.toNatClampNeg)) (j := x7.toNatClampNeg) (M (106 + 1 * x1.toNatClampNeg) x7.toNatClampNeg) rfl O dX10_timeOn_34 rfl (row_105 hv15) hv16 rfl ?_
    refine J.iload_n (q := 36) O dX10_timeOn_35 rfl 2 rfl ?_
    refine J.icmp_gt (q := 39) (tgt := 88) O dX10_timeOn_36 rfl (by decide) (fun z17 => ?_) (fun z17 => ?_)
    · replace h := h.1 z17
      exact J.sub [0, 1, 2, 3, 4, 5, 6, 7] rfl (j_X10_timeOn_b88 hG O hR hr15 h)
    · replace h := h.2 z17
      refine J.iinc (q := 42) O dX10_timeOn_39 rfl [(3, .int (x3 + (1 : Int32))), (0, .ref (ad G 97)), (1, .int x1), (2, .int x2), (4, .int x4), (5, .int x5), (6, .int x6), (7, .int x7)] 3 rfl rfl (by decide) rfl ?_
      refine J.iload (q := 44) O dX10_timeOn_42 rfl 4 rfl ?_
      refine J.aload_n (q := 45) O dX10_timeOn_44 rfl 1 rfl ?_
      refine J.getR (q := 48) (c' := 97) (ci := 10) (k := 1) (r := 99) O dX10_timeOn_45 rfl wd_2_138 (by decide) if_97_1 ?_
      refine J.iload_n (q := 49) O dX10_timeOn_48 rfl 2 rfl ?_
      obtain ⟨hv18, h⟩ := h
      refine J.aald (q := 50) (t := 2) (c' := 99) (b := 100) (d := 1) O dX10_timeOn_49 rfl ar_99 hv18 ?_
      refine J.iload (q := 52) O dX10_timeOn_50 rfl 7 rfl ?_
      obtain ⟨hv19, h⟩ := h
      refine J.iald (q := 53) (c' := (100 + 1 * x1.toNatClampNeg)) (j := x7.toNatClampNeg) (M (100 + 1 * x1.toNatClampNeg) x7.toNatClampNeg) rfl O dX10_timeOn_52 rfl (row_99 hv18) hv19 rfl ?_
      refine J.iadd (q := 54) O dX10_timeOn_53 rfl ?_
      refine J.istore (q := 56) O dX10_timeOn_54 rfl [(4, .int (x4 + (M (100 + 1 * x1.toNatClampNeg) x7.toNatClampNeg))), (3, .int (x3 + (1 : Int32))), (0, .ref (ad G 97)), (1, .int x1), (2, .int x2), (5, .int x5), (6, .int x6), (7, .int x7)] (by decide) rfl ?_
      refine J.iload (q := 58) O dX10_timeOn_56 rfl 5 rfl ?_
      refine J.aload_n (q := 59) O dX10_timeOn_58 rfl 2 rfl ?_
      refine J.getR (q := 62) (c' := 97) (ci := 10) (k := 1) (r := 99) O dX10_timeOn_59 rfl wd_2_138 (by decide) if_97_1 ?_
      refine J.iload_n (q := 63) O dX10_timeOn_62 rfl 3 rfl ?_
      obtain ⟨hv20, h⟩ := h
      refine J.aald (q := 64) (t := 2) (c' := 99) (b := 100) (d := 1) O dX10_timeOn_63 rfl ar_99 hv20 ?_
      refine J.iload (q := 66) O dX10_timeOn_64 rfl 7 rfl ?_
      obtain ⟨hv21, h⟩ := h
      refine J.iald (q := 67) (c' := (100 + 1 * x1.toNatClampNeg)) (j := x7.toNatClampNeg) (M (100 + 1 * x1.toNatClampNeg) x7.toNatClampNeg) rfl O dX10_timeOn_66 rfl (row_99 hv20) hv21 rfl ?_
      refine J.mmin (q := 70) O dX10_timeOn_67 rfl wd_5_187 (by decide) (Nat.le_of_ble_eq_true rfl) ?_
      refine J.istore (q := 72) O dX10_timeOn_70 rfl [(5, .int (if (M (100 + 1 * x1.toNatClampNeg) x7.toNatClampNeg) < x5 then (M (100 + 1 * x1.toNatClampNeg) x7.toNatClampNeg) else x5)), (4, .int (x4 + (M (100 + 1 * x1.toNatClampNeg) x7.toNatClampNeg))), (3, .int (x3 + (1 : Int32))), (0, .ref (ad G 97)), (1, .int x1), (2, .int x2), (6, .int x6), (7, .int x7)] (by decide) rfl ?_
      refine J.iload (q := 74) O dX10_timeOn_72 rfl 6 rfl ?_
      refine J.aload_n (q := 75) O dX10_timeOn_74 rfl 3 rfl ?_
      refine J.getR (q := 78) (c' := 97) (ci := 10) (k := 1) (r := 99) O dX10_timeOn_75 rfl wd_2_138 (by decide) if_97_1 ?_
      refine J.iload_n (q := 79) O dX10_timeOn_78 rfl 4 rfl ?_
      obtain ⟨hv22, h⟩ := h
      refine J.aald (q := 80) (t := 2) (c' := 99) (b := 100) (d := 1) O dX10_timeOn_79 rfl ar_99 hv22 ?_
      refine J.iload (q := 82) O dX10_timeOn_80 rfl 7 rfl ?_
      obtain ⟨hv23, h⟩ := h
      refine J.iald (q := 83) (c' := (100 + 1 * x1.toNatClampNeg)) (j := x7.toNatClampNeg) (M (100 + 1 * x1.toNatClampNeg) x7.toNatClampNeg) rfl O dX10_timeOn_82 rfl (row_99 hv22) hv23 rfl ?_
      refine J.mmax (q := 86) O dX10_timeOn_83 rfl wd_5_188 (by decide) (Nat.le_of_ble_eq_true rfl) ?_
      refine J.istore (q := 88) O dX10_timeOn_86 rfl [(6, .int (if x6 < (M (100 + 1 * x1.toNatClampNeg) x7.toNatClampNeg) then (M (100 + 1 * x1.toNatClampNeg) x7.toNatClampNeg) else x6)), (5, .int (if (M (100 + 1 * x1.toNatClampNeg) x7.toNatClampNeg) < x5 then (M (100 + 1 * x1.toNatClampNeg) x7.toNatClampNeg) else x5)), (4, .int (x4 + (M (100 + 1 * x1.toNatClampNeg) x7.toNatClampNeg))), (3, .int (x3 + (1 : Int32))), (0, .ref (ad G 97)), (1, .int x1), (2, .int x2), (7, .int x7)] (by decide) rfl ?_
      exact J.sub [4, 5, 6, 3, 2, 1, 0, 7] rfl (j_X10_timeOn_b88 hG O hR hr15 h)
set_option maxHeartbeats 4000000 in
set_option maxRecDepth 20000 in
theorem c_X10_timeOn {l : Launch} {G : GX} (hG : Gd G) {a1 : Int32} {a2 : Int32} {M : Mem} {K : Int32 → Mem → Prop} (h : f_X10_timeOn a1 a2 M K) : CI l G yX10_timeOn cX10_timeOn 8 (some .int) 1 [.ref (ad G 97), .int a1, .int a2] M K := by
  unfold f_X10_timeOn at h
  refine CI.mk hG (by decide) [(0, .ref (ad G 97)), (1, .int a1), (2, .int a2)] rfl (Nat.le_of_ble_eq_true rfl) (fun X O hlX hR => ?_)
  subst hlX
  refine J.iconst (q := 1) (v := (0 : Int32)) O dX10_timeOn_0 rfl rfl ?_
  refine J.istore_n (q := 2) O dX10_timeOn_1 rfl [(3, .int (0 : Int32)), (0, .ref (ad G 97)), (1, .int a1), (2, .int a2)] (by decide) rfl ?_
  refine J.iconst (q := 3) (v := (0 : Int32)) O dX10_timeOn_2 rfl rfl ?_
  refine J.istore (q := 5) O dX10_timeOn_3 rfl [(4, .int (0 : Int32)), (3, .int (0 : Int32)), (0, .ref (ad G 97)), (1, .int a1), (2, .int a2)] (by decide) rfl ?_
  refine J.ldc (q := 7) O dX10_timeOn_5 rfl wd_5_186 ?_
  refine J.istore (q := 9) O dX10_timeOn_7 rfl [(5, .int (1000000 : Int32)), (4, .int (0 : Int32)), (3, .int (0 : Int32)), (0, .ref (ad G 97)), (1, .int a1), (2, .int a2)] (by decide) rfl ?_
  refine J.iconst (q := 10) (v := (0 : Int32)) O dX10_timeOn_9 rfl rfl ?_
  refine J.istore (q := 12) O dX10_timeOn_10 rfl [(6, .int (0 : Int32)), (5, .int (1000000 : Int32)), (4, .int (0 : Int32)), (3, .int (0 : Int32)), (0, .ref (ad G 97)), (1, .int a1), (2, .int a2)] (by decide) rfl ?_
  refine J.iconst (q := 13) (v := (0 : Int32)) O dX10_timeOn_12 rfl rfl ?_
  refine J.istore (q := 15) O dX10_timeOn_13 rfl [(7, .int (0 : Int32)), (6, .int (0 : Int32)), (5, .int (1000000 : Int32)), (4, .int (0 : Int32)), (3, .int (0 : Int32)), (0, .ref (ad G 97)), (1, .int a1), (2, .int a2)] (by decide) rfl ?_
  exact J.sub [5, 6, 7, 4, 3, 2, 1, 0] rfl (j_X10_timeOn_c15 hG O hR h)
set_option maxHeartbeats 4000000 in
set_option maxRecDepth 20000 in
theorem j_X11_time_b9 {X : CX} {G : GX} {K : Int32 → Mem → Prop} (hG : Gd G) (O : Ok X G cX11_time 4 RX11 2) (hR : RetI X G cX11_time K) {M : Mem} (h : f_X11_time_b9 K  M) : J X G M 9 [(0, .ref (ad G 0))] [] := by
  unfold f_X11_time_b9 at h
  refine J.aload_n (q := 10) O dX11_time_9 rfl 0 rfl ?_
  refine J.iconst (q := 11) (v := (-1 : Int32)) O dX11_time_10 rfl rfl ?_
  refine J.callVI (q := 14) [.int (-1 : Int32)] [] [.int (-1 : Int32), .ref (ad G 0)] rfl O dX11_time_11 rfl (c_X11_refuse hG h) wd_3_55 mw_X11_refuse io_0 rfl (by decide) (Nat.le_of_ble_eq_true rfl) (fun v1 M1 h => ?_)
  exact hR _ _ _ _ dX11_time_14 h
set_option maxHeartbeats 4000000 in
set_option maxRecDepth 20000 in
theorem c_X11_time {l : Launch} {G : GX} (hG : Gd G) {a1 : Int32} {a2 : Int32} {M : Mem} {K : Int32 → Mem → Prop} (h : f_X11_time a1 a2 M K) : CI l G yX11_time cX11_time 4 (some .int) 2 [.ref (ad G 0), .int a1, .int a2] M K := by
  unfold f_X11_time at h
  refine CI.mk hG (by decide) [(0, .ref (ad G 0)), (1, .int a1), (2, .int a2)] rfl (Nat.le_of_ble_eq_true rfl) (fun X O hlX hR => ?_)
  subst hlX
  refine J.iload_n (q := 1) O dX11_time_0 rfl 1 rfl ?_
  refine J.if_lt (q := 4) (tgt := 9) O dX11_time_1 rfl (by decide) (fun z2 => ?_) (fun z2 => ?_)
  · replace h := h.1 z2
    exact J.sub [0] rfl (j_X11_time_b9 hG O hR h)
  · replace h := h.2 z2
    refine J.iload_n (q := 5) O dX11_time_4 rfl 1 rfl ?_
    refine J.iconst (q := 6) (v := (5 : Int32)) O dX11_time_5 rfl rfl ?_
    refine J.icmp_lt (q := 9) (tgt := 15) O dX11_time_6 rfl (by decide) (fun z3 => ?_) (fun z3 => ?_)
    · replace h := h.1 z3
      refine J.iload_n (q := 16) O dX11_time_15 rfl 2 rfl ?_
      refine J.iconst (q := 17) (v := (0 : Int32)) O dX11_time_16 rfl rfl ?_
      refine J.sipush (q := 20) (v := (1000 : Int32)) O dX11_time_17 rfl rfl ?_
      refine J.callSI (q := 23) [.int a2, .int (0 : Int32), .int (1000 : Int32)] [] [.int (1000 : Int32), .int (0 : Int32), .int a2] rfl O dX11_time_20 rfl (c_X11_outside hG h) wd_3_63 mw_X11_outside rfl (by decide) (Nat.le_of_ble_eq_true rfl) (fun v4 M4 h => ?_)
      refine J.istore_n (q := 24) O dX11_time_23 rfl [(3, .int v4), (0, .ref (ad G 0)), (1, .int a1), (2, .int a2)] (by decide) rfl ?_
      refine J.iload_n (q := 25) O dX11_time_24 rfl 0 rfl ?_
      refine J.if_eq (q := 28) (tgt := 34) O dX11_time_25 rfl (by decide) (fun z5 => ?_) (fun z5 => ?_)
      · replace h := h.1 z5
        refine J.aload_n (q := 35) O dX11_time_34 rfl 1 rfl ?_
        refine J.getR (q := 38) (c' := 0) (ci := 11) (k := 9) (r := 97) O dX11_time_35 rfl wd_3_11 (by decide) if_0_9 ?_
        refine J.iload_n (q := 39) O dX11_time_38 rfl 2 rfl ?_
        refine J.iload_n (q := 40) O dX11_time_39 rfl 3 rfl ?_
        refine J.callVI (q := 43) [.int a1, .int a2] [] [.int a2, .int a1, .ref (ad G 97)] rfl O dX11_time_40 rfl (c_X10_timeOn hG h) wd_5_182 mw_X10_timeOn io_97 rfl (by decide) (Nat.le_of_ble_eq_true rfl) (fun v6 M6 h => ?_)
        exact hR _ _ _ _ dX11_time_43 h
      · replace h := h.2 z5
        refine J.aload_n (q := 29) O dX11_time_28 rfl 1 rfl ?_
        refine J.iload_n (q := 30) O dX11_time_29 rfl 0 rfl ?_
        refine J.callVI (q := 33) [.int v4] [] [.int v4, .ref (ad G 0)] rfl O dX11_time_30 rfl (c_X11_refuse hG h) wd_3_55 mw_X11_refuse io_0 rfl (by decide) (Nat.le_of_ble_eq_true rfl) (fun v7 M7 h => ?_)
        exact hR _ _ _ _ dX11_time_33 h
    · replace h := h.2 z3
      exact J.sub [0] rfl (j_X11_time_b9 hG O hR h)
set_option maxHeartbeats 4000000 in
set_option maxRecDepth 20000 in
theorem j_X11_changed_b9 {X : CX} {G : GX} {K : Int32 → Mem → Prop} (hG : Gd G) (O : Ok X G cX11_changed 6 RX11 2) (hR : RetI X G cX11_changed K) {M : Mem} (h : f_X11_changed_b9 K  M) : J X G M 9 [(0, .ref (ad G 0))] [] := by
  unfold f_X11_changed_b9 at h
  refine J.aload_n (q := 10) O dX11_changed_9 rfl 0 rfl ?_
  refine J.iconst (q := 11) (v := (-1 : Int32)) O dX11_changed_10 rfl rfl ?_
  refine J.callVI (q := 14) [.int (-1 : Int32)] [] [.int (-1 : Int32), .ref (ad G 0)] rfl O dX11_changed_11 rfl (c_X11_refuse hG h) wd_3_55 mw_X11_refuse io_0 rfl (by decide) (Nat.le_of_ble_eq_true rfl) (fun v1 M1 h => ?_)
  exact hR _ _ _ _ dX11_changed_14 h
set_option maxHeartbeats 4000000 in
set_option maxRecDepth 20000 in
theorem j_X11_changed_b85 {X : CX} {G : GX} {K : Int32 → Mem → Prop} (hG : Gd G) (O : Ok X G cX11_changed 6 RX11 2) (hR : RetI X G cX11_changed K) {s0 : Int32} {M : Mem} (h : f_X11_changed_b85 K s0 M) : J X G M 85 [] [.int s0] := by
  unfold f_X11_changed_b85 at h
  exact hR _ _ _ _ dX11_changed_85 h
set_option maxHeartbeats 4000000 in
set_option maxRecDepth 20000 in
theorem j_X11_changed_b84 {X : CX} {G : GX} {K : Int32 → Mem → Prop} (hG : Gd G) (O : Ok X G cX11_changed 6 RX11 2) (hR : RetI X G cX11_changed K) {M : Mem} (h : f_X11_changed_b84 K  M) : J X G M 84 [] [] := by
  unfold f_X11_changed_b84 at h
  refine J.iconst (q := 85) (v := (0 : Int32)) O dX11_changed_84 rfl rfl ?_
  exact J.sub [] rfl (j_X11_changed_b85 hG O hR h)
set_option maxHeartbeats 4000000 in
set_option maxRecDepth 20000 in
theorem c_X11_changed {l : Launch} {G : GX} (hG : Gd G) {a1 : Int32} {a2 : Int32} {a3 : Int32} {M : Mem} {K : Int32 → Mem → Prop} (h : f_X11_changed a1 a2 a3 M K) : CI l G yX11_changed cX11_changed 6 (some .int) 2 [.ref (ad G 0), .int a1, .int a2, .int a3] M K := by
  unfold f_X11_changed at h
  refine CI.mk hG (by decide) [(0, .ref (ad G 0)), (1, .int a1), (2, .int a2), (3, .int a3)] rfl (Nat.le_of_ble_eq_true rfl) (fun X O hlX hR => ?_)
  subst hlX
  refine J.iload_n (q := 1) O dX11_changed_0 rfl 1 rfl ?_
  refine J.if_lt (q := 4) (tgt := 9) O dX11_changed_1 rfl (by decide) (fun z2 => ?_) (fun z2 => ?_)
  · replace h := h.1 z2
    exact J.sub [0] rfl (j_X11_changed_b9 hG O hR h)
  · replace h := h.2 z2
    refine J.iload_n (q := 5) O dX11_changed_4 rfl 1 rfl ?_
    refine J.iconst (q := 6) (v := (5 : Int32)) O dX11_changed_5 rfl rfl ?_
    refine J.icmp_lt (q := 9) (tgt := 15) O dX11_changed_6 rfl (by decide) (fun z3 => ?_) (fun z3 => ?_)
    · replace h := h.1 z3
      refine J.iload_n (q := 16) O dX11_changed_15 rfl 2 rfl ?_
      refine J.iconst (q := 17) (v := (1 : Int32)) O dX11_changed_16 rfl rfl ?_
      refine J.sipush (q := 20) (v := (999 : Int32)) O dX11_changed_17 rfl rfl ?_
      refine J.callSI (q := 23) [.int a2, .int (1 : Int32), .int (999 : Int32)] [] [.int (999 : Int32), .int (1 : Int32), .int a2] rfl O dX11_changed_20 rfl (c_X11_outside hG h) wd_3_63 mw_X11_outside rfl (by decide) (Nat.le_of_ble_eq_true rfl) (fun v4 M4 h => ?_)
      refine J.iload_n (q := 24) O dX11_changed_23 rfl 3 rfl ?_
      refine J.iconst (q := 25) (v := (0 : Int32)) O dX11_changed_24 rfl rfl ?_
      refine J.sipush (q := 28) (v := (1000 : Int32)) O dX11_changed_25 rfl rfl ?_
      refine J.callSI (q := 31) [.int a3, .int (0 : Int32), .int (1000 : Int32)] [.int v4] [.int (1000 : Int32), .int (0 : Int32), .int a3, .int v4] rfl O dX11_changed_28 rfl (c_X11_outside hG h) wd_3_63 mw_X11_outside rfl (by decide) (Nat.le_of_ble_eq_true rfl) (fun v5 M5 h => ?_)
      refine J.callSI (q := 34) [.int v4, .int v5] [] [.int v5, .int v4] rfl O dX11_changed_31 rfl (c_X11_worse hG h) wd_3_74 mw_X11_worse rfl (by decide) (Nat.le_of_ble_eq_true rfl) (fun v6 M6 h => ?_)
      refine J.istore (q := 36) O dX11_changed_34 rfl [(4, .int v6), (0, .ref (ad G 0)), (1, .int a1), (2, .int a2), (3, .int a3)] (by decide) rfl ?_
      refine J.iload (q := 38) O dX11_changed_36 rfl 0 rfl ?_
      refine J.if_eq (q := 41) (tgt := 48) O dX11_changed_38 rfl (by decide) (fun z7 => ?_) (fun z7 => ?_)
      · replace h := h.1 z7
        refine J.aload_n (q := 49) O dX11_changed_48 rfl 1 rfl ?_
        refine J.getR (q := 52) (c' := 0) (ci := 11) (k := 9) (r := 97) O dX11_changed_49 rfl wd_3_11 (by decide) if_0_9 ?_
        refine J.iload_n (q := 53) O dX11_changed_52 rfl 2 rfl ?_
        refine J.iload_n (q := 54) O dX11_changed_53 rfl 4 rfl ?_
        refine J.callVI (q := 57) [.int a1, .int a3] [] [.int a3, .int a1, .ref (ad G 97)] rfl O dX11_changed_54 rfl (c_X10_timeOn hG h) wd_5_182 mw_X10_timeOn io_97 rfl (by decide) (Nat.le_of_ble_eq_true rfl) (fun v8 M8 h => ?_)
        refine J.istore (q := 59) O dX11_changed_57 rfl [(5, .int v8), (4, .int v6), (0, .ref (ad G 0)), (1, .int a1), (2, .int a2), (3, .int a3)] (by decide) rfl ?_
        refine J.iload (q := 61) O dX11_changed_59 rfl 0 rfl ?_
        refine J.bipush (q := 63) (v := (-9 : Int32)) O dX11_changed_61 rfl rfl ?_
        refine J.icmp_eq (q := 66) (tgt := 84) O dX11_changed_63 rfl (by decide) (fun z9 => ?_) (fun z9 => ?_)
        · replace h := h.1 z9
          exact J.sub [] rfl (j_X11_changed_b84 hG O hR h)
        · replace h := h.2 z9
          refine J.bipush (q := 68) (v := (10 : Int32)) O dX11_changed_66 rfl rfl ?_
          refine J.iload (q := 70) O dX11_changed_68 rfl 0 rfl ?_
          refine J.iload_n (q := 71) O dX11_changed_70 rfl 4 rfl ?_
          refine J.isub (q := 72) O dX11_changed_71 rfl ?_
          refine J.mabs (q := 75) O dX11_changed_72 rfl wd_5_193 (by decide) (Nat.le_of_ble_eq_true rfl) ?_
          refine J.imul (q := 76) O dX11_changed_75 rfl ?_
          refine J.iload_n (q := 77) O dX11_changed_76 rfl 4 rfl ?_
          refine J.icmp_le (q := 80) (tgt := 84) O dX11_changed_77 rfl (by decide) (fun z10 => ?_) (fun z10 => ?_)
          · replace h := h.1 z10
            exact J.sub [] rfl (j_X11_changed_b84 hG O hR h)
          · replace h := h.2 z10
            refine J.iconst (q := 81) (v := (1 : Int32)) O dX11_changed_80 rfl rfl ?_
            refine J.goto (q := 85) O dX11_changed_81 (by decide) ?_
            exact J.sub [] rfl (j_X11_changed_b85 hG O hR h)
      · replace h := h.2 z7
        refine J.aload_n (q := 42) O dX11_changed_41 rfl 1 rfl ?_
        refine J.iload (q := 44) O dX11_changed_42 rfl 0 rfl ?_
        refine J.callVI (q := 47) [.int v6] [] [.int v6, .ref (ad G 0)] rfl O dX11_changed_44 rfl (c_X11_refuse hG h) wd_3_55 mw_X11_refuse io_0 rfl (by decide) (Nat.le_of_ble_eq_true rfl) (fun v11 M11 h => ?_)
        exact hR _ _ _ _ dX11_changed_47 h
    · replace h := h.2 z3
      exact J.sub [0] rfl (j_X11_changed_b9 hG O hR h)
set_option maxHeartbeats 4000000 in
set_option maxRecDepth 20000 in
theorem j_X11_weight_b9 {X : CX} {G : GX} {K : Int32 → Mem → Prop} (hG : Gd G) (O : Ok X G cX11_weight 5 RX11 2) (hR : RetI X G cX11_weight K) {M : Mem} (h : f_X11_weight_b9 K  M) : J X G M 9 [(0, .ref (ad G 0))] [] := by
  unfold f_X11_weight_b9 at h
  refine J.aload_n (q := 10) O dX11_weight_9 rfl 0 rfl ?_
  refine J.bipush (q := 12) (v := (-2 : Int32)) O dX11_weight_10 rfl rfl ?_
  refine J.callVI (q := 15) [.int (-2 : Int32)] [] [.int (-2 : Int32), .ref (ad G 0)] rfl O dX11_weight_12 rfl (c_X11_refuse hG h) wd_3_55 mw_X11_refuse io_0 rfl (by decide) (Nat.le_of_ble_eq_true rfl) (fun v3 M3 h => ?_)
  exact hR _ _ _ _ dX11_weight_15 h
set_option maxHeartbeats 4000000 in
set_option maxRecDepth 20000 in
theorem c_X11_weight {l : Launch} {G : GX} (hG : Gd G) {a1 : Int32} {a2 : Int32} {M : Mem} {K : Int32 → Mem → Prop} (h : f_X11_weight a1 a2 M K) : CI l G yX11_weight cX11_weight 5 (some .int) 2 [.ref (ad G 0), .int a1, .int a2] M K := by
  unfold f_X11_weight at h
  refine CI.mk hG (by decide) [(0, .ref (ad G 0)), (1, .int a1), (2, .int a2)] rfl (Nat.le_of_ble_eq_true rfl) (fun X O hlX hR => ?_)
  subst hlX
  refine J.iload_n (q := 1) O dX11_weight_0 rfl 1 rfl ?_
  refine J.if_lt (q := 4) (tgt := 9) O dX11_weight_1 rfl (by decide) (fun z4 => ?_) (fun z4 => ?_)
  · replace h := h.1 z4
    exact J.sub [0] rfl (j_X11_weight_b9 hG O hR h)
  · replace h := h.2 z4
    refine J.iload_n (q := 5) O dX11_weight_4 rfl 1 rfl ?_
    refine J.iconst (q := 6) (v := (3 : Int32)) O dX11_weight_5 rfl rfl ?_
    refine J.icmp_le (q := 9) (tgt := 16) O dX11_weight_6 rfl (by decide) (fun z5 => ?_) (fun z5 => ?_)
    · replace h := h.1 z5
      refine J.iload_n (q := 17) O dX11_weight_16 rfl 2 rfl ?_
      refine J.iconst (q := 18) (v := (0 : Int32)) O dX11_weight_17 rfl rfl ?_
      refine J.bipush (q := 20) (v := (9 : Int32)) O dX11_weight_18 rfl rfl ?_
      refine J.callSI (q := 23) [.int a2, .int (0 : Int32), .int (9 : Int32)] [] [.int (9 : Int32), .int (0 : Int32), .int a2] rfl O dX11_weight_20 rfl (c_X11_outside hG h) wd_3_63 mw_X11_outside rfl (by decide) (Nat.le_of_ble_eq_true rfl) (fun v6 M6 h => ?_)
      refine J.istore_n (q := 24) O dX11_weight_23 rfl [(3, .int v6), (0, .ref (ad G 0)), (1, .int a1), (2, .int a2)] (by decide) rfl ?_
      refine J.iload_n (q := 25) O dX11_weight_24 rfl 0 rfl ?_
      refine J.if_eq (q := 28) (tgt := 34) O dX11_weight_25 rfl (by decide) (fun z7 => ?_) (fun z7 => ?_)
      · replace h := h.1 z7
        refine J.aload_n (q := 35) O dX11_weight_34 rfl 1 rfl ?_
        refine J.getR (q := 38) (c' := 0) (ci := 11) (k := 1) (r := 4) O dX11_weight_35 rfl wd_3_3 (by decide) if_0_1 ?_
        refine J.getR (q := 41) (c' := 4) (ci := 9) (k := 10) (r := 14) O dX11_weight_38 rfl wd_1_67 (by decide) if_4_10 ?_
        refine J.iload_n (q := 42) O dX11_weight_41 rfl 2 rfl ?_
        obtain ⟨hv8, h⟩ := h
        refine J.iald (q := 43) (c' := 14) (j := a1.toNatClampNeg) (M6 14 a1.toNatClampNeg) rfl O dX11_weight_42 rfl ar_14 hv8 rfl ?_
        refine J.istore (q := 45) O dX11_weight_43 rfl [(4, .int (M6 14 a1.toNatClampNeg)), (3, .int v6), (0, .ref (ad G 0)), (1, .int a1), (2, .int a2)] (by decide) rfl ?_
        refine J.aload_n (q := 46) O dX11_weight_45 rfl 2 rfl ?_
        refine J.getR (q := 49) (c' := 0) (ci := 11) (k := 1) (r := 4) O dX11_weight_46 rfl wd_3_3 (by decide) if_0_1 ?_
        refine J.getR (q := 52) (c' := 4) (ci := 9) (k := 10) (r := 14) O dX11_weight_49 rfl wd_1_67 (by decide) if_4_10 ?_
        refine J.iload_n (q := 53) O dX11_weight_52 rfl 3 rfl ?_
        refine J.iload_n (q := 54) O dX11_weight_53 rfl 4 rfl ?_
        obtain ⟨hv9, h⟩ := h
        refine J.iast (q := 55) (c' := 14) (j := a1.toNatClampNeg) O dX11_weight_54 rfl ar_14 hv9 rfl ?_
        refine J.iload (q := 57) O dX11_weight_55 rfl 0 rfl ?_
        exact hR _ _ _ _ dX11_weight_57 h
      · replace h := h.2 z7
        refine J.aload_n (q := 29) O dX11_weight_28 rfl 1 rfl ?_
        refine J.iload_n (q := 30) O dX11_weight_29 rfl 0 rfl ?_
        refine J.callVI (q := 33) [.int v6] [] [.int v6, .ref (ad G 0)] rfl O dX11_weight_30 rfl (c_X11_refuse hG h) wd_3_55 mw_X11_refuse io_0 rfl (by decide) (Nat.le_of_ble_eq_true rfl) (fun v10 M10 h => ?_)
        exact hR _ _ _ _ dX11_weight_33 h
    · replace h := h.2 z5
      exact J.sub [0] rfl (j_X11_weight_b9 hG O hR h)
set_option maxHeartbeats 4000000 in
set_option maxRecDepth 20000 in
theorem j_X9_tellList_c7 {X : CX} {G : GX} {K : Mem → Prop} (hG : Gd G) (O : Ok X G cX9_tellList 3 RX9 1) (hR : RetV X G cX9_tellList K) {a : Int32 × Mem} (h : Lp (fun (r7 : Int32 × Mem → Prop) a => f_X9_tellList_c7 K r7 a.1 a.2) a) : J X G a.2 7 [(0, .ref (ad G 4)), (2, .int a.1)] [] := by
  refine Lp.elim (P := fun a => J X G a.2 7 [(0, .ref (ad G 4)), (2, .int a.1)] []) ?_ h
  clear h
  intro r7 hr7 a h
  obtain ⟨x2, M⟩ := a
  unfold f_X9_tellList_c7 at h
  (try dsimp only at h ⊢)
  refine J.iload_n (q := 8) O dX9_tellList_7 rfl 1 rfl ?_
  refine J.aload_n (q := 9) O dX9_tellList_8 rfl 0 rfl ?_
  refine J.getI (q := 12) (c' := 4) (ci := 9) (k := 0) (M 4 0) rfl O dX9_tellList_9 rfl wd_1_50 (by decide) if_4_0 ?_
  refine J.icmp_ge (q := 15) (tgt := 45) O dX9_tellList_12 rfl (by decide) (fun z5 => ?_) (fun z5 => ?_)
  · replace h := h.1 z5
    exact hR _ _ _ dX9_tellList_45 h
  · replace h := h.2 z5
    refine J.aload_n (q := 16) O dX9_tellList_15 rfl 0 rfl ?_
    refine J.getR (q := 19) (c' := 4) (ci := 9) (k := 7) (r := 11) O dX9_tellList_16 rfl wd_1_63 (by decide) if_4_7 ?_
    refine J.iload_n (q := 20) O dX9_tellList_19 rfl 1 rfl ?_
    refine J.aload_n (q := 21) O dX9_tellList_20 rfl 0 rfl ?_
    refine J.getR (q := 24) (c' := 4) (ci := 9) (k := 5) (r := 9) O dX9_tellList_21 rfl wd_1_61 (by decide) if_4_5 ?_
    refine J.iload_n (q := 25) O dX9_tellList_24 rfl 1 rfl ?_
    obtain ⟨hv6, h⟩ := h
    refine J.iald (q := 26) (c' := 9) (j := x2.toNatClampNeg) (M 9 x2.toNatClampNeg) rfl O dX9_tellList_25 rfl ar_9 hv6 rfl ?_
    obtain ⟨hv7, h⟩ := h
    refine J.iast (q := 27) (c' := 11) (j := x2.toNatClampNeg) O dX9_tellList_26 rfl ar_11 hv7 rfl ?_
    refine J.aload_n (q := 28) O dX9_tellList_27 rfl 0 rfl ?_
    refine J.getR (q := 31) (c' := 4) (ci := 9) (k := 8) (r := 12) O dX9_tellList_28 rfl wd_1_64 (by decide) if_4_8 ?_
    refine J.iload_n (q := 32) O dX9_tellList_31 rfl 1 rfl ?_
    refine J.aload_n (q := 33) O dX9_tellList_32 rfl 0 rfl ?_
    refine J.getR (q := 36) (c' := 4) (ci := 9) (k := 6) (r := 10) O dX9_tellList_33 rfl wd_1_62 (by decide) if_4_6 ?_
    refine J.iload_n (q := 37) O dX9_tellList_36 rfl 1 rfl ?_
    obtain ⟨hv8, h⟩ := h
    refine J.iald (q := 38) (c' := 10) (j := x2.toNatClampNeg) (M 10 x2.toNatClampNeg) rfl O dX9_tellList_37 rfl ar_10 hv8 rfl ?_
    obtain ⟨hv9, h⟩ := h
    refine J.iast (q := 39) (c' := 12) (j := x2.toNatClampNeg) O dX9_tellList_38 rfl ar_12 hv9 rfl ?_
    refine J.iinc (q := 42) O dX9_tellList_39 rfl [(2, .int (x2 + (1 : Int32))), (0, .ref (ad G 4))] 1 rfl rfl (by decide) rfl ?_
    refine J.goto (q := 7) O dX9_tellList_42 (by decide) ?_
    exact J.sub [1, 0] rfl (hr7 _ h)
set_option maxHeartbeats 4000000 in
set_option maxRecDepth 20000 in
theorem c_X9_tellList {l : Launch} {G : GX} (hG : Gd G) {a1 : Int32} {M : Mem} {K : Mem → Prop} (h : f_X9_tellList a1 M K) : CV l G yX9_tellList cX9_tellList 3 1 [.ref (ad G 4), .int a1] M K := by
  unfold f_X9_tellList at h
  refine CV.mk hG (by decide) [(0, .ref (ad G 4)), (1, .int a1)] rfl (Nat.le_of_ble_eq_true rfl) (fun X O hlX hR => ?_)
  subst hlX
  refine J.aload_n (q := 1) O dX9_tellList_0 rfl 0 rfl ?_
  refine J.iload_n (q := 2) O dX9_tellList_1 rfl 1 rfl ?_
  refine J.putI (q := 5) (c' := 4) (ci := 9) (k := 11) O dX9_tellList_2 rfl wd_1_68 (by decide) if_4_11 rfl rfl ?_
  refine J.iconst (q := 6) (v := (0 : Int32)) O dX9_tellList_5 rfl rfl ?_
  refine J.istore_n (q := 7) O dX9_tellList_6 rfl [(2, .int (0 : Int32)), (0, .ref (ad G 4)), (1, .int a1)] (by decide) rfl ?_
  exact J.sub [1, 0] rfl (j_X9_tellList_c7 hG O hR h)
set_option maxHeartbeats 4000000 in
set_option maxRecDepth 20000 in
theorem c_X11_list {l : Launch} {G : GX} (hG : Gd G) {M : Mem} {K : Int32 → Mem → Prop} (h : f_X11_list  M K) : CI l G yX11_list cX11_list 1 (some .int) 2 [.ref (ad G 0)] M K := by
  unfold f_X11_list at h
  refine CI.mk hG (by decide) [(0, .ref (ad G 0))] rfl (Nat.le_of_ble_eq_true rfl) (fun X O hlX hR => ?_)
  subst hlX
  refine J.aload_n (q := 1) O dX11_list_0 rfl 0 rfl ?_
  refine J.getR (q := 4) (c' := 0) (ci := 11) (k := 1) (r := 4) O dX11_list_1 rfl wd_3_3 (by decide) if_0_1 ?_
  refine J.aload_n (q := 5) O dX11_list_4 rfl 0 rfl ?_
  refine J.getR (q := 8) (c' := 0) (ci := 11) (k := 0) (r := 1) O dX11_list_5 rfl wd_3_2 (by decide) if_0_0 ?_
  refine J.getI (q := 11) (c' := 1) (ci := 3) (k := 0) (M 1 0) rfl O dX11_list_8 rfl wd_1_31 (by decide) if_1_0 ?_
  refine J.callVV (q := 14) [.int (M 1 0)] [] [.int (M 1 0), .ref (ad G 4)] rfl O dX11_list_11 rfl (c_X9_tellList hG h) wd_5_204 mw_X9_tellList io_4 rfl (by decide) (Nat.le_of_ble_eq_true rfl) (fun M1 h => ?_)
  refine J.iconst (q := 15) (v := (1 : Int32)) O dX11_list_14 rfl rfl ?_
  exact hR _ _ _ _ dX11_list_15 h
set_option maxHeartbeats 4000000 in
set_option maxRecDepth 20000 in
theorem j_X9_rightChildren_b26 {X : CX} {G : GX} {K : Int32 → Mem → Prop} (hG : Gd G) (O : Ok X G cX9_rightChildren 5 RX9 1) (hR : RetI X G cX9_rightChildren K) {x4 : Int32} {M : Mem} (h : f_X9_rightChildren_b26 K x4 M) : J X G M 26 [(4, .int x4)] [] := by
  unfold f_X9_rightChildren_b26 at h
  refine J.iload (q := 28) O dX9_rightChildren_26 rfl 0 rfl ?_
  exact hR _ _ _ _ dX9_rightChildren_28 h
set_option maxHeartbeats 4000000 in
set_option maxRecDepth 20000 in
theorem c_X9_rightChildren {l : Launch} {G : GX} (hG : Gd G) {a1 : Int32} {a2 : Int32} {a3 : Int32} {M : Mem} {K : Int32 → Mem → Prop} (h : f_X9_rightChildren a1 a2 a3 M K) : CI l G yX9_rightChildren cX9_rightChildren 5 (some .int) 1 [.ref (ad G 4), .int a1, .int a2, .int a3] M K := by
  unfold f_X9_rightChildren at h
  refine CI.mk hG (by decide) [(0, .ref (ad G 4)), (1, .int a1), (2, .int a2), (3, .int a3)] rfl (Nat.le_of_ble_eq_true rfl) (fun X O hlX hR => ?_)
  subst hlX
  refine J.aload_n (q := 1) O dX9_rightChildren_0 rfl 0 rfl ?_
  refine J.getR (q := 4) (c' := 4) (ci := 9) (k := 5) (r := 9) O dX9_rightChildren_1 rfl wd_1_61 (by decide) if_4_5 ?_
  refine J.iload_n (q := 5) O dX9_rightChildren_4 rfl 1 rfl ?_
  obtain ⟨hv4, h⟩ := h
  refine J.iald (q := 6) (c' := 9) (j := a1.toNatClampNeg) (M 9 a1.toNatClampNeg) rfl O dX9_rightChildren_5 rfl ar_9 hv4 rfl ?_
  refine J.istore (q := 8) O dX9_rightChildren_6 rfl [(4, .int (M 9 a1.toNatClampNeg)), (0, .ref (ad G 4)), (1, .int a1), (2, .int a2), (3, .int a3)] (by decide) rfl ?_
  refine J.aload_n (q := 9) O dX9_rightChildren_8 rfl 1 rfl ?_
  refine J.getR (q := 12) (c' := 4) (ci := 9) (k := 5) (r := 9) O dX9_rightChildren_9 rfl wd_1_61 (by decide) if_4_5 ?_
  refine J.iload_n (q := 13) O dX9_rightChildren_12 rfl 2 rfl ?_
  refine J.iload_n (q := 14) O dX9_rightChildren_13 rfl 3 rfl ?_
  obtain ⟨hv5, h⟩ := h
  refine J.iast (q := 15) (c' := 9) (j := a1.toNatClampNeg) O dX9_rightChildren_14 rfl ar_9 hv5 rfl ?_
  refine J.iload_n (q := 16) O dX9_rightChildren_15 rfl 4 rfl ?_
  refine J.if_eq (q := 19) (tgt := 26) O dX9_rightChildren_16 rfl (by decide) (fun z6 => ?_) (fun z6 => ?_)
  · replace h := h.1 z6
    exact J.sub [0] rfl (j_X9_rightChildren_b26 hG O hR h)
  · replace h := h.2 z6
    refine J.aload_n (q := 20) O dX9_rightChildren_19 rfl 1 rfl ?_
    refine J.getR (q := 23) (c' := 4) (ci := 9) (k := 7) (r := 11) O dX9_rightChildren_20 rfl wd_1_63 (by decide) if_4_7 ?_
    refine J.iload_n (q := 24) O dX9_rightChildren_23 rfl 2 rfl ?_
    refine J.iload_n (q := 25) O dX9_rightChildren_24 rfl 3 rfl ?_
    obtain ⟨hv7, h⟩ := h
    refine J.iast (q := 26) (c' := 11) (j := a1.toNatClampNeg) O dX9_rightChildren_25 rfl ar_11 hv7 rfl ?_
    exact J.sub [0] rfl (j_X9_rightChildren_b26 hG O hR h)
set_option maxHeartbeats 4000000 in
set_option maxRecDepth 20000 in
theorem j_X9_rightHurt_b26 {X : CX} {G : GX} {K : Int32 → Mem → Prop} (hG : Gd G) (O : Ok X G cX9_rightHurt 5 RX9 1) (hR : RetI X G cX9_rightHurt K) {x4 : Int32} {M : Mem} (h : f_X9_rightHurt_b26 K x4 M) : J X G M 26 [(4, .int x4)] [] := by
  unfold f_X9_rightHurt_b26 at h
  refine J.iload (q := 28) O dX9_rightHurt_26 rfl 0 rfl ?_
  exact hR _ _ _ _ dX9_rightHurt_28 h
set_option maxHeartbeats 4000000 in
set_option maxRecDepth 20000 in
theorem c_X9_rightHurt {l : Launch} {G : GX} (hG : Gd G) {a1 : Int32} {a2 : Int32} {a3 : Int32} {M : Mem} {K : Int32 → Mem → Prop} (h : f_X9_rightHurt a1 a2 a3 M K) : CI l G yX9_rightHurt cX9_rightHurt 5 (some .int) 1 [.ref (ad G 4), .int a1, .int a2, .int a3] M K := by
  unfold f_X9_rightHurt at h
  refine CI.mk hG (by decide) [(0, .ref (ad G 4)), (1, .int a1), (2, .int a2), (3, .int a3)] rfl (Nat.le_of_ble_eq_true rfl) (fun X O hlX hR => ?_)
  subst hlX
  refine J.aload_n (q := 1) O dX9_rightHurt_0 rfl 0 rfl ?_
  refine J.getR (q := 4) (c' := 4) (ci := 9) (k := 6) (r := 10) O dX9_rightHurt_1 rfl wd_1_62 (by decide) if_4_6 ?_
  refine J.iload_n (q := 5) O dX9_rightHurt_4 rfl 1 rfl ?_
  obtain ⟨hv4, h⟩ := h
  refine J.iald (q := 6) (c' := 10) (j := a1.toNatClampNeg) (M 10 a1.toNatClampNeg) rfl O dX9_rightHurt_5 rfl ar_10 hv4 rfl ?_
  refine J.istore (q := 8) O dX9_rightHurt_6 rfl [(4, .int (M 10 a1.toNatClampNeg)), (0, .ref (ad G 4)), (1, .int a1), (2, .int a2), (3, .int a3)] (by decide) rfl ?_
  refine J.aload_n (q := 9) O dX9_rightHurt_8 rfl 1 rfl ?_
  refine J.getR (q := 12) (c' := 4) (ci := 9) (k := 6) (r := 10) O dX9_rightHurt_9 rfl wd_1_62 (by decide) if_4_6 ?_
  refine J.iload_n (q := 13) O dX9_rightHurt_12 rfl 2 rfl ?_
  refine J.iload_n (q := 14) O dX9_rightHurt_13 rfl 3 rfl ?_
  obtain ⟨hv5, h⟩ := h
  refine J.iast (q := 15) (c' := 10) (j := a1.toNatClampNeg) O dX9_rightHurt_14 rfl ar_10 hv5 rfl ?_
  refine J.iload_n (q := 16) O dX9_rightHurt_15 rfl 4 rfl ?_
  refine J.if_eq (q := 19) (tgt := 26) O dX9_rightHurt_16 rfl (by decide) (fun z6 => ?_) (fun z6 => ?_)
  · replace h := h.1 z6
    exact J.sub [0] rfl (j_X9_rightHurt_b26 hG O hR h)
  · replace h := h.2 z6
    refine J.aload_n (q := 20) O dX9_rightHurt_19 rfl 1 rfl ?_
    refine J.getR (q := 23) (c' := 4) (ci := 9) (k := 8) (r := 12) O dX9_rightHurt_20 rfl wd_1_64 (by decide) if_4_8 ?_
    refine J.iload_n (q := 24) O dX9_rightHurt_23 rfl 2 rfl ?_
    refine J.iload_n (q := 25) O dX9_rightHurt_24 rfl 3 rfl ?_
    obtain ⟨hv7, h⟩ := h
    refine J.iast (q := 26) (c' := 12) (j := a1.toNatClampNeg) O dX9_rightHurt_25 rfl ar_12 hv7 rfl ?_
    exact J.sub [0] rfl (j_X9_rightHurt_b26 hG O hR h)
set_option maxHeartbeats 4000000 in
set_option maxRecDepth 20000 in
theorem j_X11_right_b26 {X : CX} {G : GX} {K : Int32 → Mem → Prop} (hG : Gd G) (O : Ok X G cX11_right 6 RX11 2) (hR : RetI X G cX11_right K) {M : Mem} (h : f_X11_right_b26 K  M) : J X G M 26 [(0, .ref (ad G 0))] [] := by
  unfold f_X11_right_b26 at h
  refine J.aload_n (q := 27) O dX11_right_26 rfl 0 rfl ?_
  refine J.bipush (q := 29) (v := (-2 : Int32)) O dX11_right_27 rfl rfl ?_
  refine J.callVI (q := 32) [.int (-2 : Int32)] [] [.int (-2 : Int32), .ref (ad G 0)] rfl O dX11_right_29 rfl (c_X11_refuse hG h) wd_3_55 mw_X11_refuse io_0 rfl (by decide) (Nat.le_of_ble_eq_true rfl) (fun v1 M1 h => ?_)
  exact hR _ _ _ _ dX11_right_32 h
set_option maxHeartbeats 4000000 in
set_option maxRecDepth 20000 in
theorem j_X11_right_b123 {X : CX} {G : GX} {K : Int32 → Mem → Prop} (hG : Gd G) (O : Ok X G cX11_right 6 RX11 2) (hR : RetI X G cX11_right K) {s0 : Int32} {M : Mem} (h : f_X11_right_b123 K s0 M) : J X G M 123 [] [.int s0] := by
  unfold f_X11_right_b123 at h
  exact hR _ _ _ _ dX11_right_123 h
set_option maxHeartbeats 4000000 in
set_option maxRecDepth 20000 in
theorem j_X11_right_b92 {X : CX} {G : GX} {K : Int32 → Mem → Prop} (hG : Gd G) (O : Ok X G cX11_right 6 RX11 2) (hR : RetI X G cX11_right K) {x1 : Int32} {x2 : Int32} {x3 : Int32} {s0 : Int32} {M : Mem} (h : f_X11_right_b92 K x1 x2 x3 s0 M) : J X G M 92 [(0, .ref (ad G 0)), (1, .int x1), (2, .int x2), (3, .int x3)] [.int s0] := by
  unfold f_X11_right_b92 at h
  refine J.istore (q := 94) O dX11_right_92 rfl [(5, .int s0), (0, .ref (ad G 0)), (1, .int x1), (2, .int x2), (3, .int x3)] (by decide) rfl ?_
  refine J.iload_n (q := 95) O dX11_right_94 rfl 3 rfl ?_
  refine J.if_ne (q := 98) (tgt := 112) O dX11_right_95 rfl (by decide) (fun z2 => ?_) (fun z2 => ?_)
  · replace h := h.1 z2
    refine J.aload_n (q := 113) O dX11_right_112 rfl 1 rfl ?_
    refine J.getR (q := 116) (c' := 0) (ci := 11) (k := 1) (r := 4) O dX11_right_113 rfl wd_3_3 (by decide) if_0_1 ?_
    refine J.iload_n (q := 117) O dX11_right_116 rfl 2 rfl ?_
    refine J.iload_n (q := 118) O dX11_right_117 rfl 4 rfl ?_
    refine J.iload (q := 120) O dX11_right_118 rfl 0 rfl ?_
    refine J.callVI (q := 123) [.int x1, .int x3, .int s0] [] [.int s0, .int x3, .int x1, .ref (ad G 4)] rfl O dX11_right_120 rfl (c_X9_rightHurt hG h) wd_5_216 mw_X9_rightHurt io_4 rfl (by decide) (Nat.le_of_ble_eq_true rfl) (fun v3 M3 h => ?_)
    exact J.sub [] rfl (j_X11_right_b123 hG O hR h)
  · replace h := h.2 z2
    refine J.aload_n (q := 99) O dX11_right_98 rfl 1 rfl ?_
    refine J.getR (q := 102) (c' := 0) (ci := 11) (k := 1) (r := 4) O dX11_right_99 rfl wd_3_3 (by decide) if_0_1 ?_
    refine J.iload_n (q := 103) O dX11_right_102 rfl 2 rfl ?_
    refine J.iload_n (q := 104) O dX11_right_103 rfl 4 rfl ?_
    refine J.iload (q := 106) O dX11_right_104 rfl 0 rfl ?_
    refine J.callVI (q := 109) [.int x1, .int x3, .int s0] [] [.int s0, .int x3, .int x1, .ref (ad G 4)] rfl O dX11_right_106 rfl (c_X9_rightChildren hG h) wd_5_212 mw_X9_rightChildren io_4 rfl (by decide) (Nat.le_of_ble_eq_true rfl) (fun v4 M4 h => ?_)
    refine J.goto (q := 123) O dX11_right_109 (by decide) ?_
    exact J.sub [] rfl (j_X11_right_b123 hG O hR h)
set_option maxHeartbeats 4000000 in
set_option maxRecDepth 20000 in
theorem j_X11_right_b46 {X : CX} {G : GX} {K : Int32 → Mem → Prop} (hG : Gd G) (O : Ok X G cX11_right 6 RX11 2) (hR : RetI X G cX11_right K) {x1 : Int32} {x2 : Int32} {x3 : Int32} {s0 : Int32} {s1 : Int32} {s2 : Int32} {M : Mem} (h : f_X11_right_b46 K x1 x2 x3 s0 s1 s2 M) : J X G M 46 [(0, .ref (ad G 0)), (1, .int x1), (2, .int x2), (3, .int x3)] [.int s0, .int s1, .int s2] := by
  unfold f_X11_right_b46 at h
  refine J.callSI (q := 49) [.int s2, .int s1, .int s0] [] [.int s0, .int s1, .int s2] rfl O dX11_right_46 rfl (c_X11_outside hG h) wd_3_63 mw_X11_outside rfl (by decide) (Nat.le_of_ble_eq_true rfl) (fun v5 M5 h => ?_)
  refine J.istore (q := 51) O dX11_right_49 rfl [(4, .int v5), (0, .ref (ad G 0)), (1, .int x1), (2, .int x2), (3, .int x3)] (by decide) rfl ?_
  refine J.iload (q := 53) O dX11_right_51 rfl 0 rfl ?_
  refine J.if_eq (q := 56) (tgt := 63) O dX11_right_53 rfl (by decide) (fun z6 => ?_) (fun z6 => ?_)
  · replace h := h.1 z6
    refine J.aload_n (q := 64) O dX11_right_63 rfl 1 rfl ?_
    refine J.getR (q := 67) (c' := 0) (ci := 11) (k := 0) (r := 1) O dX11_right_64 rfl wd_3_2 (by decide) if_0_0 ?_
    refine J.getI (q := 70) (c' := 1) (ci := 3) (k := 0) (M5 1 0) rfl O dX11_right_67 rfl wd_1_31 (by decide) if_1_0 ?_
    refine J.aload_n (q := 71) O dX11_right_70 rfl 1 rfl ?_
    refine J.getR (q := 74) (c' := 0) (ci := 11) (k := 1) (r := 4) O dX11_right_71 rfl wd_3_3 (by decide) if_0_1 ?_
    refine J.getI (q := 77) (c' := 4) (ci := 9) (k := 11) (M5 4 11) rfl O dX11_right_74 rfl wd_1_69 (by decide) if_4_11 ?_
    refine J.isub (q := 78) O dX11_right_77 rfl ?_
    refine J.aload_n (q := 79) O dX11_right_78 rfl 1 rfl ?_
    refine J.getR (q := 82) (c' := 0) (ci := 11) (k := 12) (r := 124) O dX11_right_79 rfl wd_3_14 (by decide) if_0_12 ?_
    refine J.iconst (q := 83) (v := (2 : Int32)) O dX11_right_82 rfl rfl ?_
    refine J.iald (q := 84) (c' := 124) (j := 2) (M5 124 2) rfl O dX11_right_83 rfl ar_124 (vin_lit (by decide)) (by decide) ?_
    refine J.icmp_gt (q := 87) (tgt := 91) O dX11_right_84 rfl (by decide) (fun z7 => ?_) (fun z7 => ?_)
    · replace h := h.1 z7
      refine J.iconst (q := 92) (v := (0 : Int32)) O dX11_right_91 rfl rfl ?_
      exact J.sub [1, 2, 3, 4] rfl (j_X11_right_b92 hG O hR h)
    · replace h := h.2 z7
      refine J.iconst (q := 88) (v := (1 : Int32)) O dX11_right_87 rfl rfl ?_
      refine J.goto (q := 92) O dX11_right_88 (by decide) ?_
      exact J.sub [1, 2, 3, 4] rfl (j_X11_right_b92 hG O hR h)
  · replace h := h.2 z6
    refine J.aload_n (q := 57) O dX11_right_56 rfl 1 rfl ?_
    refine J.iload (q := 59) O dX11_right_57 rfl 0 rfl ?_
    refine J.callVI (q := 62) [.int v5] [] [.int v5, .ref (ad G 0)] rfl O dX11_right_59 rfl (c_X11_refuse hG h) wd_3_55 mw_X11_refuse io_0 rfl (by decide) (Nat.le_of_ble_eq_true rfl) (fun v8 M8 h => ?_)
    exact hR _ _ _ _ dX11_right_62 h
set_option maxHeartbeats 4000000 in
set_option maxRecDepth 20000 in
theorem c_X11_right {l : Launch} {G : GX} (hG : Gd G) {a1 : Int32} {a2 : Int32} {a3 : Int32} {M : Mem} {K : Int32 → Mem → Prop} (h : f_X11_right a1 a2 a3 M K) : CI l G yX11_right cX11_right 6 (some .int) 2 [.ref (ad G 0), .int a1, .int a2, .int a3] M K := by
  unfold f_X11_right at h
  refine CI.mk hG (by decide) [(0, .ref (ad G 0)), (1, .int a1), (2, .int a2), (3, .int a3)] rfl (Nat.le_of_ble_eq_true rfl) (fun X O hlX hR => ?_)
  subst hlX
  refine J.aload_n (q := 1) O dX11_right_0 rfl 0 rfl ?_
  refine J.getR (q := 4) (c' := 0) (ci := 11) (k := 1) (r := 4) O dX11_right_1 rfl wd_3_3 (by decide) if_0_1 ?_
  refine J.iload_n (q := 5) O dX11_right_4 rfl 1 rfl ?_
  refine J.callVI (q := 8) [.int a1] [] [.int a1, .ref (ad G 4)] rfl O dX11_right_5 rfl (c_X9_has hG h) wd_3_106 mw_X9_has io_4 rfl (by decide) (Nat.le_of_ble_eq_true rfl) (fun v9 M9 h => ?_)
  refine J.if_ne (q := 11) (tgt := 17) O dX11_right_8 rfl (by decide) (fun z10 => ?_) (fun z10 => ?_)
  · replace h := h.1 z10
    refine J.iload_n (q := 18) O dX11_right_17 rfl 2 rfl ?_
    refine J.if_lt (q := 21) (tgt := 26) O dX11_right_18 rfl (by decide) (fun z11 => ?_) (fun z11 => ?_)
    · replace h := h.1 z11
      exact J.sub [0] rfl (j_X11_right_b26 hG O hR h)
    · replace h := h.2 z11
      refine J.iload_n (q := 22) O dX11_right_21 rfl 2 rfl ?_
      refine J.iconst (q := 23) (v := (1 : Int32)) O dX11_right_22 rfl rfl ?_
      refine J.icmp_le (q := 26) (tgt := 33) O dX11_right_23 rfl (by decide) (fun z12 => ?_) (fun z12 => ?_)
      · replace h := h.1 z12
        refine J.iload_n (q := 34) O dX11_right_33 rfl 3 rfl ?_
        refine J.iconst (q := 35) (v := (0 : Int32)) O dX11_right_34 rfl rfl ?_
        refine J.iload_n (q := 36) O dX11_right_35 rfl 2 rfl ?_
        refine J.if_ne (q := 39) (tgt := 44) O dX11_right_36 rfl (by decide) (fun z13 => ?_) (fun z13 => ?_)
        · replace h := h.1 z13
          refine J.bipush (q := 46) (v := (100 : Int32)) O dX11_right_44 rfl rfl ?_
          exact J.sub [0, 1, 2, 3] rfl (j_X11_right_b46 hG O hR h)
        · replace h := h.2 z13
          refine J.bipush (q := 41) (v := (9 : Int32)) O dX11_right_39 rfl rfl ?_
          refine J.goto (q := 46) O dX11_right_41 (by decide) ?_
          exact J.sub [0, 1, 2, 3] rfl (j_X11_right_b46 hG O hR h)
      · replace h := h.2 z12
        exact J.sub [0] rfl (j_X11_right_b26 hG O hR h)
  · replace h := h.2 z10
    refine J.aload_n (q := 12) O dX11_right_11 rfl 0 rfl ?_
    refine J.iconst (q := 13) (v := (-1 : Int32)) O dX11_right_12 rfl rfl ?_
    refine J.callVI (q := 16) [.int (-1 : Int32)] [] [.int (-1 : Int32), .ref (ad G 0)] rfl O dX11_right_13 rfl (c_X11_refuse hG h) wd_3_55 mw_X11_refuse io_0 rfl (by decide) (Nat.le_of_ble_eq_true rfl) (fun v14 M14 h => ?_)
    exact hR _ _ _ _ dX11_right_16 h
set_option maxHeartbeats 4000000 in
set_option maxRecDepth 20000 in
theorem j_X9_pointsOf_b100 {X : CX} {G : GX} {K : Int32 → Mem → Prop} (hG : Gd G) (O : Ok X G cX9_pointsOf 4 RX9 1) (hR : RetI X G cX9_pointsOf K) {s0 : Int32} {s1 : Int32} {M : Mem} (h : f_X9_pointsOf_b100 K s0 s1 M) : J X G M 100 [(0, .ref (ad G 4))] [.int s0, .int s1] := by
  unfold f_X9_pointsOf_b100 at h
  refine J.aload_n (q := 101) O dX9_pointsOf_100 rfl 0 rfl ?_
  refine J.getR (q := 104) (c' := 4) (ci := 9) (k := 10) (r := 14) O dX9_pointsOf_101 rfl wd_1_66 (by decide) if_4_10 ?_
  refine J.iconst (q := 105) (v := (3 : Int32)) O dX9_pointsOf_104 rfl rfl ?_
  refine J.iald (q := 106) (c' := 14) (j := 3) (M 14 3) rfl O dX9_pointsOf_105 rfl ar_14 (vin_lit (by decide)) (by decide) ?_
  refine J.imul (q := 107) O dX9_pointsOf_106 rfl ?_
  refine J.iadd (q := 108) O dX9_pointsOf_107 rfl ?_
  exact hR _ _ _ _ dX9_pointsOf_108 h
set_option maxHeartbeats 4000000 in
set_option maxRecDepth 20000 in
theorem j_X9_pointsOf_b73 {X : CX} {G : GX} {K : Int32 → Mem → Prop} (hG : Gd G) (O : Ok X G cX9_pointsOf 4 RX9 1) (hR : RetI X G cX9_pointsOf K) {x1 : Int32} {x3 : Int32} {s0 : Int32} {s1 : Int32} {M : Mem} (h : f_X9_pointsOf_b73 K x1 x3 s0 s1 M) : J X G M 73 [(0, .ref (ad G 4)), (1, .int x1), (3, .int x3)] [.int s0, .int s1] := by
  unfold f_X9_pointsOf_b73 at h
  refine J.aload_n (q := 74) O dX9_pointsOf_73 rfl 0 rfl ?_
  refine J.getR (q := 77) (c' := 4) (ci := 9) (k := 10) (r := 14) O dX9_pointsOf_74 rfl wd_1_66 (by decide) if_4_10 ?_
  refine J.iconst (q := 78) (v := (2 : Int32)) O dX9_pointsOf_77 rfl rfl ?_
  refine J.iald (q := 79) (c' := 14) (j := 2) (M 14 2) rfl O dX9_pointsOf_78 rfl ar_14 (vin_lit (by decide)) (by decide) ?_
  refine J.imul (q := 80) O dX9_pointsOf_79 rfl ?_
  refine J.iadd (q := 81) O dX9_pointsOf_80 rfl ?_
  refine J.iload_n (q := 82) O dX9_pointsOf_81 rfl 2 rfl ?_
  refine J.if_eq (q := 85) (tgt := 94) O dX9_pointsOf_82 rfl (by decide) (fun z7 => ?_) (fun z7 => ?_)
  · replace h := h.1 z7
    refine J.aload_n (q := 95) O dX9_pointsOf_94 rfl 0 rfl ?_
    refine J.getR (q := 98) (c' := 4) (ci := 9) (k := 6) (r := 10) O dX9_pointsOf_95 rfl wd_1_62 (by decide) if_4_6 ?_
    refine J.iload_n (q := 99) O dX9_pointsOf_98 rfl 1 rfl ?_
    obtain ⟨hv8, h⟩ := h
    refine J.iald (q := 100) (c' := 10) (j := x1.toNatClampNeg) (M 10 x1.toNatClampNeg) rfl O dX9_pointsOf_99 rfl ar_10 hv8 rfl ?_
    exact J.sub [0] rfl (j_X9_pointsOf_b100 hG O hR h)
  · replace h := h.2 z7
    refine J.aload_n (q := 86) O dX9_pointsOf_85 rfl 0 rfl ?_
    refine J.getR (q := 89) (c' := 4) (ci := 9) (k := 8) (r := 12) O dX9_pointsOf_86 rfl wd_1_64 (by decide) if_4_8 ?_
    refine J.iload_n (q := 90) O dX9_pointsOf_89 rfl 1 rfl ?_
    obtain ⟨hv9, h⟩ := h
    refine J.iald (q := 91) (c' := 12) (j := x1.toNatClampNeg) (M 12 x1.toNatClampNeg) rfl O dX9_pointsOf_90 rfl ar_12 hv9 rfl ?_
    refine J.goto (q := 100) O dX9_pointsOf_91 (by decide) ?_
    exact J.sub [0] rfl (j_X9_pointsOf_b100 hG O hR h)
set_option maxHeartbeats 4000000 in
set_option maxRecDepth 20000 in
theorem j_X9_pointsOf_b14 {X : CX} {G : GX} {K : Int32 → Mem → Prop} (hG : Gd G) (O : Ok X G cX9_pointsOf 4 RX9 1) (hR : RetI X G cX9_pointsOf K) {x1 : Int32} {x2 : Int32} {s0 : Int32} {M : Mem} (h : f_X9_pointsOf_b14 K x1 x2 s0 M) : J X G M 14 [(0, .ref (ad G 4)), (1, .int x1), (2, .int x2)] [.int s0] := by
  unfold f_X9_pointsOf_b14 at h
  refine J.istore_n (q := 15) O dX9_pointsOf_14 rfl [(3, .int s0), (0, .ref (ad G 4)), (1, .int x1), (2, .int x2)] (by decide) rfl ?_
  refine J.iload_n (q := 16) O dX9_pointsOf_15 rfl 3 rfl ?_
  refine J.aload_n (q := 17) O dX9_pointsOf_16 rfl 1 rfl ?_
  refine J.getR (q := 20) (c' := 4) (ci := 9) (k := 3) (r := 7) O dX9_pointsOf_17 rfl wd_1_59 (by decide) if_4_3 ?_
  refine J.iload_n (q := 21) O dX9_pointsOf_20 rfl 2 rfl ?_
  obtain ⟨hv10, h⟩ := h
  refine J.iald (q := 22) (c' := 7) (j := x1.toNatClampNeg) (M 7 x1.toNatClampNeg) rfl O dX9_pointsOf_21 rfl ar_7 hv10 rfl ?_
  refine J.isub (q := 23) O dX9_pointsOf_22 rfl ?_
  refine J.sipush (q := 26) (v := (365 : Int32)) O dX9_pointsOf_23 rfl rfl ?_
  refine J.idiv (q := 27) O dX9_pointsOf_26 rfl (by decide) ?_
  refine J.aload_n (q := 28) O dX9_pointsOf_27 rfl 1 rfl ?_
  refine J.getR (q := 31) (c' := 4) (ci := 9) (k := 10) (r := 14) O dX9_pointsOf_28 rfl wd_1_66 (by decide) if_4_10 ?_
  refine J.iconst (q := 32) (v := (0 : Int32)) O dX9_pointsOf_31 rfl rfl ?_
  refine J.iald (q := 33) (c' := 14) (j := 0) (M 14 0) rfl O dX9_pointsOf_32 rfl ar_14 (vin_lit (by decide)) (by decide) ?_
  refine J.imul (q := 34) O dX9_pointsOf_33 rfl ?_
  refine J.iload_n (q := 35) O dX9_pointsOf_34 rfl 3 rfl ?_
  refine J.aload_n (q := 36) O dX9_pointsOf_35 rfl 1 rfl ?_
  refine J.getR (q := 39) (c' := 4) (ci := 9) (k := 4) (r := 8) O dX9_pointsOf_36 rfl wd_1_60 (by decide) if_4_4 ?_
  refine J.iload_n (q := 40) O dX9_pointsOf_39 rfl 2 rfl ?_
  obtain ⟨hv11, h⟩ := h
  refine J.iald (q := 41) (c' := 8) (j := x1.toNatClampNeg) (M 8 x1.toNatClampNeg) rfl O dX9_pointsOf_40 rfl ar_8 hv11 rfl ?_
  refine J.isub (q := 42) O dX9_pointsOf_41 rfl ?_
  refine J.sipush (q := 45) (v := (365 : Int32)) O dX9_pointsOf_42 rfl rfl ?_
  refine J.idiv (q := 46) O dX9_pointsOf_45 rfl (by decide) ?_
  refine J.aload_n (q := 47) O dX9_pointsOf_46 rfl 1 rfl ?_
  refine J.getR (q := 50) (c' := 4) (ci := 9) (k := 10) (r := 14) O dX9_pointsOf_47 rfl wd_1_66 (by decide) if_4_10 ?_
  refine J.iconst (q := 51) (v := (1 : Int32)) O dX9_pointsOf_50 rfl rfl ?_
  refine J.iald (q := 52) (c' := 14) (j := 1) (M 14 1) rfl O dX9_pointsOf_51 rfl ar_14 (vin_lit (by decide)) (by decide) ?_
  refine J.imul (q := 53) O dX9_pointsOf_52 rfl ?_
  refine J.iadd (q := 54) O dX9_pointsOf_53 rfl ?_
  refine J.iload_n (q := 55) O dX9_pointsOf_54 rfl 0 rfl ?_
  refine J.if_eq (q := 58) (tgt := 67) O dX9_pointsOf_55 rfl (by decide) (fun z12 => ?_) (fun z12 => ?_)
  · replace h := h.1 z12
    refine J.aload_n (q := 68) O dX9_pointsOf_67 rfl 1 rfl ?_
    refine J.getR (q := 71) (c' := 4) (ci := 9) (k := 5) (r := 9) O dX9_pointsOf_68 rfl wd_1_61 (by decide) if_4_5 ?_
    refine J.iload_n (q := 72) O dX9_pointsOf_71 rfl 2 rfl ?_
    obtain ⟨hv13, h⟩ := h
    refine J.iald (q := 73) (c' := 9) (j := x1.toNatClampNeg) (M 9 x1.toNatClampNeg) rfl O dX9_pointsOf_72 rfl ar_9 hv13 rfl ?_
    exact J.sub [1, 2, 0] rfl (j_X9_pointsOf_b73 hG O hR h)
  · replace h := h.2 z12
    refine J.aload_n (q := 59) O dX9_pointsOf_58 rfl 1 rfl ?_
    refine J.getR (q := 62) (c' := 4) (ci := 9) (k := 7) (r := 11) O dX9_pointsOf_59 rfl wd_1_63 (by decide) if_4_7 ?_
    refine J.iload_n (q := 63) O dX9_pointsOf_62 rfl 2 rfl ?_
    obtain ⟨hv14, h⟩ := h
    refine J.iald (q := 64) (c' := 11) (j := x1.toNatClampNeg) (M 11 x1.toNatClampNeg) rfl O dX9_pointsOf_63 rfl ar_11 hv14 rfl ?_
    refine J.goto (q := 73) O dX9_pointsOf_64 (by decide) ?_
    exact J.sub [1, 2, 0] rfl (j_X9_pointsOf_b73 hG O hR h)
set_option maxHeartbeats 4000000 in
set_option maxRecDepth 20000 in
theorem c_X9_pointsOf {l : Launch} {G : GX} (hG : Gd G) {a1 : Int32} {a2 : Int32} {M : Mem} {K : Int32 → Mem → Prop} (h : f_X9_pointsOf a1 a2 M K) : CI l G yX9_pointsOf cX9_pointsOf 4 (some .int) 1 [.ref (ad G 4), .int a1, .int a2] M K := by
  unfold f_X9_pointsOf at h
  refine CI.mk hG (by decide) [(0, .ref (ad G 4)), (1, .int a1), (2, .int a2)] rfl (Nat.le_of_ble_eq_true rfl) (fun X O hlX hR => ?_)
  subst hlX
  refine J.aload_n (q := 1) O dX9_pointsOf_0 rfl 0 rfl ?_
  refine J.getI (q := 4) (c' := 4) (ci := 9) (k := 11) (M 4 11) rfl O dX9_pointsOf_1 rfl wd_1_68 (by decide) if_4_11 ?_
  refine J.bipush (q := 6) (v := (-9 : Int32)) O dX9_pointsOf_4 rfl rfl ?_
  refine J.icmp_eq (q := 9) (tgt := 13) O dX9_pointsOf_6 rfl (by decide) (fun z15 => ?_) (fun z15 => ?_)
  · replace h := h.1 z15
    refine J.iconst (q := 14) (v := (0 : Int32)) O dX9_pointsOf_13 rfl rfl ?_
    exact J.sub [0, 1, 2] rfl (j_X9_pointsOf_b14 hG O hR h)
  · replace h := h.2 z15
    refine J.iconst (q := 10) (v := (1 : Int32)) O dX9_pointsOf_9 rfl rfl ?_
    refine J.goto (q := 14) O dX9_pointsOf_10 (by decide) ?_
    exact J.sub [0, 1, 2] rfl (j_X9_pointsOf_b14 hG O hR h)
set_option maxHeartbeats 4000000 in
set_option maxRecDepth 20000 in
theorem c_X11_points {l : Launch} {G : GX} (hG : Gd G) {a1 : Int32} {M : Mem} {K : Int32 → Mem → Prop} (h : f_X11_points a1 M K) : CI l G yX11_points cX11_points 2 (some .int) 2 [.ref (ad G 0), .int a1] M K := by
  unfold f_X11_points at h
  refine CI.mk hG (by decide) [(0, .ref (ad G 0)), (1, .int a1)] rfl (Nat.le_of_ble_eq_true rfl) (fun X O hlX hR => ?_)
  subst hlX
  refine J.aload_n (q := 1) O dX11_points_0 rfl 0 rfl ?_
  refine J.getR (q := 4) (c' := 0) (ci := 11) (k := 1) (r := 4) O dX11_points_1 rfl wd_3_3 (by decide) if_0_1 ?_
  refine J.iload_n (q := 5) O dX11_points_4 rfl 1 rfl ?_
  refine J.callVI (q := 8) [.int a1] [] [.int a1, .ref (ad G 4)] rfl O dX11_points_5 rfl (c_X9_has hG h) wd_3_106 mw_X9_has io_4 rfl (by decide) (Nat.le_of_ble_eq_true rfl) (fun v1 M1 h => ?_)
  refine J.if_ne (q := 11) (tgt := 17) O dX11_points_8 rfl (by decide) (fun z2 => ?_) (fun z2 => ?_)
  · replace h := h.1 z2
    refine J.aload_n (q := 18) O dX11_points_17 rfl 0 rfl ?_
    refine J.getR (q := 21) (c' := 0) (ci := 11) (k := 1) (r := 4) O dX11_points_18 rfl wd_3_3 (by decide) if_0_1 ?_
    refine J.iload_n (q := 22) O dX11_points_21 rfl 1 rfl ?_
    refine J.aload_n (q := 23) O dX11_points_22 rfl 0 rfl ?_
    refine J.getR (q := 26) (c' := 0) (ci := 11) (k := 0) (r := 1) O dX11_points_23 rfl wd_3_2 (by decide) if_0_0 ?_
    refine J.getI (q := 29) (c' := 1) (ci := 3) (k := 0) (M1 1 0) rfl O dX11_points_26 rfl wd_1_31 (by decide) if_1_0 ?_
    refine J.callVI (q := 32) [.int a1, .int (M1 1 0)] [] [.int (M1 1 0), .int a1, .ref (ad G 4)] rfl O dX11_points_29 rfl (c_X9_pointsOf hG h) wd_5_224 mw_X9_pointsOf io_4 rfl (by decide) (Nat.le_of_ble_eq_true rfl) (fun v3 M3 h => ?_)
    exact hR _ _ _ _ dX11_points_32 h
  · replace h := h.2 z2
    refine J.aload_n (q := 12) O dX11_points_11 rfl 0 rfl ?_
    refine J.iconst (q := 13) (v := (-1 : Int32)) O dX11_points_12 rfl rfl ?_
    refine J.callVI (q := 16) [.int (-1 : Int32)] [] [.int (-1 : Int32), .ref (ad G 0)] rfl O dX11_points_13 rfl (c_X11_refuse hG h) wd_3_55 mw_X11_refuse io_0 rfl (by decide) (Nat.le_of_ble_eq_true rfl) (fun v4 M4 h => ?_)
    exact hR _ _ _ _ dX11_points_16 h
set_option maxHeartbeats 4000000 in
set_option maxRecDepth 20000 in
theorem j_X9_goesAhead_b30 {X : CX} {G : GX} {K : Int32 → Mem → Prop} (hG : Gd G) (O : Ok X G cX9_goesAhead 5 RX9 2) (hR : RetZ X G cX9_goesAhead K) {s0 : Int32} {M : Mem} (h : f_X9_goesAhead_b30 K s0 M) : J X G M 30 [] [.int s0] := by
  unfold f_X9_goesAhead_b30 at h
  exact hR _ _ _ _ dX9_goesAhead_30 h.1 h.2
set_option maxHeartbeats 4000000 in
set_option maxRecDepth 20000 in
theorem j_X9_goesAhead_b79 {X : CX} {G : GX} {K : Int32 → Mem → Prop} (hG : Gd G) (O : Ok X G cX9_goesAhead 5 RX9 2) (hR : RetZ X G cX9_goesAhead K) {s0 : Int32} {M : Mem} (h : f_X9_goesAhead_b79 K s0 M) : J X G M 79 [] [.int s0] := by
  unfold f_X9_goesAhead_b79 at h
  exact hR _ _ _ _ dX9_goesAhead_79 h.1 h.2
set_option maxHeartbeats 4000000 in
set_option maxRecDepth 20000 in
theorem c_X9_goesAhead {l : Launch} {G : GX} (hG : Gd G) {a1 : Int32} {a2 : Int32} {a3 : Int32} {M : Mem} {K : Int32 → Mem → Prop} (h : f_X9_goesAhead a1 a2 a3 M K) : CI l G yX9_goesAhead cX9_goesAhead 5 (some .boolean) 2 [.ref (ad G 4), .int a1, .int a2, .int a3] M K := by
  unfold f_X9_goesAhead at h
  refine CZ.mk hG (by decide) [(0, .ref (ad G 4)), (1, .int a1), (2, .int a2), (3, .int a3)] rfl (Nat.le_of_ble_eq_true rfl) (fun X O hlX hR => ?_)
  subst hlX
  refine J.aload_n (q := 1) O dX9_goesAhead_0 rfl 0 rfl ?_
  refine J.iload_n (q := 2) O dX9_goesAhead_1 rfl 1 rfl ?_
  refine J.iload_n (q := 3) O dX9_goesAhead_2 rfl 3 rfl ?_
  refine J.callVI (q := 6) [.int a1, .int a3] [] [.int a3, .int a1, .ref (ad G 4)] rfl O dX9_goesAhead_3 rfl (c_X9_pointsOf hG h) wd_6_4 mw_X9_pointsOf io_4 rfl (by decide) (Nat.le_of_ble_eq_true rfl) (fun v7 M7 h => ?_)
  refine J.aload_n (q := 7) O dX9_goesAhead_6 rfl 0 rfl ?_
  refine J.iload_n (q := 8) O dX9_goesAhead_7 rfl 2 rfl ?_
  refine J.iload_n (q := 9) O dX9_goesAhead_8 rfl 3 rfl ?_
  refine J.callVI (q := 12) [.int a2, .int a3] [.int v7] [.int a3, .int a2, .ref (ad G 4), .int v7] rfl O dX9_goesAhead_9 rfl (c_X9_pointsOf hG h) wd_6_4 mw_X9_pointsOf io_4 rfl (by decide) (Nat.le_of_ble_eq_true rfl) (fun v8 M8 h => ?_)
  refine J.isub (q := 13) O dX9_goesAhead_12 rfl ?_
  refine J.istore (q := 15) O dX9_goesAhead_13 rfl [(4, .int (v7 - v8)), (0, .ref (ad G 4)), (1, .int a1), (2, .int a2), (3, .int a3)] (by decide) rfl ?_
  refine J.iload (q := 17) O dX9_goesAhead_15 rfl 0 rfl ?_
  refine J.if_eq (q := 20) (tgt := 31) O dX9_goesAhead_17 rfl (by decide) (fun z9 => ?_) (fun z9 => ?_)
  · replace h := h.1 z9
    refine J.aload_n (q := 32) O dX9_goesAhead_31 rfl 1 rfl ?_
    refine J.getR (q := 35) (c' := 4) (ci := 9) (k := 4) (r := 8) O dX9_goesAhead_32 rfl wd_1_60 (by decide) if_4_4 ?_
    refine J.iload_n (q := 36) O dX9_goesAhead_35 rfl 2 rfl ?_
    obtain ⟨hv10, h⟩ := h
    refine J.iald (q := 37) (c' := 8) (j := a1.toNatClampNeg) (M8 8 a1.toNatClampNeg) rfl O dX9_goesAhead_36 rfl ar_8 hv10 rfl ?_
    refine J.aload_n (q := 38) O dX9_goesAhead_37 rfl 1 rfl ?_
    refine J.getR (q := 41) (c' := 4) (ci := 9) (k := 4) (r := 8) O dX9_goesAhead_38 rfl wd_1_60 (by decide) if_4_4 ?_
    refine J.iload_n (q := 42) O dX9_goesAhead_41 rfl 3 rfl ?_
    obtain ⟨hv11, h⟩ := h
    refine J.iald (q := 43) (c' := 8) (j := a2.toNatClampNeg) (M8 8 a2.toNatClampNeg) rfl O dX9_goesAhead_42 rfl ar_8 hv11 rfl ?_
    refine J.icmp_eq (q := 46) (tgt := 69) O dX9_goesAhead_43 rfl (by decide) (fun z12 => ?_) (fun z12 => ?_)
    · replace h := h.1 z12
      refine J.iload_n (q := 70) O dX9_goesAhead_69 rfl 2 rfl ?_
      refine J.iload_n (q := 71) O dX9_goesAhead_70 rfl 3 rfl ?_
      refine J.icmp_le (q := 74) (tgt := 78) O dX9_goesAhead_71 rfl (by decide) (fun z13 => ?_) (fun z13 => ?_)
      · replace h := h.1 z13
        refine J.iconst (q := 79) (v := (0 : Int32)) O dX9_goesAhead_78 rfl rfl ?_
        exact J.sub [] rfl (j_X9_goesAhead_b79 hG O hR h)
      · replace h := h.2 z13
        refine J.iconst (q := 75) (v := (1 : Int32)) O dX9_goesAhead_74 rfl rfl ?_
        refine J.goto (q := 79) O dX9_goesAhead_75 (by decide) ?_
        exact J.sub [] rfl (j_X9_goesAhead_b79 hG O hR h)
    · replace h := h.2 z12
      refine J.aload_n (q := 47) O dX9_goesAhead_46 rfl 1 rfl ?_
      refine J.getR (q := 50) (c' := 4) (ci := 9) (k := 4) (r := 8) O dX9_goesAhead_47 rfl wd_1_60 (by decide) if_4_4 ?_
      refine J.iload_n (q := 51) O dX9_goesAhead_50 rfl 2 rfl ?_
      obtain ⟨hv14, h⟩ := h
      refine J.iald (q := 52) (c' := 8) (j := a1.toNatClampNeg) (M8 8 a1.toNatClampNeg) rfl O dX9_goesAhead_51 rfl ar_8 hv14 rfl ?_
      refine J.aload_n (q := 53) O dX9_goesAhead_52 rfl 1 rfl ?_
      refine J.getR (q := 56) (c' := 4) (ci := 9) (k := 4) (r := 8) O dX9_goesAhead_53 rfl wd_1_60 (by decide) if_4_4 ?_
      refine J.iload_n (q := 57) O dX9_goesAhead_56 rfl 3 rfl ?_
      obtain ⟨hv15, h⟩ := h
      refine J.iald (q := 58) (c' := 8) (j := a2.toNatClampNeg) (M8 8 a2.toNatClampNeg) rfl O dX9_goesAhead_57 rfl ar_8 hv15 rfl ?_
      refine J.icmp_le (q := 61) (tgt := 65) O dX9_goesAhead_58 rfl (by decide) (fun z16 => ?_) (fun z16 => ?_)
      · replace h := h.1 z16
        refine J.iconst (q := 66) (v := (0 : Int32)) O dX9_goesAhead_65 rfl rfl ?_
        refine J.goto (q := 79) O dX9_goesAhead_66 (by decide) ?_
        exact J.sub [] rfl (j_X9_goesAhead_b79 hG O hR h)
      · replace h := h.2 z16
        refine J.iconst (q := 62) (v := (1 : Int32)) O dX9_goesAhead_61 rfl rfl ?_
        refine J.goto (q := 79) O dX9_goesAhead_62 (by decide) ?_
        exact J.sub [] rfl (j_X9_goesAhead_b79 hG O hR h)
  · replace h := h.2 z9
    refine J.iload (q := 22) O dX9_goesAhead_20 rfl 0 rfl ?_
    refine J.if_ge (q := 25) (tgt := 29) O dX9_goesAhead_22 rfl (by decide) (fun z17 => ?_) (fun z17 => ?_)
    · replace h := h.1 z17
      refine J.iconst (q := 30) (v := (0 : Int32)) O dX9_goesAhead_29 rfl rfl ?_
      exact J.sub [] rfl (j_X9_goesAhead_b30 hG O hR h)
    · replace h := h.2 z17
      refine J.iconst (q := 26) (v := (1 : Int32)) O dX9_goesAhead_25 rfl rfl ?_
      refine J.goto (q := 30) O dX9_goesAhead_26 (by decide) ?_
      exact J.sub [] rfl (j_X9_goesAhead_b30 hG O hR h)
set_option maxHeartbeats 4000000 in
set_option maxRecDepth 20000 in
theorem j_X9_countAhead_b60 {X : CX} {G : GX} {K : Int32 → Mem → Prop} (hG : Gd G) (O : Ok X G cX9_countAhead 5 RX9 3) (hR : RetI X G cX9_countAhead K) {r5 : Int32 × Int32 × Int32 × Int32 × Mem → Prop} (hr5 : ∀ a : Int32 × Int32 × Int32 × Int32 × Mem, r5 a → J X G a.2.2.2.2 5 [(0, .ref (ad G 4)), (1, .int a.1), (2, .int a.2.1), (3, .int a.2.2.1), (4, .int a.2.2.2.1)] []) {x1 : Int32} {x2 : Int32} {x3 : Int32} {x4 : Int32} {M : Mem} (h : f_X9_countAhead_b60 r5 K x1 x2 x3 x4 M) : J X G M 60 [(0, .ref (ad G 4)), (1, .int x1), (2, .int x2), (3, .int x3), (4, .int x4)] [] := by
  unfold f_X9_countAhead_b60 at h
  refine J.iinc (q := 63) O dX9_countAhead_60 rfl [(4, .int (x4 + (1 : Int32))), (0, .ref (ad G 4)), (1, .int x1), (2, .int x2), (3, .int x3)] 4 rfl rfl (by decide) rfl ?_
  refine J.goto (q := 5) O dX9_countAhead_63 (by decide) ?_
  exact J.sub [1, 2, 3, 4, 0] rfl (hr5 _ h)
set_option maxHeartbeats 4000000 in
set_option maxRecDepth 20000 in
theorem j_X9_countAhead_c5 {X : CX} {G : GX} {K : Int32 → Mem → Prop} (hG : Gd G) (O : Ok X G cX9_countAhead 5 RX9 3) (hR : RetI X G cX9_countAhead K) {a : Int32 × Int32 × Int32 × Int32 × Mem} (h : Lp (fun (r5 : Int32 × Int32 × Int32 × Int32 × Mem → Prop) a => f_X9_countAhead_c5 K r5 a.1 a.2.1 a.2.2.1 a.2.2.2.1 a.2.2.2.2) a) : J X G a.2.2.2.2 5 [(0, .ref (ad G 4)), (1, .int a.1), (2, .int a.2.1), (3, .int a.2.2.1), (4, .int a.2.2.2.1)] [] := by
  refine Lp.elim (P := fun a => J X G a.2.2.2.2 5 [(0, .ref (ad G 4)), (1, .int a.1), (2, .int a.2.1), (3, .int a.2.2.1), (4, .int a.2.2.2.1)] []) ?_ h
  clear h
  intro r5 hr5 a h
  obtain ⟨x1, x2, x3, x4, M⟩ := a
  unfold f_X9_countAhead_c5 at h
  (try dsimp only at h ⊢)
  refine J.iload (q := 7) O dX9_countAhead_5 rfl 4 rfl ?_
  refine J.aload_n (q := 8) O dX9_countAhead_7 rfl 0 rfl ?_
  refine J.getI (q := 11) (c' := 4) (ci := 9) (k := 0) (M 4 0) rfl O dX9_countAhead_8 rfl wd_1_50 (by decide) if_4_0 ?_
  refine J.icmp_ge (q := 14) (tgt := 66) O dX9_countAhead_11 rfl (by decide) (fun z4 => ?_) (fun z4 => ?_)
  · replace h := h.1 z4
    refine J.iload_n (q := 67) O dX9_countAhead_66 rfl 3 rfl ?_
    exact hR _ _ _ _ dX9_countAhead_67 h
  · replace h := h.2 z4
    refine J.iload (q := 16) O dX9_countAhead_14 rfl 4 rfl ?_
    refine J.iload_n (q := 17) O dX9_countAhead_16 rfl 1 rfl ?_
    refine J.icmp_eq (q := 20) (tgt := 60) O dX9_countAhead_17 rfl (by decide) (fun z5 => ?_) (fun z5 => ?_)
    · replace h := h.1 z5
      exact J.sub [0, 1, 2, 3, 4] rfl (j_X9_countAhead_b60 hG O hR hr5 h)
    · replace h := h.2 z5
      refine J.aload_n (q := 21) O dX9_countAhead_20 rfl 0 rfl ?_
      refine J.getR (q := 24) (c' := 4) (ci := 9) (k := 2) (r := 6) O dX9_countAhead_21 rfl wd_1_56 (by decide) if_4_2 ?_
      refine J.iload (q := 26) O dX9_countAhead_24 rfl 4 rfl ?_
      obtain ⟨hv6, h⟩ := h
      refine J.zald (q := 27) (c' := 6) (j := x4.toNatClampNeg) (M 6 x4.toNatClampNeg) rfl O dX9_countAhead_26 rfl ar_6 hv6 rfl ?_
      refine J.if_eq (q := 30) (tgt := 60) O dX9_countAhead_27 rfl (by decide) (fun z7 => ?_) (fun z7 => ?_)
      · replace h := h.1 z7
        exact J.sub [0, 1, 2, 3, 4] rfl (j_X9_countAhead_b60 hG O hR hr5 h)
      · replace h := h.2 z7
        refine J.aload_n (q := 31) O dX9_countAhead_30 rfl 0 rfl ?_
        refine J.getR (q := 34) (c' := 4) (ci := 9) (k := 1) (r := 5) O dX9_countAhead_31 rfl wd_1_53 (by decide) if_4_1 ?_
        refine J.iload (q := 36) O dX9_countAhead_34 rfl 4 rfl ?_
        obtain ⟨hv8, h⟩ := h
        refine J.iald (q := 37) (c' := 5) (j := x4.toNatClampNeg) (M 5 x4.toNatClampNeg) rfl O dX9_countAhead_36 rfl ar_5 hv8 rfl ?_
        refine J.aload_n (q := 38) O dX9_countAhead_37 rfl 0 rfl ?_
        refine J.getR (q := 41) (c' := 4) (ci := 9) (k := 1) (r := 5) O dX9_countAhead_38 rfl wd_1_53 (by decide) if_4_1 ?_
        refine J.iload_n (q := 42) O dX9_countAhead_41 rfl 1 rfl ?_
        obtain ⟨hv9, h⟩ := h
        refine J.iald (q := 43) (c' := 5) (j := x1.toNatClampNeg) (M 5 x1.toNatClampNeg) rfl O dX9_countAhead_42 rfl ar_5 hv9 rfl ?_
        refine J.icmp_ne (q := 46) (tgt := 60) O dX9_countAhead_43 rfl (by decide) (fun z10 => ?_) (fun z10 => ?_)
        · replace h := h.1 z10
          exact J.sub [0, 1, 2, 3, 4] rfl (j_X9_countAhead_b60 hG O hR hr5 h)
        · replace h := h.2 z10
          refine J.aload_n (q := 47) O dX9_countAhead_46 rfl 0 rfl ?_
          refine J.iload (q := 49) O dX9_countAhead_47 rfl 4 rfl ?_
          refine J.iload_n (q := 50) O dX9_countAhead_49 rfl 1 rfl ?_
          refine J.iload_n (q := 51) O dX9_countAhead_50 rfl 2 rfl ?_
          refine J.callVI (q := 54) [.int x4, .int x1, .int x2] [] [.int x2, .int x1, .int x4, .ref (ad G 4)] rfl O dX9_countAhead_51 rfl (c_X9_goesAhead hG h) wd_6_0 mw_X9_goesAhead io_4 rfl (by decide) (Nat.le_of_ble_eq_true rfl) (fun v11 M11 h => ?_)
          refine J.if_eq (q := 57) (tgt := 60) O dX9_countAhead_54 rfl (by decide) (fun z12 => ?_) (fun z12 => ?_)
          · replace h := h.1 z12
            exact J.sub [0, 1, 2, 3, 4] rfl (j_X9_countAhead_b60 hG O hR hr5 h)
          · replace h := h.2 z12
            refine J.iinc (q := 60) O dX9_countAhead_57 rfl [(3, .int (x3 + (1 : Int32))), (0, .ref (ad G 4)), (1, .int x1), (2, .int x2), (4, .int x4)] 3 rfl rfl (by decide) rfl ?_
            exact J.sub [1, 2, 3, 0, 4] rfl (j_X9_countAhead_b60 hG O hR hr5 h)
set_option maxHeartbeats 4000000 in
set_option maxRecDepth 20000 in
theorem c_X9_countAhead {l : Launch} {G : GX} (hG : Gd G) {a1 : Int32} {a2 : Int32} {M : Mem} {K : Int32 → Mem → Prop} (h : f_X9_countAhead a1 a2 M K) : CI l G yX9_countAhead cX9_countAhead 5 (some .int) 3 [.ref (ad G 4), .int a1, .int a2] M K := by
  unfold f_X9_countAhead at h
  refine CI.mk hG (by decide) [(0, .ref (ad G 4)), (1, .int a1), (2, .int a2)] rfl (Nat.le_of_ble_eq_true rfl) (fun X O hlX hR => ?_)
  subst hlX
  refine J.iconst (q := 1) (v := (0 : Int32)) O dX9_countAhead_0 rfl rfl ?_
  refine J.istore_n (q := 2) O dX9_countAhead_1 rfl [(3, .int (0 : Int32)), (0, .ref (ad G 4)), (1, .int a1), (2, .int a2)] (by decide) rfl ?_
  refine J.iconst (q := 3) (v := (0 : Int32)) O dX9_countAhead_2 rfl rfl ?_
  refine J.istore (q := 5) O dX9_countAhead_3 rfl [(4, .int (0 : Int32)), (3, .int (0 : Int32)), (0, .ref (ad G 4)), (1, .int a1), (2, .int a2)] (by decide) rfl ?_
  exact J.sub [2, 3, 4, 1, 0] rfl (j_X9_countAhead_c5 hG O hR h)
set_option maxHeartbeats 4000000 in
set_option maxRecDepth 20000 in
theorem j_X9_goingAt_b47 {X : CX} {G : GX} {K : Int32 → Mem → Prop} (hG : Gd G) (O : Ok X G cX9_goingAt 5 RX9 4) (hR : RetI X G cX9_goingAt K) {r3 : Int32 × Int32 × Int32 × Int32 × Mem → Prop} (hr3 : ∀ a : Int32 × Int32 × Int32 × Int32 × Mem, r3 a → J X G a.2.2.2.2 3 [(0, .ref (ad G 4)), (1, .int a.1), (2, .int a.2.1), (3, .int a.2.2.1), (4, .int a.2.2.2.1)] []) {x1 : Int32} {x2 : Int32} {x3 : Int32} {x4 : Int32} {M : Mem} (h : f_X9_goingAt_b47 r3 K x1 x2 x3 x4 M) : J X G M 47 [(0, .ref (ad G 4)), (1, .int x1), (2, .int x2), (3, .int x3), (4, .int x4)] [] := by
  unfold f_X9_goingAt_b47 at h
  refine J.iinc (q := 50) O dX9_goingAt_47 rfl [(4, .int (x4 + (1 : Int32))), (0, .ref (ad G 4)), (1, .int x1), (2, .int x2), (3, .int x3)] 4 rfl rfl (by decide) rfl ?_
  refine J.goto (q := 3) O dX9_goingAt_50 (by decide) ?_
  exact J.sub [1, 2, 3, 4, 0] rfl (hr3 _ h)
set_option maxHeartbeats 4000000 in
set_option maxRecDepth 20000 in
theorem j_X9_goingAt_c3 {X : CX} {G : GX} {K : Int32 → Mem → Prop} (hG : Gd G) (O : Ok X G cX9_goingAt 5 RX9 4) (hR : RetI X G cX9_goingAt K) {a : Int32 × Int32 × Int32 × Int32 × Mem} (h : Lp (fun (r3 : Int32 × Int32 × Int32 × Int32 × Mem → Prop) a => f_X9_goingAt_c3 K r3 a.1 a.2.1 a.2.2.1 a.2.2.2.1 a.2.2.2.2) a) : J X G a.2.2.2.2 3 [(0, .ref (ad G 4)), (1, .int a.1), (2, .int a.2.1), (3, .int a.2.2.1), (4, .int a.2.2.2.1)] [] := by
  refine Lp.elim (P := fun a => J X G a.2.2.2.2 3 [(0, .ref (ad G 4)), (1, .int a.1), (2, .int a.2.1), (3, .int a.2.2.1), (4, .int a.2.2.2.1)] []) ?_ h
  clear h
  intro r3 hr3 a h
  obtain ⟨x1, x2, x3, x4, M⟩ := a
  unfold f_X9_goingAt_c3 at h
  (try dsimp only at h ⊢)
  refine J.iload (q := 5) O dX9_goingAt_3 rfl 4 rfl ?_
  refine J.aload_n (q := 6) O dX9_goingAt_5 rfl 0 rfl ?_
  refine J.getI (q := 9) (c' := 4) (ci := 9) (k := 0) (M 4 0) rfl O dX9_goingAt_6 rfl wd_1_50 (by decide) if_4_0 ?_
  refine J.icmp_ge (q := 12) (tgt := 53) O dX9_goingAt_9 rfl (by decide) (fun z3 => ?_) (fun z3 => ?_)
  · replace h := h.1 z3
    refine J.bipush (q := 55) (v := (-9 : Int32)) O dX9_goingAt_53 rfl rfl ?_
    exact hR _ _ _ _ dX9_goingAt_55 h
  · replace h := h.2 z3
    refine J.aload_n (q := 13) O dX9_goingAt_12 rfl 0 rfl ?_
    refine J.getR (q := 16) (c' := 4) (ci := 9) (k := 2) (r := 6) O dX9_goingAt_13 rfl wd_1_56 (by decide) if_4_2 ?_
    refine J.iload (q := 18) O dX9_goingAt_16 rfl 4 rfl ?_
    obtain ⟨hv4, h⟩ := h
    refine J.zald (q := 19) (c' := 6) (j := x4.toNatClampNeg) (M 6 x4.toNatClampNeg) rfl O dX9_goingAt_18 rfl ar_6 hv4 rfl ?_
    refine J.if_eq (q := 22) (tgt := 47) O dX9_goingAt_19 rfl (by decide) (fun z5 => ?_) (fun z5 => ?_)
    · replace h := h.1 z5
      exact J.sub [0, 1, 2, 3, 4] rfl (j_X9_goingAt_b47 hG O hR hr3 h)
    · replace h := h.2 z5
      refine J.aload_n (q := 23) O dX9_goingAt_22 rfl 0 rfl ?_
      refine J.getR (q := 26) (c' := 4) (ci := 9) (k := 1) (r := 5) O dX9_goingAt_23 rfl wd_1_53 (by decide) if_4_1 ?_
      refine J.iload (q := 28) O dX9_goingAt_26 rfl 4 rfl ?_
      obtain ⟨hv6, h⟩ := h
      refine J.iald (q := 29) (c' := 5) (j := x4.toNatClampNeg) (M 5 x4.toNatClampNeg) rfl O dX9_goingAt_28 rfl ar_5 hv6 rfl ?_
      refine J.iload_n (q := 30) O dX9_goingAt_29 rfl 1 rfl ?_
      refine J.icmp_ne (q := 33) (tgt := 47) O dX9_goingAt_30 rfl (by decide) (fun z7 => ?_) (fun z7 => ?_)
      · replace h := h.1 z7
        exact J.sub [0, 1, 2, 3, 4] rfl (j_X9_goingAt_b47 hG O hR hr3 h)
      · replace h := h.2 z7
        refine J.aload_n (q := 34) O dX9_goingAt_33 rfl 0 rfl ?_
        refine J.iload (q := 36) O dX9_goingAt_34 rfl 4 rfl ?_
        refine J.iload_n (q := 37) O dX9_goingAt_36 rfl 3 rfl ?_
        refine J.callVI (q := 40) [.int x4, .int x3] [] [.int x3, .int x4, .ref (ad G 4)] rfl O dX9_goingAt_37 rfl (c_X9_countAhead hG h) wd_5_236 mw_X9_countAhead io_4 rfl (by decide) (Nat.le_of_ble_eq_true rfl) (fun v8 M8 h => ?_)
        refine J.iload_n (q := 41) O dX9_goingAt_40 rfl 2 rfl ?_
        refine J.icmp_ne (q := 44) (tgt := 47) O dX9_goingAt_41 rfl (by decide) (fun z9 => ?_) (fun z9 => ?_)
        · replace h := h.1 z9
          exact J.sub [0, 1, 2, 3, 4] rfl (j_X9_goingAt_b47 hG O hR hr3 h)
        · replace h := h.2 z9
          refine J.iload (q := 46) O dX9_goingAt_44 rfl 4 rfl ?_
          exact hR _ _ _ _ dX9_goingAt_46 h
set_option maxHeartbeats 4000000 in
set_option maxRecDepth 20000 in
theorem c_X9_goingAt {l : Launch} {G : GX} (hG : Gd G) {a1 : Int32} {a2 : Int32} {a3 : Int32} {M : Mem} {K : Int32 → Mem → Prop} (h : f_X9_goingAt a1 a2 a3 M K) : CI l G yX9_goingAt cX9_goingAt 5 (some .int) 4 [.ref (ad G 4), .int a1, .int a2, .int a3] M K := by
  unfold f_X9_goingAt at h
  refine CI.mk hG (by decide) [(0, .ref (ad G 4)), (1, .int a1), (2, .int a2), (3, .int a3)] rfl (Nat.le_of_ble_eq_true rfl) (fun X O hlX hR => ?_)
  subst hlX
  refine J.iconst (q := 1) (v := (0 : Int32)) O dX9_goingAt_0 rfl rfl ?_
  refine J.istore (q := 3) O dX9_goingAt_1 rfl [(4, .int (0 : Int32)), (0, .ref (ad G 4)), (1, .int a1), (2, .int a2), (3, .int a3)] (by decide) rfl ?_
  exact J.sub [1, 2, 3, 4, 0] rfl (j_X9_goingAt_c3 hG O hR h)
set_option maxHeartbeats 4000000 in
set_option maxRecDepth 20000 in
theorem j_X11_goes_b64 {X : CX} {G : GX} {K : Int32 → Mem → Prop} (hG : Gd G) (O : Ok X G cX11_goes 5 RX11 5) (hR : RetI X G cX11_goes K) {s0 : Int32} {M : Mem} (h : f_X11_goes_b64 K s0 M) : J X G M 64 [] [.int s0] := by
  unfold f_X11_goes_b64 at h
  exact hR _ _ _ _ dX11_goes_64 h
set_option maxHeartbeats 4000000 in
set_option maxRecDepth 20000 in
theorem j_X11_goes_b43 {X : CX} {G : GX} {K : Int32 → Mem → Prop} (hG : Gd G) (O : Ok X G cX11_goes 5 RX11 5) (hR : RetI X G cX11_goes K) {M : Mem} (h : f_X11_goes_b43 K  M) : J X G M 43 [] [] := by
  unfold f_X11_goes_b43 at h
  refine J.bipush (q := 45) (v := (-9 : Int32)) O dX11_goes_43 rfl rfl ?_
  refine J.goto (q := 64) O dX11_goes_45 (by decide) ?_
  exact J.sub [] rfl (j_X11_goes_b64 hG O hR h)
set_option maxHeartbeats 4000000 in
set_option maxRecDepth 20000 in
theorem c_X11_goes {l : Launch} {G : GX} (hG : Gd G) {a1 : Int32} {a2 : Int32} {a3 : Int32} {M : Mem} {K : Int32 → Mem → Prop} (h : f_X11_goes a1 a2 a3 M K) : CI l G yX11_goes cX11_goes 5 (some .int) 5 [.ref (ad G 0), .int a1, .int a2, .int a3] M K := by
  unfold f_X11_goes at h
  refine CI.mk hG (by decide) [(0, .ref (ad G 0)), (1, .int a1), (2, .int a2), (3, .int a3)] rfl (Nat.le_of_ble_eq_true rfl) (fun X O hlX hR => ?_)
  subst hlX
  refine J.iload_n (q := 1) O dX11_goes_0 rfl 1 rfl ?_
  refine J.callSI (q := 4) [.int a1] [] [.int a1] rfl O dX11_goes_1 rfl (c_X11_isShop hG h) wd_3_88 mw_X11_isShop rfl (by decide) (Nat.le_of_ble_eq_true rfl) (fun v1 M1 h => ?_)
  refine J.if_ne (q := 7) (tgt := 13) O dX11_goes_4 rfl (by decide) (fun z2 => ?_) (fun z2 => ?_)
  · replace h := h.1 z2
    refine J.iload_n (q := 14) O dX11_goes_13 rfl 2 rfl ?_
    refine J.iconst (q := 15) (v := (0 : Int32)) O dX11_goes_14 rfl rfl ?_
    refine J.bipush (q := 17) (v := (24 : Int32)) O dX11_goes_15 rfl rfl ?_
    refine J.callSI (q := 20) [.int a2, .int (0 : Int32), .int (24 : Int32)] [] [.int (24 : Int32), .int (0 : Int32), .int a2] rfl O dX11_goes_17 rfl (c_X11_outside hG h) wd_3_63 mw_X11_outside rfl (by decide) (Nat.le_of_ble_eq_true rfl) (fun v3 M3 h => ?_)
    refine J.istore (q := 22) O dX11_goes_20 rfl [(4, .int v3), (0, .ref (ad G 0)), (1, .int a1), (2, .int a2), (3, .int a3)] (by decide) rfl ?_
    refine J.iload (q := 24) O dX11_goes_22 rfl 0 rfl ?_
    refine J.if_eq (q := 27) (tgt := 34) O dX11_goes_24 rfl (by decide) (fun z4 => ?_) (fun z4 => ?_)
    · replace h := h.1 z4
      refine J.iload_n (q := 35) O dX11_goes_34 rfl 4 rfl ?_
      refine J.if_lt (q := 38) (tgt := 43) O dX11_goes_35 rfl (by decide) (fun z5 => ?_) (fun z5 => ?_)
      · replace h := h.1 z5
        exact J.sub [] rfl (j_X11_goes_b43 hG O hR h)
      · replace h := h.2 z5
        refine J.iload_n (q := 39) O dX11_goes_38 rfl 4 rfl ?_
        refine J.iload_n (q := 40) O dX11_goes_39 rfl 3 rfl ?_
        refine J.icmp_lt (q := 43) (tgt := 48) O dX11_goes_40 rfl (by decide) (fun z6 => ?_) (fun z6 => ?_)
        · replace h := h.1 z6
          refine J.aload_n (q := 49) O dX11_goes_48 rfl 1 rfl ?_
          refine J.getR (q := 52) (c' := 0) (ci := 11) (k := 1) (r := 4) O dX11_goes_49 rfl wd_3_3 (by decide) if_0_1 ?_
          refine J.iload_n (q := 53) O dX11_goes_52 rfl 2 rfl ?_
          refine J.iload_n (q := 54) O dX11_goes_53 rfl 4 rfl ?_
          refine J.aload_n (q := 55) O dX11_goes_54 rfl 1 rfl ?_
          refine J.getR (q := 58) (c' := 0) (ci := 11) (k := 0) (r := 1) O dX11_goes_55 rfl wd_3_2 (by decide) if_0_0 ?_
          refine J.getI (q := 61) (c' := 1) (ci := 3) (k := 0) (M3 1 0) rfl O dX11_goes_58 rfl wd_1_31 (by decide) if_1_0 ?_
          refine J.callVI (q := 64) [.int a1, .int a3, .int (M3 1 0)] [] [.int (M3 1 0), .int a3, .int a1, .ref (ad G 4)] rfl O dX11_goes_61 rfl (c_X9_goingAt hG h) wd_5_232 mw_X9_goingAt io_4 rfl (by decide) (Nat.le_of_ble_eq_true rfl) (fun v7 M7 h => ?_)
          exact J.sub [] rfl (j_X11_goes_b64 hG O hR h)
        · replace h := h.2 z6
          exact J.sub [] rfl (j_X11_goes_b43 hG O hR h)
    · replace h := h.2 z4
      refine J.aload_n (q := 28) O dX11_goes_27 rfl 1 rfl ?_
      refine J.iload (q := 30) O dX11_goes_28 rfl 0 rfl ?_
      refine J.callVI (q := 33) [.int v3] [] [.int v3, .ref (ad G 0)] rfl O dX11_goes_30 rfl (c_X11_refuse hG h) wd_3_55 mw_X11_refuse io_0 rfl (by decide) (Nat.le_of_ble_eq_true rfl) (fun v8 M8 h => ?_)
      exact hR _ _ _ _ dX11_goes_33 h
  · replace h := h.2 z2
    refine J.aload_n (q := 8) O dX11_goes_7 rfl 0 rfl ?_
    refine J.iconst (q := 9) (v := (-1 : Int32)) O dX11_goes_8 rfl rfl ?_
    refine J.callVI (q := 12) [.int (-1 : Int32)] [] [.int (-1 : Int32), .ref (ad G 0)] rfl O dX11_goes_9 rfl (c_X11_refuse hG h) wd_3_55 mw_X11_refuse io_0 rfl (by decide) (Nat.le_of_ble_eq_true rfl) (fun v9 M9 h => ?_)
    exact hR _ _ _ _ dX11_goes_12 h
set_option maxHeartbeats 4000000 in
set_option maxRecDepth 20000 in
theorem c_X6_add {l : Launch} {G : GX} (hG : Gd G) {a1 : Int32} {a2 : Int32} {a3 : Int32} {M : Mem} {K : Int32 → Mem → Prop} (h : f_X6_add a1 a2 a3 M K) : CI l G yX6_add cX6_add 4 (some .int) 1 [.ref (ad G 111), .int a1, .int a2, .int a3] M K := by
  unfold f_X6_add at h
  refine CI.mk hG (by decide) [(0, .ref (ad G 111)), (1, .int a1), (2, .int a2), (3, .int a3)] rfl (Nat.le_of_ble_eq_true rfl) (fun X O hlX hR => ?_)
  subst hlX
  refine J.aload_n (q := 1) O dX6_add_0 rfl 0 rfl ?_
  refine J.getI (q := 4) (c' := 111) (ci := 6) (k := 0) (M 111 0) rfl O dX6_add_1 rfl wd_2_153 (by decide) if_111_0 ?_
  refine J.bipush (q := 6) (v := (7 : Int32)) O dX6_add_4 rfl rfl ?_
  refine J.icmp_lt (q := 9) (tgt := 12) O dX6_add_6 rfl (by decide) (fun z4 => ?_) (fun z4 => ?_)
  · replace h := h.1 z4
    refine J.aload_n (q := 13) O dX6_add_12 rfl 0 rfl ?_
    refine J.getR (q := 16) (c' := 111) (ci := 6) (k := 1) (r := 112) O dX6_add_13 rfl wd_2_155 (by decide) if_111_1 ?_
    refine J.aload_n (q := 17) O dX6_add_16 rfl 0 rfl ?_
    refine J.getI (q := 20) (c' := 111) (ci := 6) (k := 0) (M 111 0) rfl O dX6_add_17 rfl wd_2_153 (by decide) if_111_0 ?_
    refine J.iload_n (q := 21) O dX6_add_20 rfl 1 rfl ?_
    obtain ⟨hv5, h⟩ := h
    refine J.iast (q := 22) (c' := 112) (j := (M 111 0).toNatClampNeg) O dX6_add_21 rfl ar_112 hv5 rfl ?_
    refine J.aload_n (q := 23) O dX6_add_22 rfl 0 rfl ?_
    refine J.getR (q := 26) (c' := 111) (ci := 6) (k := 2) (r := 113) O dX6_add_23 rfl wd_2_156 (by decide) if_111_2 ?_
    refine J.aload_n (q := 27) O dX6_add_26 rfl 0 rfl ?_
    refine J.getI (q := 30) (c' := 111) (ci := 6) (k := 0) (M 111 0) rfl O dX6_add_27 rfl wd_2_153 (by decide) if_111_0 ?_
    refine J.iload_n (q := 31) O dX6_add_30 rfl 2 rfl ?_
    obtain ⟨hv6, h⟩ := h
    refine J.iast (q := 32) (c' := 113) (j := (M 111 0).toNatClampNeg) O dX6_add_31 rfl ar_113 hv6 rfl ?_
    refine J.aload_n (q := 33) O dX6_add_32 rfl 0 rfl ?_
    refine J.getR (q := 36) (c' := 111) (ci := 6) (k := 3) (r := 114) O dX6_add_33 rfl wd_2_157 (by decide) if_111_3 ?_
    refine J.aload_n (q := 37) O dX6_add_36 rfl 0 rfl ?_
    refine J.getI (q := 40) (c' := 111) (ci := 6) (k := 0) (M 111 0) rfl O dX6_add_37 rfl wd_2_153 (by decide) if_111_0 ?_
    refine J.iload_n (q := 41) O dX6_add_40 rfl 3 rfl ?_
    obtain ⟨hv7, h⟩ := h
    refine J.iast (q := 42) (c' := 114) (j := (M 111 0).toNatClampNeg) O dX6_add_41 rfl ar_114 hv7 rfl ?_
    refine J.aload_n (q := 43) O dX6_add_42 rfl 0 rfl ?_
    refine J.dup (q := 44) O dX6_add_43 rfl rfl ?_
    refine J.getI (q := 47) (c' := 111) (ci := 6) (k := 0) (M 111 0) rfl O dX6_add_44 rfl wd_2_153 (by decide) if_111_0 ?_
    refine J.iconst (q := 48) (v := (1 : Int32)) O dX6_add_47 rfl rfl ?_
    refine J.iadd (q := 49) O dX6_add_48 rfl ?_
    refine J.putI (q := 52) (c' := 111) (ci := 6) (k := 0) O dX6_add_49 rfl wd_2_153 (by decide) if_111_0 rfl rfl ?_
    refine J.aload_n (q := 53) O dX6_add_52 rfl 0 rfl ?_
    refine J.bipush (q := 55) (v := (-9 : Int32)) O dX6_add_53 rfl rfl ?_
    refine J.putI (q := 58) (c' := 111) (ci := 6) (k := 8) O dX6_add_55 rfl wd_2_163 (by decide) if_111_8 rfl rfl ?_
    refine J.aload_n (q := 59) O dX6_add_58 rfl 0 rfl ?_
    refine J.getI (q := 62) (c' := 111) (ci := 6) (k := 0) ((M 111 0) + (1 : Int32)) rfl O dX6_add_59 rfl wd_2_153 (by decide) if_111_0 ?_
    refine J.iconst (q := 63) (v := (1 : Int32)) O dX6_add_62 rfl rfl ?_
    refine J.isub (q := 64) O dX6_add_63 rfl ?_
    exact hR _ _ _ _ dX6_add_64 h
  · replace h := h.2 z4
    refine J.bipush (q := 11) (v := (-6 : Int32)) O dX6_add_9 rfl rfl ?_
    exact hR _ _ _ _ dX6_add_11 h
set_option maxHeartbeats 4000000 in
set_option maxRecDepth 20000 in
theorem j_X11_planned_b13 {X : CX} {G : GX} {K : Int32 → Mem → Prop} (hG : Gd G) (O : Ok X G cX11_planned 4 RX11 2) (hR : RetI X G cX11_planned K) {M : Mem} (h : f_X11_planned_b13 K  M) : J X G M 13 [(0, .ref (ad G 0))] [] := by
  unfold f_X11_planned_b13 at h
  refine J.aload_n (q := 14) O dX11_planned_13 rfl 0 rfl ?_
  refine J.bipush (q := 16) (v := (-4 : Int32)) O dX11_planned_14 rfl rfl ?_
  refine J.callVI (q := 19) [.int (-4 : Int32)] [] [.int (-4 : Int32), .ref (ad G 0)] rfl O dX11_planned_16 rfl (c_X11_refuse hG h) wd_3_55 mw_X11_refuse io_0 rfl (by decide) (Nat.le_of_ble_eq_true rfl) (fun v1 M1 h => ?_)
  exact hR _ _ _ _ dX11_planned_19 h
set_option maxHeartbeats 4000000 in
set_option maxRecDepth 20000 in
theorem j_X11_planned_b62 {X : CX} {G : GX} {K : Int32 → Mem → Prop} (hG : Gd G) (O : Ok X G cX11_planned 4 RX11 2) (hR : RetI X G cX11_planned K) {M : Mem} (h : f_X11_planned_b62 K  M) : J X G M 62 [(0, .ref (ad G 0))] [] := by
  unfold f_X11_planned_b62 at h
  refine J.aload_n (q := 63) O dX11_planned_62 rfl 0 rfl ?_
  refine J.bipush (q := 65) (v := (-6 : Int32)) O dX11_planned_63 rfl rfl ?_
  refine J.callVI (q := 68) [.int (-6 : Int32)] [] [.int (-6 : Int32), .ref (ad G 0)] rfl O dX11_planned_65 rfl (c_X11_refuse hG h) wd_3_55 mw_X11_refuse io_0 rfl (by decide) (Nat.le_of_ble_eq_true rfl) (fun v2 M2 h => ?_)
  exact hR _ _ _ _ dX11_planned_68 h
set_option maxHeartbeats 4000000 in
set_option maxRecDepth 20000 in
theorem c_X11_planned {l : Launch} {G : GX} (hG : Gd G) {a1 : Int32} {a2 : Int32} {a3 : Int32} {M : Mem} {K : Int32 → Mem → Prop} (h : f_X11_planned a1 a2 a3 M K) : CI l G yX11_planned cX11_planned 4 (some .int) 2 [.ref (ad G 0), .int a1, .int a2, .int a3] M K := by
  unfold f_X11_planned at h
  refine CI.mk hG (by decide) [(0, .ref (ad G 0)), (1, .int a1), (2, .int a2), (3, .int a3)] rfl (Nat.le_of_ble_eq_true rfl) (fun X O hlX hR => ?_)
  subst hlX
  refine J.iload_n (q := 1) O dX11_planned_0 rfl 1 rfl ?_
  refine J.iconst (q := 2) (v := (1 : Int32)) O dX11_planned_1 rfl rfl ?_
  refine J.icmp_lt (q := 5) (tgt := 13) O dX11_planned_2 rfl (by decide) (fun z3 => ?_) (fun z3 => ?_)
  · replace h := h.1 z3
    exact J.sub [0] rfl (j_X11_planned_b13 hG O hR h)
  · replace h := h.2 z3
    refine J.iload_n (q := 6) O dX11_planned_5 rfl 2 rfl ?_
    refine J.if_lt (q := 9) (tgt := 13) O dX11_planned_6 rfl (by decide) (fun z4 => ?_) (fun z4 => ?_)
    · replace h := h.1 z4
      exact J.sub [0] rfl (j_X11_planned_b13 hG O hR h)
    · replace h := h.2 z4
      refine J.iload_n (q := 10) O dX11_planned_9 rfl 3 rfl ?_
      refine J.if_ge (q := 13) (tgt := 20) O dX11_planned_10 rfl (by decide) (fun z5 => ?_) (fun z5 => ?_)
      · replace h := h.1 z5
        refine J.iload_n (q := 21) O dX11_planned_20 rfl 3 rfl ?_
        refine J.aload_n (q := 22) O dX11_planned_21 rfl 0 rfl ?_
        refine J.getR (q := 25) (c' := 0) (ci := 11) (k := 10) (r := 111) O dX11_planned_22 rfl wd_3_12 (by decide) if_0_10 ?_
        refine J.getI (q := 28) (c' := 111) (ci := 6) (k := 0) (M 111 0) rfl O dX11_planned_25 rfl wd_2_154 (by decide) if_111_0 ?_
        refine J.ishr (q := 29) O dX11_planned_28 rfl ?_
        refine J.if_eq (q := 32) (tgt := 39) O dX11_planned_29 rfl (by decide) (fun z6 => ?_) (fun z6 => ?_)
        · replace h := h.1 z6
          refine J.iload_n (q := 40) O dX11_planned_39 rfl 1 rfl ?_
          refine J.iconst (q := 41) (v := (3 : Int32)) O dX11_planned_40 rfl rfl ?_
          refine J.icmp_gt (q := 44) (tgt := 62) O dX11_planned_41 rfl (by decide) (fun z7 => ?_) (fun z7 => ?_)
          · replace h := h.1 z7
            exact J.sub [0] rfl (j_X11_planned_b62 hG O hR h)
          · replace h := h.2 z7
            refine J.iload_n (q := 45) O dX11_planned_44 rfl 2 rfl ?_
            refine J.bipush (q := 47) (v := (7 : Int32)) O dX11_planned_45 rfl rfl ?_
            refine J.icmp_ge (q := 50) (tgt := 62) O dX11_planned_47 rfl (by decide) (fun z8 => ?_) (fun z8 => ?_)
            · replace h := h.1 z8
              exact J.sub [0] rfl (j_X11_planned_b62 hG O hR h)
            · replace h := h.2 z8
              refine J.aload_n (q := 51) O dX11_planned_50 rfl 0 rfl ?_
              refine J.getR (q := 54) (c' := 0) (ci := 11) (k := 10) (r := 111) O dX11_planned_51 rfl wd_3_12 (by decide) if_0_10 ?_
              refine J.getI (q := 57) (c' := 111) (ci := 6) (k := 0) (M 111 0) rfl O dX11_planned_54 rfl wd_2_154 (by decide) if_111_0 ?_
              refine J.bipush (q := 59) (v := (7 : Int32)) O dX11_planned_57 rfl rfl ?_
              refine J.icmp_lt (q := 62) (tgt := 69) O dX11_planned_59 rfl (by decide) (fun z9 => ?_) (fun z9 => ?_)
              · replace h := h.1 z9
                refine J.aload_n (q := 70) O dX11_planned_69 rfl 0 rfl ?_
                refine J.getR (q := 73) (c' := 0) (ci := 11) (k := 10) (r := 111) O dX11_planned_70 rfl wd_3_12 (by decide) if_0_10 ?_
                refine J.iload_n (q := 74) O dX11_planned_73 rfl 1 rfl ?_
                refine J.iload_n (q := 75) O dX11_planned_74 rfl 2 rfl ?_
                refine J.iload_n (q := 76) O dX11_planned_75 rfl 3 rfl ?_
                refine J.callVI (q := 79) [.int a1, .int a2, .int a3] [] [.int a3, .int a2, .int a1, .ref (ad G 111)] rfl O dX11_planned_76 rfl (c_X6_add hG h) wd_6_9 mw_X6_add io_111 rfl (by decide) (Nat.le_of_ble_eq_true rfl) (fun v10 M10 h => ?_)
                exact hR _ _ _ _ dX11_planned_79 h
              · replace h := h.2 z9
                exact J.sub [0] rfl (j_X11_planned_b62 hG O hR h)
        · replace h := h.2 z6
          refine J.aload_n (q := 33) O dX11_planned_32 rfl 0 rfl ?_
          refine J.bipush (q := 35) (v := (-3 : Int32)) O dX11_planned_33 rfl rfl ?_
          refine J.callVI (q := 38) [.int (-3 : Int32)] [] [.int (-3 : Int32), .ref (ad G 0)] rfl O dX11_planned_35 rfl (c_X11_refuse hG h) wd_3_55 mw_X11_refuse io_0 rfl (by decide) (Nat.le_of_ble_eq_true rfl) (fun v11 M11 h => ?_)
          exact hR _ _ _ _ dX11_planned_38 h
      · replace h := h.2 z5
        exact J.sub [0] rfl (j_X11_planned_b13 hG O hR h)
set_option maxHeartbeats 4000000 in
set_option maxRecDepth 20000 in
theorem j_X6_firstPlace_b36 {X : CX} {G : GX} {K : Int32 → Mem → Prop} (hG : Gd G) (O : Ok X G cX6_firstPlace 4 RX6 1) (hR : RetI X G cX6_firstPlace K) {r4 : Int32 × Int32 × Int32 × Mem → Prop} (hr4 : ∀ a : Int32 × Int32 × Int32 × Mem, r4 a → J X G a.2.2.2 4 [(0, .ref (ad G 111)), (1, .int a.1), (2, .int a.2.1), (3, .int a.2.2.1)] []) {x1 : Int32} {x2 : Int32} {x3 : Int32} {M : Mem} (h : f_X6_firstPlace_b36 r4 K x1 x2 x3 M) : J X G M 36 [(0, .ref (ad G 111)), (1, .int x1), (2, .int x2), (3, .int x3)] [] := by
  unfold f_X6_firstPlace_b36 at h
  refine J.iinc (q := 39) O dX6_firstPlace_36 rfl [(3, .int (x3 + (1 : Int32))), (0, .ref (ad G 111)), (1, .int x1), (2, .int x2)] 3 rfl rfl (by decide) rfl ?_
  refine J.goto (q := 4) O dX6_firstPlace_39 (by decide) ?_
  exact J.sub [1, 2, 3, 0] rfl (hr4 _ h)
set_option maxHeartbeats 4000000 in
set_option maxRecDepth 20000 in
theorem j_X6_firstPlace_c4 {X : CX} {G : GX} {K : Int32 → Mem → Prop} (hG : Gd G) (O : Ok X G cX6_firstPlace 4 RX6 1) (hR : RetI X G cX6_firstPlace K) {a : Int32 × Int32 × Int32 × Mem} (h : Lp (fun (r4 : Int32 × Int32 × Int32 × Mem → Prop) a => f_X6_firstPlace_c4 K r4 a.1 a.2.1 a.2.2.1 a.2.2.2) a) : J X G a.2.2.2 4 [(0, .ref (ad G 111)), (1, .int a.1), (2, .int a.2.1), (3, .int a.2.2.1)] [] := by
  refine Lp.elim (P := fun a => J X G a.2.2.2 4 [(0, .ref (ad G 111)), (1, .int a.1), (2, .int a.2.1), (3, .int a.2.2.1)] []) ?_ h
  clear h
  intro r4 hr4 a h
  obtain ⟨x1, x2, x3, M⟩ := a
  unfold f_X6_firstPlace_c4 at h
  (try dsimp only at h ⊢)
  refine J.iload_n (q := 5) O dX6_firstPlace_4 rfl 3 rfl ?_
  refine J.iload_n (q := 6) O dX6_firstPlace_5 rfl 1 rfl ?_
  refine J.icmp_ge (q := 9) (tgt := 42) O dX6_firstPlace_6 rfl (by decide) (fun z3 => ?_) (fun z3 => ?_)
  · replace h := h.1 z3
    refine J.iload_n (q := 43) O dX6_firstPlace_42 rfl 2 rfl ?_
    exact hR _ _ _ _ dX6_firstPlace_43 h
  · replace h := h.2 z3
    refine J.aload_n (q := 10) O dX6_firstPlace_9 rfl 0 rfl ?_
    refine J.getR (q := 13) (c' := 111) (ci := 6) (k := 3) (r := 114) O dX6_firstPlace_10 rfl wd_2_157 (by decide) if_111_3 ?_
    refine J.iload_n (q := 14) O dX6_firstPlace_13 rfl 1 rfl ?_
    obtain ⟨hv4, h⟩ := h
    refine J.iald (q := 15) (c' := 114) (j := x1.toNatClampNeg) (M 114 x1.toNatClampNeg) rfl O dX6_firstPlace_14 rfl ar_114 hv4 rfl ?_
    refine J.iload_n (q := 16) O dX6_firstPlace_15 rfl 3 rfl ?_
    refine J.ishr (q := 17) O dX6_firstPlace_16 rfl ?_
    refine J.iconst (q := 18) (v := (1 : Int32)) O dX6_firstPlace_17 rfl rfl ?_
    refine J.iand (q := 19) O dX6_firstPlace_18 rfl ?_
    refine J.iconst (q := 20) (v := (1 : Int32)) O dX6_firstPlace_19 rfl rfl ?_
    refine J.icmp_ne (q := 23) (tgt := 36) O dX6_firstPlace_20 rfl (by decide) (fun z5 => ?_) (fun z5 => ?_)
    · replace h := h.1 z5
      exact J.sub [0, 1, 2, 3] rfl (j_X6_firstPlace_b36 hG O hR hr4 h)
    · replace h := h.2 z5
      refine J.iload_n (q := 24) O dX6_firstPlace_23 rfl 2 rfl ?_
      refine J.aload_n (q := 25) O dX6_firstPlace_24 rfl 0 rfl ?_
      refine J.getR (q := 28) (c' := 111) (ci := 6) (k := 4) (r := 115) O dX6_firstPlace_25 rfl wd_2_158 (by decide) if_111_4 ?_
      refine J.iload_n (q := 29) O dX6_firstPlace_28 rfl 3 rfl ?_
      obtain ⟨hv6, h⟩ := h
      refine J.iald (q := 30) (c' := 115) (j := x3.toNatClampNeg) (M 115 x3.toNatClampNeg) rfl O dX6_firstPlace_29 rfl ar_115 hv6 rfl ?_
      refine J.iconst (q := 31) (v := (1 : Int32)) O dX6_firstPlace_30 rfl rfl ?_
      refine J.iadd (q := 32) O dX6_firstPlace_31 rfl ?_
      refine J.mmax (q := 35) O dX6_firstPlace_32 rfl wd_6_33 (by decide) (Nat.le_of_ble_eq_true rfl) ?_
      refine J.istore_n (q := 36) O dX6_firstPlace_35 rfl [(2, .int (if x2 < ((M 115 x3.toNatClampNeg) + (1 : Int32)) then ((M 115 x3.toNatClampNeg) + (1 : Int32)) else x2)), (0, .ref (ad G 111)), (1, .int x1), (3, .int x3)] (by decide) rfl ?_
      exact J.sub [1, 2, 0, 3] rfl (j_X6_firstPlace_b36 hG O hR hr4 h)
set_option maxHeartbeats 4000000 in
set_option maxRecDepth 20000 in
theorem c_X6_firstPlace {l : Launch} {G : GX} (hG : Gd G) {a1 : Int32} {M : Mem} {K : Int32 → Mem → Prop} (h : f_X6_firstPlace a1 M K) : CI l G yX6_firstPlace cX6_firstPlace 4 (some .int) 1 [.ref (ad G 111), .int a1] M K := by
  unfold f_X6_firstPlace at h
  refine CI.mk hG (by decide) [(0, .ref (ad G 111)), (1, .int a1)] rfl (Nat.le_of_ble_eq_true rfl) (fun X O hlX hR => ?_)
  subst hlX
  refine J.iconst (q := 1) (v := (0 : Int32)) O dX6_firstPlace_0 rfl rfl ?_
  refine J.istore_n (q := 2) O dX6_firstPlace_1 rfl [(2, .int (0 : Int32)), (0, .ref (ad G 111)), (1, .int a1)] (by decide) rfl ?_
  refine J.iconst (q := 3) (v := (0 : Int32)) O dX6_firstPlace_2 rfl rfl ?_
  refine J.istore_n (q := 4) O dX6_firstPlace_3 rfl [(3, .int (0 : Int32)), (2, .int (0 : Int32)), (0, .ref (ad G 111)), (1, .int a1)] (by decide) rfl ?_
  exact J.sub [2, 3, 1, 0] rfl (j_X6_firstPlace_c4 hG O hR h)
set_option maxHeartbeats 4000000 in
set_option maxRecDepth 20000 in
theorem j_X6_leastLateFrom_b53 {X : CX} {G : GX} {K : Int32 → Mem → Prop} (hG : Gd G) (O : Ok X G cX6_leastLateFrom 5 RX6 2) (hR : RetI X G cX6_leastLateFrom K) {r4 : Int32 × Int32 × Mem → Prop} (hr4 : ∀ a : Int32 × Int32 × Mem, r4 a → J X G a.2.2 4 [(0, .ref (ad G 111)), (2, .int a.1), (3, .int a.2.1)] []) {x2 : Int32} {x3 : Int32} {x4 : Int32} {M : Mem} (h : f_X6_leastLateFrom_b53 r4 K x2 x3 x4 M) : J X G M 53 [(0, .ref (ad G 111)), (2, .int x2), (3, .int x3), (4, .int x4)] [] := by
  unfold f_X6_leastLateFrom_b53 at h
  refine J.aload_n (q := 54) O dX6_leastLateFrom_53 rfl 0 rfl ?_
  refine J.getR (q := 57) (c' := 111) (ci := 6) (k := 4) (r := 115) O dX6_leastLateFrom_54 rfl wd_2_158 (by decide) if_111_4 ?_
  refine J.iload_n (q := 58) O dX6_leastLateFrom_57 rfl 2 rfl ?_
  refine J.iload (q := 60) O dX6_leastLateFrom_58 rfl 3 rfl ?_
  obtain ⟨hv5, h⟩ := h
  refine J.iast (q := 61) (c' := 115) (j := x3.toNatClampNeg) O dX6_leastLateFrom_60 rfl ar_115 hv5 rfl ?_
  refine J.iload_n (q := 62) O dX6_leastLateFrom_61 rfl 1 rfl ?_
  refine J.iconst (q := 63) (v := (0 : Int32)) O dX6_leastLateFrom_62 rfl rfl ?_
  refine J.iload (q := 65) O dX6_leastLateFrom_63 rfl 3 rfl ?_
  refine J.aload_n (q := 66) O dX6_leastLateFrom_65 rfl 0 rfl ?_
  refine J.getR (q := 69) (c' := 111) (ci := 6) (k := 2) (r := 113) O dX6_leastLateFrom_66 rfl wd_2_156 (by decide) if_111_2 ?_
  refine J.iload_n (q := 70) O dX6_leastLateFrom_69 rfl 2 rfl ?_
  obtain ⟨hv6, h⟩ := h
  refine J.iald (q := 71) (c' := 113) (j := x3.toNatClampNeg) (M 113 x3.toNatClampNeg) rfl O dX6_leastLateFrom_70 rfl ar_113 hv6 rfl ?_
  refine J.isub (q := 72) O dX6_leastLateFrom_71 rfl ?_
  refine J.mmax (q := 75) O dX6_leastLateFrom_72 rfl wd_6_33 (by decide) (Nat.le_of_ble_eq_true rfl) ?_
  refine J.iadd (q := 76) O dX6_leastLateFrom_75 rfl ?_
  refine J.istore_n (q := 77) O dX6_leastLateFrom_76 rfl [(2, .int (x2 + (if (0 : Int32) < (x4 - (M 113 x3.toNatClampNeg)) then (x4 - (M 113 x3.toNatClampNeg)) else (0 : Int32)))), (0, .ref (ad G 111)), (3, .int x3), (4, .int x4)] (by decide) rfl ?_
  refine J.iinc (q := 80) O dX6_leastLateFrom_77 rfl [(3, .int (x3 + (1 : Int32))), (2, .int (x2 + (if (0 : Int32) < (x4 - (M 113 x3.toNatClampNeg)) then (x4 - (M 113 x3.toNatClampNeg)) else (0 : Int32)))), (0, .ref (ad G 111)), (4, .int x4)] 2 rfl rfl (by decide) rfl ?_
  refine J.goto (q := 4) O dX6_leastLateFrom_80 (by decide) ?_
  exact J.sub [2, 1, 0] rfl (hr4 _ h)
set_option maxHeartbeats 4000000 in
set_option maxRecDepth 20000 in
theorem j_X6_leastLateFrom_c19 {X : CX} {G : GX} {K : Int32 → Mem → Prop} (hG : Gd G) (O : Ok X G cX6_leastLateFrom 5 RX6 2) (hR : RetI X G cX6_leastLateFrom K) {r4 : Int32 × Int32 × Mem → Prop} (hr4 : ∀ a : Int32 × Int32 × Mem, r4 a → J X G a.2.2 4 [(0, .ref (ad G 111)), (2, .int a.1), (3, .int a.2.1)] []) {a : Int32 × Int32 × Int32 × Mem} (h : Lp (fun (r19 : Int32 × Int32 × Int32 × Mem → Prop) a => f_X6_leastLateFrom_c19 r4 K r19 a.1 a.2.1 a.2.2.1 a.2.2.2) a) : J X G a.2.2.2 19 [(0, .ref (ad G 111)), (2, .int a.1), (3, .int a.2.1), (4, .int a.2.2.1)] [] := by
  refine Lp.elim (P := fun a => J X G a.2.2.2 19 [(0, .ref (ad G 111)), (2, .int a.1), (3, .int a.2.1), (4, .int a.2.2.1)] []) ?_ h
  clear h
  intro r19 hr19 a h
  obtain ⟨x2, x3, x4, M⟩ := a
  unfold f_X6_leastLateFrom_c19 at h
  (try dsimp only at h ⊢)
  refine J.iload (q := 21) O dX6_leastLateFrom_19 rfl 3 rfl ?_
  refine J.bipush (q := 23) (v := (7 : Int32)) O dX6_leastLateFrom_21 rfl rfl ?_
  refine J.icmp_ge (q := 26) (tgt := 53) O dX6_leastLateFrom_23 rfl (by decide) (fun z7 => ?_) (fun z7 => ?_)
  · replace h := h.1 z7
    exact J.sub [0, 1, 2, 3] rfl (j_X6_leastLateFrom_b53 hG O hR hr4 h)
  · replace h := h.2 z7
    refine J.aload_n (q := 27) O dX6_leastLateFrom_26 rfl 0 rfl ?_
    refine J.getR (q := 30) (c' := 111) (ci := 6) (k := 5) (r := 116) O dX6_leastLateFrom_27 rfl wd_2_159 (by decide) if_111_5 ?_
    refine J.iload (q := 32) O dX6_leastLateFrom_30 rfl 3 rfl ?_
    obtain ⟨hv8, h⟩ := h
    refine J.iald (q := 33) (c' := 116) (j := x4.toNatClampNeg) (M 116 x4.toNatClampNeg) rfl O dX6_leastLateFrom_32 rfl ar_116 hv8 rfl ?_
    refine J.aload_n (q := 34) O dX6_leastLateFrom_33 rfl 0 rfl ?_
    refine J.getR (q := 37) (c' := 111) (ci := 6) (k := 1) (r := 112) O dX6_leastLateFrom_34 rfl wd_2_155 (by decide) if_111_1 ?_
    refine J.iload_n (q := 38) O dX6_leastLateFrom_37 rfl 2 rfl ?_
    obtain ⟨hv9, h⟩ := h
    refine J.iald (q := 39) (c' := 112) (j := x3.toNatClampNeg) (M 112 x3.toNatClampNeg) rfl O dX6_leastLateFrom_38 rfl ar_112 hv9 rfl ?_
    refine J.iadd (q := 40) O dX6_leastLateFrom_39 rfl ?_
    refine J.aload_n (q := 41) O dX6_leastLateFrom_40 rfl 0 rfl ?_
    refine J.getI (q := 44) (c' := 111) (ci := 6) (k := 8) (M 111 8) rfl O dX6_leastLateFrom_41 rfl wd_2_163 (by decide) if_111_8 ?_
    refine J.icmp_le (q := 47) (tgt := 53) O dX6_leastLateFrom_44 rfl (by decide) (fun z10 => ?_) (fun z10 => ?_)
    · replace h := h.1 z10
      exact J.sub [0, 1, 2, 3] rfl (j_X6_leastLateFrom_b53 hG O hR hr4 h)
    · replace h := h.2 z10
      refine J.iinc (q := 50) O dX6_leastLateFrom_47 rfl [(4, .int (x4 + (1 : Int32))), (0, .ref (ad G 111)), (2, .int x2), (3, .int x3)] 3 rfl rfl (by decide) rfl ?_
      refine J.goto (q := 19) O dX6_leastLateFrom_50 (by decide) ?_
      exact J.sub [1, 2, 3, 0] rfl (hr19 _ h)
set_option maxHeartbeats 4000000 in
set_option maxRecDepth 20000 in
theorem j_X6_leastLateFrom_c4 {X : CX} {G : GX} {K : Int32 → Mem → Prop} (hG : Gd G) (O : Ok X G cX6_leastLateFrom 5 RX6 2) (hR : RetI X G cX6_leastLateFrom K) {a : Int32 × Int32 × Mem} (h : Lp (fun (r4 : Int32 × Int32 × Mem → Prop) a => f_X6_leastLateFrom_c4 K r4 a.1 a.2.1 a.2.2) a) : J X G a.2.2 4 [(0, .ref (ad G 111)), (2, .int a.1), (3, .int a.2.1)] [] := by
  refine Lp.elim (P := fun a => J X G a.2.2 4 [(0, .ref (ad G 111)), (2, .int a.1), (3, .int a.2.1)] []) ?_ h
  clear h
  intro r4 hr4 a h
  obtain ⟨x2, x3, M⟩ := a
  unfold f_X6_leastLateFrom_c4 at h
  (try dsimp only at h ⊢)
  refine J.iload_n (q := 5) O dX6_leastLateFrom_4 rfl 2 rfl ?_
  refine J.aload_n (q := 6) O dX6_leastLateFrom_5 rfl 0 rfl ?_
  refine J.getI (q := 9) (c' := 111) (ci := 6) (k := 0) (M 111 0) rfl O dX6_leastLateFrom_6 rfl wd_2_153 (by decide) if_111_0 ?_
  refine J.icmp_ge (q := 12) (tgt := 83) O dX6_leastLateFrom_9 rfl (by decide) (fun z11 => ?_) (fun z11 => ?_)
  · replace h := h.1 z11
    refine J.iload_n (q := 84) O dX6_leastLateFrom_83 rfl 1 rfl ?_
    exact hR _ _ _ _ dX6_leastLateFrom_84 h
  · replace h := h.2 z11
    refine J.aload_n (q := 13) O dX6_leastLateFrom_12 rfl 0 rfl ?_
    refine J.iload_n (q := 14) O dX6_leastLateFrom_13 rfl 2 rfl ?_
    refine J.callVI (q := 17) [.int x3] [] [.int x3, .ref (ad G 111)] rfl O dX6_leastLateFrom_14 rfl (c_X6_firstPlace hG h) wd_6_29 mw_X6_firstPlace io_111 rfl (by decide) (Nat.le_of_ble_eq_true rfl) (fun v12 M12 h => ?_)
    refine J.istore (q := 19) O dX6_leastLateFrom_17 rfl [(4, .int v12), (0, .ref (ad G 111)), (2, .int x2), (3, .int x3)] (by decide) rfl ?_
    exact J.sub [1, 2, 3, 0] rfl (j_X6_leastLateFrom_c19 hG O hR hr4 h)
set_option maxHeartbeats 4000000 in
set_option maxRecDepth 20000 in
theorem c_X6_leastLateFrom {l : Launch} {G : GX} (hG : Gd G) {a1 : Int32} {M : Mem} {K : Int32 → Mem → Prop} (h : f_X6_leastLateFrom a1 M K) : CI l G yX6_leastLateFrom cX6_leastLateFrom 5 (some .int) 2 [.ref (ad G 111), .int a1] M K := by
  unfold f_X6_leastLateFrom at h
  refine CI.mk hG (by decide) [(0, .ref (ad G 111)), (1, .int a1)] rfl (Nat.le_of_ble_eq_true rfl) (fun X O hlX hR => ?_)
  subst hlX
  refine J.iconst (q := 1) (v := (0 : Int32)) O dX6_leastLateFrom_0 rfl rfl ?_
  refine J.istore_n (q := 2) O dX6_leastLateFrom_1 rfl [(2, .int (0 : Int32)), (0, .ref (ad G 111)), (1, .int a1)] (by decide) rfl ?_
  refine J.iload_n (q := 3) O dX6_leastLateFrom_2 rfl 2 rfl ?_
  refine J.istore_n (q := 4) O dX6_leastLateFrom_3 rfl [(3, .int a1), (2, .int (0 : Int32)), (0, .ref (ad G 111)), (1, .int a1)] (by decide) rfl ?_
  exact J.sub [2, 1, 0] rfl (j_X6_leastLateFrom_c4 hG O hR h)
set_option maxHeartbeats 4000000 in
set_option maxRecDepth 20000 in
theorem j_X6_keepPlaces_c7 {X : CX} {G : GX} {K : Mem → Prop} (hG : Gd G) (O : Ok X G cX6_keepPlaces 3 RX6 1) (hR : RetV X G cX6_keepPlaces K) {a : Int32 × Mem} (h : Lp (fun (r7 : Int32 × Mem → Prop) a => f_X6_keepPlaces_c7 K r7 a.1 a.2) a) : J X G a.2 7 [(0, .ref (ad G 111)), (2, .int a.1)] [] := by
  refine Lp.elim (P := fun a => J X G a.2 7 [(0, .ref (ad G 111)), (2, .int a.1)] []) ?_ h
  clear h
  intro r7 hr7 a h
  obtain ⟨x2, M⟩ := a
  unfold f_X6_keepPlaces_c7 at h
  (try dsimp only at h ⊢)
  refine J.iload_n (q := 8) O dX6_keepPlaces_7 rfl 1 rfl ?_
  refine J.aload_n (q := 9) O dX6_keepPlaces_8 rfl 0 rfl ?_
  refine J.getI (q := 12) (c' := 111) (ci := 6) (k := 0) (M 111 0) rfl O dX6_keepPlaces_9 rfl wd_2_153 (by decide) if_111_0 ?_
  refine J.icmp_ge (q := 15) (tgt := 33) O dX6_keepPlaces_12 rfl (by decide) (fun z3 => ?_) (fun z3 => ?_)
  · replace h := h.1 z3
    exact hR _ _ _ dX6_keepPlaces_33 h
  · replace h := h.2 z3
    refine J.aload_n (q := 16) O dX6_keepPlaces_15 rfl 0 rfl ?_
    refine J.getR (q := 19) (c' := 111) (ci := 6) (k := 6) (r := 117) O dX6_keepPlaces_16 rfl wd_2_160 (by decide) if_111_6 ?_
    refine J.iload_n (q := 20) O dX6_keepPlaces_19 rfl 1 rfl ?_
    refine J.aload_n (q := 21) O dX6_keepPlaces_20 rfl 0 rfl ?_
    refine J.getR (q := 24) (c' := 111) (ci := 6) (k := 4) (r := 115) O dX6_keepPlaces_21 rfl wd_2_158 (by decide) if_111_4 ?_
    refine J.iload_n (q := 25) O dX6_keepPlaces_24 rfl 1 rfl ?_
    obtain ⟨hv4, h⟩ := h
    refine J.iald (q := 26) (c' := 115) (j := x2.toNatClampNeg) (M 115 x2.toNatClampNeg) rfl O dX6_keepPlaces_25 rfl ar_115 hv4 rfl ?_
    obtain ⟨hv5, h⟩ := h
    refine J.iast (q := 27) (c' := 117) (j := x2.toNatClampNeg) O dX6_keepPlaces_26 rfl ar_117 hv5 rfl ?_
    refine J.iinc (q := 30) O dX6_keepPlaces_27 rfl [(2, .int (x2 + (1 : Int32))), (0, .ref (ad G 111))] 1 rfl rfl (by decide) rfl ?_
    refine J.goto (q := 7) O dX6_keepPlaces_30 (by decide) ?_
    exact J.sub [1, 0] rfl (hr7 _ h)
set_option maxHeartbeats 4000000 in
set_option maxRecDepth 20000 in
theorem c_X6_keepPlaces {l : Launch} {G : GX} (hG : Gd G) {a1 : Int32} {M : Mem} {K : Mem → Prop} (h : f_X6_keepPlaces a1 M K) : CV l G yX6_keepPlaces cX6_keepPlaces 3 1 [.ref (ad G 111), .int a1] M K := by
  unfold f_X6_keepPlaces at h
  refine CV.mk hG (by decide) [(0, .ref (ad G 111)), (1, .int a1)] rfl (Nat.le_of_ble_eq_true rfl) (fun X O hlX hR => ?_)
  subst hlX
  refine J.aload_n (q := 1) O dX6_keepPlaces_0 rfl 0 rfl ?_
  refine J.iload_n (q := 2) O dX6_keepPlaces_1 rfl 1 rfl ?_
  refine J.putI (q := 5) (c' := 111) (ci := 6) (k := 7) O dX6_keepPlaces_2 rfl wd_2_162 (by decide) if_111_7 rfl rfl ?_
  refine J.iconst (q := 6) (v := (0 : Int32)) O dX6_keepPlaces_5 rfl rfl ?_
  refine J.istore_n (q := 7) O dX6_keepPlaces_6 rfl [(2, .int (0 : Int32)), (0, .ref (ad G 111)), (1, .int a1)] (by decide) rfl ?_
  exact J.sub [1, 0] rfl (j_X6_keepPlaces_c7 hG O hR h)
set_option maxHeartbeats 4000000 in
set_option maxRecDepth 20000 in
theorem j_X6_settleOn_b93 {nf : Nat} {rec : Int32 → Int32 → Mem → (Mem → Prop) → Prop} {X : CX} {G : GX} {K : Mem → Prop} (hG : Gd G) (O : Ok X G cX6_settleOn 4 RX6 (4 + 2 * nf)) (hR : RetV X G cX6_settleOn K) (hrec : ∀ {a1 a2 : Int32} {M : Mem} {K : Mem → Prop}, rec a1 a2 M K → CV (lX X) G yX6_settleFrom cX6_settleFrom 3 (3 + 2 * nf) [.ref (ad G 111), .int a1, .int a2] M K) {r6 : Int32 × Int32 × Int32 × Mem → Prop} (hr6 : ∀ a : Int32 × Int32 × Int32 × Mem, r6 a → J X G a.2.2.2 6 [(0, .ref (ad G 111)), (1, .int a.1), (2, .int a.2.1), (3, .int a.2.2.1)] []) {x1 : Int32} {x2 : Int32} {x3 : Int32} {M : Mem} (h : f_X6_settleOn_b93 rec r6 K x1 x2 x3 M) : J X G M 93 [(0, .ref (ad G 111)), (1, .int x1), (2, .int x2), (3, .int x3)] [] := by
  unfold f_X6_settleOn_b93 at h
  refine J.iinc (q := 96) O dX6_settleOn_93 rfl [(3, .int (x3 + (1 : Int32))), (0, .ref (ad G 111)), (1, .int x1), (2, .int x2)] 3 rfl rfl (by decide) rfl ?_
  refine J.goto (q := 6) O dX6_settleOn_96 (by decide) ?_
  exact J.sub [1, 2, 3, 0] rfl (hr6 _ h)
set_option maxHeartbeats 4000000 in
set_option maxRecDepth 20000 in
theorem j_X6_settleOn_c6 {nf : Nat} {rec : Int32 → Int32 → Mem → (Mem → Prop) → Prop} {X : CX} {G : GX} {K : Mem → Prop} (hG : Gd G) (O : Ok X G cX6_settleOn 4 RX6 (4 + 2 * nf)) (hR : RetV X G cX6_settleOn K) (hrec : ∀ {a1 a2 : Int32} {M : Mem} {K : Mem → Prop}, rec a1 a2 M K → CV (lX X) G yX6_settleFrom cX6_settleFrom 3 (3 + 2 * nf) [.ref (ad G 111), .int a1, .int a2] M K) {a : Int32 × Int32 × Int32 × Mem} (h : Lp (fun (r6 : Int32 × Int32 × Int32 × Mem → Prop) a => f_X6_settleOn_c6 rec K r6 a.1 a.2.1 a.2.2.1 a.2.2.2) a) : J X G a.2.2.2 6 [(0, .ref (ad G 111)), (1, .int a.1), (2, .int a.2.1), (3, .int a.2.2.1)] [] := by
  refine Lp.elim (P := fun a => J X G a.2.2.2 6 [(0, .ref (ad G 111)), (1, .int a.1), (2, .int a.2.1), (3, .int a.2.2.1)] []) ?_ h
  clear h
  intro r6 hr6 a h
  obtain ⟨x1, x2, x3, M⟩ := a
  unfold f_X6_settleOn_c6 at h
  (try dsimp only at h ⊢)
  refine J.iload_n (q := 7) O dX6_settleOn_6 rfl 3 rfl ?_
  refine J.bipush (q := 9) (v := (7 : Int32)) O dX6_settleOn_7 rfl rfl ?_
  refine J.icmp_ge (q := 12) (tgt := 99) O dX6_settleOn_9 rfl (by decide) (fun z11 => ?_) (fun z11 => ?_)
  · replace h := h.1 z11
    exact hR _ _ _ dX6_settleOn_99 h
  · replace h := h.2 z11
    refine J.aload_n (q := 13) O dX6_settleOn_12 rfl 0 rfl ?_
    refine J.getR (q := 16) (c' := 111) (ci := 6) (k := 5) (r := 116) O dX6_settleOn_13 rfl wd_2_159 (by decide) if_111_5 ?_
    refine J.iload_n (q := 17) O dX6_settleOn_16 rfl 3 rfl ?_
    obtain ⟨hv12, h⟩ := h
    refine J.iald (q := 18) (c' := 116) (j := x3.toNatClampNeg) (M 116 x3.toNatClampNeg) rfl O dX6_settleOn_17 rfl ar_116 hv12 rfl ?_
    refine J.aload_n (q := 19) O dX6_settleOn_18 rfl 0 rfl ?_
    refine J.getR (q := 22) (c' := 111) (ci := 6) (k := 1) (r := 112) O dX6_settleOn_19 rfl wd_2_155 (by decide) if_111_1 ?_
    refine J.iload_n (q := 23) O dX6_settleOn_22 rfl 1 rfl ?_
    obtain ⟨hv13, h⟩ := h
    refine J.iald (q := 24) (c' := 112) (j := x1.toNatClampNeg) (M 112 x1.toNatClampNeg) rfl O dX6_settleOn_23 rfl ar_112 hv13 rfl ?_
    refine J.iadd (q := 25) O dX6_settleOn_24 rfl ?_
    refine J.aload_n (q := 26) O dX6_settleOn_25 rfl 0 rfl ?_
    refine J.getI (q := 29) (c' := 111) (ci := 6) (k := 8) (M 111 8) rfl O dX6_settleOn_26 rfl wd_2_163 (by decide) if_111_8 ?_
    refine J.icmp_le (q := 32) (tgt := 35) O dX6_settleOn_29 rfl (by decide) (fun z14 => ?_) (fun z14 => ?_)
    · replace h := h.1 z14
      refine J.aload_n (q := 36) O dX6_settleOn_35 rfl 0 rfl ?_
      refine J.getR (q := 39) (c' := 111) (ci := 6) (k := 5) (r := 116) O dX6_settleOn_36 rfl wd_2_159 (by decide) if_111_5 ?_
      refine J.iload_n (q := 40) O dX6_settleOn_39 rfl 3 rfl ?_
      refine J.dup2 (q := 41) O dX6_settleOn_40 rfl rfl rfl ?_
      obtain ⟨hv15, h⟩ := h
      refine J.iald (q := 42) (c' := 116) (j := x3.toNatClampNeg) (M 116 x3.toNatClampNeg) rfl O dX6_settleOn_41 rfl ar_116 hv15 rfl ?_
      refine J.aload_n (q := 43) O dX6_settleOn_42 rfl 0 rfl ?_
      refine J.getR (q := 46) (c' := 111) (ci := 6) (k := 1) (r := 112) O dX6_settleOn_43 rfl wd_2_155 (by decide) if_111_1 ?_
      refine J.iload_n (q := 47) O dX6_settleOn_46 rfl 1 rfl ?_
      obtain ⟨hv16, h⟩ := h
      refine J.iald (q := 48) (c' := 112) (j := x1.toNatClampNeg) (M 112 x1.toNatClampNeg) rfl O dX6_settleOn_47 rfl ar_112 hv16 rfl ?_
      refine J.iadd (q := 49) O dX6_settleOn_48 rfl ?_
      obtain ⟨hv17, h⟩ := h
      refine J.iast (q := 50) (c' := 116) (j := x3.toNatClampNeg) O dX6_settleOn_49 rfl ar_116 hv17 rfl ?_
      refine J.aload_n (q := 51) O dX6_settleOn_50 rfl 0 rfl ?_
      refine J.getR (q := 54) (c' := 111) (ci := 6) (k := 4) (r := 115) O dX6_settleOn_51 rfl wd_2_158 (by decide) if_111_4 ?_
      refine J.iload_n (q := 55) O dX6_settleOn_54 rfl 1 rfl ?_
      refine J.iload_n (q := 56) O dX6_settleOn_55 rfl 3 rfl ?_
      obtain ⟨hv18, h⟩ := h
      refine J.iast (q := 57) (c' := 115) (j := x1.toNatClampNeg) O dX6_settleOn_56 rfl ar_115 hv18 rfl ?_
      refine J.aload_n (q := 58) O dX6_settleOn_57 rfl 0 rfl ?_
      refine J.iload_n (q := 59) O dX6_settleOn_58 rfl 1 rfl ?_
      refine J.iconst (q := 60) (v := (1 : Int32)) O dX6_settleOn_59 rfl rfl ?_
      refine J.iadd (q := 61) O dX6_settleOn_60 rfl ?_
      refine J.iload_n (q := 62) O dX6_settleOn_61 rfl 2 rfl ?_
      refine J.iconst (q := 63) (v := (0 : Int32)) O dX6_settleOn_62 rfl rfl ?_
      refine J.iload_n (q := 64) O dX6_settleOn_63 rfl 3 rfl ?_
      refine J.aload_n (q := 65) O dX6_settleOn_64 rfl 0 rfl ?_
      refine J.getR (q := 68) (c' := 111) (ci := 6) (k := 2) (r := 113) O dX6_settleOn_65 rfl wd_2_156 (by decide) if_111_2 ?_
      refine J.iload_n (q := 69) O dX6_settleOn_68 rfl 1 rfl ?_
      obtain ⟨hv19, h⟩ := h
      refine J.iald (q := 70) (c' := 113) (j := x1.toNatClampNeg) (M 113 x1.toNatClampNeg) rfl O dX6_settleOn_69 rfl ar_113 hv19 rfl ?_
      refine J.isub (q := 71) O dX6_settleOn_70 rfl ?_
      refine J.mmax (q := 74) O dX6_settleOn_71 rfl wd_6_33 (by omega) (Nat.le_of_ble_eq_true rfl) ?_
      refine J.iadd (q := 75) O dX6_settleOn_74 rfl ?_
      refine J.callVV (q := 78) [.int (x1 + (1 : Int32)), .int (x2 + (if (0 : Int32) < (x3 - (M 113 x1.toNatClampNeg)) then (x3 - (M 113 x1.toNatClampNeg)) else (0 : Int32)))] [] [.int (x2 + (if (0 : Int32) < (x3 - (M 113 x1.toNatClampNeg)) then (x3 - (M 113 x1.toNatClampNeg)) else (0 : Int32))), .int (x1 + (1 : Int32)), .ref (ad G 111)] rfl O dX6_settleOn_75 rfl (hrec h) wd_6_21 mw_X6_settleFrom io_111 rfl (by omega) (Nat.le_of_ble_eq_true rfl) (fun M20 h => ?_)
      refine J.aload_n (q := 79) O dX6_settleOn_78 rfl 0 rfl ?_
      refine J.getR (q := 82) (c' := 111) (ci := 6) (k := 5) (r := 116) O dX6_settleOn_79 rfl wd_2_159 (by decide) if_111_5 ?_
      refine J.iload_n (q := 83) O dX6_settleOn_82 rfl 3 rfl ?_
      refine J.dup2 (q := 84) O dX6_settleOn_83 rfl rfl rfl ?_
      obtain ⟨hv21, h⟩ := h
      refine J.iald (q := 85) (c' := 116) (j := x3.toNatClampNeg) (M20 116 x3.toNatClampNeg) rfl O dX6_settleOn_84 rfl ar_116 hv21 rfl ?_
      refine J.aload_n (q := 86) O dX6_settleOn_85 rfl 0 rfl ?_
      refine J.getR (q := 89) (c' := 111) (ci := 6) (k := 1) (r := 112) O dX6_settleOn_86 rfl wd_2_155 (by decide) if_111_1 ?_
      refine J.iload_n (q := 90) O dX6_settleOn_89 rfl 1 rfl ?_
      obtain ⟨hv22, h⟩ := h
      refine J.iald (q := 91) (c' := 112) (j := x1.toNatClampNeg) (M20 112 x1.toNatClampNeg) rfl O dX6_settleOn_90 rfl ar_112 hv22 rfl ?_
      refine J.isub (q := 92) O dX6_settleOn_91 rfl ?_
      obtain ⟨hv23, h⟩ := h
      refine J.iast (q := 93) (c' := 116) (j := x3.toNatClampNeg) O dX6_settleOn_92 rfl ar_116 hv23 rfl ?_
      exact J.sub [0, 1, 2, 3] rfl (j_X6_settleOn_b93 hG O hR hrec hr6 h)
    · replace h := h.2 z14
      refine J.goto (q := 93) O dX6_settleOn_32 (by decide) ?_
      exact J.sub [0, 1, 2, 3] rfl (j_X6_settleOn_b93 hG O hR hrec hr6 h)
set_option maxHeartbeats 4000000 in
set_option maxRecDepth 20000 in
theorem c_X6_settleOn {l : Launch} {G : GX} {nf : Nat} {rec : Int32 → Int32 → Mem → (Mem → Prop) → Prop} (hrec : ∀ {a1 a2 : Int32} {M : Mem} {K : Mem → Prop}, rec a1 a2 M K → CV l G yX6_settleFrom cX6_settleFrom 3 (3 + 2 * nf) [.ref (ad G 111), .int a1, .int a2] M K) (hG : Gd G) {a1 : Int32} {a2 : Int32} {M : Mem} {K : Mem → Prop} (h : f_X6_settleOn rec a1 a2 M K) : CV l G yX6_settleOn cX6_settleOn 4 (4 + 2 * nf) [.ref (ad G 111), .int a1, .int a2] M K := by
  unfold f_X6_settleOn at h
  refine CV.mk hG (by decide) [(0, .ref (ad G 111)), (1, .int a1), (2, .int a2)] rfl (Nat.le_of_ble_eq_true rfl) (fun X O hlX hR => ?_)
  subst hlX
  refine J.aload_n (q := 1) O dX6_settleOn_0 rfl 0 rfl ?_
  refine J.iload_n (q := 2) O dX6_settleOn_1 rfl 1 rfl ?_
  refine J.callVI (q := 5) [.int a1] [] [.int a1, .ref (ad G 111)] rfl O dX6_settleOn_2 rfl (c_X6_firstPlace hG h) wd_6_29 mw_X6_firstPlace io_111 rfl (by omega) (Nat.le_of_ble_eq_true rfl) (fun v24 M24 h => ?_)
  refine J.istore_n (q := 6) O dX6_settleOn_5 rfl [(3, .int v24), (0, .ref (ad G 111)), (1, .int a1), (2, .int a2)] (by decide) rfl ?_
  exact J.sub [1, 2, 3, 0] rfl (j_X6_settleOn_c6 hG O hR hrec h)
set_option maxHeartbeats 4000000 in
set_option maxRecDepth 20000 in
theorem j_X6_settleFrom_b32 {nf : Nat} {rec : Int32 → Int32 → Mem → (Mem → Prop) → Prop} {X : CX} {G : GX} {K : Mem → Prop} (hG : Gd G) (O : Ok X G cX6_settleFrom 3 RX6 (5 + 2 * nf)) (hR : RetV X G cX6_settleFrom K) (hrec : ∀ {a1 a2 : Int32} {M : Mem} {K : Mem → Prop}, rec a1 a2 M K → CV (lX X) G yX6_settleFrom cX6_settleFrom 3 (3 + 2 * nf) [.ref (ad G 111), .int a1, .int a2] M K) {x1 : Int32} {x2 : Int32} {M : Mem} (h : f_X6_settleFrom_b32 rec K x1 x2 M) : J X G M 32 [(0, .ref (ad G 111)), (1, .int x1), (2, .int x2)] [] := by
  unfold f_X6_settleFrom_b32 at h
  refine J.iload_n (q := 33) O dX6_settleFrom_32 rfl 1 rfl ?_
  refine J.aload_n (q := 34) O dX6_settleFrom_33 rfl 0 rfl ?_
  refine J.getI (q := 37) (c' := 111) (ci := 6) (k := 0) (M 111 0) rfl O dX6_settleFrom_34 rfl wd_2_153 (by decide) if_111_0 ?_
  refine J.icmp_ne (q := 40) (tgt := 48) O dX6_settleFrom_37 rfl (by decide) (fun z1 => ?_) (fun z1 => ?_)
  · replace h := h.1 z1
    refine J.aload_n (q := 49) O dX6_settleFrom_48 rfl 0 rfl ?_
    refine J.iload_n (q := 50) O dX6_settleFrom_49 rfl 1 rfl ?_
    refine J.iload_n (q := 51) O dX6_settleFrom_50 rfl 2 rfl ?_
    refine J.callVV (q := 54) [.int x1, .int x2] [] [.int x2, .int x1, .ref (ad G 111)] rfl O dX6_settleFrom_51 rfl (c_X6_settleOn hrec hG h) wd_6_38 mw_X6_settleOn io_111 rfl (by omega) (Nat.le_of_ble_eq_true rfl) (fun M2 h => ?_)
    exact hR _ _ _ dX6_settleFrom_54 h
  · replace h := h.2 z1
    refine J.aload_n (q := 41) O dX6_settleFrom_40 rfl 0 rfl ?_
    refine J.iload_n (q := 42) O dX6_settleFrom_41 rfl 2 rfl ?_
    refine J.callVV (q := 45) [.int x2] [] [.int x2, .ref (ad G 111)] rfl O dX6_settleFrom_42 rfl (c_X6_keepPlaces hG h) wd_6_34 mw_X6_keepPlaces io_111 rfl (by omega) (Nat.le_of_ble_eq_true rfl) (fun M3 h => ?_)
    refine J.goto (q := 54) O dX6_settleFrom_45 (by decide) ?_
    exact hR _ _ _ dX6_settleFrom_54 h
set_option maxHeartbeats 4000000 in
set_option maxRecDepth 20000 in
theorem c_X6_settleFrom {l : Launch} {G : GX} {nf : Nat} {rec : Int32 → Int32 → Mem → (Mem → Prop) → Prop} (hrec : ∀ {a1 a2 : Int32} {M : Mem} {K : Mem → Prop}, rec a1 a2 M K → CV l G yX6_settleFrom cX6_settleFrom 3 (3 + 2 * nf) [.ref (ad G 111), .int a1, .int a2] M K) (hG : Gd G) {a1 : Int32} {a2 : Int32} {M : Mem} {K : Mem → Prop} (h : f_X6_settleFrom rec a1 a2 M K) : CV l G yX6_settleFrom cX6_settleFrom 3 (5 + 2 * nf) [.ref (ad G 111), .int a1, .int a2] M K := by
  unfold f_X6_settleFrom at h
  refine CV.mk hG (by decide) [(0, .ref (ad G 111)), (1, .int a1), (2, .int a2)] rfl (Nat.le_of_ble_eq_true rfl) (fun X O hlX hR => ?_)
  subst hlX
  refine J.iload_n (q := 1) O dX6_settleFrom_0 rfl 1 rfl ?_
  refine J.aload_n (q := 2) O dX6_settleFrom_1 rfl 0 rfl ?_
  refine J.getI (q := 5) (c' := 111) (ci := 6) (k := 0) (M 111 0) rfl O dX6_settleFrom_2 rfl wd_2_153 (by decide) if_111_0 ?_
  refine J.icmp_gt (q := 8) (tgt := 31) O dX6_settleFrom_5 rfl (by decide) (fun z4 => ?_) (fun z4 => ?_)
  · replace h := h.1 z4
    exact hR _ _ _ dX6_settleFrom_31 h
  · replace h := h.2 z4
    refine J.aload_n (q := 9) O dX6_settleFrom_8 rfl 0 rfl ?_
    refine J.getI (q := 12) (c' := 111) (ci := 6) (k := 7) (M 111 7) rfl O dX6_settleFrom_9 rfl wd_2_162 (by decide) if_111_7 ?_
    refine J.bipush (q := 14) (v := (-9 : Int32)) O dX6_settleFrom_12 rfl rfl ?_
    refine J.icmp_eq (q := 17) (tgt := 32) O dX6_settleFrom_14 rfl (by decide) (fun z5 => ?_) (fun z5 => ?_)
    · replace h := h.1 z5
      exact J.sub [0, 1, 2] rfl (j_X6_settleFrom_b32 hG O hR hrec h)
    · replace h := h.2 z5
      refine J.iload_n (q := 18) O dX6_settleFrom_17 rfl 2 rfl ?_
      refine J.aload_n (q := 19) O dX6_settleFrom_18 rfl 0 rfl ?_
      refine J.iload_n (q := 20) O dX6_settleFrom_19 rfl 1 rfl ?_
      refine J.callVI (q := 23) [.int a1] [.int a2] [.int a1, .ref (ad G 111), .int a2] rfl O dX6_settleFrom_20 rfl (c_X6_leastLateFrom hG h) wd_6_25 mw_X6_leastLateFrom io_111 rfl (by omega) (Nat.le_of_ble_eq_true rfl) (fun v6 M6 h => ?_)
      refine J.iadd (q := 24) O dX6_settleFrom_23 rfl ?_
      refine J.aload_n (q := 25) O dX6_settleFrom_24 rfl 0 rfl ?_
      refine J.getI (q := 28) (c' := 111) (ci := 6) (k := 7) (M6 111 7) rfl O dX6_settleFrom_25 rfl wd_2_162 (by decide) if_111_7 ?_
      refine J.icmp_lt (q := 31) (tgt := 32) O dX6_settleFrom_28 rfl (by decide) (fun z7 => ?_) (fun z7 => ?_)
      · replace h := h.1 z7
        exact J.sub [0, 1, 2] rfl (j_X6_settleFrom_b32 hG O hR hrec h)
      · replace h := h.2 z7
        exact hR _ _ _ dX6_settleFrom_31 h
theorem cn_pl {l : Launch} {G : GX} (hG : Gd G) : ∀ (n : Nat) {a1 a2 : Int32} {M : Mem} {K : Mem → Prop}, fr_pl n a1 a2 M K → CV l G yX6_settleFrom cX6_settleFrom 3 (3 + 2 * n) [.ref (ad G 111), .int a1, .int a2] M K
  | 0, _, _, _, _, h => h.elim
  | n + 1, _, _, _, _, h => by
    have := c_X6_settleFrom (l := l) (nf := n) (rec := fr_pl n) (cn_pl hG n) hG h
    rwa [show 3 + 2 + 2 * n = 3 + 2 * (n + 1) by omega] at this
theorem cr_pl {l : Launch} {G : GX} (hG : Gd G) {a1 a2 : Int32} {M : Mem} {K : Mem → Prop} (h : fr_pl 12 a1 a2 M K) : CV l G yX6_settleFrom cX6_settleFrom 3 27 [.ref (ad G 111), .int a1, .int a2] M K := cn_pl hG 12 h
set_option maxHeartbeats 4000000 in
set_option maxRecDepth 20000 in
theorem j_X6_leastLate_b46 {X : CX} {G : GX} {K : Int32 → Mem → Prop} (hG : Gd G) (O : Ok X G cX6_leastLate 3 RX6 28) (hR : RetI X G cX6_leastLate K) {M : Mem} (h : f_X6_leastLate_b46 K  M) : J X G M 46 [(0, .ref (ad G 111))] [] := by
  unfold f_X6_leastLate_b46 at h
  refine J.aload_n (q := 47) O dX6_leastLate_46 rfl 0 rfl ?_
  refine J.getI (q := 50) (c' := 111) (ci := 6) (k := 7) (M 111 7) rfl O dX6_leastLate_47 rfl wd_2_162 (by decide) if_111_7 ?_
  exact hR _ _ _ _ dX6_leastLate_50 h
set_option maxHeartbeats 4000000 in
set_option maxRecDepth 20000 in
theorem j_X6_leastLate_c21 {X : CX} {G : GX} {K : Int32 → Mem → Prop} (hG : Gd G) (O : Ok X G cX6_leastLate 3 RX6 28) (hR : RetI X G cX6_leastLate K) {a : Int32 × Mem} (h : Lp (fun (r21 : Int32 × Mem → Prop) a => f_X6_leastLate_c21 K r21 a.1 a.2) a) : J X G a.2 21 [(0, .ref (ad G 111)), (2, .int a.1)] [] := by
  refine Lp.elim (P := fun a => J X G a.2 21 [(0, .ref (ad G 111)), (2, .int a.1)] []) ?_ h
  clear h
  intro r21 hr21 a h
  obtain ⟨x2, M⟩ := a
  unfold f_X6_leastLate_c21 at h
  (try dsimp only at h ⊢)
  refine J.iload_n (q := 22) O dX6_leastLate_21 rfl 1 rfl ?_
  refine J.bipush (q := 24) (v := (7 : Int32)) O dX6_leastLate_22 rfl rfl ?_
  refine J.icmp_ge (q := 27) (tgt := 40) O dX6_leastLate_24 rfl (by decide) (fun z2 => ?_) (fun z2 => ?_)
  · replace h := h.1 z2
    refine J.aload_n (q := 41) O dX6_leastLate_40 rfl 0 rfl ?_
    refine J.iconst (q := 42) (v := (0 : Int32)) O dX6_leastLate_41 rfl rfl ?_
    refine J.iconst (q := 43) (v := (0 : Int32)) O dX6_leastLate_42 rfl rfl ?_
    refine J.callVV (q := 46) [.int (0 : Int32), .int (0 : Int32)] [] [.int (0 : Int32), .int (0 : Int32), .ref (ad G 111)] rfl O dX6_leastLate_43 rfl (cr_pl hG h) wd_6_21 mw_X6_settleFrom io_111 rfl (by decide) (Nat.le_of_ble_eq_true rfl) (fun M3 h => ?_)
    exact J.sub [0] rfl (j_X6_leastLate_b46 hG O hR h)
  · replace h := h.2 z2
    refine J.aload_n (q := 28) O dX6_leastLate_27 rfl 0 rfl ?_
    refine J.getR (q := 31) (c' := 111) (ci := 6) (k := 5) (r := 116) O dX6_leastLate_28 rfl wd_2_159 (by decide) if_111_5 ?_
    refine J.iload_n (q := 32) O dX6_leastLate_31 rfl 1 rfl ?_
    refine J.iconst (q := 33) (v := (0 : Int32)) O dX6_leastLate_32 rfl rfl ?_
    obtain ⟨hv4, h⟩ := h
    refine J.iast (q := 34) (c' := 116) (j := x2.toNatClampNeg) O dX6_leastLate_33 rfl ar_116 hv4 rfl ?_
    refine J.iinc (q := 37) O dX6_leastLate_34 rfl [(2, .int (x2 + (1 : Int32))), (0, .ref (ad G 111))] 1 rfl rfl (by decide) rfl ?_
    refine J.goto (q := 21) O dX6_leastLate_37 (by decide) ?_
    exact J.sub [1, 0] rfl (hr21 _ h)
set_option maxHeartbeats 4000000 in
set_option maxRecDepth 20000 in
theorem c_X6_leastLate {l : Launch} {G : GX} (hG : Gd G) {a1 : Int32} {M : Mem} {K : Int32 → Mem → Prop} (h : f_X6_leastLate a1 M K) : CI l G yX6_leastLate cX6_leastLate 3 (some .int) 28 [.ref (ad G 111), .int a1] M K := by
  unfold f_X6_leastLate at h
  refine CI.mk hG (by decide) [(0, .ref (ad G 111)), (1, .int a1)] rfl (Nat.le_of_ble_eq_true rfl) (fun X O hlX hR => ?_)
  subst hlX
  refine J.aload_n (q := 1) O dX6_leastLate_0 rfl 0 rfl ?_
  refine J.getI (q := 4) (c' := 111) (ci := 6) (k := 8) (M 111 8) rfl O dX6_leastLate_1 rfl wd_2_163 (by decide) if_111_8 ?_
  refine J.iload_n (q := 5) O dX6_leastLate_4 rfl 1 rfl ?_
  refine J.icmp_eq (q := 8) (tgt := 46) O dX6_leastLate_5 rfl (by decide) (fun z5 => ?_) (fun z5 => ?_)
  · replace h := h.1 z5
    exact J.sub [0] rfl (j_X6_leastLate_b46 hG O hR h)
  · replace h := h.2 z5
    refine J.aload_n (q := 9) O dX6_leastLate_8 rfl 0 rfl ?_
    refine J.iload_n (q := 10) O dX6_leastLate_9 rfl 1 rfl ?_
    refine J.putI (q := 13) (c' := 111) (ci := 6) (k := 8) O dX6_leastLate_10 rfl wd_2_163 (by decide) if_111_8 rfl rfl ?_
    refine J.aload_n (q := 14) O dX6_leastLate_13 rfl 0 rfl ?_
    refine J.bipush (q := 16) (v := (-9 : Int32)) O dX6_leastLate_14 rfl rfl ?_
    refine J.putI (q := 19) (c' := 111) (ci := 6) (k := 7) O dX6_leastLate_16 rfl wd_2_162 (by decide) if_111_7 rfl rfl ?_
    refine J.iconst (q := 20) (v := (0 : Int32)) O dX6_leastLate_19 rfl rfl ?_
    refine J.istore_n (q := 21) O dX6_leastLate_20 rfl [(2, .int (0 : Int32)), (0, .ref (ad G 111)), (1, .int a1)] (by decide) rfl ?_
    exact J.sub [1, 0] rfl (j_X6_leastLate_c21 hG O hR h)
set_option maxHeartbeats 4000000 in
set_option maxRecDepth 20000 in
theorem c_X11_plan {l : Launch} {G : GX} (hG : Gd G) {M : Mem} {K : Int32 → Mem → Prop} (h : f_X11_plan  M K) : CI l G yX11_plan cX11_plan 1 (some .int) 29 [.ref (ad G 0)] M K := by
  unfold f_X11_plan at h
  refine CI.mk hG (by decide) [(0, .ref (ad G 0))] rfl (Nat.le_of_ble_eq_true rfl) (fun X O hlX hR => ?_)
  subst hlX
  refine J.aload_n (q := 1) O dX11_plan_0 rfl 0 rfl ?_
  refine J.getR (q := 4) (c' := 0) (ci := 11) (k := 10) (r := 111) O dX11_plan_1 rfl wd_3_12 (by decide) if_0_10 ?_
  refine J.aload_n (q := 5) O dX11_plan_4 rfl 0 rfl ?_
  refine J.getR (q := 8) (c' := 0) (ci := 11) (k := 12) (r := 124) O dX11_plan_5 rfl wd_3_14 (by decide) if_0_12 ?_
  refine J.iconst (q := 9) (v := (3 : Int32)) O dX11_plan_8 rfl rfl ?_
  refine J.iald (q := 10) (c' := 124) (j := 3) (M 124 3) rfl O dX11_plan_9 rfl ar_124 (vin_lit (by decide)) (by decide) ?_
  refine J.callVI (q := 13) [.int (M 124 3)] [] [.int (M 124 3), .ref (ad G 111)] rfl O dX11_plan_10 rfl (c_X6_leastLate hG h) wd_6_17 mw_X6_leastLate io_111 rfl (by decide) (Nat.le_of_ble_eq_true rfl) (fun v1 M1 h => ?_)
  exact hR _ _ _ _ dX11_plan_13 h
set_option maxHeartbeats 4000000 in
set_option maxRecDepth 20000 in
theorem j_X11_placeOf_b15 {X : CX} {G : GX} {K : Int32 → Mem → Prop} (hG : Gd G) (O : Ok X G cX11_placeOf 2 RX11 29) (hR : RetI X G cX11_placeOf K) {M : Mem} (h : f_X11_placeOf_b15 K  M) : J X G M 15 [(0, .ref (ad G 0))] [] := by
  unfold f_X11_placeOf_b15 at h
  refine J.aload_n (q := 16) O dX11_placeOf_15 rfl 0 rfl ?_
  refine J.iconst (q := 17) (v := (-1 : Int32)) O dX11_placeOf_16 rfl rfl ?_
  refine J.callVI (q := 20) [.int (-1 : Int32)] [] [.int (-1 : Int32), .ref (ad G 0)] rfl O dX11_placeOf_17 rfl (c_X11_refuse hG h) wd_3_55 mw_X11_refuse io_0 rfl (by decide) (Nat.le_of_ble_eq_true rfl) (fun v2 M2 h => ?_)
  exact hR _ _ _ _ dX11_placeOf_20 h
set_option maxHeartbeats 4000000 in
set_option maxRecDepth 20000 in
theorem j_X11_placeOf_b53 {X : CX} {G : GX} {K : Int32 → Mem → Prop} (hG : Gd G) (O : Ok X G cX11_placeOf 2 RX11 29) (hR : RetI X G cX11_placeOf K) {s0 : Int32} {M : Mem} (h : f_X11_placeOf_b53 K s0 M) : J X G M 53 [] [.int s0] := by
  unfold f_X11_placeOf_b53 at h
  exact hR _ _ _ _ dX11_placeOf_53 h
set_option maxHeartbeats 4000000 in
set_option maxRecDepth 20000 in
theorem c_X11_placeOf {l : Launch} {G : GX} (hG : Gd G) {a1 : Int32} {M : Mem} {K : Int32 → Mem → Prop} (h : f_X11_placeOf a1 M K) : CI l G yX11_placeOf cX11_placeOf 2 (some .int) 29 [.ref (ad G 0), .int a1] M K := by
  unfold f_X11_placeOf at h
  refine CI.mk hG (by decide) [(0, .ref (ad G 0)), (1, .int a1)] rfl (Nat.le_of_ble_eq_true rfl) (fun X O hlX hR => ?_)
  subst hlX
  refine J.iload_n (q := 1) O dX11_placeOf_0 rfl 1 rfl ?_
  refine J.if_lt (q := 4) (tgt := 15) O dX11_placeOf_1 rfl (by decide) (fun z3 => ?_) (fun z3 => ?_)
  · replace h := h.1 z3
    exact J.sub [0] rfl (j_X11_placeOf_b15 hG O hR h)
  · replace h := h.2 z3
    refine J.iload_n (q := 5) O dX11_placeOf_4 rfl 1 rfl ?_
    refine J.aload_n (q := 6) O dX11_placeOf_5 rfl 0 rfl ?_
    refine J.getR (q := 9) (c' := 0) (ci := 11) (k := 10) (r := 111) O dX11_placeOf_6 rfl wd_3_12 (by decide) if_0_10 ?_
    refine J.getI (q := 12) (c' := 111) (ci := 6) (k := 0) (M 111 0) rfl O dX11_placeOf_9 rfl wd_2_154 (by decide) if_111_0 ?_
    refine J.icmp_lt (q := 15) (tgt := 21) O dX11_placeOf_12 rfl (by decide) (fun z4 => ?_) (fun z4 => ?_)
    · replace h := h.1 z4
      refine J.aload_n (q := 22) O dX11_placeOf_21 rfl 0 rfl ?_
      refine J.getR (q := 25) (c' := 0) (ci := 11) (k := 10) (r := 111) O dX11_placeOf_22 rfl wd_3_12 (by decide) if_0_10 ?_
      refine J.aload_n (q := 26) O dX11_placeOf_25 rfl 0 rfl ?_
      refine J.getR (q := 29) (c' := 0) (ci := 11) (k := 12) (r := 124) O dX11_placeOf_26 rfl wd_3_14 (by decide) if_0_12 ?_
      refine J.iconst (q := 30) (v := (3 : Int32)) O dX11_placeOf_29 rfl rfl ?_
      refine J.iald (q := 31) (c' := 124) (j := 3) (M 124 3) rfl O dX11_placeOf_30 rfl ar_124 (vin_lit (by decide)) (by decide) ?_
      refine J.callVI (q := 34) [.int (M 124 3)] [] [.int (M 124 3), .ref (ad G 111)] rfl O dX11_placeOf_31 rfl (c_X6_leastLate hG h) wd_6_17 mw_X6_leastLate io_111 rfl (by decide) (Nat.le_of_ble_eq_true rfl) (fun v5 M5 h => ?_)
      refine J.bipush (q := 36) (v := (-9 : Int32)) O dX11_placeOf_34 rfl rfl ?_
      refine J.icmp_ne (q := 39) (tgt := 44) O dX11_placeOf_36 rfl (by decide) (fun z6 => ?_) (fun z6 => ?_)
      · replace h := h.1 z6
        refine J.aload_n (q := 45) O dX11_placeOf_44 rfl 0 rfl ?_
        refine J.getR (q := 48) (c' := 0) (ci := 11) (k := 10) (r := 111) O dX11_placeOf_45 rfl wd_3_12 (by decide) if_0_10 ?_
        refine J.getR (q := 51) (c' := 111) (ci := 6) (k := 6) (r := 117) O dX11_placeOf_48 rfl wd_2_161 (by decide) if_111_6 ?_
        refine J.iload_n (q := 52) O dX11_placeOf_51 rfl 1 rfl ?_
        obtain ⟨hv7, h⟩ := h
        refine J.iald (q := 53) (c' := 117) (j := a1.toNatClampNeg) (M5 117 a1.toNatClampNeg) rfl O dX11_placeOf_52 rfl ar_117 hv7 rfl ?_
        exact J.sub [] rfl (j_X11_placeOf_b53 hG O hR h)
      · replace h := h.2 z6
        refine J.bipush (q := 41) (v := (-9 : Int32)) O dX11_placeOf_39 rfl rfl ?_
        refine J.goto (q := 53) O dX11_placeOf_41 (by decide) ?_
        exact J.sub [] rfl (j_X11_placeOf_b53 hG O hR h)
    · replace h := h.2 z4
      exact J.sub [0] rfl (j_X11_placeOf_b15 hG O hR h)
set_option maxHeartbeats 4000000 in
set_option maxRecDepth 20000 in
theorem c_X11_put {l : Launch} {G : GX} (hG : Gd G) {a1 : Int32} {M : Mem} {K : Int32 → Mem → Prop} (h : f_X11_put a1 M K) : CI l G yX11_put cX11_put 2 (some .int) 2 [.ref (ad G 0), .int a1] M K := by
  unfold f_X11_put at h
  refine CI.mk hG (by decide) [(0, .ref (ad G 0)), (1, .int a1)] rfl (Nat.le_of_ble_eq_true rfl) (fun X O hlX hR => ?_)
  subst hlX
  refine J.aload_n (q := 1) O dX11_put_0 rfl 0 rfl ?_
  refine J.getI (q := 4) (c' := 0) (ci := 11) (k := 14) (M 0 14) rfl O dX11_put_1 rfl wd_3_16 (by decide) if_0_14 ?_
  refine J.bipush (q := 6) (v := (40 : Int32)) O dX11_put_4 rfl rfl ?_
  refine J.icmp_lt (q := 9) (tgt := 16) O dX11_put_6 rfl (by decide) (fun z2 => ?_) (fun z2 => ?_)
  · replace h := h.1 z2
    refine J.aload_n (q := 17) O dX11_put_16 rfl 0 rfl ?_
    refine J.getR (q := 20) (c' := 0) (ci := 11) (k := 13) (r := 125) O dX11_put_17 rfl wd_3_15 (by decide) if_0_13 ?_
    refine J.aload_n (q := 21) O dX11_put_20 rfl 0 rfl ?_
    refine J.getI (q := 24) (c' := 0) (ci := 11) (k := 14) (M 0 14) rfl O dX11_put_21 rfl wd_3_16 (by decide) if_0_14 ?_
    refine J.iload_n (q := 25) O dX11_put_24 rfl 1 rfl ?_
    obtain ⟨hv3, h⟩ := h
    refine J.iast (q := 26) (c' := 125) (j := (M 0 14).toNatClampNeg) O dX11_put_25 rfl ar_125 hv3 rfl ?_
    refine J.aload_n (q := 27) O dX11_put_26 rfl 0 rfl ?_
    refine J.dup (q := 28) O dX11_put_27 rfl rfl ?_
    refine J.getI (q := 31) (c' := 0) (ci := 11) (k := 14) (M 0 14) rfl O dX11_put_28 rfl wd_3_16 (by decide) if_0_14 ?_
    refine J.iconst (q := 32) (v := (1 : Int32)) O dX11_put_31 rfl rfl ?_
    refine J.iadd (q := 33) O dX11_put_32 rfl ?_
    refine J.putI (q := 36) (c' := 0) (ci := 11) (k := 14) O dX11_put_33 rfl wd_3_16 (by decide) if_0_14 rfl rfl ?_
    refine J.aload_n (q := 37) O dX11_put_36 rfl 0 rfl ?_
    refine J.getI (q := 40) (c' := 0) (ci := 11) (k := 14) ((M 0 14) + (1 : Int32)) rfl O dX11_put_37 rfl wd_3_16 (by decide) if_0_14 ?_
    exact hR _ _ _ _ dX11_put_40 h
  · replace h := h.2 z2
    refine J.aload_n (q := 10) O dX11_put_9 rfl 0 rfl ?_
    refine J.bipush (q := 12) (v := (-6 : Int32)) O dX11_put_10 rfl rfl ?_
    refine J.callVI (q := 15) [.int (-6 : Int32)] [] [.int (-6 : Int32), .ref (ad G 0)] rfl O dX11_put_12 rfl (c_X11_refuse hG h) wd_3_55 mw_X11_refuse io_0 rfl (by decide) (Nat.le_of_ble_eq_true rfl) (fun v4 M4 h => ?_)
    exact hR _ _ _ _ dX11_put_15 h
set_option maxHeartbeats 4000000 in
set_option maxRecDepth 20000 in
theorem j_X11_check_b8 {X : CX} {G : GX} {K : Int32 → Mem → Prop} (hG : Gd G) (O : Ok X G cX11_check 5 RX11 4) (hR : RetI X G cX11_check K) {M : Mem} (h : f_X11_check_b8 K  M) : J X G M 8 [(0, .ref (ad G 0))] [] := by
  unfold f_X11_check_b8 at h
  refine J.aload_n (q := 9) O dX11_check_8 rfl 0 rfl ?_
  refine J.bipush (q := 11) (v := (-4 : Int32)) O dX11_check_9 rfl rfl ?_
  refine J.callVI (q := 14) [.int (-4 : Int32)] [] [.int (-4 : Int32), .ref (ad G 0)] rfl O dX11_check_11 rfl (c_X11_refuse hG h) wd_3_55 mw_X11_refuse io_0 rfl (by decide) (Nat.le_of_ble_eq_true rfl) (fun v4 M4 h => ?_)
  exact hR _ _ _ _ dX11_check_14 h
set_option maxHeartbeats 4000000 in
set_option maxRecDepth 20000 in
theorem j_X11_check_b31 {X : CX} {G : GX} {K : Int32 → Mem → Prop} (hG : Gd G) (O : Ok X G cX11_check 5 RX11 4) (hR : RetI X G cX11_check K) {M : Mem} (h : f_X11_check_b31 K  M) : J X G M 31 [(0, .ref (ad G 0))] [] := by
  unfold f_X11_check_b31 at h
  refine J.aload_n (q := 32) O dX11_check_31 rfl 0 rfl ?_
  refine J.bipush (q := 34) (v := (-3 : Int32)) O dX11_check_32 rfl rfl ?_
  refine J.callVI (q := 37) [.int (-3 : Int32)] [] [.int (-3 : Int32), .ref (ad G 0)] rfl O dX11_check_34 rfl (c_X11_refuse hG h) wd_3_55 mw_X11_refuse io_0 rfl (by decide) (Nat.le_of_ble_eq_true rfl) (fun v5 M5 h => ?_)
  exact hR _ _ _ _ dX11_check_37 h
set_option maxHeartbeats 4000000 in
set_option maxRecDepth 20000 in
theorem j_X11_check_b109 {X : CX} {G : GX} {K : Int32 → Mem → Prop} (hG : Gd G) (O : Ok X G cX11_check 5 RX11 4) (hR : RetI X G cX11_check K) {x4 : Int32} {M : Mem} (h : f_X11_check_b109 K x4 M) : J X G M 109 [(4, .int x4)] [] := by
  unfold f_X11_check_b109 at h
  refine J.iload (q := 111) O dX11_check_109 rfl 0 rfl ?_
  exact hR _ _ _ _ dX11_check_111 h
set_option maxHeartbeats 4000000 in
set_option maxRecDepth 20000 in
theorem j_X11_check_b118 {X : CX} {G : GX} {K : Int32 → Mem → Prop} (hG : Gd G) (O : Ok X G cX11_check 5 RX11 4) (hR : RetI X G cX11_check K) {M : Mem} (h : f_X11_check_b118 K  M) : J X G M 118 [] [] := by
  unfold f_X11_check_b118 at h
  refine J.bipush (q := 120) (v := (-9 : Int32)) O dX11_check_118 rfl rfl ?_
  exact hR _ _ _ _ dX11_check_120 h
set_option maxHeartbeats 4000000 in
set_option maxRecDepth 20000 in
theorem j_X11_check_c51 {X : CX} {G : GX} {K : Int32 → Mem → Prop} (hG : Gd G) (O : Ok X G cX11_check 5 RX11 4) (hR : RetI X G cX11_check K) {a : Int32 × Int32 × Int32 × Int32 × Mem} (h : Lp (fun (r51 : Int32 × Int32 × Int32 × Int32 × Mem → Prop) a => f_X11_check_c51 K r51 a.1 a.2.1 a.2.2.1 a.2.2.2.1 a.2.2.2.2) a) : J X G a.2.2.2.2 51 [(0, .ref (ad G 0)), (1, .int a.1), (2, .int a.2.1), (3, .int a.2.2.1), (4, .int a.2.2.2.1)] [] := by
  refine Lp.elim (P := fun a => J X G a.2.2.2.2 51 [(0, .ref (ad G 0)), (1, .int a.1), (2, .int a.2.1), (3, .int a.2.2.1), (4, .int a.2.2.2.1)] []) ?_ h
  clear h
  intro r51 hr51 a h
  obtain ⟨x1, x2, x3, x4, M⟩ := a
  unfold f_X11_check_c51 at h
  (try dsimp only at h ⊢)
  refine J.iload (q := 53) O dX11_check_51 rfl 4 rfl ?_
  refine J.iload_n (q := 54) O dX11_check_53 rfl 3 rfl ?_
  refine J.icmp_ge (q := 57) (tgt := 118) O dX11_check_54 rfl (by decide) (fun z6 => ?_) (fun z6 => ?_)
  · replace h := h.1 z6
    exact J.sub [] rfl (j_X11_check_b118 hG O hR h)
  · replace h := h.2 z6
    refine J.iload (q := 59) O dX11_check_57 rfl 4 rfl ?_
    refine J.bipush (q := 61) (v := (40 : Int32)) O dX11_check_59 rfl rfl ?_
    refine J.icmp_ge (q := 64) (tgt := 118) O dX11_check_61 rfl (by decide) (fun z7 => ?_) (fun z7 => ?_)
    · replace h := h.1 z7
      exact J.sub [] rfl (j_X11_check_b118 hG O hR h)
    · replace h := h.2 z7
      refine J.aload_n (q := 65) O dX11_check_64 rfl 0 rfl ?_
      refine J.iload (q := 67) O dX11_check_65 rfl 4 rfl ?_
      refine J.callVI (q := 70) [.int x4] [] [.int x4, .ref (ad G 0)] rfl O dX11_check_67 rfl (c_X11_isMatter hG h) wd_4_31 mw_X11_isMatter io_0 rfl (by decide) (Nat.le_of_ble_eq_true rfl) (fun v8 M8 h => ?_)
      refine J.if_eq (q := 73) (tgt := 109) O dX11_check_70 rfl (by decide) (fun z9 => ?_) (fun z9 => ?_)
      · replace h := h.1 z9
        exact J.sub [4] rfl (j_X11_check_b109 hG O hR h)
      · replace h := h.2 z9
        refine J.aload_n (q := 74) O dX11_check_73 rfl 0 rfl ?_
        refine J.getR (q := 77) (c' := 0) (ci := 11) (k := 4) (r := 61) O dX11_check_74 rfl wd_3_6 (by decide) if_0_4 ?_
        refine J.iload (q := 79) O dX11_check_77 rfl 4 rfl ?_
        obtain ⟨hv10, h⟩ := h
        refine J.aald (q := 80) (t := 0) (c' := 61) (b := 127) (d := 4) O dX11_check_79 rfl ar_61 hv10 ?_
        refine J.getI (q := 83) (c' := (127 + 4 * x4.toNatClampNeg)) (ci := 5) (k := 6) (M8 (127 + 4 * x4.toNatClampNeg) 6) rfl O dX11_check_80 rfl wd_2_200 (by decide) (isMat_F (isMat_of hv10) rfl) ?_
        refine J.iload_n (q := 84) O dX11_check_83 rfl 1 rfl ?_
        refine J.icmp_gt (q := 87) (tgt := 109) O dX11_check_84 rfl (by decide) (fun z11 => ?_) (fun z11 => ?_)
        · replace h := h.1 z11
          exact J.sub [4] rfl (j_X11_check_b109 hG O hR h)
        · replace h := h.2 z11
          refine J.aload_n (q := 88) O dX11_check_87 rfl 0 rfl ?_
          refine J.getR (q := 91) (c' := 0) (ci := 11) (k := 4) (r := 61) O dX11_check_88 rfl wd_3_6 (by decide) if_0_4 ?_
          refine J.iload (q := 93) O dX11_check_91 rfl 4 rfl ?_
          obtain ⟨hv12, h⟩ := h
          refine J.aald (q := 94) (t := 0) (c' := 61) (b := 127) (d := 4) O dX11_check_93 rfl ar_61 hv12 ?_
          refine J.iload_n (q := 95) O dX11_check_94 rfl 1 rfl ?_
          refine J.iload_n (q := 96) O dX11_check_95 rfl 2 rfl ?_
          refine J.callVI (q := 99) [.int x1, .int x2] [] [.int x2, .int x1, .ref (ad G (127 + 4 * x4.toNatClampNeg))] rfl O dX11_check_96 rfl (c_X5_stateOn hG h) wd_4_59 mw_X5_stateOn (isMat_O (isMat_of hv12)) rfl (by decide) (Nat.le_of_ble_eq_true rfl) (fun v13 M13 h => ?_)
          refine J.aload_n (q := 100) O dX11_check_99 rfl 0 rfl ?_
          refine J.getR (q := 103) (c' := 0) (ci := 11) (k := 13) (r := 125) O dX11_check_100 rfl wd_3_15 (by decide) if_0_13 ?_
          refine J.iload (q := 105) O dX11_check_103 rfl 4 rfl ?_
          obtain ⟨hv14, h⟩ := h
          refine J.iald (q := 106) (c' := 125) (j := x4.toNatClampNeg) (M13 125 x4.toNatClampNeg) rfl O dX11_check_105 rfl ar_125 hv14 rfl ?_
          refine J.icmp_eq (q := 109) (tgt := 112) O dX11_check_106 rfl (by decide) (fun z15 => ?_) (fun z15 => ?_)
          · replace h := h.1 z15
            refine J.iinc (q := 115) O dX11_check_112 rfl [(4, .int (x4 + (1 : Int32))), (0, .ref (ad G 0)), (1, .int x1), (2, .int x2), (3, .int x3)] 4 rfl rfl (by decide) rfl ?_
            refine J.goto (q := 51) O dX11_check_115 (by decide) ?_
            exact J.sub [1, 2, 3, 4, 0] rfl (hr51 _ h)
          · replace h := h.2 z15
            exact J.sub [4] rfl (j_X11_check_b109 hG O hR h)
set_option maxHeartbeats 4000000 in
set_option maxRecDepth 20000 in
theorem c_X11_check {l : Launch} {G : GX} (hG : Gd G) {a1 : Int32} {a2 : Int32} {M : Mem} {K : Int32 → Mem → Prop} (h : f_X11_check a1 a2 M K) : CI l G yX11_check cX11_check 5 (some .int) 4 [.ref (ad G 0), .int a1, .int a2] M K := by
  unfold f_X11_check at h
  refine CI.mk hG (by decide) [(0, .ref (ad G 0)), (1, .int a1), (2, .int a2)] rfl (Nat.le_of_ble_eq_true rfl) (fun X O hlX hR => ?_)
  subst hlX
  refine J.iload_n (q := 1) O dX11_check_0 rfl 1 rfl ?_
  refine J.if_lt (q := 4) (tgt := 8) O dX11_check_1 rfl (by decide) (fun z16 => ?_) (fun z16 => ?_)
  · replace h := h.1 z16
    exact J.sub [0] rfl (j_X11_check_b8 hG O hR h)
  · replace h := h.2 z16
    refine J.iload_n (q := 5) O dX11_check_4 rfl 2 rfl ?_
    refine J.if_ge (q := 8) (tgt := 15) O dX11_check_5 rfl (by decide) (fun z17 => ?_) (fun z17 => ?_)
    · replace h := h.1 z17
      refine J.iload_n (q := 16) O dX11_check_15 rfl 1 rfl ?_
      refine J.iload_n (q := 17) O dX11_check_16 rfl 2 rfl ?_
      refine J.icmp_gt (q := 20) (tgt := 31) O dX11_check_17 rfl (by decide) (fun z18 => ?_) (fun z18 => ?_)
      · replace h := h.1 z18
        exact J.sub [0] rfl (j_X11_check_b31 hG O hR h)
      · replace h := h.2 z18
        refine J.iload_n (q := 21) O dX11_check_20 rfl 2 rfl ?_
        refine J.aload_n (q := 22) O dX11_check_21 rfl 0 rfl ?_
        refine J.getR (q := 25) (c' := 0) (ci := 11) (k := 0) (r := 1) O dX11_check_22 rfl wd_3_2 (by decide) if_0_0 ?_
        refine J.getI (q := 28) (c' := 1) (ci := 3) (k := 0) (M 1 0) rfl O dX11_check_25 rfl wd_1_31 (by decide) if_1_0 ?_
        refine J.icmp_le (q := 31) (tgt := 38) O dX11_check_28 rfl (by decide) (fun z19 => ?_) (fun z19 => ?_)
        · replace h := h.1 z19
          refine J.aload_n (q := 39) O dX11_check_38 rfl 0 rfl ?_
          refine J.getI (q := 42) (c' := 0) (ci := 11) (k := 14) (M 0 14) rfl O dX11_check_39 rfl wd_3_16 (by decide) if_0_14 ?_
          refine J.istore_n (q := 43) O dX11_check_42 rfl [(3, .int (M 0 14)), (0, .ref (ad G 0)), (1, .int a1), (2, .int a2)] (by decide) rfl ?_
          refine J.aload_n (q := 44) O dX11_check_43 rfl 1 rfl ?_
          refine J.iconst (q := 45) (v := (0 : Int32)) O dX11_check_44 rfl rfl ?_
          refine J.putI (q := 48) (c' := 0) (ci := 11) (k := 14) O dX11_check_45 rfl wd_3_16 (by decide) if_0_14 rfl rfl ?_
          refine J.iconst (q := 49) (v := (0 : Int32)) O dX11_check_48 rfl rfl ?_
          refine J.istore (q := 51) O dX11_check_49 rfl [(4, .int (0 : Int32)), (3, .int (M 0 14)), (0, .ref (ad G 0)), (1, .int a1), (2, .int a2)] (by decide) rfl ?_
          exact J.sub [2, 3, 4, 1, 0] rfl (j_X11_check_c51 hG O hR h)
        · replace h := h.2 z19
          exact J.sub [0] rfl (j_X11_check_b31 hG O hR h)
    · replace h := h.2 z17
      exact J.sub [0] rfl (j_X11_check_b8 hG O hR h)
