set_option maxHeartbeats 4000000 in
set_option maxRecDepth 20000 in
theorem c_X12_need {l : Launch} {G : GX} (hG : Gd G) {a1 : Int32} {a2 : Int32} {M : Mem} {K : Int32 → Mem → Prop} (h : f_X12_need a1 a2 M K) : CI l G yX12_need cX12_need 4 (some .int) 2 [.ref (ad G 287), .int a1, .int a2] M K := by
  unfold f_X12_need at h
  refine CI.mk hG (by decide) [(0, .ref (ad G 287)), (1, .int a1), (2, .int a2)] rfl (Nat.le_of_ble_eq_true rfl) (fun X O hlX hR => ?_)
  subst hlX
  refine J.iload_n (q := 1) O dX12_need_0 rfl 1 rfl ?_
  refine J.iconst (q := 2) (v := (0 : Int32)) O dX12_need_1 rfl rfl ?_
  refine J.iconst (q := 3) (v := (2 : Int32)) O dX12_need_2 rfl rfl ?_
  refine J.callSI (q := 6) [.int a1, .int (0 : Int32), .int (2 : Int32)] [] [.int (2 : Int32), .int (0 : Int32), .int a1] rfl O dX12_need_3 rfl (c_X12_in hG h) wd_7_181 mw_X12_in rfl (by decide) (Nat.le_of_ble_eq_true rfl) (fun v3 M3 h => ?_)
  refine J.if_ne (q := 9) (tgt := 16) O dX12_need_6 rfl (by decide) (fun z4 => ?_) (fun z4 => ?_)
  · replace h := h.1 z4
    refine J.iload_n (q := 17) O dX12_need_16 rfl 2 rfl ?_
    refine J.if_ge (q := 20) (tgt := 27) O dX12_need_17 rfl (by decide) (fun z5 => ?_) (fun z5 => ?_)
    · replace h := h.1 z5
      refine J.iload_n (q := 28) O dX12_need_27 rfl 2 rfl ?_
      refine J.iconst (q := 29) (v := (2 : Int32)) O dX12_need_28 rfl rfl ?_
      refine J.icmp_le (q := 32) (tgt := 39) O dX12_need_29 rfl (by decide) (fun z6 => ?_) (fun z6 => ?_)
      · replace h := h.1 z6
        refine J.aload_n (q := 40) O dX12_need_39 rfl 0 rfl ?_
        refine J.getR (q := 43) (c' := 287) (ci := 12) (k := 77) (r := 347) O dX12_need_40 rfl wd_6_149 (by decide) if_287_77 ?_
        refine J.iload_n (q := 44) O dX12_need_43 rfl 1 rfl ?_
        obtain ⟨hv7, h⟩ := h
        refine J.iald (q := 45) (c' := 347) (j := a1.toNatClampNeg) (M3 347 a1.toNatClampNeg) rfl O dX12_need_44 rfl ar_347 hv7 rfl ?_
        refine J.istore_n (q := 46) O dX12_need_45 rfl [(3, .int (M3 347 a1.toNatClampNeg)), (0, .ref (ad G 287)), (1, .int a1), (2, .int a2)] (by decide) rfl ?_
        refine J.aload_n (q := 47) O dX12_need_46 rfl 1 rfl ?_
        refine J.getR (q := 50) (c' := 287) (ci := 12) (k := 77) (r := 347) O dX12_need_47 rfl wd_6_149 (by decide) if_287_77 ?_
        refine J.iload_n (q := 51) O dX12_need_50 rfl 2 rfl ?_
        refine J.iload_n (q := 52) O dX12_need_51 rfl 3 rfl ?_
        obtain ⟨hv8, h⟩ := h
        refine J.iast (q := 53) (c' := 347) (j := a1.toNatClampNeg) O dX12_need_52 rfl ar_347 hv8 rfl ?_
        refine J.aload_n (q := 54) O dX12_need_53 rfl 1 rfl ?_
        refine J.iconst (q := 55) (v := (-1 : Int32)) O dX12_need_54 rfl rfl ?_
        refine J.putI (q := 58) (c' := 287) (ci := 12) (k := 89) O dX12_need_55 rfl wd_6_161 (by decide) if_287_89 rfl rfl ?_
        refine J.iload_n (q := 59) O dX12_need_58 rfl 0 rfl ?_
        exact hR _ _ _ _ dX12_need_59 h
      · replace h := h.2 z6
        refine J.aload_n (q := 33) O dX12_need_32 rfl 0 rfl ?_
        refine J.bipush (q := 35) (v := (-6 : Int32)) O dX12_need_33 rfl rfl ?_
        refine J.callVI (q := 38) [.int (-6 : Int32)] [] [.int (-6 : Int32), .ref (ad G 287)] rfl O dX12_need_35 rfl (c_X12_refuse hG h) wd_7_158 mw_X12_refuse io_287 rfl (by decide) (Nat.le_of_ble_eq_true rfl) (fun v9 M9 h => ?_)
        exact hR _ _ _ _ dX12_need_38 h
    · replace h := h.2 z5
      refine J.aload_n (q := 21) O dX12_need_20 rfl 0 rfl ?_
      refine J.bipush (q := 23) (v := (-4 : Int32)) O dX12_need_21 rfl rfl ?_
      refine J.callVI (q := 26) [.int (-4 : Int32)] [] [.int (-4 : Int32), .ref (ad G 287)] rfl O dX12_need_23 rfl (c_X12_refuse hG h) wd_7_158 mw_X12_refuse io_287 rfl (by decide) (Nat.le_of_ble_eq_true rfl) (fun v10 M10 h => ?_)
      exact hR _ _ _ _ dX12_need_26 h
  · replace h := h.2 z4
    refine J.aload_n (q := 10) O dX12_need_9 rfl 0 rfl ?_
    refine J.bipush (q := 12) (v := (-2 : Int32)) O dX12_need_10 rfl rfl ?_
    refine J.callVI (q := 15) [.int (-2 : Int32)] [] [.int (-2 : Int32), .ref (ad G 287)] rfl O dX12_need_12 rfl (c_X12_refuse hG h) wd_7_158 mw_X12_refuse io_287 rfl (by decide) (Nat.le_of_ble_eq_true rfl) (fun v11 M11 h => ?_)
    exact hR _ _ _ _ dX12_need_15 h
set_option maxHeartbeats 4000000 in
set_option maxRecDepth 20000 in
theorem j_X12_wish_b93 {X : CX} {G : GX} {K : Int32 → Mem → Prop} (hG : Gd G) (O : Ok X G cX12_wish 7 RX12 3) (hR : RetI X G cX12_wish K) {s0 : Int32} {M : Mem} (h : f_X12_wish_b93 K s0 M) : J X G M 93 [] [.int s0] := by
  unfold f_X12_wish_b93 at h
  exact hR _ _ _ _ dX12_wish_93 h
set_option maxHeartbeats 4000000 in
set_option maxRecDepth 20000 in
theorem c_X12_wish {l : Launch} {G : GX} (hG : Gd G) {a1 : Int32} {a2 : Int32} {a3 : Int32} {a4 : Int32} {M : Mem} {K : Int32 → Mem → Prop} (h : f_X12_wish a1 a2 a3 a4 M K) : CI l G yX12_wish cX12_wish 7 (some .int) 3 [.ref (ad G 287), .int a1, .int a2, .int a3, .int a4] M K := by
  unfold f_X12_wish at h
  refine CI.mk hG (by decide) [(0, .ref (ad G 287)), (1, .int a1), (2, .int a2), (3, .int a3), (4, .int a4)] rfl (Nat.le_of_ble_eq_true rfl) (fun X O hlX hR => ?_)
  subst hlX
  refine J.aload_n (q := 1) O dX12_wish_0 rfl 0 rfl ?_
  refine J.iload_n (q := 2) O dX12_wish_1 rfl 1 rfl ?_
  refine J.callVI (q := 5) [.int a1] [] [.int a1, .ref (ad G 287)] rfl O dX12_wish_2 rfl (c_X12_isPerson hG h) wd_7_188 mw_X12_isPerson io_287 rfl (by decide) (Nat.le_of_ble_eq_true rfl) (fun v4 M4 h => ?_)
  refine J.if_ne (q := 8) (tgt := 14) O dX12_wish_5 rfl (by decide) (fun z5 => ?_) (fun z5 => ?_)
  · replace h := h.1 z5
    refine J.iload_n (q := 15) O dX12_wish_14 rfl 3 rfl ?_
    refine J.iconst (q := 16) (v := (0 : Int32)) O dX12_wish_15 rfl rfl ?_
    refine J.iconst (q := 17) (v := (2 : Int32)) O dX12_wish_16 rfl rfl ?_
    refine J.callSI (q := 20) [.int a3, .int (0 : Int32), .int (2 : Int32)] [] [.int (2 : Int32), .int (0 : Int32), .int a3] rfl O dX12_wish_17 rfl (c_X12_in hG h) wd_7_181 mw_X12_in rfl (by decide) (Nat.le_of_ble_eq_true rfl) (fun v6 M6 h => ?_)
    refine J.if_ne (q := 23) (tgt := 30) O dX12_wish_20 rfl (by decide) (fun z7 => ?_) (fun z7 => ?_)
    · replace h := h.1 z7
      refine J.iload_n (q := 31) O dX12_wish_30 rfl 2 rfl ?_
      refine J.iconst (q := 32) (v := (0 : Int32)) O dX12_wish_31 rfl rfl ?_
      refine J.iconst (q := 33) (v := (3 : Int32)) O dX12_wish_32 rfl rfl ?_
      refine J.callSI (q := 36) [.int a2, .int (0 : Int32), .int (3 : Int32)] [] [.int (3 : Int32), .int (0 : Int32), .int a2] rfl O dX12_wish_33 rfl (c_X12_in hG h) wd_7_181 mw_X12_in rfl (by decide) (Nat.le_of_ble_eq_true rfl) (fun v8 M8 h => ?_)
      refine J.if_ne (q := 39) (tgt := 46) O dX12_wish_36 rfl (by decide) (fun z9 => ?_) (fun z9 => ?_)
      · replace h := h.1 z9
        refine J.bipush (q := 48) (v := (12 : Int32)) O dX12_wish_46 rfl rfl ?_
        refine J.iload_n (q := 49) O dX12_wish_48 rfl 1 rfl ?_
        refine J.imul (q := 50) O dX12_wish_49 rfl ?_
        refine J.iconst (q := 51) (v := (3 : Int32)) O dX12_wish_50 rfl rfl ?_
        refine J.iload_n (q := 52) O dX12_wish_51 rfl 2 rfl ?_
        refine J.imul (q := 53) O dX12_wish_52 rfl ?_
        refine J.iadd (q := 54) O dX12_wish_53 rfl ?_
        refine J.iload_n (q := 55) O dX12_wish_54 rfl 3 rfl ?_
        refine J.iadd (q := 56) O dX12_wish_55 rfl ?_
        refine J.istore (q := 58) O dX12_wish_56 rfl [(5, .int ((((12 : Int32) * a1) + ((3 : Int32) * a2)) + a3)), (0, .ref (ad G 287)), (1, .int a1), (2, .int a2), (3, .int a3), (4, .int a4)] (by decide) rfl ?_
        refine J.aload_n (q := 59) O dX12_wish_58 rfl 1 rfl ?_
        refine J.getR (q := 62) (c' := 287) (ci := 12) (k := 78) (r := 348) O dX12_wish_59 rfl wd_6_150 (by decide) if_287_78 ?_
        refine J.iload (q := 64) O dX12_wish_62 rfl 0 rfl ?_
        obtain ⟨hv10, h⟩ := h
        refine J.zald (q := 65) (c' := 348) (j := ((((12 : Int32) * a1) + ((3 : Int32) * a2)) + a3).toNatClampNeg) (M8 348 (((((12 : Int32) * a1) + ((3 : Int32) * a2)) + a3).toNatClampNeg)) rfl O dX12_wish_64 rfl ar_348 hv10 rfl ?_
        refine J.istore (q := 67) O dX12_wish_65 rfl [(6, .int (M8 348 (((((12 : Int32) * a1) + ((3 : Int32) * a2)) + a3).toNatClampNeg))), (5, .int ((((12 : Int32) * a1) + ((3 : Int32) * a2)) + a3)), (0, .ref (ad G 287)), (1, .int a1), (2, .int a2), (3, .int a3), (4, .int a4)] (by decide) rfl ?_
        refine J.aload_n (q := 68) O dX12_wish_67 rfl 2 rfl ?_
        refine J.getR (q := 71) (c' := 287) (ci := 12) (k := 78) (r := 348) O dX12_wish_68 rfl wd_6_150 (by decide) if_287_78 ?_
        refine J.iload (q := 73) O dX12_wish_71 rfl 1 rfl ?_
        refine J.iload (q := 75) O dX12_wish_73 rfl 6 rfl ?_
        obtain ⟨hv11, h⟩ := h
        obtain ⟨hb12, h⟩ := h
        refine J.zast (q := 76) (c' := 348) (j := ((((12 : Int32) * a1) + ((3 : Int32) * a2)) + a3).toNatClampNeg) O dX12_wish_75 rfl ar_348 hv11 rfl hb12 ?_
        refine J.aload_n (q := 77) O dX12_wish_76 rfl 2 rfl ?_
        refine J.iconst (q := 78) (v := (-1 : Int32)) O dX12_wish_77 rfl rfl ?_
        refine J.putI (q := 81) (c' := 287) (ci := 12) (k := 89) O dX12_wish_78 rfl wd_6_161 (by decide) if_287_89 rfl rfl ?_
        refine J.iload (q := 83) O dX12_wish_81 rfl 0 rfl ?_
        refine J.iload (q := 85) O dX12_wish_83 rfl 6 rfl ?_
        refine J.icmp_ne (q := 88) (tgt := 92) O dX12_wish_85 rfl (by decide) (fun z13 => ?_) (fun z13 => ?_)
        · replace h := h.1 z13
          refine J.iconst (q := 93) (v := (1 : Int32)) O dX12_wish_92 rfl rfl ?_
          exact J.sub [] rfl (j_X12_wish_b93 hG O hR h)
        · replace h := h.2 z13
          refine J.iconst (q := 89) (v := (0 : Int32)) O dX12_wish_88 rfl rfl ?_
          refine J.goto (q := 93) O dX12_wish_89 (by decide) ?_
          exact J.sub [] rfl (j_X12_wish_b93 hG O hR h)
      · replace h := h.2 z9
        refine J.aload_n (q := 40) O dX12_wish_39 rfl 0 rfl ?_
        refine J.bipush (q := 42) (v := (-3 : Int32)) O dX12_wish_40 rfl rfl ?_
        refine J.callVI (q := 45) [.int (-3 : Int32)] [] [.int (-3 : Int32), .ref (ad G 287)] rfl O dX12_wish_42 rfl (c_X12_refuse hG h) wd_7_158 mw_X12_refuse io_287 rfl (by decide) (Nat.le_of_ble_eq_true rfl) (fun v14 M14 h => ?_)
        exact hR _ _ _ _ dX12_wish_45 h
    · replace h := h.2 z7
      refine J.aload_n (q := 24) O dX12_wish_23 rfl 0 rfl ?_
      refine J.bipush (q := 26) (v := (-2 : Int32)) O dX12_wish_24 rfl rfl ?_
      refine J.callVI (q := 29) [.int (-2 : Int32)] [] [.int (-2 : Int32), .ref (ad G 287)] rfl O dX12_wish_26 rfl (c_X12_refuse hG h) wd_7_158 mw_X12_refuse io_287 rfl (by decide) (Nat.le_of_ble_eq_true rfl) (fun v15 M15 h => ?_)
      exact hR _ _ _ _ dX12_wish_29 h
  · replace h := h.2 z5
    refine J.aload_n (q := 9) O dX12_wish_8 rfl 0 rfl ?_
    refine J.iconst (q := 10) (v := (-1 : Int32)) O dX12_wish_9 rfl rfl ?_
    refine J.callVI (q := 13) [.int (-1 : Int32)] [] [.int (-1 : Int32), .ref (ad G 287)] rfl O dX12_wish_10 rfl (c_X12_refuse hG h) wd_7_158 mw_X12_refuse io_287 rfl (by decide) (Nat.le_of_ble_eq_true rfl) (fun v16 M16 h => ?_)
    exact hR _ _ _ _ dX12_wish_13 h
set_option maxHeartbeats 4000000 in
set_option maxRecDepth 20000 in
theorem j_X12_findFour_b62 {X : CX} {G : GX} {K : Mem → Prop} (hG : Gd G) (O : Ok X G cX12_findFour 3 RX12 1) (hR : RetV X G cX12_findFour K) {r7 : Int32 × Int32 × Mem → Prop} (hr7 : ∀ a : Int32 × Int32 × Mem, r7 a → J X G a.2.2 7 [(0, .ref (ad G 287)), (1, .int a.1), (2, .int a.2.1)] []) {x1 : Int32} {x2 : Int32} {M : Mem} (h : f_X12_findFour_b62 r7 K x1 x2 M) : J X G M 62 [(0, .ref (ad G 287)), (1, .int x1), (2, .int x2)] [] := by
  unfold f_X12_findFour_b62 at h
  refine J.iinc (q := 65) O dX12_findFour_62 rfl [(2, .int (x2 + (1 : Int32))), (0, .ref (ad G 287)), (1, .int x1)] 2 rfl rfl (by decide) rfl ?_
  refine J.goto (q := 7) O dX12_findFour_65 (by decide) ?_
  exact J.sub [1, 2, 0] rfl (hr7 _ h)
set_option maxHeartbeats 4000000 in
set_option maxRecDepth 20000 in
theorem j_X12_findFour_c7 {X : CX} {G : GX} {K : Mem → Prop} (hG : Gd G) (O : Ok X G cX12_findFour 3 RX12 1) (hR : RetV X G cX12_findFour K) {a : Int32 × Int32 × Mem} (h : Lp (fun (r7 : Int32 × Int32 × Mem → Prop) a => f_X12_findFour_c7 K r7 a.1 a.2.1 a.2.2) a) : J X G a.2.2 7 [(0, .ref (ad G 287)), (1, .int a.1), (2, .int a.2.1)] [] := by
  refine Lp.elim (P := fun a => J X G a.2.2 7 [(0, .ref (ad G 287)), (1, .int a.1), (2, .int a.2.1)] []) ?_ h
  clear h
  intro r7 hr7 a h
  obtain ⟨x1, x2, M⟩ := a
  unfold f_X12_findFour_c7 at h
  (try dsimp only at h ⊢)
  refine J.iload_n (q := 8) O dX12_findFour_7 rfl 2 rfl ?_
  refine J.aload_n (q := 9) O dX12_findFour_8 rfl 0 rfl ?_
  refine J.getI (q := 12) (c' := 287) (ci := 12) (k := 2) (M 287 2) rfl O dX12_findFour_9 rfl wd_6_74 (by decide) if_287_2 ?_
  refine J.icmp_ge (q := 15) (tgt := 68) O dX12_findFour_12 rfl (by decide) (fun z4 => ?_) (fun z4 => ?_)
  · replace h := h.1 z4
    exact hR _ _ _ dX12_findFour_68 h
  · replace h := h.2 z4
    refine J.aload_n (q := 16) O dX12_findFour_15 rfl 0 rfl ?_
    refine J.getI (q := 19) (c' := 287) (ci := 12) (k := 80) (M 287 80) rfl O dX12_findFour_16 rfl wd_6_152 (by decide) if_287_80 ?_
    refine J.iconst (q := 20) (v := (4 : Int32)) O dX12_findFour_19 rfl rfl ?_
    refine J.icmp_ge (q := 23) (tgt := 68) O dX12_findFour_20 rfl (by decide) (fun z5 => ?_) (fun z5 => ?_)
    · replace h := h.1 z5
      exact hR _ _ _ dX12_findFour_68 h
    · replace h := h.2 z5
      refine J.aload_n (q := 24) O dX12_findFour_23 rfl 0 rfl ?_
      refine J.getR (q := 27) (c' := 287) (ci := 12) (k := 3) (r := 289) O dX12_findFour_24 rfl wd_6_75 (by decide) if_287_3 ?_
      refine J.iload_n (q := 28) O dX12_findFour_27 rfl 2 rfl ?_
      obtain ⟨hv6, h⟩ := h
      refine J.iald (q := 29) (c' := 289) (j := x2.toNatClampNeg) (M 289 x2.toNatClampNeg) rfl O dX12_findFour_28 rfl ar_289 hv6 rfl ?_
      refine J.iload_n (q := 30) O dX12_findFour_29 rfl 1 rfl ?_
      refine J.icmp_ne (q := 33) (tgt := 62) O dX12_findFour_30 rfl (by decide) (fun z7 => ?_) (fun z7 => ?_)
      · replace h := h.1 z7
        exact J.sub [0, 1, 2] rfl (j_X12_findFour_b62 hG O hR hr7 h)
      · replace h := h.2 z7
        refine J.aload_n (q := 34) O dX12_findFour_33 rfl 0 rfl ?_
        refine J.getR (q := 37) (c' := 287) (ci := 12) (k := 8) (r := 294) O dX12_findFour_34 rfl wd_6_80 (by decide) if_287_8 ?_
        refine J.iload_n (q := 38) O dX12_findFour_37 rfl 2 rfl ?_
        obtain ⟨hv8, h⟩ := h
        refine J.zald (q := 39) (c' := 294) (j := x2.toNatClampNeg) (M 294 x2.toNatClampNeg) rfl O dX12_findFour_38 rfl ar_294 hv8 rfl ?_
        refine J.if_ne (q := 42) (tgt := 62) O dX12_findFour_39 rfl (by decide) (fun z9 => ?_) (fun z9 => ?_)
        · replace h := h.1 z9
          exact J.sub [0, 1, 2] rfl (j_X12_findFour_b62 hG O hR hr7 h)
        · replace h := h.2 z9
          refine J.aload_n (q := 43) O dX12_findFour_42 rfl 0 rfl ?_
          refine J.getR (q := 46) (c' := 287) (ci := 12) (k := 79) (r := 349) O dX12_findFour_43 rfl wd_6_151 (by decide) if_287_79 ?_
          refine J.aload_n (q := 47) O dX12_findFour_46 rfl 0 rfl ?_
          refine J.getI (q := 50) (c' := 287) (ci := 12) (k := 80) (M 287 80) rfl O dX12_findFour_47 rfl wd_6_152 (by decide) if_287_80 ?_
          refine J.iload_n (q := 51) O dX12_findFour_50 rfl 2 rfl ?_
          obtain ⟨hv10, h⟩ := h
          refine J.iast (q := 52) (c' := 349) (j := (M 287 80).toNatClampNeg) O dX12_findFour_51 rfl ar_349 hv10 rfl ?_
          refine J.aload_n (q := 53) O dX12_findFour_52 rfl 0 rfl ?_
          refine J.dup (q := 54) O dX12_findFour_53 rfl rfl ?_
          refine J.getI (q := 57) (c' := 287) (ci := 12) (k := 80) (M 287 80) rfl O dX12_findFour_54 rfl wd_6_152 (by decide) if_287_80 ?_
          refine J.iconst (q := 58) (v := (1 : Int32)) O dX12_findFour_57 rfl rfl ?_
          refine J.iadd (q := 59) O dX12_findFour_58 rfl ?_
          refine J.putI (q := 62) (c' := 287) (ci := 12) (k := 80) O dX12_findFour_59 rfl wd_6_152 (by decide) if_287_80 rfl rfl ?_
          exact J.sub [0, 1, 2] rfl (j_X12_findFour_b62 hG O hR hr7 h)
set_option maxHeartbeats 4000000 in
set_option maxRecDepth 20000 in
theorem c_X12_findFour {l : Launch} {G : GX} (hG : Gd G) {a1 : Int32} {M : Mem} {K : Mem → Prop} (h : f_X12_findFour a1 M K) : CV l G yX12_findFour cX12_findFour 3 1 [.ref (ad G 287), .int a1] M K := by
  unfold f_X12_findFour at h
  refine CV.mk hG (by decide) [(0, .ref (ad G 287)), (1, .int a1)] rfl (Nat.le_of_ble_eq_true rfl) (fun X O hlX hR => ?_)
  subst hlX
  refine J.aload_n (q := 1) O dX12_findFour_0 rfl 0 rfl ?_
  refine J.iconst (q := 2) (v := (0 : Int32)) O dX12_findFour_1 rfl rfl ?_
  refine J.putI (q := 5) (c' := 287) (ci := 12) (k := 80) O dX12_findFour_2 rfl wd_6_152 (by decide) if_287_80 rfl rfl ?_
  refine J.iconst (q := 6) (v := (0 : Int32)) O dX12_findFour_5 rfl rfl ?_
  refine J.istore_n (q := 7) O dX12_findFour_6 rfl [(2, .int (0 : Int32)), (0, .ref (ad G 287)), (1, .int a1)] (by decide) rfl ?_
  exact J.sub [1, 2, 0] rfl (j_X12_findFour_c7 hG O hR h)
set_option maxHeartbeats 4000000 in
set_option maxRecDepth 20000 in
theorem c_X12_shiftIn {l : Launch} {G : GX} (hG : Gd G) {a1 : Int32} {a2 : Int32} {M : Mem} {K : Int32 → Mem → Prop} (h : f_X12_shiftIn a1 a2 M K) : CI l G yX12_shiftIn cX12_shiftIn 2 (some .int) 1 [.int a1, .int a2] M K := by
  unfold f_X12_shiftIn at h
  refine CI.mk hG (by decide) [(0, .int a1), (1, .int a2)] rfl (Nat.le_of_ble_eq_true rfl) (fun X O hlX hR => ?_)
  subst hlX
  refine J.iload_n (q := 1) O dX12_shiftIn_0 rfl 0 rfl ?_
  refine J.bipush (q := 3) (v := (6 : Int32)) O dX12_shiftIn_1 rfl rfl ?_
  refine J.iconst (q := 4) (v := (2 : Int32)) O dX12_shiftIn_3 rfl rfl ?_
  refine J.iload_n (q := 5) O dX12_shiftIn_4 rfl 1 rfl ?_
  refine J.imul (q := 6) O dX12_shiftIn_5 rfl ?_
  refine J.isub (q := 7) O dX12_shiftIn_6 rfl ?_
  refine J.ishr (q := 8) O dX12_shiftIn_7 rfl ?_
  refine J.iconst (q := 9) (v := (3 : Int32)) O dX12_shiftIn_8 rfl rfl ?_
  refine J.iand (q := 10) O dX12_shiftIn_9 rfl ?_
  exact hR _ _ _ _ dX12_shiftIn_10 h
set_option maxHeartbeats 4000000 in
set_option maxRecDepth 20000 in
theorem j_X12_isNeeded_b38 {X : CX} {G : GX} {K : Int32 → Mem → Prop} (hG : Gd G) (O : Ok X G cX12_isNeeded 6 RX12 2) (hR : RetZ X G cX12_isNeeded K) {r4 : Int32 × Int32 × Int32 × Mem → Prop} (hr4 : ∀ a : Int32 × Int32 × Int32 × Mem, r4 a → J X G a.2.2.2 4 [(0, .ref (ad G 287)), (1, .int a.1), (2, .int a.2.1), (3, .int a.2.2.1)] []) {r15 : Int32 × Int32 × Int32 × Int32 × Int32 × Mem → Prop} (hr15 : ∀ a : Int32 × Int32 × Int32 × Int32 × Int32 × Mem, r15 a → J X G a.2.2.2.2.2 15 [(0, .ref (ad G 287)), (1, .int a.1), (2, .int a.2.1), (3, .int a.2.2.1), (4, .int a.2.2.2.1), (5, .int a.2.2.2.2.1)] []) {x1 : Int32} {x2 : Int32} {x3 : Int32} {x5 : Int32} {s0 : Int32} {s1 : Int32} {M : Mem} (h : f_X12_isNeeded_b38 r4 r15 K x1 x2 x3 x5 s0 s1 M) : J X G M 38 [(0, .ref (ad G 287)), (1, .int x1), (2, .int x2), (3, .int x3), (5, .int x5)] [.int s0, .int s1] := by
  unfold f_X12_isNeeded_b38 at h
  refine J.iadd (q := 39) O dX12_isNeeded_38 rfl ?_
  refine J.istore (q := 41) O dX12_isNeeded_39 rfl [(4, .int (s1 + s0)), (0, .ref (ad G 287)), (1, .int x1), (2, .int x2), (3, .int x3), (5, .int x5)] (by decide) rfl ?_
  refine J.iinc (q := 44) O dX12_isNeeded_41 rfl [(5, .int (x5 + (1 : Int32))), (4, .int (s1 + s0)), (0, .ref (ad G 287)), (1, .int x1), (2, .int x2), (3, .int x3)] 5 rfl rfl (by decide) rfl ?_
  refine J.goto (q := 15) O dX12_isNeeded_44 (by decide) ?_
  exact J.sub [2, 3, 4, 5, 1, 0] rfl (hr15 _ h)
set_option maxHeartbeats 4000000 in
set_option maxRecDepth 20000 in
theorem j_X12_isNeeded_b67 {X : CX} {G : GX} {K : Int32 → Mem → Prop} (hG : Gd G) (O : Ok X G cX12_isNeeded 6 RX12 2) (hR : RetZ X G cX12_isNeeded K) {r4 : Int32 × Int32 × Int32 × Mem → Prop} (hr4 : ∀ a : Int32 × Int32 × Int32 × Mem, r4 a → J X G a.2.2.2 4 [(0, .ref (ad G 287)), (1, .int a.1), (2, .int a.2.1), (3, .int a.2.2.1)] []) {x1 : Int32} {x3 : Int32} {s0 : Int32} {M : Mem} (h : f_X12_isNeeded_b67 r4 K x1 x3 s0 M) : J X G M 67 [(0, .ref (ad G 287)), (1, .int x1), (3, .int x3)] [.int s0] := by
  unfold f_X12_isNeeded_b67 at h
  refine J.istore_n (q := 68) O dX12_isNeeded_67 rfl [(2, .int s0), (0, .ref (ad G 287)), (1, .int x1), (3, .int x3)] (by decide) rfl ?_
  refine J.iinc (q := 71) O dX12_isNeeded_68 rfl [(3, .int (x3 + (1 : Int32))), (2, .int s0), (0, .ref (ad G 287)), (1, .int x1)] 3 rfl rfl (by decide) rfl ?_
  refine J.goto (q := 4) O dX12_isNeeded_71 (by decide) ?_
  exact J.sub [2, 3, 1, 0] rfl (hr4 _ h)
set_option maxHeartbeats 4000000 in
set_option maxRecDepth 20000 in
theorem j_X12_isNeeded_b66 {X : CX} {G : GX} {K : Int32 → Mem → Prop} (hG : Gd G) (O : Ok X G cX12_isNeeded 6 RX12 2) (hR : RetZ X G cX12_isNeeded K) {r4 : Int32 × Int32 × Int32 × Mem → Prop} (hr4 : ∀ a : Int32 × Int32 × Int32 × Mem, r4 a → J X G a.2.2.2 4 [(0, .ref (ad G 287)), (1, .int a.1), (2, .int a.2.1), (3, .int a.2.2.1)] []) {x1 : Int32} {x3 : Int32} {M : Mem} (h : f_X12_isNeeded_b66 r4 K x1 x3 M) : J X G M 66 [(0, .ref (ad G 287)), (1, .int x1), (3, .int x3)] [] := by
  unfold f_X12_isNeeded_b66 at h
  refine J.iconst (q := 67) (v := (0 : Int32)) O dX12_isNeeded_66 rfl rfl ?_
  exact J.sub [0, 1, 2] rfl (j_X12_isNeeded_b67 hG O hR hr4 h)
set_option maxHeartbeats 4000000 in
set_option maxRecDepth 20000 in
theorem j_X12_isNeeded_c15 {X : CX} {G : GX} {K : Int32 → Mem → Prop} (hG : Gd G) (O : Ok X G cX12_isNeeded 6 RX12 2) (hR : RetZ X G cX12_isNeeded K) {r4 : Int32 × Int32 × Int32 × Mem → Prop} (hr4 : ∀ a : Int32 × Int32 × Int32 × Mem, r4 a → J X G a.2.2.2 4 [(0, .ref (ad G 287)), (1, .int a.1), (2, .int a.2.1), (3, .int a.2.2.1)] []) {a : Int32 × Int32 × Int32 × Int32 × Int32 × Mem} (h : Lp (fun (r15 : Int32 × Int32 × Int32 × Int32 × Int32 × Mem → Prop) a => f_X12_isNeeded_c15 r4 K r15 a.1 a.2.1 a.2.2.1 a.2.2.2.1 a.2.2.2.2.1 a.2.2.2.2.2) a) : J X G a.2.2.2.2.2 15 [(0, .ref (ad G 287)), (1, .int a.1), (2, .int a.2.1), (3, .int a.2.2.1), (4, .int a.2.2.2.1), (5, .int a.2.2.2.2.1)] [] := by
  refine Lp.elim (P := fun a => J X G a.2.2.2.2.2 15 [(0, .ref (ad G 287)), (1, .int a.1), (2, .int a.2.1), (3, .int a.2.2.1), (4, .int a.2.2.2.1), (5, .int a.2.2.2.2.1)] []) ?_ h
  clear h
  intro r15 hr15 a h
  obtain ⟨x1, x2, x3, x4, x5, M⟩ := a
  unfold f_X12_isNeeded_c15 at h
  (try dsimp only at h ⊢)
  refine J.iload (q := 17) O dX12_isNeeded_15 rfl 5 rfl ?_
  refine J.iconst (q := 18) (v := (4 : Int32)) O dX12_isNeeded_17 rfl rfl ?_
  refine J.icmp_ge (q := 21) (tgt := 47) O dX12_isNeeded_18 rfl (by decide) (fun z2 => ?_) (fun z2 => ?_)
  · replace h := h.1 z2
    refine J.iload_n (q := 48) O dX12_isNeeded_47 rfl 2 rfl ?_
    refine J.if_eq (q := 51) (tgt := 66) O dX12_isNeeded_48 rfl (by decide) (fun z3 => ?_) (fun z3 => ?_)
    · replace h := h.1 z3
      exact J.sub [0, 1, 3] rfl (j_X12_isNeeded_b66 hG O hR hr4 h)
    · replace h := h.2 z3
      refine J.iload (q := 53) O dX12_isNeeded_51 rfl 4 rfl ?_
      refine J.aload_n (q := 54) O dX12_isNeeded_53 rfl 0 rfl ?_
      refine J.getR (q := 57) (c' := 287) (ci := 12) (k := 77) (r := 347) O dX12_isNeeded_54 rfl wd_6_149 (by decide) if_287_77 ?_
      refine J.iload_n (q := 58) O dX12_isNeeded_57 rfl 3 rfl ?_
      obtain ⟨hv4, h⟩ := h
      refine J.iald (q := 59) (c' := 347) (j := x3.toNatClampNeg) (M 347 x3.toNatClampNeg) rfl O dX12_isNeeded_58 rfl ar_347 hv4 rfl ?_
      refine J.icmp_ne (q := 62) (tgt := 66) O dX12_isNeeded_59 rfl (by decide) (fun z5 => ?_) (fun z5 => ?_)
      · replace h := h.1 z5
        exact J.sub [0, 1, 3] rfl (j_X12_isNeeded_b66 hG O hR hr4 h)
      · replace h := h.2 z5
        refine J.iconst (q := 63) (v := (1 : Int32)) O dX12_isNeeded_62 rfl rfl ?_
        refine J.goto (q := 67) O dX12_isNeeded_63 (by decide) ?_
        exact J.sub [0, 1, 3] rfl (j_X12_isNeeded_b67 hG O hR hr4 h)
  · replace h := h.2 z2
    refine J.iload (q := 23) O dX12_isNeeded_21 rfl 4 rfl ?_
    refine J.iload_n (q := 24) O dX12_isNeeded_23 rfl 1 rfl ?_
    refine J.iload (q := 26) O dX12_isNeeded_24 rfl 5 rfl ?_
    refine J.callSI (q := 29) [.int x1, .int x5] [.int x4] [.int x5, .int x1, .int x4] rfl O dX12_isNeeded_26 rfl (c_X12_shiftIn hG h) wd_9_11 mw_X12_shiftIn rfl (by decide) (Nat.le_of_ble_eq_true rfl) (fun v6 M6 h => ?_)
    refine J.iload_n (q := 30) O dX12_isNeeded_29 rfl 3 rfl ?_
    refine J.icmp_ne (q := 33) (tgt := 37) O dX12_isNeeded_30 rfl (by decide) (fun z7 => ?_) (fun z7 => ?_)
    · replace h := h.1 z7
      refine J.iconst (q := 38) (v := (0 : Int32)) O dX12_isNeeded_37 rfl rfl ?_
      exact J.sub [0, 1, 2, 3, 5] rfl (j_X12_isNeeded_b38 hG O hR hr4 hr15 h)
    · replace h := h.2 z7
      refine J.iconst (q := 34) (v := (1 : Int32)) O dX12_isNeeded_33 rfl rfl ?_
      refine J.goto (q := 38) O dX12_isNeeded_34 (by decide) ?_
      exact J.sub [0, 1, 2, 3, 5] rfl (j_X12_isNeeded_b38 hG O hR hr4 hr15 h)
set_option maxHeartbeats 4000000 in
set_option maxRecDepth 20000 in
theorem j_X12_isNeeded_c4 {X : CX} {G : GX} {K : Int32 → Mem → Prop} (hG : Gd G) (O : Ok X G cX12_isNeeded 6 RX12 2) (hR : RetZ X G cX12_isNeeded K) {a : Int32 × Int32 × Int32 × Mem} (h : Lp (fun (r4 : Int32 × Int32 × Int32 × Mem → Prop) a => f_X12_isNeeded_c4 K r4 a.1 a.2.1 a.2.2.1 a.2.2.2) a) : J X G a.2.2.2 4 [(0, .ref (ad G 287)), (1, .int a.1), (2, .int a.2.1), (3, .int a.2.2.1)] [] := by
  refine Lp.elim (P := fun a => J X G a.2.2.2 4 [(0, .ref (ad G 287)), (1, .int a.1), (2, .int a.2.1), (3, .int a.2.2.1)] []) ?_ h
  clear h
  intro r4 hr4 a h
  obtain ⟨x1, x2, x3, M⟩ := a
  unfold f_X12_isNeeded_c4 at h
  (try dsimp only at h ⊢)
  refine J.iload_n (q := 5) O dX12_isNeeded_4 rfl 3 rfl ?_
  refine J.iconst (q := 6) (v := (3 : Int32)) O dX12_isNeeded_5 rfl rfl ?_
  refine J.icmp_ge (q := 9) (tgt := 74) O dX12_isNeeded_6 rfl (by decide) (fun z8 => ?_) (fun z8 => ?_)
  · replace h := h.1 z8
    refine J.iload_n (q := 75) O dX12_isNeeded_74 rfl 2 rfl ?_
    exact hR _ _ _ _ dX12_isNeeded_75 h.1 h.2
  · replace h := h.2 z8
    refine J.iconst (q := 10) (v := (0 : Int32)) O dX12_isNeeded_9 rfl rfl ?_
    refine J.istore (q := 12) O dX12_isNeeded_10 rfl [(4, .int (0 : Int32)), (0, .ref (ad G 287)), (1, .int x1), (2, .int x2), (3, .int x3)] (by decide) rfl ?_
    refine J.iconst (q := 13) (v := (0 : Int32)) O dX12_isNeeded_12 rfl rfl ?_
    refine J.istore (q := 15) O dX12_isNeeded_13 rfl [(5, .int (0 : Int32)), (4, .int (0 : Int32)), (0, .ref (ad G 287)), (1, .int x1), (2, .int x2), (3, .int x3)] (by decide) rfl ?_
    exact J.sub [2, 3, 4, 5, 1, 0] rfl (j_X12_isNeeded_c15 hG O hR hr4 h)
set_option maxHeartbeats 4000000 in
set_option maxRecDepth 20000 in
theorem c_X12_isNeeded {l : Launch} {G : GX} (hG : Gd G) {a1 : Int32} {M : Mem} {K : Int32 → Mem → Prop} (h : f_X12_isNeeded a1 M K) : CI l G yX12_isNeeded cX12_isNeeded 6 (some .boolean) 2 [.ref (ad G 287), .int a1] M K := by
  unfold f_X12_isNeeded at h
  refine CZ.mk hG (by decide) [(0, .ref (ad G 287)), (1, .int a1)] rfl (Nat.le_of_ble_eq_true rfl) (fun X O hlX hR => ?_)
  subst hlX
  refine J.iconst (q := 1) (v := (1 : Int32)) O dX12_isNeeded_0 rfl rfl ?_
  refine J.istore_n (q := 2) O dX12_isNeeded_1 rfl [(2, .int (1 : Int32)), (0, .ref (ad G 287)), (1, .int a1)] (by decide) rfl ?_
  refine J.iconst (q := 3) (v := (0 : Int32)) O dX12_isNeeded_2 rfl rfl ?_
  refine J.istore_n (q := 4) O dX12_isNeeded_3 rfl [(3, .int (0 : Int32)), (2, .int (1 : Int32)), (0, .ref (ad G 287)), (1, .int a1)] (by decide) rfl ?_
  exact J.sub [2, 3, 1, 0] rfl (j_X12_isNeeded_c4 hG O hR h)
set_option maxHeartbeats 4000000 in
set_option maxRecDepth 20000 in
theorem j_X12_findNeeded_b73 {X : CX} {G : GX} {K : Mem → Prop} (hG : Gd G) (O : Ok X G cX12_findNeeded 3 RX12 3) (hR : RetV X G cX12_findNeeded K) {r7 : Int32 × Mem → Prop} (hr7 : ∀ a : Int32 × Mem, r7 a → J X G a.2 7 [(0, .ref (ad G 287)), (1, .int a.1)] []) {r44 : Int32 × Int32 × Mem → Prop} (hr44 : ∀ a : Int32 × Int32 × Mem, r44 a → J X G a.2.2 44 [(0, .ref (ad G 287)), (1, .int a.1), (2, .int a.2.1)] []) {x1 : Int32} {x2 : Int32} {s0 : Int32} {s1 : Int32} {s2 : Int32} {M : Mem} (h : f_X12_findNeeded_b73 r7 r44 K x1 x2 s0 s1 s2 M) : J X G M 73 [(0, .ref (ad G 287)), (1, .int x1), (2, .int x2)] [.int s0, .int s1, .int s2, .ref (ad G 354)] := by
  unfold f_X12_findNeeded_b73 at h
  refine J.iconst (q := 74) (v := (4 : Int32)) O dX12_findNeeded_73 rfl rfl ?_
  refine J.iload_n (q := 75) O dX12_findNeeded_74 rfl 2 rfl ?_
  refine J.imul (q := 76) O dX12_findNeeded_75 rfl ?_
  refine J.ishl (q := 77) O dX12_findNeeded_76 rfl ?_
  refine J.ior (q := 78) O dX12_findNeeded_77 rfl ?_
  obtain ⟨hv5, h⟩ := h
  refine J.iast (q := 79) (c' := 354) (j := s2.toNatClampNeg) O dX12_findNeeded_78 rfl ar_354 hv5 rfl ?_
  refine J.iinc (q := 82) O dX12_findNeeded_79 rfl [(2, .int (x2 + (1 : Int32))), (0, .ref (ad G 287)), (1, .int x1)] 2 rfl rfl (by decide) rfl ?_
  refine J.goto (q := 44) O dX12_findNeeded_82 (by decide) ?_
  exact J.sub [1, 2, 0] rfl (hr44 _ h)
set_option maxHeartbeats 4000000 in
set_option maxRecDepth 20000 in
theorem j_X12_findNeeded_b95 {X : CX} {G : GX} {K : Mem → Prop} (hG : Gd G) (O : Ok X G cX12_findNeeded 3 RX12 3) (hR : RetV X G cX12_findNeeded K) {r7 : Int32 × Mem → Prop} (hr7 : ∀ a : Int32 × Mem, r7 a → J X G a.2 7 [(0, .ref (ad G 287)), (1, .int a.1)] []) {x1 : Int32} {M : Mem} (h : f_X12_findNeeded_b95 r7 K x1 M) : J X G M 95 [(0, .ref (ad G 287)), (1, .int x1)] [] := by
  unfold f_X12_findNeeded_b95 at h
  refine J.iinc (q := 98) O dX12_findNeeded_95 rfl [(1, .int (x1 + (1 : Int32))), (0, .ref (ad G 287))] 1 rfl rfl (by decide) rfl ?_
  refine J.goto (q := 7) O dX12_findNeeded_98 (by decide) ?_
  exact J.sub [1, 0] rfl (hr7 _ h)
set_option maxHeartbeats 4000000 in
set_option maxRecDepth 20000 in
theorem j_X12_findNeeded_c44 {X : CX} {G : GX} {K : Mem → Prop} (hG : Gd G) (O : Ok X G cX12_findNeeded 3 RX12 3) (hR : RetV X G cX12_findNeeded K) {r7 : Int32 × Mem → Prop} (hr7 : ∀ a : Int32 × Mem, r7 a → J X G a.2 7 [(0, .ref (ad G 287)), (1, .int a.1)] []) {a : Int32 × Int32 × Mem} (h : Lp (fun (r44 : Int32 × Int32 × Mem → Prop) a => f_X12_findNeeded_c44 r7 K r44 a.1 a.2.1 a.2.2) a) : J X G a.2.2 44 [(0, .ref (ad G 287)), (1, .int a.1), (2, .int a.2.1)] [] := by
  refine Lp.elim (P := fun a => J X G a.2.2 44 [(0, .ref (ad G 287)), (1, .int a.1), (2, .int a.2.1)] []) ?_ h
  clear h
  intro r44 hr44 a h
  obtain ⟨x1, x2, M⟩ := a
  unfold f_X12_findNeeded_c44 at h
  (try dsimp only at h ⊢)
  refine J.iload_n (q := 45) O dX12_findNeeded_44 rfl 2 rfl ?_
  refine J.iconst (q := 46) (v := (4 : Int32)) O dX12_findNeeded_45 rfl rfl ?_
  refine J.icmp_ge (q := 49) (tgt := 85) O dX12_findNeeded_46 rfl (by decide) (fun z6 => ?_) (fun z6 => ?_)
  · replace h := h.1 z6
    refine J.aload_n (q := 86) O dX12_findNeeded_85 rfl 0 rfl ?_
    refine J.dup (q := 87) O dX12_findNeeded_86 rfl rfl ?_
    refine J.getI (q := 90) (c' := 287) (ci := 12) (k := 86) (M 287 86) rfl O dX12_findNeeded_87 rfl wd_6_158 (by decide) if_287_86 ?_
    refine J.iconst (q := 91) (v := (1 : Int32)) O dX12_findNeeded_90 rfl rfl ?_
    refine J.iadd (q := 92) O dX12_findNeeded_91 rfl ?_
    refine J.putI (q := 95) (c' := 287) (ci := 12) (k := 86) O dX12_findNeeded_92 rfl wd_6_158 (by decide) if_287_86 rfl rfl ?_
    exact J.sub [0, 1] rfl (j_X12_findNeeded_b95 hG O hR hr7 h)
  · replace h := h.2 z6
    refine J.aload_n (q := 50) O dX12_findNeeded_49 rfl 0 rfl ?_
    refine J.getR (q := 53) (c' := 287) (ci := 12) (k := 85) (r := 354) O dX12_findNeeded_50 rfl wd_6_157 (by decide) if_287_85 ?_
    refine J.aload_n (q := 54) O dX12_findNeeded_53 rfl 0 rfl ?_
    refine J.getI (q := 57) (c' := 287) (ci := 12) (k := 86) (M 287 86) rfl O dX12_findNeeded_54 rfl wd_6_158 (by decide) if_287_86 ?_
    refine J.dup2 (q := 58) O dX12_findNeeded_57 rfl rfl rfl ?_
    obtain ⟨hv7, h⟩ := h
    refine J.iald (q := 59) (c' := 354) (j := (M 287 86).toNatClampNeg) (M 354 ((M 287 86).toNatClampNeg)) rfl O dX12_findNeeded_58 rfl ar_354 hv7 rfl ?_
    refine J.iload_n (q := 60) O dX12_findNeeded_59 rfl 1 rfl ?_
    refine J.iload_n (q := 61) O dX12_findNeeded_60 rfl 2 rfl ?_
    refine J.callSI (q := 64) [.int x1, .int x2] [.int (M 354 ((M 287 86).toNatClampNeg)), .int (M 287 86), .ref (ad G 354)] [.int x2, .int x1, .int (M 354 ((M 287 86).toNatClampNeg)), .int (M 287 86), .ref (ad G 354)] rfl O dX12_findNeeded_61 rfl (c_X12_shiftIn hG h) wd_9_11 mw_X12_shiftIn rfl (by decide) (Nat.le_of_ble_eq_true rfl) (fun v8 M8 h => ?_)
    refine J.iconst (q := 65) (v := (3 : Int32)) O dX12_findNeeded_64 rfl rfl ?_
    refine J.icmp_ge (q := 68) (tgt := 72) O dX12_findNeeded_65 rfl (by decide) (fun z9 => ?_) (fun z9 => ?_)
    · replace h := h.1 z9
      refine J.iconst (q := 73) (v := (0 : Int32)) O dX12_findNeeded_72 rfl rfl ?_
      exact J.sub [0, 1, 2] rfl (j_X12_findNeeded_b73 hG O hR hr7 hr44 h)
    · replace h := h.2 z9
      refine J.iconst (q := 69) (v := (1 : Int32)) O dX12_findNeeded_68 rfl rfl ?_
      refine J.goto (q := 73) O dX12_findNeeded_69 (by decide) ?_
      exact J.sub [0, 1, 2] rfl (j_X12_findNeeded_b73 hG O hR hr7 hr44 h)
set_option maxHeartbeats 4000000 in
set_option maxRecDepth 20000 in
theorem j_X12_findNeeded_c7 {X : CX} {G : GX} {K : Mem → Prop} (hG : Gd G) (O : Ok X G cX12_findNeeded 3 RX12 3) (hR : RetV X G cX12_findNeeded K) {a : Int32 × Mem} (h : Lp (fun (r7 : Int32 × Mem → Prop) a => f_X12_findNeeded_c7 K r7 a.1 a.2) a) : J X G a.2 7 [(0, .ref (ad G 287)), (1, .int a.1)] [] := by
  refine Lp.elim (P := fun a => J X G a.2 7 [(0, .ref (ad G 287)), (1, .int a.1)] []) ?_ h
  clear h
  intro r7 hr7 a h
  obtain ⟨x1, M⟩ := a
  unfold f_X12_findNeeded_c7 at h
  (try dsimp only at h ⊢)
  refine J.iload_n (q := 8) O dX12_findNeeded_7 rfl 1 rfl ?_
  refine J.sipush (q := 11) (v := (256 : Int32)) O dX12_findNeeded_8 rfl rfl ?_
  refine J.icmp_ge (q := 14) (tgt := 101) O dX12_findNeeded_11 rfl (by decide) (fun z10 => ?_) (fun z10 => ?_)
  · replace h := h.1 z10
    exact hR _ _ _ dX12_findNeeded_101 h
  · replace h := h.2 z10
    refine J.aload_n (q := 15) O dX12_findNeeded_14 rfl 0 rfl ?_
    refine J.iload_n (q := 16) O dX12_findNeeded_15 rfl 1 rfl ?_
    refine J.callVI (q := 19) [.int x1] [] [.int x1, .ref (ad G 287)] rfl O dX12_findNeeded_16 rfl (c_X12_isNeeded hG h) wd_9_7 mw_X12_isNeeded io_287 rfl (by decide) (Nat.le_of_ble_eq_true rfl) (fun v11 M11 h => ?_)
    refine J.if_eq (q := 22) (tgt := 95) O dX12_findNeeded_19 rfl (by decide) (fun z12 => ?_) (fun z12 => ?_)
    · replace h := h.1 z12
      exact J.sub [0, 1] rfl (j_X12_findNeeded_b95 hG O hR hr7 h)
    · replace h := h.2 z12
      refine J.aload_n (q := 23) O dX12_findNeeded_22 rfl 0 rfl ?_
      refine J.getR (q := 26) (c' := 287) (ci := 12) (k := 84) (r := 353) O dX12_findNeeded_23 rfl wd_6_156 (by decide) if_287_84 ?_
      refine J.aload_n (q := 27) O dX12_findNeeded_26 rfl 0 rfl ?_
      refine J.getI (q := 30) (c' := 287) (ci := 12) (k := 86) (M11 287 86) rfl O dX12_findNeeded_27 rfl wd_6_158 (by decide) if_287_86 ?_
      refine J.iload_n (q := 31) O dX12_findNeeded_30 rfl 1 rfl ?_
      obtain ⟨hv13, h⟩ := h
      refine J.iast (q := 32) (c' := 353) (j := (M11 287 86).toNatClampNeg) O dX12_findNeeded_31 rfl ar_353 hv13 rfl ?_
      refine J.aload_n (q := 33) O dX12_findNeeded_32 rfl 0 rfl ?_
      refine J.getR (q := 36) (c' := 287) (ci := 12) (k := 85) (r := 354) O dX12_findNeeded_33 rfl wd_6_157 (by decide) if_287_85 ?_
      refine J.aload_n (q := 37) O dX12_findNeeded_36 rfl 0 rfl ?_
      refine J.getI (q := 40) (c' := 287) (ci := 12) (k := 86) (M11 287 86) rfl O dX12_findNeeded_37 rfl wd_6_158 (by decide) if_287_86 ?_
      refine J.iconst (q := 41) (v := (0 : Int32)) O dX12_findNeeded_40 rfl rfl ?_
      obtain ⟨hv14, h⟩ := h
      refine J.iast (q := 42) (c' := 354) (j := (M11 287 86).toNatClampNeg) O dX12_findNeeded_41 rfl ar_354 hv14 rfl ?_
      refine J.iconst (q := 43) (v := (0 : Int32)) O dX12_findNeeded_42 rfl rfl ?_
      refine J.istore_n (q := 44) O dX12_findNeeded_43 rfl [(2, .int (0 : Int32)), (0, .ref (ad G 287)), (1, .int x1)] (by decide) rfl ?_
      exact J.sub [1, 2, 0] rfl (j_X12_findNeeded_c44 hG O hR hr7 h)
set_option maxHeartbeats 4000000 in
set_option maxRecDepth 20000 in
theorem c_X12_findNeeded {l : Launch} {G : GX} (hG : Gd G) {M : Mem} {K : Mem → Prop} (h : f_X12_findNeeded  M K) : CV l G yX12_findNeeded cX12_findNeeded 3 3 [.ref (ad G 287)] M K := by
  unfold f_X12_findNeeded at h
  refine CV.mk hG (by decide) [(0, .ref (ad G 287))] rfl (Nat.le_of_ble_eq_true rfl) (fun X O hlX hR => ?_)
  subst hlX
  refine J.aload_n (q := 1) O dX12_findNeeded_0 rfl 0 rfl ?_
  refine J.iconst (q := 2) (v := (0 : Int32)) O dX12_findNeeded_1 rfl rfl ?_
  refine J.putI (q := 5) (c' := 287) (ci := 12) (k := 86) O dX12_findNeeded_2 rfl wd_6_158 (by decide) if_287_86 rfl rfl ?_
  refine J.iconst (q := 6) (v := (0 : Int32)) O dX12_findNeeded_5 rfl rfl ?_
  refine J.istore_n (q := 7) O dX12_findNeeded_6 rfl [(1, .int (0 : Int32)), (0, .ref (ad G 287))] (by decide) rfl ?_
  exact J.sub [1, 0] rfl (j_X12_findNeeded_c7 hG O hR h)
set_option maxHeartbeats 4000000 in
set_option maxRecDepth 20000 in
theorem j_X12_mayStand_b105 {X : CX} {G : GX} {K : Int32 → Mem → Prop} (hG : Gd G) (O : Ok X G cX12_mayStand 7 RX12 2) (hR : RetZ X G cX12_mayStand K) {M : Mem} (h : f_X12_mayStand_b105 K  M) : J X G M 105 [] [] := by
  unfold f_X12_mayStand_b105 at h
  refine J.iconst (q := 106) (v := (0 : Int32)) O dX12_mayStand_105 rfl rfl ?_
  exact hR _ _ _ _ dX12_mayStand_106 (Or.inl rfl) h
set_option maxHeartbeats 4000000 in
set_option maxRecDepth 20000 in
theorem j_X12_mayStand_b107 {X : CX} {G : GX} {K : Int32 → Mem → Prop} (hG : Gd G) (O : Ok X G cX12_mayStand 7 RX12 2) (hR : RetZ X G cX12_mayStand K) {r18 : Int32 × Int32 × Int32 × Int32 × Int32 × Mem → Prop} (hr18 : ∀ a : Int32 × Int32 × Int32 × Int32 × Int32 × Mem, r18 a → J X G a.2.2.2.2.2 18 [(0, .ref (ad G 287)), (1, .int a.1), (2, .int a.2.1), (3, .int a.2.2.1), (4, .int a.2.2.2.1), (5, .int a.2.2.2.2.1)] []) {x1 : Int32} {x2 : Int32} {x3 : Int32} {x4 : Int32} {x5 : Int32} {M : Mem} (h : f_X12_mayStand_b107 r18 K x1 x2 x3 x4 x5 M) : J X G M 107 [(0, .ref (ad G 287)), (1, .int x1), (2, .int x2), (3, .int x3), (4, .int x4), (5, .int x5)] [] := by
  unfold f_X12_mayStand_b107 at h
  refine J.iinc (q := 110) O dX12_mayStand_107 rfl [(5, .int (x5 + (1 : Int32))), (0, .ref (ad G 287)), (1, .int x1), (2, .int x2), (3, .int x3), (4, .int x4)] 5 rfl rfl (by decide) rfl ?_
  refine J.goto (q := 18) O dX12_mayStand_110 (by decide) ?_
  exact J.sub [1, 2, 3, 4, 5, 0] rfl (hr18 _ h)
set_option maxHeartbeats 4000000 in
set_option maxRecDepth 20000 in
theorem j_X12_mayStand_b79 {X : CX} {G : GX} {K : Int32 → Mem → Prop} (hG : Gd G) (O : Ok X G cX12_mayStand 7 RX12 2) (hR : RetZ X G cX12_mayStand K) {r18 : Int32 × Int32 × Int32 × Int32 × Int32 × Mem → Prop} (hr18 : ∀ a : Int32 × Int32 × Int32 × Int32 × Int32 × Mem, r18 a → J X G a.2.2.2.2.2 18 [(0, .ref (ad G 287)), (1, .int a.1), (2, .int a.2.1), (3, .int a.2.2.1), (4, .int a.2.2.2.1), (5, .int a.2.2.2.2.1)] []) {x1 : Int32} {x2 : Int32} {x3 : Int32} {x4 : Int32} {x5 : Int32} {M : Mem} (h : f_X12_mayStand_b79 r18 K x1 x2 x3 x4 x5 M) : J X G M 79 [(0, .ref (ad G 287)), (1, .int x1), (2, .int x2), (3, .int x3), (4, .int x4), (5, .int x5)] [] := by
  unfold f_X12_mayStand_b79 at h
  refine J.iload_n (q := 80) O dX12_mayStand_79 rfl 3 rfl ?_
  refine J.iconst (q := 81) (v := (2 : Int32)) O dX12_mayStand_80 rfl rfl ?_
  refine J.iand (q := 82) O dX12_mayStand_81 rfl ?_
  refine J.iconst (q := 83) (v := (2 : Int32)) O dX12_mayStand_82 rfl rfl ?_
  refine J.icmp_ne (q := 86) (tgt := 107) O dX12_mayStand_83 rfl (by decide) (fun z5 => ?_) (fun z5 => ?_)
  · replace h := h.1 z5
    exact J.sub [0, 1, 2, 3, 4, 5] rfl (j_X12_mayStand_b107 hG O hR hr18 h)
  · replace h := h.2 z5
    refine J.iload (q := 88) O dX12_mayStand_86 rfl 4 rfl ?_
    refine J.iconst (q := 89) (v := (4 : Int32)) O dX12_mayStand_88 rfl rfl ?_
    refine J.iload (q := 91) O dX12_mayStand_89 rfl 5 rfl ?_
    refine J.imul (q := 92) O dX12_mayStand_91 rfl ?_
    refine J.ishr (q := 93) O dX12_mayStand_92 rfl ?_
    refine J.bipush (q := 95) (v := (15 : Int32)) O dX12_mayStand_93 rfl rfl ?_
    refine J.iand (q := 96) O dX12_mayStand_95 rfl ?_
    refine J.aload_n (q := 97) O dX12_mayStand_96 rfl 0 rfl ?_
    refine J.getR (q := 100) (c' := 287) (ci := 12) (k := 51) (r := 325) O dX12_mayStand_97 rfl wd_6_123 (by decide) if_287_51 ?_
    refine J.iconst (q := 101) (v := (4 : Int32)) O dX12_mayStand_100 rfl rfl ?_
    refine J.iald (q := 102) (c' := 325) (j := 4) (M 325 4) rfl O dX12_mayStand_101 rfl ar_325 (vin_lit (by decide)) (by decide) ?_
    refine J.icmp_le (q := 105) (tgt := 107) O dX12_mayStand_102 rfl (by decide) (fun z6 => ?_) (fun z6 => ?_)
    · replace h := h.1 z6
      exact J.sub [0, 1, 2, 3, 4, 5] rfl (j_X12_mayStand_b107 hG O hR hr18 h)
    · replace h := h.2 z6
      exact J.sub [] rfl (j_X12_mayStand_b105 hG O hR h)
set_option maxHeartbeats 4000000 in
set_option maxRecDepth 20000 in
theorem j_X12_mayStand_b65 {X : CX} {G : GX} {K : Int32 → Mem → Prop} (hG : Gd G) (O : Ok X G cX12_mayStand 7 RX12 2) (hR : RetZ X G cX12_mayStand K) {r18 : Int32 × Int32 × Int32 × Int32 × Int32 × Mem → Prop} (hr18 : ∀ a : Int32 × Int32 × Int32 × Int32 × Int32 × Mem, r18 a → J X G a.2.2.2.2.2 18 [(0, .ref (ad G 287)), (1, .int a.1), (2, .int a.2.1), (3, .int a.2.2.1), (4, .int a.2.2.2.1), (5, .int a.2.2.2.2.1)] []) {x1 : Int32} {x2 : Int32} {x3 : Int32} {x4 : Int32} {x5 : Int32} {s0 : Int32} {M : Mem} (h : f_X12_mayStand_b65 r18 K x1 x2 x3 x4 x5 s0 M) : J X G M 65 [(0, .ref (ad G 287)), (1, .int x1), (2, .int x2), (3, .int x3), (4, .int x4), (5, .int x5)] [.int s0] := by
  unfold f_X12_mayStand_b65 at h
  refine J.istore (q := 67) O dX12_mayStand_65 rfl [(6, .int s0), (0, .ref (ad G 287)), (1, .int x1), (2, .int x2), (3, .int x3), (4, .int x4), (5, .int x5)] (by decide) rfl ?_
  refine J.iload_n (q := 68) O dX12_mayStand_67 rfl 4 rfl ?_
  refine J.iconst (q := 69) (v := (1 : Int32)) O dX12_mayStand_68 rfl rfl ?_
  refine J.iand (q := 70) O dX12_mayStand_69 rfl ?_
  refine J.iconst (q := 71) (v := (1 : Int32)) O dX12_mayStand_70 rfl rfl ?_
  refine J.icmp_ne (q := 74) (tgt := 79) O dX12_mayStand_71 rfl (by decide) (fun z7 => ?_) (fun z7 => ?_)
  · replace h := h.1 z7
    exact J.sub [1, 2, 3, 4, 5, 6] rfl (j_X12_mayStand_b79 hG O hR hr18 h)
  · replace h := h.2 z7
    refine J.iload (q := 76) O dX12_mayStand_74 rfl 0 rfl ?_
    refine J.if_ne (q := 79) (tgt := 105) O dX12_mayStand_76 rfl (by decide) (fun z8 => ?_) (fun z8 => ?_)
    · replace h := h.1 z8
      exact J.sub [] rfl (j_X12_mayStand_b105 hG O hR h)
    · replace h := h.2 z8
      exact J.sub [1, 2, 3, 4, 5, 6] rfl (j_X12_mayStand_b79 hG O hR hr18 h)
set_option maxHeartbeats 4000000 in
set_option maxRecDepth 20000 in
theorem j_X12_mayStand_b64 {X : CX} {G : GX} {K : Int32 → Mem → Prop} (hG : Gd G) (O : Ok X G cX12_mayStand 7 RX12 2) (hR : RetZ X G cX12_mayStand K) {r18 : Int32 × Int32 × Int32 × Int32 × Int32 × Mem → Prop} (hr18 : ∀ a : Int32 × Int32 × Int32 × Int32 × Int32 × Mem, r18 a → J X G a.2.2.2.2.2 18 [(0, .ref (ad G 287)), (1, .int a.1), (2, .int a.2.1), (3, .int a.2.2.1), (4, .int a.2.2.2.1), (5, .int a.2.2.2.2.1)] []) {x1 : Int32} {x2 : Int32} {x3 : Int32} {x4 : Int32} {x5 : Int32} {M : Mem} (h : f_X12_mayStand_b64 r18 K x1 x2 x3 x4 x5 M) : J X G M 64 [(0, .ref (ad G 287)), (1, .int x1), (2, .int x2), (3, .int x3), (4, .int x4), (5, .int x5)] [] := by
  unfold f_X12_mayStand_b64 at h
  refine J.iconst (q := 65) (v := (0 : Int32)) O dX12_mayStand_64 rfl rfl ?_
  exact J.sub [0, 1, 2, 3, 4, 5] rfl (j_X12_mayStand_b65 hG O hR hr18 h)
set_option maxHeartbeats 4000000 in
set_option maxRecDepth 20000 in
theorem j_X12_mayStand_c18 {X : CX} {G : GX} {K : Int32 → Mem → Prop} (hG : Gd G) (O : Ok X G cX12_mayStand 7 RX12 2) (hR : RetZ X G cX12_mayStand K) {a : Int32 × Int32 × Int32 × Int32 × Int32 × Mem} (h : Lp (fun (r18 : Int32 × Int32 × Int32 × Int32 × Int32 × Mem → Prop) a => f_X12_mayStand_c18 K r18 a.1 a.2.1 a.2.2.1 a.2.2.2.1 a.2.2.2.2.1 a.2.2.2.2.2) a) : J X G a.2.2.2.2.2 18 [(0, .ref (ad G 287)), (1, .int a.1), (2, .int a.2.1), (3, .int a.2.2.1), (4, .int a.2.2.2.1), (5, .int a.2.2.2.2.1)] [] := by
  refine Lp.elim (P := fun a => J X G a.2.2.2.2.2 18 [(0, .ref (ad G 287)), (1, .int a.1), (2, .int a.2.1), (3, .int a.2.2.1), (4, .int a.2.2.2.1), (5, .int a.2.2.2.2.1)] []) ?_ h
  clear h
  intro r18 hr18 a h
  obtain ⟨x1, x2, x3, x4, x5, M⟩ := a
  unfold f_X12_mayStand_c18 at h
  (try dsimp only at h ⊢)
  refine J.iload (q := 20) O dX12_mayStand_18 rfl 5 rfl ?_
  refine J.iconst (q := 21) (v := (4 : Int32)) O dX12_mayStand_20 rfl rfl ?_
  refine J.icmp_ge (q := 24) (tgt := 113) O dX12_mayStand_21 rfl (by decide) (fun z9 => ?_) (fun z9 => ?_)
  · replace h := h.1 z9
    refine J.iconst (q := 114) (v := (1 : Int32)) O dX12_mayStand_113 rfl rfl ?_
    exact hR _ _ _ _ dX12_mayStand_114 (Or.inr rfl) h
  · replace h := h.2 z9
    refine J.iload_n (q := 25) O dX12_mayStand_24 rfl 1 rfl ?_
    refine J.if_le (q := 28) (tgt := 64) O dX12_mayStand_25 rfl (by decide) (fun z10 => ?_) (fun z10 => ?_)
    · replace h := h.1 z10
      exact J.sub [0, 1, 2, 3, 4, 5] rfl (j_X12_mayStand_b64 hG O hR hr18 h)
    · replace h := h.2 z10
      refine J.aload_n (q := 29) O dX12_mayStand_28 rfl 0 rfl ?_
      refine J.getR (q := 32) (c' := 287) (ci := 12) (k := 81) (r := 350) O dX12_mayStand_29 rfl wd_6_153 (by decide) if_287_81 ?_
      refine J.iload_n (q := 33) O dX12_mayStand_32 rfl 1 rfl ?_
      refine J.iconst (q := 34) (v := (1 : Int32)) O dX12_mayStand_33 rfl rfl ?_
      refine J.isub (q := 35) O dX12_mayStand_34 rfl ?_
      obtain ⟨hv11, h⟩ := h
      refine J.iald (q := 36) (c' := 350) (j := (x1 - (1 : Int32)).toNatClampNeg) (M 350 ((x1 - (1 : Int32)).toNatClampNeg)) rfl O dX12_mayStand_35 rfl ar_350 hv11 rfl ?_
      refine J.iload (q := 38) O dX12_mayStand_36 rfl 5 rfl ?_
      refine J.callSI (q := 41) [.int (M 350 ((x1 - (1 : Int32)).toNatClampNeg)), .int x5] [] [.int x5, .int (M 350 ((x1 - (1 : Int32)).toNatClampNeg))] rfl O dX12_mayStand_38 rfl (c_X12_shiftIn hG h) wd_9_11 mw_X12_shiftIn rfl (by decide) (Nat.le_of_ble_eq_true rfl) (fun v12 M12 h => ?_)
      refine J.iconst (q := 42) (v := (2 : Int32)) O dX12_mayStand_41 rfl rfl ?_
      refine J.icmp_ne (q := 45) (tgt := 64) O dX12_mayStand_42 rfl (by decide) (fun z13 => ?_) (fun z13 => ?_)
      · replace h := h.1 z13
        exact J.sub [0, 1, 2, 3, 4, 5] rfl (j_X12_mayStand_b64 hG O hR hr18 h)
      · replace h := h.2 z13
        refine J.aload_n (q := 46) O dX12_mayStand_45 rfl 0 rfl ?_
        refine J.getR (q := 49) (c' := 287) (ci := 12) (k := 84) (r := 353) O dX12_mayStand_46 rfl wd_6_156 (by decide) if_287_84 ?_
        refine J.iload_n (q := 50) O dX12_mayStand_49 rfl 2 rfl ?_
        obtain ⟨hv14, h⟩ := h
        refine J.iald (q := 51) (c' := 353) (j := x2.toNatClampNeg) (M12 353 x2.toNatClampNeg) rfl O dX12_mayStand_50 rfl ar_353 hv14 rfl ?_
        refine J.iload (q := 53) O dX12_mayStand_51 rfl 5 rfl ?_
        refine J.callSI (q := 56) [.int (M12 353 x2.toNatClampNeg), .int x5] [] [.int x5, .int (M12 353 x2.toNatClampNeg)] rfl O dX12_mayStand_53 rfl (c_X12_shiftIn hG h) wd_9_11 mw_X12_shiftIn rfl (by decide) (Nat.le_of_ble_eq_true rfl) (fun v15 M15 h => ?_)
        refine J.iconst (q := 57) (v := (2 : Int32)) O dX12_mayStand_56 rfl rfl ?_
        refine J.icmp_ge (q := 60) (tgt := 64) O dX12_mayStand_57 rfl (by decide) (fun z16 => ?_) (fun z16 => ?_)
        · replace h := h.1 z16
          exact J.sub [0, 1, 2, 3, 4, 5] rfl (j_X12_mayStand_b64 hG O hR hr18 h)
        · replace h := h.2 z16
          refine J.iconst (q := 61) (v := (1 : Int32)) O dX12_mayStand_60 rfl rfl ?_
          refine J.goto (q := 65) O dX12_mayStand_61 (by decide) ?_
          exact J.sub [0, 1, 2, 3, 4, 5] rfl (j_X12_mayStand_b65 hG O hR hr18 h)
set_option maxHeartbeats 4000000 in
set_option maxRecDepth 20000 in
theorem c_X12_mayStand {l : Launch} {G : GX} (hG : Gd G) {a1 : Int32} {a2 : Int32} {a3 : Int32} {M : Mem} {K : Int32 → Mem → Prop} (h : f_X12_mayStand a1 a2 a3 M K) : CI l G yX12_mayStand cX12_mayStand 7 (some .boolean) 2 [.ref (ad G 287), .int a1, .int a2, .int a3] M K := by
  unfold f_X12_mayStand at h
  refine CZ.mk hG (by decide) [(0, .ref (ad G 287)), (1, .int a1), (2, .int a2), (3, .int a3)] rfl (Nat.le_of_ble_eq_true rfl) (fun X O hlX hR => ?_)
  subst hlX
  refine J.aload_n (q := 1) O dX12_mayStand_0 rfl 0 rfl ?_
  refine J.getR (q := 4) (c' := 287) (ci := 12) (k := 88) (r := 356) O dX12_mayStand_1 rfl wd_6_160 (by decide) if_287_88 ?_
  refine J.iload_n (q := 5) O dX12_mayStand_4 rfl 1 rfl ?_
  obtain ⟨hv17, h⟩ := h
  refine J.iald (q := 6) (c' := 356) (j := a1.toNatClampNeg) (M 356 a1.toNatClampNeg) rfl O dX12_mayStand_5 rfl ar_356 hv17 rfl ?_
  refine J.aload_n (q := 7) O dX12_mayStand_6 rfl 0 rfl ?_
  refine J.getR (q := 10) (c' := 287) (ci := 12) (k := 85) (r := 354) O dX12_mayStand_7 rfl wd_6_157 (by decide) if_287_85 ?_
  refine J.iload_n (q := 11) O dX12_mayStand_10 rfl 2 rfl ?_
  obtain ⟨hv18, h⟩ := h
  refine J.iald (q := 12) (c' := 354) (j := a2.toNatClampNeg) (M 354 a2.toNatClampNeg) rfl O dX12_mayStand_11 rfl ar_354 hv18 rfl ?_
  refine J.iadd (q := 13) O dX12_mayStand_12 rfl ?_
  refine J.istore (q := 15) O dX12_mayStand_13 rfl [(4, .int ((M 356 a1.toNatClampNeg) + (M 354 a2.toNatClampNeg))), (0, .ref (ad G 287)), (1, .int a1), (2, .int a2), (3, .int a3)] (by decide) rfl ?_
  refine J.iconst (q := 16) (v := (0 : Int32)) O dX12_mayStand_15 rfl rfl ?_
  refine J.istore (q := 18) O dX12_mayStand_16 rfl [(5, .int (0 : Int32)), (4, .int ((M 356 a1.toNatClampNeg) + (M 354 a2.toNatClampNeg))), (0, .ref (ad G 287)), (1, .int a1), (2, .int a2), (3, .int a3)] (by decide) rfl ?_
  exact J.sub [2, 3, 4, 5, 1, 0] rfl (j_X12_mayStand_c18 hG O hR h)
set_option maxHeartbeats 4000000 in
set_option maxRecDepth 20000 in
theorem j_X12_isFair_b46 {X : CX} {G : GX} {K : Int32 → Mem → Prop} (hG : Gd G) (O : Ok X G cX12_isFair 6 RX12 2) (hR : RetZ X G cX12_isFair K) {r7 : Int32 × Int32 × Int32 × Mem → Prop} (hr7 : ∀ a : Int32 × Int32 × Int32 × Mem, r7 a → J X G a.2.2.2 7 [(0, .ref (ad G 287)), (1, .int a.1), (2, .int a.2.1), (3, .int a.2.2.1)] []) {r18 : Int32 × Int32 × Int32 × Int32 × Int32 × Mem → Prop} (hr18 : ∀ a : Int32 × Int32 × Int32 × Int32 × Int32 × Mem, r18 a → J X G a.2.2.2.2.2 18 [(0, .ref (ad G 287)), (1, .int a.1), (2, .int a.2.1), (3, .int a.2.2.1), (4, .int a.2.2.2.1), (5, .int a.2.2.2.2.1)] []) {x1 : Int32} {x2 : Int32} {x3 : Int32} {x5 : Int32} {s0 : Int32} {s1 : Int32} {M : Mem} (h : f_X12_isFair_b46 r7 r18 K x1 x2 x3 x5 s0 s1 M) : J X G M 46 [(0, .ref (ad G 287)), (1, .int x1), (2, .int x2), (3, .int x3), (5, .int x5)] [.int s0, .int s1] := by
  unfold f_X12_isFair_b46 at h
  refine J.iadd (q := 47) O dX12_isFair_46 rfl ?_
  refine J.istore (q := 49) O dX12_isFair_47 rfl [(4, .int (s1 + s0)), (0, .ref (ad G 287)), (1, .int x1), (2, .int x2), (3, .int x3), (5, .int x5)] (by decide) rfl ?_
  refine J.iinc (q := 52) O dX12_isFair_49 rfl [(5, .int (x5 + (1 : Int32))), (4, .int (s1 + s0)), (0, .ref (ad G 287)), (1, .int x1), (2, .int x2), (3, .int x3)] 5 rfl rfl (by decide) rfl ?_
  refine J.goto (q := 18) O dX12_isFair_52 (by decide) ?_
  exact J.sub [2, 3, 4, 5, 1, 0] rfl (hr18 _ h)
set_option maxHeartbeats 4000000 in
set_option maxRecDepth 20000 in
theorem j_X12_isFair_b80 {X : CX} {G : GX} {K : Int32 → Mem → Prop} (hG : Gd G) (O : Ok X G cX12_isFair 6 RX12 2) (hR : RetZ X G cX12_isFair K) {r7 : Int32 × Int32 × Int32 × Mem → Prop} (hr7 : ∀ a : Int32 × Int32 × Int32 × Mem, r7 a → J X G a.2.2.2 7 [(0, .ref (ad G 287)), (1, .int a.1), (2, .int a.2.1), (3, .int a.2.2.1)] []) {x1 : Int32} {x3 : Int32} {s0 : Int32} {M : Mem} (h : f_X12_isFair_b80 r7 K x1 x3 s0 M) : J X G M 80 [(0, .ref (ad G 287)), (1, .int x1), (3, .int x3)] [.int s0] := by
  unfold f_X12_isFair_b80 at h
  refine J.istore_n (q := 81) O dX12_isFair_80 rfl [(2, .int s0), (0, .ref (ad G 287)), (1, .int x1), (3, .int x3)] (by decide) rfl ?_
  refine J.iinc (q := 84) O dX12_isFair_81 rfl [(3, .int (x3 + (1 : Int32))), (2, .int s0), (0, .ref (ad G 287)), (1, .int x1)] 3 rfl rfl (by decide) rfl ?_
  refine J.goto (q := 7) O dX12_isFair_84 (by decide) ?_
  exact J.sub [2, 3, 1, 0] rfl (hr7 _ h)
set_option maxHeartbeats 4000000 in
set_option maxRecDepth 20000 in
theorem j_X12_isFair_b67 {X : CX} {G : GX} {K : Int32 → Mem → Prop} (hG : Gd G) (O : Ok X G cX12_isFair 6 RX12 2) (hR : RetZ X G cX12_isFair K) {r7 : Int32 × Int32 × Int32 × Mem → Prop} (hr7 : ∀ a : Int32 × Int32 × Int32 × Mem, r7 a → J X G a.2.2.2 7 [(0, .ref (ad G 287)), (1, .int a.1), (2, .int a.2.1), (3, .int a.2.2.1)] []) {x2 : Int32} {x3 : Int32} {x4 : Int32} {s0 : Int32} {M : Mem} (h : f_X12_isFair_b67 r7 K x2 x3 x4 s0 M) : J X G M 67 [(0, .ref (ad G 287)), (2, .int x2), (3, .int x3), (4, .int x4)] [.int s0] := by
  unfold f_X12_isFair_b67 at h
  refine J.istore_n (q := 68) O dX12_isFair_67 rfl [(1, .int s0), (0, .ref (ad G 287)), (2, .int x2), (3, .int x3), (4, .int x4)] (by decide) rfl ?_
  refine J.iload (q := 70) O dX12_isFair_68 rfl 4 rfl ?_
  refine J.iload_n (q := 71) O dX12_isFair_70 rfl 2 rfl ?_
  refine J.icmp_le (q := 74) (tgt := 79) O dX12_isFair_71 rfl (by decide) (fun z2 => ?_) (fun z2 => ?_)
  · replace h := h.1 z2
    refine J.iload_n (q := 80) O dX12_isFair_79 rfl 2 rfl ?_
    exact J.sub [1, 0, 3] rfl (j_X12_isFair_b80 hG O hR hr7 h)
  · replace h := h.2 z2
    refine J.iload (q := 76) O dX12_isFair_74 rfl 4 rfl ?_
    refine J.goto (q := 80) O dX12_isFair_76 (by decide) ?_
    exact J.sub [1, 0, 3] rfl (j_X12_isFair_b80 hG O hR hr7 h)
set_option maxHeartbeats 4000000 in
set_option maxRecDepth 20000 in
theorem j_X12_isFair_c18 {X : CX} {G : GX} {K : Int32 → Mem → Prop} (hG : Gd G) (O : Ok X G cX12_isFair 6 RX12 2) (hR : RetZ X G cX12_isFair K) {r7 : Int32 × Int32 × Int32 × Mem → Prop} (hr7 : ∀ a : Int32 × Int32 × Int32 × Mem, r7 a → J X G a.2.2.2 7 [(0, .ref (ad G 287)), (1, .int a.1), (2, .int a.2.1), (3, .int a.2.2.1)] []) {a : Int32 × Int32 × Int32 × Int32 × Int32 × Mem} (h : Lp (fun (r18 : Int32 × Int32 × Int32 × Int32 × Int32 × Mem → Prop) a => f_X12_isFair_c18 r7 K r18 a.1 a.2.1 a.2.2.1 a.2.2.2.1 a.2.2.2.2.1 a.2.2.2.2.2) a) : J X G a.2.2.2.2.2 18 [(0, .ref (ad G 287)), (1, .int a.1), (2, .int a.2.1), (3, .int a.2.2.1), (4, .int a.2.2.2.1), (5, .int a.2.2.2.2.1)] [] := by
  refine Lp.elim (P := fun a => J X G a.2.2.2.2.2 18 [(0, .ref (ad G 287)), (1, .int a.1), (2, .int a.2.1), (3, .int a.2.2.1), (4, .int a.2.2.2.1), (5, .int a.2.2.2.2.1)] []) ?_ h
  clear h
  intro r18 hr18 a h
  obtain ⟨x1, x2, x3, x4, x5, M⟩ := a
  unfold f_X12_isFair_c18 at h
  (try dsimp only at h ⊢)
  refine J.iload (q := 20) O dX12_isFair_18 rfl 5 rfl ?_
  refine J.iconst (q := 21) (v := (4 : Int32)) O dX12_isFair_20 rfl rfl ?_
  refine J.icmp_ge (q := 24) (tgt := 55) O dX12_isFair_21 rfl (by decide) (fun z3 => ?_) (fun z3 => ?_)
  · replace h := h.1 z3
    refine J.iload (q := 57) O dX12_isFair_55 rfl 4 rfl ?_
    refine J.iload_n (q := 58) O dX12_isFair_57 rfl 1 rfl ?_
    refine J.icmp_ge (q := 61) (tgt := 66) O dX12_isFair_58 rfl (by decide) (fun z4 => ?_) (fun z4 => ?_)
    · replace h := h.1 z4
      refine J.iload_n (q := 67) O dX12_isFair_66 rfl 1 rfl ?_
      exact J.sub [0, 2, 3, 4] rfl (j_X12_isFair_b67 hG O hR hr7 h)
    · replace h := h.2 z4
      refine J.iload (q := 63) O dX12_isFair_61 rfl 4 rfl ?_
      refine J.goto (q := 67) O dX12_isFair_63 (by decide) ?_
      exact J.sub [0, 2, 3, 4] rfl (j_X12_isFair_b67 hG O hR hr7 h)
  · replace h := h.2 z3
    refine J.iload (q := 26) O dX12_isFair_24 rfl 4 rfl ?_
    refine J.aload_n (q := 27) O dX12_isFair_26 rfl 0 rfl ?_
    refine J.getR (q := 30) (c' := 287) (ci := 12) (k := 81) (r := 350) O dX12_isFair_27 rfl wd_6_153 (by decide) if_287_81 ?_
    refine J.iload (q := 32) O dX12_isFair_30 rfl 5 rfl ?_
    obtain ⟨hv5, h⟩ := h
    refine J.iald (q := 33) (c' := 350) (j := x5.toNatClampNeg) (M 350 x5.toNatClampNeg) rfl O dX12_isFair_32 rfl ar_350 hv5 rfl ?_
    refine J.iload_n (q := 34) O dX12_isFair_33 rfl 3 rfl ?_
    refine J.callSI (q := 37) [.int (M 350 x5.toNatClampNeg), .int x3] [.int x4] [.int x3, .int (M 350 x5.toNatClampNeg), .int x4] rfl O dX12_isFair_34 rfl (c_X12_shiftIn hG h) wd_9_11 mw_X12_shiftIn rfl (by decide) (Nat.le_of_ble_eq_true rfl) (fun v6 M6 h => ?_)
    refine J.iconst (q := 38) (v := (2 : Int32)) O dX12_isFair_37 rfl rfl ?_
    refine J.icmp_ne (q := 41) (tgt := 45) O dX12_isFair_38 rfl (by decide) (fun z7 => ?_) (fun z7 => ?_)
    · replace h := h.1 z7
      refine J.iconst (q := 46) (v := (0 : Int32)) O dX12_isFair_45 rfl rfl ?_
      exact J.sub [0, 1, 2, 3, 5] rfl (j_X12_isFair_b46 hG O hR hr7 hr18 h)
    · replace h := h.2 z7
      refine J.iconst (q := 42) (v := (1 : Int32)) O dX12_isFair_41 rfl rfl ?_
      refine J.goto (q := 46) O dX12_isFair_42 (by decide) ?_
      exact J.sub [0, 1, 2, 3, 5] rfl (j_X12_isFair_b46 hG O hR hr7 hr18 h)
set_option maxHeartbeats 4000000 in
set_option maxRecDepth 20000 in
theorem j_X12_isFair_b99 {X : CX} {G : GX} {K : Int32 → Mem → Prop} (hG : Gd G) (O : Ok X G cX12_isFair 6 RX12 2) (hR : RetZ X G cX12_isFair K) {s0 : Int32} {M : Mem} (h : f_X12_isFair_b99 K s0 M) : J X G M 99 [] [.int s0] := by
  unfold f_X12_isFair_b99 at h
  exact hR _ _ _ _ dX12_isFair_99 h.1 h.2
set_option maxHeartbeats 4000000 in
set_option maxRecDepth 20000 in
theorem j_X12_isFair_c7 {X : CX} {G : GX} {K : Int32 → Mem → Prop} (hG : Gd G) (O : Ok X G cX12_isFair 6 RX12 2) (hR : RetZ X G cX12_isFair K) {a : Int32 × Int32 × Int32 × Mem} (h : Lp (fun (r7 : Int32 × Int32 × Int32 × Mem → Prop) a => f_X12_isFair_c7 K r7 a.1 a.2.1 a.2.2.1 a.2.2.2) a) : J X G a.2.2.2 7 [(0, .ref (ad G 287)), (1, .int a.1), (2, .int a.2.1), (3, .int a.2.2.1)] [] := by
  refine Lp.elim (P := fun a => J X G a.2.2.2 7 [(0, .ref (ad G 287)), (1, .int a.1), (2, .int a.2.1), (3, .int a.2.2.1)] []) ?_ h
  clear h
  intro r7 hr7 a h
  obtain ⟨x1, x2, x3, M⟩ := a
  unfold f_X12_isFair_c7 at h
  (try dsimp only at h ⊢)
  refine J.iload_n (q := 8) O dX12_isFair_7 rfl 3 rfl ?_
  refine J.iconst (q := 9) (v := (4 : Int32)) O dX12_isFair_8 rfl rfl ?_
  refine J.icmp_ge (q := 12) (tgt := 87) O dX12_isFair_9 rfl (by decide) (fun z9 => ?_) (fun z9 => ?_)
  · replace h := h.1 z9
    refine J.iload_n (q := 88) O dX12_isFair_87 rfl 2 rfl ?_
    refine J.iload_n (q := 89) O dX12_isFair_88 rfl 1 rfl ?_
    refine J.isub (q := 90) O dX12_isFair_89 rfl ?_
    refine J.iconst (q := 91) (v := (2 : Int32)) O dX12_isFair_90 rfl rfl ?_
    refine J.icmp_ge (q := 94) (tgt := 98) O dX12_isFair_91 rfl (by decide) (fun z10 => ?_) (fun z10 => ?_)
    · replace h := h.1 z10
      refine J.iconst (q := 99) (v := (0 : Int32)) O dX12_isFair_98 rfl rfl ?_
      exact J.sub [] rfl (j_X12_isFair_b99 hG O hR h)
    · replace h := h.2 z10
      refine J.iconst (q := 95) (v := (1 : Int32)) O dX12_isFair_94 rfl rfl ?_
      refine J.goto (q := 99) O dX12_isFair_95 (by decide) ?_
      exact J.sub [] rfl (j_X12_isFair_b99 hG O hR h)
  · replace h := h.2 z9
    refine J.iconst (q := 13) (v := (0 : Int32)) O dX12_isFair_12 rfl rfl ?_
    refine J.istore (q := 15) O dX12_isFair_13 rfl [(4, .int (0 : Int32)), (0, .ref (ad G 287)), (1, .int x1), (2, .int x2), (3, .int x3)] (by decide) rfl ?_
    refine J.iconst (q := 16) (v := (0 : Int32)) O dX12_isFair_15 rfl rfl ?_
    refine J.istore (q := 18) O dX12_isFair_16 rfl [(5, .int (0 : Int32)), (4, .int (0 : Int32)), (0, .ref (ad G 287)), (1, .int x1), (2, .int x2), (3, .int x3)] (by decide) rfl ?_
    exact J.sub [2, 3, 4, 5, 1, 0] rfl (j_X12_isFair_c18 hG O hR hr7 h)
set_option maxHeartbeats 4000000 in
set_option maxRecDepth 20000 in
theorem c_X12_isFair {l : Launch} {G : GX} (hG : Gd G) {M : Mem} {K : Int32 → Mem → Prop} (h : f_X12_isFair  M K) : CI l G yX12_isFair cX12_isFair 6 (some .boolean) 2 [.ref (ad G 287)] M K := by
  unfold f_X12_isFair at h
  refine CZ.mk hG (by decide) [(0, .ref (ad G 287))] rfl (Nat.le_of_ble_eq_true rfl) (fun X O hlX hR => ?_)
  subst hlX
  refine J.bipush (q := 2) (v := (9 : Int32)) O dX12_isFair_0 rfl rfl ?_
  refine J.istore_n (q := 3) O dX12_isFair_2 rfl [(1, .int (9 : Int32)), (0, .ref (ad G 287))] (by decide) rfl ?_
  refine J.iconst (q := 4) (v := (0 : Int32)) O dX12_isFair_3 rfl rfl ?_
  refine J.istore_n (q := 5) O dX12_isFair_4 rfl [(2, .int (0 : Int32)), (1, .int (9 : Int32)), (0, .ref (ad G 287))] (by decide) rfl ?_
  refine J.iconst (q := 6) (v := (0 : Int32)) O dX12_isFair_5 rfl rfl ?_
  refine J.istore_n (q := 7) O dX12_isFair_6 rfl [(3, .int (0 : Int32)), (2, .int (0 : Int32)), (1, .int (9 : Int32)), (0, .ref (ad G 287))] (by decide) rfl ?_
  exact J.sub [3, 2, 1, 0] rfl (j_X12_isFair_c7 hG O hR h)
set_option maxHeartbeats 4000000 in
set_option maxRecDepth 20000 in
theorem j_X12_brokenBy_b56 {X : CX} {G : GX} {K : Int32 → Mem → Prop} (hG : Gd G) (O : Ok X G cX12_brokenBy 6 RX12 2) (hR : RetI X G cX12_brokenBy K) {r5 : Int32 × Int32 × Int32 × Int32 × Mem → Prop} (hr5 : ∀ a : Int32 × Int32 × Int32 × Int32 × Mem, r5 a → J X G a.2.2.2.2 5 [(0, .ref (ad G 287)), (1, .int a.1), (2, .int a.2.1), (3, .int a.2.2.1), (4, .int a.2.2.2.1)] []) {x1 : Int32} {x2 : Int32} {x4 : Int32} {s0 : Int32} {s1 : Int32} {M : Mem} (h : f_X12_brokenBy_b56 r5 K x1 x2 x4 s0 s1 M) : J X G M 56 [(0, .ref (ad G 287)), (1, .int x1), (2, .int x2), (4, .int x4)] [.int s0, .int s1] := by
  unfold f_X12_brokenBy_b56 at h
  refine J.iadd (q := 57) O dX12_brokenBy_56 rfl ?_
  refine J.istore_n (q := 58) O dX12_brokenBy_57 rfl [(3, .int (s1 + s0)), (0, .ref (ad G 287)), (1, .int x1), (2, .int x2), (4, .int x4)] (by decide) rfl ?_
  refine J.iinc (q := 61) O dX12_brokenBy_58 rfl [(4, .int (x4 + (1 : Int32))), (3, .int (s1 + s0)), (0, .ref (ad G 287)), (1, .int x1), (2, .int x2)] 4 rfl rfl (by decide) rfl ?_
  refine J.goto (q := 5) O dX12_brokenBy_61 (by decide) ?_
  exact J.sub [2, 3, 4, 1, 0] rfl (hr5 _ h)
set_option maxHeartbeats 4000000 in
set_option maxRecDepth 20000 in
theorem j_X12_brokenBy_b55 {X : CX} {G : GX} {K : Int32 → Mem → Prop} (hG : Gd G) (O : Ok X G cX12_brokenBy 6 RX12 2) (hR : RetI X G cX12_brokenBy K) {r5 : Int32 × Int32 × Int32 × Int32 × Mem → Prop} (hr5 : ∀ a : Int32 × Int32 × Int32 × Int32 × Mem, r5 a → J X G a.2.2.2.2 5 [(0, .ref (ad G 287)), (1, .int a.1), (2, .int a.2.1), (3, .int a.2.2.1), (4, .int a.2.2.2.1)] []) {x1 : Int32} {x2 : Int32} {x4 : Int32} {s0 : Int32} {M : Mem} (h : f_X12_brokenBy_b55 r5 K x1 x2 x4 s0 M) : J X G M 55 [(0, .ref (ad G 287)), (1, .int x1), (2, .int x2), (4, .int x4)] [.int s0] := by
  unfold f_X12_brokenBy_b55 at h
  refine J.iconst (q := 56) (v := (0 : Int32)) O dX12_brokenBy_55 rfl rfl ?_
  exact J.sub [0, 1, 2, 3] rfl (j_X12_brokenBy_b56 hG O hR hr5 h)
set_option maxHeartbeats 4000000 in
set_option maxRecDepth 20000 in
theorem j_X12_brokenBy_c5 {X : CX} {G : GX} {K : Int32 → Mem → Prop} (hG : Gd G) (O : Ok X G cX12_brokenBy 6 RX12 2) (hR : RetI X G cX12_brokenBy K) {a : Int32 × Int32 × Int32 × Int32 × Mem} (h : Lp (fun (r5 : Int32 × Int32 × Int32 × Int32 × Mem → Prop) a => f_X12_brokenBy_c5 K r5 a.1 a.2.1 a.2.2.1 a.2.2.2.1 a.2.2.2.2) a) : J X G a.2.2.2.2 5 [(0, .ref (ad G 287)), (1, .int a.1), (2, .int a.2.1), (3, .int a.2.2.1), (4, .int a.2.2.2.1)] [] := by
  refine Lp.elim (P := fun a => J X G a.2.2.2.2 5 [(0, .ref (ad G 287)), (1, .int a.1), (2, .int a.2.1), (3, .int a.2.2.1), (4, .int a.2.2.2.1)] []) ?_ h
  clear h
  intro r5 hr5 a h
  obtain ⟨x1, x2, x3, x4, M⟩ := a
  unfold f_X12_brokenBy_c5 at h
  (try dsimp only at h ⊢)
  refine J.iload (q := 7) O dX12_brokenBy_5 rfl 4 rfl ?_
  refine J.iconst (q := 8) (v := (4 : Int32)) O dX12_brokenBy_7 rfl rfl ?_
  refine J.icmp_ge (q := 11) (tgt := 64) O dX12_brokenBy_8 rfl (by decide) (fun z3 => ?_) (fun z3 => ?_)
  · replace h := h.1 z3
    refine J.iload_n (q := 65) O dX12_brokenBy_64 rfl 3 rfl ?_
    exact hR _ _ _ _ dX12_brokenBy_65 h
  · replace h := h.2 z3
    refine J.iload_n (q := 12) O dX12_brokenBy_11 rfl 2 rfl ?_
    refine J.iload (q := 14) O dX12_brokenBy_12 rfl 4 rfl ?_
    refine J.callSI (q := 17) [.int x2, .int x4] [] [.int x4, .int x2] rfl O dX12_brokenBy_14 rfl (c_X12_shiftIn hG h) wd_9_11 mw_X12_shiftIn rfl (by decide) (Nat.le_of_ble_eq_true rfl) (fun v4 M4 h => ?_)
    refine J.istore (q := 19) O dX12_brokenBy_17 rfl [(5, .int v4), (0, .ref (ad G 287)), (1, .int x1), (2, .int x2), (3, .int x3), (4, .int x4)] (by decide) rfl ?_
    refine J.iload_n (q := 20) O dX12_brokenBy_19 rfl 4 rfl ?_
    refine J.iload (q := 22) O dX12_brokenBy_20 rfl 0 rfl ?_
    refine J.iconst (q := 23) (v := (3 : Int32)) O dX12_brokenBy_22 rfl rfl ?_
    refine J.icmp_ge (q := 26) (tgt := 55) O dX12_brokenBy_23 rfl (by decide) (fun z5 => ?_) (fun z5 => ?_)
    · replace h := h.1 z5
      exact J.sub [1, 2, 3, 5] rfl (j_X12_brokenBy_b55 hG O hR hr5 h)
    · replace h := h.2 z5
      refine J.aload_n (q := 27) O dX12_brokenBy_26 rfl 1 rfl ?_
      refine J.getR (q := 30) (c' := 287) (ci := 12) (k := 78) (r := 348) O dX12_brokenBy_27 rfl wd_6_150 (by decide) if_287_78 ?_
      refine J.bipush (q := 32) (v := (12 : Int32)) O dX12_brokenBy_30 rfl rfl ?_
      refine J.aload_n (q := 33) O dX12_brokenBy_32 rfl 1 rfl ?_
      refine J.getR (q := 36) (c' := 287) (ci := 12) (k := 79) (r := 349) O dX12_brokenBy_33 rfl wd_6_151 (by decide) if_287_79 ?_
      refine J.iload (q := 38) O dX12_brokenBy_36 rfl 5 rfl ?_
      obtain ⟨hv6, h⟩ := h
      refine J.iald (q := 39) (c' := 349) (j := x4.toNatClampNeg) (M4 349 x4.toNatClampNeg) rfl O dX12_brokenBy_38 rfl ar_349 hv6 rfl ?_
      refine J.imul (q := 40) O dX12_brokenBy_39 rfl ?_
      refine J.iconst (q := 41) (v := (3 : Int32)) O dX12_brokenBy_40 rfl rfl ?_
      refine J.iload_n (q := 42) O dX12_brokenBy_41 rfl 2 rfl ?_
      refine J.imul (q := 43) O dX12_brokenBy_42 rfl ?_
      refine J.iadd (q := 44) O dX12_brokenBy_43 rfl ?_
      refine J.iload (q := 46) O dX12_brokenBy_44 rfl 0 rfl ?_
      refine J.iadd (q := 47) O dX12_brokenBy_46 rfl ?_
      obtain ⟨hv7, h⟩ := h
      refine J.zald (q := 48) (c' := 348) (j := ((((12 : Int32) * (M4 349 x4.toNatClampNeg)) + ((3 : Int32) * x1)) + v4).toNatClampNeg) (M4 348 (((((12 : Int32) * (M4 349 x4.toNatClampNeg)) + ((3 : Int32) * x1)) + v4).toNatClampNeg)) rfl O dX12_brokenBy_47 rfl ar_348 hv7 rfl ?_
      refine J.if_eq (q := 51) (tgt := 55) O dX12_brokenBy_48 rfl (by decide) (fun z8 => ?_) (fun z8 => ?_)
      · replace h := h.1 z8
        exact J.sub [1, 2, 3, 5] rfl (j_X12_brokenBy_b55 hG O hR hr5 h)
      · replace h := h.2 z8
        refine J.iconst (q := 52) (v := (1 : Int32)) O dX12_brokenBy_51 rfl rfl ?_
        refine J.goto (q := 56) O dX12_brokenBy_52 (by decide) ?_
        exact J.sub [1, 2, 3, 5] rfl (j_X12_brokenBy_b56 hG O hR hr5 h)
set_option maxHeartbeats 4000000 in
set_option maxRecDepth 20000 in
theorem c_X12_brokenBy {l : Launch} {G : GX} (hG : Gd G) {a1 : Int32} {a2 : Int32} {M : Mem} {K : Int32 → Mem → Prop} (h : f_X12_brokenBy a1 a2 M K) : CI l G yX12_brokenBy cX12_brokenBy 6 (some .int) 2 [.ref (ad G 287), .int a1, .int a2] M K := by
  unfold f_X12_brokenBy at h
  refine CI.mk hG (by decide) [(0, .ref (ad G 287)), (1, .int a1), (2, .int a2)] rfl (Nat.le_of_ble_eq_true rfl) (fun X O hlX hR => ?_)
  subst hlX
  refine J.iconst (q := 1) (v := (0 : Int32)) O dX12_brokenBy_0 rfl rfl ?_
  refine J.istore_n (q := 2) O dX12_brokenBy_1 rfl [(3, .int (0 : Int32)), (0, .ref (ad G 287)), (1, .int a1), (2, .int a2)] (by decide) rfl ?_
  refine J.iconst (q := 3) (v := (0 : Int32)) O dX12_brokenBy_2 rfl rfl ?_
  refine J.istore (q := 5) O dX12_brokenBy_3 rfl [(4, .int (0 : Int32)), (3, .int (0 : Int32)), (0, .ref (ad G 287)), (1, .int a1), (2, .int a2)] (by decide) rfl ?_
  exact J.sub [2, 3, 4, 1, 0] rfl (j_X12_brokenBy_c5 hG O hR h)
set_option maxHeartbeats 4000000 in
set_option maxRecDepth 20000 in
theorem j_X12_seekShifts_b269 {X : CX} {G : GX} {K : Int32 → Mem → Prop} (hG : Gd G) (O : Ok X G cX12_seekShifts 7 RX12 4) (hR : RetI X G cX12_seekShifts K) {r45 : Int32 × Int32 × Int32 × Mem → Prop} (hr45 : ∀ a : Int32 × Int32 × Int32 × Mem, r45 a → J X G a.2.2.2 45 [(0, .ref (ad G 287)), (2, .int a.1), (3, .int a.2.1), (4, .int a.2.2.1)] []) {x2 : Int32} {x3 : Int32} {x4 : Int32} {M : Mem} (h : f_X12_seekShifts_b269 r45 K x2 x3 x4 M) : J X G M 269 [(0, .ref (ad G 287)), (2, .int x2), (3, .int x3), (4, .int x4)] [] := by
  unfold f_X12_seekShifts_b269 at h
  refine J.goto (q := 45) O dX12_seekShifts_269 (by decide) ?_
  exact J.sub [0, 1, 2, 3] rfl (hr45 _ h)
set_option maxHeartbeats 4000000 in
set_option maxRecDepth 20000 in
theorem j_X12_seekShifts_c243 {X : CX} {G : GX} {K : Int32 → Mem → Prop} (hG : Gd G) (O : Ok X G cX12_seekShifts 7 RX12 4) (hR : RetI X G cX12_seekShifts K) {r45 : Int32 × Int32 × Int32 × Mem → Prop} (hr45 : ∀ a : Int32 × Int32 × Int32 × Mem, r45 a → J X G a.2.2.2 45 [(0, .ref (ad G 287)), (2, .int a.1), (3, .int a.2.1), (4, .int a.2.2.1)] []) {a : Int32 × Int32 × Int32 × Int32 × Mem} (h : Lp (fun (r243 : Int32 × Int32 × Int32 × Int32 × Mem → Prop) a => f_X12_seekShifts_c243 r45 K r243 a.1 a.2.1 a.2.2.1 a.2.2.2.1 a.2.2.2.2) a) : J X G a.2.2.2.2 243 [(0, .ref (ad G 287)), (2, .int a.1), (3, .int a.2.1), (4, .int a.2.2.1), (6, .int a.2.2.2.1)] [] := by
  refine Lp.elim (P := fun a => J X G a.2.2.2.2 243 [(0, .ref (ad G 287)), (2, .int a.1), (3, .int a.2.1), (4, .int a.2.2.1), (6, .int a.2.2.2.1)] []) ?_ h
  clear h
  intro r243 hr243 a h
  obtain ⟨x2, x3, x4, x6, M⟩ := a
  unfold f_X12_seekShifts_c243 at h
  (try dsimp only at h ⊢)
  refine J.iload (q := 245) O dX12_seekShifts_243 rfl 4 rfl ?_
  refine J.iconst (q := 246) (v := (4 : Int32)) O dX12_seekShifts_245 rfl rfl ?_
  refine J.icmp_ge (q := 249) (tgt := 269) O dX12_seekShifts_246 rfl (by decide) (fun z15 => ?_) (fun z15 => ?_)
  · replace h := h.1 z15
    exact J.sub [0, 1, 2, 3] rfl (j_X12_seekShifts_b269 hG O hR hr45 h)
  · replace h := h.2 z15
    refine J.aload_n (q := 250) O dX12_seekShifts_249 rfl 0 rfl ?_
    refine J.getR (q := 253) (c' := 287) (ci := 12) (k := 83) (r := 352) O dX12_seekShifts_250 rfl wd_6_155 (by decide) if_287_83 ?_
    refine J.iload (q := 255) O dX12_seekShifts_253 rfl 4 rfl ?_
    refine J.aload_n (q := 256) O dX12_seekShifts_255 rfl 0 rfl ?_
    refine J.getR (q := 259) (c' := 287) (ci := 12) (k := 81) (r := 350) O dX12_seekShifts_256 rfl wd_6_153 (by decide) if_287_81 ?_
    refine J.iload (q := 261) O dX12_seekShifts_259 rfl 4 rfl ?_
    obtain ⟨hv16, h⟩ := h
    refine J.iald (q := 262) (c' := 350) (j := x6.toNatClampNeg) (M 350 x6.toNatClampNeg) rfl O dX12_seekShifts_261 rfl ar_350 hv16 rfl ?_
    obtain ⟨hv17, h⟩ := h
    refine J.iast (q := 263) (c' := 352) (j := x6.toNatClampNeg) O dX12_seekShifts_262 rfl ar_352 hv17 rfl ?_
    refine J.iinc (q := 266) O dX12_seekShifts_263 rfl [(6, .int (x6 + (1 : Int32))), (0, .ref (ad G 287)), (2, .int x2), (3, .int x3), (4, .int x4)] 4 rfl rfl (by decide) rfl ?_
    refine J.goto (q := 243) O dX12_seekShifts_266 (by decide) ?_
    exact J.sub [1, 2, 3, 4, 0] rfl (hr243 _ h)
set_option maxHeartbeats 4000000 in
set_option maxRecDepth 20000 in
theorem j_X12_seekShifts_b233 {X : CX} {G : GX} {K : Int32 → Mem → Prop} (hG : Gd G) (O : Ok X G cX12_seekShifts 7 RX12 4) (hR : RetI X G cX12_seekShifts K) {r45 : Int32 × Int32 × Int32 × Mem → Prop} (hr45 : ∀ a : Int32 × Int32 × Int32 × Mem, r45 a → J X G a.2.2.2 45 [(0, .ref (ad G 287)), (2, .int a.1), (3, .int a.2.1), (4, .int a.2.2.1)] []) {x2 : Int32} {x4 : Int32} {M : Mem} (h : f_X12_seekShifts_b233 r45 K x2 x4 M) : J X G M 233 [(0, .ref (ad G 287)), (2, .int x2), (4, .int x4)] [] := by
  unfold f_X12_seekShifts_b233 at h
  refine J.aload_n (q := 234) O dX12_seekShifts_233 rfl 0 rfl ?_
  refine J.getR (q := 237) (c' := 287) (ci := 12) (k := 82) (r := 351) O dX12_seekShifts_234 rfl wd_6_154 (by decide) if_287_82 ?_
  refine J.iconst (q := 238) (v := (4 : Int32)) O dX12_seekShifts_237 rfl rfl ?_
  refine J.iald (q := 239) (c' := 351) (j := 4) (M 351 4) rfl O dX12_seekShifts_238 rfl ar_351 (vin_lit (by decide)) (by decide) ?_
  refine J.istore_n (q := 240) O dX12_seekShifts_239 rfl [(3, .int (M 351 4)), (0, .ref (ad G 287)), (2, .int x2), (4, .int x4)] (by decide) rfl ?_
  refine J.iconst (q := 241) (v := (0 : Int32)) O dX12_seekShifts_240 rfl rfl ?_
  refine J.istore (q := 243) O dX12_seekShifts_241 rfl [(6, .int (0 : Int32)), (3, .int (M 351 4)), (0, .ref (ad G 287)), (2, .int x2), (4, .int x4)] (by decide) rfl ?_
  exact J.sub [2, 3, 1, 4, 0] rfl (j_X12_seekShifts_c243 hG O hR hr45 h)
set_option maxHeartbeats 4000000 in
set_option maxRecDepth 20000 in
theorem j_X12_seekShifts_b200 {X : CX} {G : GX} {K : Int32 → Mem → Prop} (hG : Gd G) (O : Ok X G cX12_seekShifts 7 RX12 4) (hR : RetI X G cX12_seekShifts K) {r45 : Int32 × Int32 × Int32 × Mem → Prop} (hr45 : ∀ a : Int32 × Int32 × Int32 × Mem, r45 a → J X G a.2.2.2 45 [(0, .ref (ad G 287)), (2, .int a.1), (3, .int a.2.1), (4, .int a.2.2.1)] []) {x2 : Int32} {x3 : Int32} {x4 : Int32} {M : Mem} (h : f_X12_seekShifts_b200 r45 K x2 x3 x4 M) : J X G M 200 [(0, .ref (ad G 287)), (2, .int x2), (3, .int x3), (4, .int x4)] [] := by
  unfold f_X12_seekShifts_b200 at h
  refine J.iload (q := 202) O dX12_seekShifts_200 rfl 3 rfl ?_
  refine J.iconst (q := 203) (v := (3 : Int32)) O dX12_seekShifts_202 rfl rfl ?_
  refine J.icmp_ge (q := 206) (tgt := 220) O dX12_seekShifts_203 rfl (by decide) (fun z18 => ?_) (fun z18 => ?_)
  · replace h := h.1 z18
    refine J.iload_n (q := 221) O dX12_seekShifts_220 rfl 1 rfl ?_
    refine J.iconst (q := 222) (v := (4 : Int32)) O dX12_seekShifts_221 rfl rfl ?_
    refine J.iand (q := 223) O dX12_seekShifts_222 rfl ?_
    refine J.if_eq (q := 226) (tgt := 233) O dX12_seekShifts_223 rfl (by decide) (fun z19 => ?_) (fun z19 => ?_)
    · replace h := h.1 z19
      exact J.sub [0, 1, 3] rfl (j_X12_seekShifts_b233 hG O hR hr45 h)
    · replace h := h.2 z19
      refine J.aload_n (q := 227) O dX12_seekShifts_226 rfl 0 rfl ?_
      refine J.callVI (q := 230) [] [] [.ref (ad G 287)] rfl O dX12_seekShifts_227 rfl (c_X12_isFair hG h) wd_9_22 mw_X12_isFair io_287 rfl (by decide) (Nat.le_of_ble_eq_true rfl) (fun v20 M20 h => ?_)
      refine J.if_eq (q := 233) (tgt := 269) O dX12_seekShifts_230 rfl (by decide) (fun z21 => ?_) (fun z21 => ?_)
      · replace h := h.1 z21
        exact J.sub [0, 1, 2, 3] rfl (j_X12_seekShifts_b269 hG O hR hr45 h)
      · replace h := h.2 z21
        exact J.sub [0, 1, 3] rfl (j_X12_seekShifts_b233 hG O hR hr45 h)
  · replace h := h.2 z18
    refine J.iinc (q := 209) O dX12_seekShifts_206 rfl [(4, .int (x4 + (1 : Int32))), (0, .ref (ad G 287)), (2, .int x2), (3, .int x3)] 3 rfl rfl (by decide) rfl ?_
    refine J.aload_n (q := 210) O dX12_seekShifts_209 rfl 1 rfl ?_
    refine J.getR (q := 213) (c' := 287) (ci := 12) (k := 87) (r := 355) O dX12_seekShifts_210 rfl wd_6_159 (by decide) if_287_87 ?_
    refine J.iload (q := 215) O dX12_seekShifts_213 rfl 0 rfl ?_
    refine J.iconst (q := 216) (v := (-1 : Int32)) O dX12_seekShifts_215 rfl rfl ?_
    obtain ⟨hv22, h⟩ := h
    refine J.iast (q := 217) (c' := 355) (j := (x4 + (1 : Int32)).toNatClampNeg) O dX12_seekShifts_216 rfl ar_355 hv22 rfl ?_
    refine J.goto (q := 269) O dX12_seekShifts_217 (by decide) ?_
    exact J.sub [1, 2, 3, 0] rfl (j_X12_seekShifts_b269 hG O hR hr45 h)
set_option maxHeartbeats 4000000 in
set_option maxRecDepth 20000 in
theorem j_X12_seekShifts_b88 {X : CX} {G : GX} {K : Int32 → Mem → Prop} (hG : Gd G) (O : Ok X G cX12_seekShifts 7 RX12 4) (hR : RetI X G cX12_seekShifts K) {r45 : Int32 × Int32 × Int32 × Mem → Prop} (hr45 : ∀ a : Int32 × Int32 × Int32 × Mem, r45 a → J X G a.2.2.2 45 [(0, .ref (ad G 287)), (2, .int a.1), (3, .int a.2.1), (4, .int a.2.2.1)] []) {x2 : Int32} {x3 : Int32} {x4 : Int32} {x5 : Int32} {M : Mem} (h : f_X12_seekShifts_b88 r45 K x2 x3 x4 x5 M) : J X G M 88 [(0, .ref (ad G 287)), (2, .int x2), (3, .int x3), (4, .int x4), (5, .int x5)] [] := by
  unfold f_X12_seekShifts_b88 at h
  refine J.aload_n (q := 89) O dX12_seekShifts_88 rfl 0 rfl ?_
  refine J.getR (q := 92) (c' := 287) (ci := 12) (k := 87) (r := 355) O dX12_seekShifts_89 rfl wd_6_159 (by decide) if_287_87 ?_
  refine J.iload (q := 94) O dX12_seekShifts_92 rfl 3 rfl ?_
  refine J.iload (q := 96) O dX12_seekShifts_94 rfl 4 rfl ?_
  obtain ⟨hv23, h⟩ := h
  refine J.iast (q := 97) (c' := 355) (j := x4.toNatClampNeg) O dX12_seekShifts_96 rfl ar_355 hv23 rfl ?_
  refine J.iload (q := 99) O dX12_seekShifts_97 rfl 4 rfl ?_
  refine J.aload_n (q := 100) O dX12_seekShifts_99 rfl 0 rfl ?_
  refine J.getI (q := 103) (c' := 287) (ci := 12) (k := 86) (M 287 86) rfl O dX12_seekShifts_100 rfl wd_6_158 (by decide) if_287_86 ?_
  refine J.icmp_ne (q := 106) (tgt := 112) O dX12_seekShifts_103 rfl (by decide) (fun z24 => ?_) (fun z24 => ?_)
  · replace h := h.1 z24
    refine J.aload_n (q := 113) O dX12_seekShifts_112 rfl 0 rfl ?_
    refine J.getR (q := 116) (c' := 287) (ci := 12) (k := 81) (r := 350) O dX12_seekShifts_113 rfl wd_6_153 (by decide) if_287_81 ?_
    refine J.iload (q := 118) O dX12_seekShifts_116 rfl 3 rfl ?_
    refine J.aload_n (q := 119) O dX12_seekShifts_118 rfl 0 rfl ?_
    refine J.getR (q := 122) (c' := 287) (ci := 12) (k := 84) (r := 353) O dX12_seekShifts_119 rfl wd_6_156 (by decide) if_287_84 ?_
    refine J.iload (q := 124) O dX12_seekShifts_122 rfl 4 rfl ?_
    obtain ⟨hv25, h⟩ := h
    refine J.iald (q := 125) (c' := 353) (j := x5.toNatClampNeg) (M 353 x5.toNatClampNeg) rfl O dX12_seekShifts_124 rfl ar_353 hv25 rfl ?_
    obtain ⟨hv26, h⟩ := h
    refine J.iast (q := 126) (c' := 350) (j := x4.toNatClampNeg) O dX12_seekShifts_125 rfl ar_350 hv26 rfl ?_
    refine J.aload_n (q := 127) O dX12_seekShifts_126 rfl 0 rfl ?_
    refine J.getR (q := 130) (c' := 287) (ci := 12) (k := 82) (r := 351) O dX12_seekShifts_127 rfl wd_6_154 (by decide) if_287_82 ?_
    refine J.iload (q := 132) O dX12_seekShifts_130 rfl 3 rfl ?_
    refine J.iconst (q := 133) (v := (1 : Int32)) O dX12_seekShifts_132 rfl rfl ?_
    refine J.iadd (q := 134) O dX12_seekShifts_133 rfl ?_
    refine J.aload_n (q := 135) O dX12_seekShifts_134 rfl 0 rfl ?_
    refine J.getR (q := 138) (c' := 287) (ci := 12) (k := 82) (r := 351) O dX12_seekShifts_135 rfl wd_6_154 (by decide) if_287_82 ?_
    refine J.iload (q := 140) O dX12_seekShifts_138 rfl 3 rfl ?_
    obtain ⟨hv27, h⟩ := h
    refine J.iald (q := 141) (c' := 351) (j := x4.toNatClampNeg) (M 351 x4.toNatClampNeg) rfl O dX12_seekShifts_140 rfl ar_351 hv27 rfl ?_
    refine J.aload_n (q := 142) O dX12_seekShifts_141 rfl 0 rfl ?_
    refine J.iload (q := 144) O dX12_seekShifts_142 rfl 3 rfl ?_
    refine J.aload_n (q := 145) O dX12_seekShifts_144 rfl 0 rfl ?_
    refine J.getR (q := 148) (c' := 287) (ci := 12) (k := 84) (r := 353) O dX12_seekShifts_145 rfl wd_6_156 (by decide) if_287_84 ?_
    refine J.iload (q := 150) O dX12_seekShifts_148 rfl 4 rfl ?_
    obtain ⟨hv28, h⟩ := h
    refine J.iald (q := 151) (c' := 353) (j := x5.toNatClampNeg) (M 353 x5.toNatClampNeg) rfl O dX12_seekShifts_150 rfl ar_353 hv28 rfl ?_
    refine J.callVI (q := 154) [.int x4, .int (M 353 x5.toNatClampNeg)] [.int (M 351 x4.toNatClampNeg), .int (x4 + (1 : Int32)), .ref (ad G 351)] [.int (M 353 x5.toNatClampNeg), .int x4, .ref (ad G 287), .int (M 351 x4.toNatClampNeg), .int (x4 + (1 : Int32)), .ref (ad G 351)] rfl O dX12_seekShifts_151 rfl (c_X12_brokenBy hG h) wd_9_18 mw_X12_brokenBy io_287 rfl (by decide) (Nat.le_of_ble_eq_true rfl) (fun v29 M29 h => ?_)
    refine J.iadd (q := 155) O dX12_seekShifts_154 rfl ?_
    obtain ⟨hv30, h⟩ := h
    refine J.iast (q := 156) (c' := 351) (j := (x4 + (1 : Int32)).toNatClampNeg) O dX12_seekShifts_155 rfl ar_351 hv30 rfl ?_
    refine J.aload_n (q := 157) O dX12_seekShifts_156 rfl 0 rfl ?_
    refine J.getR (q := 160) (c' := 287) (ci := 12) (k := 88) (r := 356) O dX12_seekShifts_157 rfl wd_6_160 (by decide) if_287_88 ?_
    refine J.iload (q := 162) O dX12_seekShifts_160 rfl 3 rfl ?_
    refine J.iconst (q := 163) (v := (1 : Int32)) O dX12_seekShifts_162 rfl rfl ?_
    refine J.iadd (q := 164) O dX12_seekShifts_163 rfl ?_
    refine J.aload_n (q := 165) O dX12_seekShifts_164 rfl 0 rfl ?_
    refine J.getR (q := 168) (c' := 287) (ci := 12) (k := 88) (r := 356) O dX12_seekShifts_165 rfl wd_6_160 (by decide) if_287_88 ?_
    refine J.iload (q := 170) O dX12_seekShifts_168 rfl 3 rfl ?_
    obtain ⟨hv31, h⟩ := h
    refine J.iald (q := 171) (c' := 356) (j := x4.toNatClampNeg) (M29 356 x4.toNatClampNeg) rfl O dX12_seekShifts_170 rfl ar_356 hv31 rfl ?_
    refine J.aload_n (q := 172) O dX12_seekShifts_171 rfl 0 rfl ?_
    refine J.getR (q := 175) (c' := 287) (ci := 12) (k := 85) (r := 354) O dX12_seekShifts_172 rfl wd_6_157 (by decide) if_287_85 ?_
    refine J.iload (q := 177) O dX12_seekShifts_175 rfl 4 rfl ?_
    obtain ⟨hv32, h⟩ := h
    refine J.iald (q := 178) (c' := 354) (j := x5.toNatClampNeg) (M29 354 x5.toNatClampNeg) rfl O dX12_seekShifts_177 rfl ar_354 hv32 rfl ?_
    refine J.iadd (q := 179) O dX12_seekShifts_178 rfl ?_
    obtain ⟨hv33, h⟩ := h
    refine J.iast (q := 180) (c' := 356) (j := (x4 + (1 : Int32)).toNatClampNeg) O dX12_seekShifts_179 rfl ar_356 hv33 rfl ?_
    refine J.iload_n (q := 181) O dX12_seekShifts_180 rfl 2 rfl ?_
    refine J.if_lt (q := 184) (tgt := 200) O dX12_seekShifts_181 rfl (by decide) (fun z34 => ?_) (fun z34 => ?_)
    · replace h := h.1 z34
      exact J.sub [0, 1, 2, 3] rfl (j_X12_seekShifts_b200 hG O hR hr45 h)
    · replace h := h.2 z34
      refine J.aload_n (q := 185) O dX12_seekShifts_184 rfl 0 rfl ?_
      refine J.getR (q := 188) (c' := 287) (ci := 12) (k := 82) (r := 351) O dX12_seekShifts_185 rfl wd_6_154 (by decide) if_287_82 ?_
      refine J.iload (q := 190) O dX12_seekShifts_188 rfl 3 rfl ?_
      refine J.iconst (q := 191) (v := (1 : Int32)) O dX12_seekShifts_190 rfl rfl ?_
      refine J.iadd (q := 192) O dX12_seekShifts_191 rfl ?_
      obtain ⟨hv35, h⟩ := h
      refine J.iald (q := 193) (c' := 351) (j := (x4 + (1 : Int32)).toNatClampNeg) ((mset M29 351 ((x4 + (1 : Int32)).toNatClampNeg) ((M 351 x4.toNatClampNeg) + v29)) 351 ((x4 + (1 : Int32)).toNatClampNeg)) rfl O dX12_seekShifts_192 rfl ar_351 hv35 rfl ?_
      refine J.iload_n (q := 194) O dX12_seekShifts_193 rfl 2 rfl ?_
      refine J.icmp_lt (q := 197) (tgt := 200) O dX12_seekShifts_194 rfl (by decide) (fun z36 => ?_) (fun z36 => ?_)
      · replace h := h.1 z36
        exact J.sub [0, 1, 2, 3] rfl (j_X12_seekShifts_b200 hG O hR hr45 h)
      · replace h := h.2 z36
        refine J.goto (q := 45) O dX12_seekShifts_197 (by decide) ?_
        exact J.sub [0, 1, 2, 3] rfl (hr45 _ h)
  · replace h := h.2 z24
    refine J.iinc (q := 109) O dX12_seekShifts_106 rfl [(4, .int (x4 + (-1 : Int32))), (0, .ref (ad G 287)), (2, .int x2), (3, .int x3), (5, .int x5)] 3 rfl rfl (by decide) rfl ?_
    refine J.goto (q := 45) O dX12_seekShifts_109 (by decide) ?_
    exact J.sub [1, 2, 3, 0] rfl (hr45 _ h)
set_option maxHeartbeats 4000000 in
set_option maxRecDepth 20000 in
theorem j_X12_seekShifts_c61 {X : CX} {G : GX} {K : Int32 → Mem → Prop} (hG : Gd G) (O : Ok X G cX12_seekShifts 7 RX12 4) (hR : RetI X G cX12_seekShifts K) {r45 : Int32 × Int32 × Int32 × Mem → Prop} (hr45 : ∀ a : Int32 × Int32 × Int32 × Mem, r45 a → J X G a.2.2.2 45 [(0, .ref (ad G 287)), (2, .int a.1), (3, .int a.2.1), (4, .int a.2.2.1)] []) {a : Int32 × Int32 × Int32 × Int32 × Mem} (h : Lp (fun (r61 : Int32 × Int32 × Int32 × Int32 × Mem → Prop) a => f_X12_seekShifts_c61 r45 K r61 a.1 a.2.1 a.2.2.1 a.2.2.2.1 a.2.2.2.2) a) : J X G a.2.2.2.2 61 [(0, .ref (ad G 287)), (2, .int a.1), (3, .int a.2.1), (4, .int a.2.2.1), (5, .int a.2.2.2.1)] [] := by
  refine Lp.elim (P := fun a => J X G a.2.2.2.2 61 [(0, .ref (ad G 287)), (2, .int a.1), (3, .int a.2.1), (4, .int a.2.2.1), (5, .int a.2.2.2.1)] []) ?_ h
  clear h
  intro r61 hr61 a h
  obtain ⟨x2, x3, x4, x5, M⟩ := a
  unfold f_X12_seekShifts_c61 at h
  (try dsimp only at h ⊢)
  refine J.iload (q := 63) O dX12_seekShifts_61 rfl 4 rfl ?_
  refine J.aload_n (q := 64) O dX12_seekShifts_63 rfl 0 rfl ?_
  refine J.getI (q := 67) (c' := 287) (ci := 12) (k := 86) (M 287 86) rfl O dX12_seekShifts_64 rfl wd_6_158 (by decide) if_287_86 ?_
  refine J.icmp_ge (q := 70) (tgt := 88) O dX12_seekShifts_67 rfl (by decide) (fun z37 => ?_) (fun z37 => ?_)
  · replace h := h.1 z37
    exact J.sub [0, 1, 2, 3, 4] rfl (j_X12_seekShifts_b88 hG O hR hr45 h)
  · replace h := h.2 z37
    refine J.aload_n (q := 71) O dX12_seekShifts_70 rfl 0 rfl ?_
    refine J.iload (q := 73) O dX12_seekShifts_71 rfl 3 rfl ?_
    refine J.iload (q := 75) O dX12_seekShifts_73 rfl 4 rfl ?_
    refine J.iload_n (q := 76) O dX12_seekShifts_75 rfl 1 rfl ?_
    refine J.callVI (q := 79) [.int x4, .int x5, .int x2] [] [.int x2, .int x5, .int x4, .ref (ad G 287)] rfl O dX12_seekShifts_76 rfl (c_X12_mayStand hG h) wd_9_14 mw_X12_mayStand io_287 rfl (by decide) (Nat.le_of_ble_eq_true rfl) (fun v38 M38 h => ?_)
    refine J.if_ne (q := 82) (tgt := 88) O dX12_seekShifts_79 rfl (by decide) (fun z39 => ?_) (fun z39 => ?_)
    · replace h := h.1 z39
      exact J.sub [0, 1, 2, 3, 4] rfl (j_X12_seekShifts_b88 hG O hR hr45 h)
    · replace h := h.2 z39
      refine J.iinc (q := 85) O dX12_seekShifts_82 rfl [(5, .int (x5 + (1 : Int32))), (0, .ref (ad G 287)), (2, .int x2), (3, .int x3), (4, .int x4)] 4 rfl rfl (by decide) rfl ?_
      refine J.goto (q := 61) O dX12_seekShifts_85 (by decide) ?_
      exact J.sub [1, 2, 3, 4, 0] rfl (hr61 _ h)
set_option maxHeartbeats 4000000 in
set_option maxRecDepth 20000 in
theorem j_X12_seekShifts_c45 {X : CX} {G : GX} {K : Int32 → Mem → Prop} (hG : Gd G) (O : Ok X G cX12_seekShifts 7 RX12 4) (hR : RetI X G cX12_seekShifts K) {a : Int32 × Int32 × Int32 × Mem} (h : Lp (fun (r45 : Int32 × Int32 × Int32 × Mem → Prop) a => f_X12_seekShifts_c45 K r45 a.1 a.2.1 a.2.2.1 a.2.2.2) a) : J X G a.2.2.2 45 [(0, .ref (ad G 287)), (2, .int a.1), (3, .int a.2.1), (4, .int a.2.2.1)] [] := by
  refine Lp.elim (P := fun a => J X G a.2.2.2 45 [(0, .ref (ad G 287)), (2, .int a.1), (3, .int a.2.1), (4, .int a.2.2.1)] []) ?_ h
  clear h
  intro r45 hr45 a h
  obtain ⟨x2, x3, x4, M⟩ := a
  unfold f_X12_seekShifts_c45 at h
  (try dsimp only at h ⊢)
  refine J.iload (q := 47) O dX12_seekShifts_45 rfl 3 rfl ?_
  refine J.if_lt (q := 50) (tgt := 272) O dX12_seekShifts_47 rfl (by decide) (fun z40 => ?_) (fun z40 => ?_)
  · replace h := h.1 z40
    refine J.iload_n (q := 273) O dX12_seekShifts_272 rfl 2 rfl ?_
    exact hR _ _ _ _ dX12_seekShifts_273 h
  · replace h := h.2 z40
    refine J.aload_n (q := 51) O dX12_seekShifts_50 rfl 0 rfl ?_
    refine J.getR (q := 54) (c' := 287) (ci := 12) (k := 87) (r := 355) O dX12_seekShifts_51 rfl wd_6_159 (by decide) if_287_87 ?_
    refine J.iload (q := 56) O dX12_seekShifts_54 rfl 3 rfl ?_
    obtain ⟨hv41, h⟩ := h
    refine J.iald (q := 57) (c' := 355) (j := x4.toNatClampNeg) (M 355 x4.toNatClampNeg) rfl O dX12_seekShifts_56 rfl ar_355 hv41 rfl ?_
    refine J.iconst (q := 58) (v := (1 : Int32)) O dX12_seekShifts_57 rfl rfl ?_
    refine J.iadd (q := 59) O dX12_seekShifts_58 rfl ?_
    refine J.istore (q := 61) O dX12_seekShifts_59 rfl [(5, .int ((M 355 x4.toNatClampNeg) + (1 : Int32))), (0, .ref (ad G 287)), (2, .int x2), (3, .int x3), (4, .int x4)] (by decide) rfl ?_
    exact J.sub [1, 2, 3, 4, 0] rfl (j_X12_seekShifts_c61 hG O hR hr45 h)
set_option maxHeartbeats 4000000 in
set_option maxRecDepth 20000 in
theorem c_X12_seekShifts {l : Launch} {G : GX} (hG : Gd G) {a1 : Int32} {a2 : Int32} {M : Mem} {K : Int32 → Mem → Prop} (h : f_X12_seekShifts a1 a2 M K) : CI l G yX12_seekShifts cX12_seekShifts 7 (some .int) 4 [.ref (ad G 287), .int a1, .int a2] M K := by
  unfold f_X12_seekShifts at h
  refine CI.mk hG (by decide) [(0, .ref (ad G 287)), (1, .int a1), (2, .int a2)] rfl (Nat.le_of_ble_eq_true rfl) (fun X O hlX hR => ?_)
  subst hlX
  refine J.aload_n (q := 1) O dX12_seekShifts_0 rfl 0 rfl ?_
  refine J.iload_n (q := 2) O dX12_seekShifts_1 rfl 1 rfl ?_
  refine J.callVV (q := 5) [.int a1] [] [.int a1, .ref (ad G 287)] rfl O dX12_seekShifts_2 rfl (c_X12_findFour hG h) wd_8_235 mw_X12_findFour io_287 rfl (by decide) (Nat.le_of_ble_eq_true rfl) (fun M42 h => ?_)
  refine J.iconst (q := 6) (v := (-1 : Int32)) O dX12_seekShifts_5 rfl rfl ?_
  refine J.istore_n (q := 7) O dX12_seekShifts_6 rfl [(3, .int (-1 : Int32)), (0, .ref (ad G 287)), (1, .int a1), (2, .int a2)] (by decide) rfl ?_
  refine J.aload_n (q := 8) O dX12_seekShifts_7 rfl 1 rfl ?_
  refine J.getI (q := 11) (c' := 287) (ci := 12) (k := 80) (M42 287 80) rfl O dX12_seekShifts_8 rfl wd_6_152 (by decide) if_287_80 ?_
  refine J.iconst (q := 12) (v := (4 : Int32)) O dX12_seekShifts_11 rfl rfl ?_
  refine J.icmp_ge (q := 15) (tgt := 17) O dX12_seekShifts_12 rfl (by decide) (fun z43 => ?_) (fun z43 => ?_)
  · replace h := h.1 z43
    refine J.aload_n (q := 18) O dX12_seekShifts_17 rfl 1 rfl ?_
    refine J.callVV (q := 21) [] [] [.ref (ad G 287)] rfl O dX12_seekShifts_18 rfl (c_X12_findNeeded hG h) wd_9_3 mw_X12_findNeeded io_287 rfl (by decide) (Nat.le_of_ble_eq_true rfl) (fun M44 h => ?_)
    refine J.iconst (q := 22) (v := (0 : Int32)) O dX12_seekShifts_21 rfl rfl ?_
    refine J.istore (q := 24) O dX12_seekShifts_22 rfl [(4, .int (0 : Int32)), (3, .int (-1 : Int32)), (0, .ref (ad G 287)), (1, .int a1), (2, .int a2)] (by decide) rfl ?_
    refine J.aload_n (q := 25) O dX12_seekShifts_24 rfl 2 rfl ?_
    refine J.getR (q := 28) (c' := 287) (ci := 12) (k := 87) (r := 355) O dX12_seekShifts_25 rfl wd_6_159 (by decide) if_287_87 ?_
    refine J.iconst (q := 29) (v := (0 : Int32)) O dX12_seekShifts_28 rfl rfl ?_
    refine J.iconst (q := 30) (v := (-1 : Int32)) O dX12_seekShifts_29 rfl rfl ?_
    refine J.iast (q := 31) (c' := 355) (j := 0) O dX12_seekShifts_30 rfl ar_355 (vin_lit (by decide)) (by decide) ?_
    refine J.aload_n (q := 32) O dX12_seekShifts_31 rfl 2 rfl ?_
    refine J.getR (q := 35) (c' := 287) (ci := 12) (k := 82) (r := 351) O dX12_seekShifts_32 rfl wd_6_154 (by decide) if_287_82 ?_
    refine J.iconst (q := 36) (v := (0 : Int32)) O dX12_seekShifts_35 rfl rfl ?_
    refine J.iconst (q := 37) (v := (0 : Int32)) O dX12_seekShifts_36 rfl rfl ?_
    refine J.iast (q := 38) (c' := 351) (j := 0) O dX12_seekShifts_37 rfl ar_351 (vin_lit (by decide)) (by decide) ?_
    refine J.aload_n (q := 39) O dX12_seekShifts_38 rfl 2 rfl ?_
    refine J.getR (q := 42) (c' := 287) (ci := 12) (k := 88) (r := 356) O dX12_seekShifts_39 rfl wd_6_160 (by decide) if_287_88 ?_
    refine J.iconst (q := 43) (v := (0 : Int32)) O dX12_seekShifts_42 rfl rfl ?_
    refine J.iconst (q := 44) (v := (0 : Int32)) O dX12_seekShifts_43 rfl rfl ?_
    refine J.iast (q := 45) (c' := 356) (j := 0) O dX12_seekShifts_44 rfl ar_356 (vin_lit (by decide)) (by decide) ?_
    exact J.sub [2, 4, 1, 0] rfl (j_X12_seekShifts_c45 hG O hR h)
  · replace h := h.2 z43
    refine J.iload_n (q := 16) O dX12_seekShifts_15 rfl 0 rfl ?_
    exact hR _ _ _ _ dX12_seekShifts_16 h
set_option maxHeartbeats 4000000 in
set_option maxRecDepth 20000 in
theorem j_X12_findShifts_b26 {X : CX} {G : GX} {K : Int32 → Mem → Prop} (hG : Gd G) (O : Ok X G cX12_findShifts 3 RX12 5) (hR : RetI X G cX12_findShifts K) {x1 : Int32} {x2 : Int32} {M : Mem} (h : f_X12_findShifts_b26 K x1 x2 M) : J X G M 26 [(0, .ref (ad G 287)), (1, .int x1), (2, .int x2)] [] := by
  unfold f_X12_findShifts_b26 at h
  refine J.aload_n (q := 27) O dX12_findShifts_26 rfl 0 rfl ?_
  refine J.aload_n (q := 28) O dX12_findShifts_27 rfl 0 rfl ?_
  refine J.iload_n (q := 29) O dX12_findShifts_28 rfl 1 rfl ?_
  refine J.iload_n (q := 30) O dX12_findShifts_29 rfl 2 rfl ?_
  refine J.callVI (q := 33) [.int x1, .int x2] [.ref (ad G 287)] [.int x2, .int x1, .ref (ad G 287), .ref (ad G 287)] rfl O dX12_findShifts_30 rfl (c_X12_seekShifts hG h) wd_8_239 mw_X12_seekShifts io_287 rfl (by decide) (Nat.le_of_ble_eq_true rfl) (fun v1 M1 h => ?_)
  refine J.putI (q := 36) (c' := 287) (ci := 12) (k := 91) O dX12_findShifts_33 rfl wd_6_163 (by decide) if_287_91 rfl rfl ?_
  refine J.aload_n (q := 37) O dX12_findShifts_36 rfl 0 rfl ?_
  refine J.iload_n (q := 38) O dX12_findShifts_37 rfl 1 rfl ?_
  refine J.putI (q := 41) (c' := 287) (ci := 12) (k := 89) O dX12_findShifts_38 rfl wd_6_161 (by decide) if_287_89 rfl rfl ?_
  refine J.aload_n (q := 42) O dX12_findShifts_41 rfl 0 rfl ?_
  refine J.iload_n (q := 43) O dX12_findShifts_42 rfl 2 rfl ?_
  refine J.putI (q := 46) (c' := 287) (ci := 12) (k := 90) O dX12_findShifts_43 rfl wd_6_162 (by decide) if_287_90 rfl rfl ?_
  refine J.aload_n (q := 47) O dX12_findShifts_46 rfl 0 rfl ?_
  refine J.getI (q := 50) (c' := 287) (ci := 12) (k := 91) v1 rfl O dX12_findShifts_47 rfl wd_6_163 (by decide) if_287_91 ?_
  exact hR _ _ _ _ dX12_findShifts_50 h
set_option maxHeartbeats 4000000 in
set_option maxRecDepth 20000 in
theorem c_X12_findShifts {l : Launch} {G : GX} (hG : Gd G) {a1 : Int32} {a2 : Int32} {M : Mem} {K : Int32 → Mem → Prop} (h : f_X12_findShifts a1 a2 M K) : CI l G yX12_findShifts cX12_findShifts 3 (some .int) 5 [.ref (ad G 287), .int a1, .int a2] M K := by
  unfold f_X12_findShifts at h
  refine CI.mk hG (by decide) [(0, .ref (ad G 287)), (1, .int a1), (2, .int a2)] rfl (Nat.le_of_ble_eq_true rfl) (fun X O hlX hR => ?_)
  subst hlX
  refine J.aload_n (q := 1) O dX12_findShifts_0 rfl 0 rfl ?_
  refine J.getI (q := 4) (c' := 287) (ci := 12) (k := 89) (M 287 89) rfl O dX12_findShifts_1 rfl wd_6_161 (by decide) if_287_89 ?_
  refine J.iload_n (q := 5) O dX12_findShifts_4 rfl 1 rfl ?_
  refine J.icmp_ne (q := 8) (tgt := 26) O dX12_findShifts_5 rfl (by decide) (fun z2 => ?_) (fun z2 => ?_)
  · replace h := h.1 z2
    exact J.sub [0, 1, 2] rfl (j_X12_findShifts_b26 hG O hR h)
  · replace h := h.2 z2
    refine J.aload_n (q := 9) O dX12_findShifts_8 rfl 0 rfl ?_
    refine J.getI (q := 12) (c' := 287) (ci := 12) (k := 90) (M 287 90) rfl O dX12_findShifts_9 rfl wd_6_162 (by decide) if_287_90 ?_
    refine J.iload_n (q := 13) O dX12_findShifts_12 rfl 2 rfl ?_
    refine J.icmp_ne (q := 16) (tgt := 26) O dX12_findShifts_13 rfl (by decide) (fun z3 => ?_) (fun z3 => ?_)
    · replace h := h.1 z3
      exact J.sub [0, 1, 2] rfl (j_X12_findShifts_b26 hG O hR h)
    · replace h := h.2 z3
      refine J.aload_n (q := 17) O dX12_findShifts_16 rfl 0 rfl ?_
      refine J.iload_n (q := 18) O dX12_findShifts_17 rfl 1 rfl ?_
      refine J.callVV (q := 21) [.int a1] [] [.int a1, .ref (ad G 287)] rfl O dX12_findShifts_18 rfl (c_X12_findFour hG h) wd_8_235 mw_X12_findFour io_287 rfl (by decide) (Nat.le_of_ble_eq_true rfl) (fun M4 h => ?_)
      refine J.aload_n (q := 22) O dX12_findShifts_21 rfl 0 rfl ?_
      refine J.getI (q := 25) (c' := 287) (ci := 12) (k := 91) (M4 287 91) rfl O dX12_findShifts_22 rfl wd_6_163 (by decide) if_287_91 ?_
      exact hR _ _ _ _ dX12_findShifts_25 h
set_option maxHeartbeats 4000000 in
set_option maxRecDepth 20000 in
theorem j_X12_shifts_b47 {X : CX} {G : GX} {K : Int32 → Mem → Prop} (hG : Gd G) (O : Ok X G cX12_shifts 4 RX12 6) (hR : RetI X G cX12_shifts K) {s0 : Int32} {M : Mem} (h : f_X12_shifts_b47 K s0 M) : J X G M 47 [] [.int s0] := by
  unfold f_X12_shifts_b47 at h
  exact hR _ _ _ _ dX12_shifts_47 h
set_option maxHeartbeats 4000000 in
set_option maxRecDepth 20000 in
theorem c_X12_shifts {l : Launch} {G : GX} (hG : Gd G) {a1 : Int32} {a2 : Int32} {M : Mem} {K : Int32 → Mem → Prop} (h : f_X12_shifts a1 a2 M K) : CI l G yX12_shifts cX12_shifts 4 (some .int) 6 [.ref (ad G 287), .int a1, .int a2] M K := by
  unfold f_X12_shifts at h
  refine CI.mk hG (by decide) [(0, .ref (ad G 287)), (1, .int a1), (2, .int a2)] rfl (Nat.le_of_ble_eq_true rfl) (fun X O hlX hR => ?_)
  subst hlX
  refine J.iload_n (q := 1) O dX12_shifts_0 rfl 1 rfl ?_
  refine J.callSI (q := 4) [.int a1] [] [.int a1] rfl O dX12_shifts_1 rfl (c_X12_isShop hG h) wd_7_178 mw_X12_isShop rfl (by decide) (Nat.le_of_ble_eq_true rfl) (fun v1 M1 h => ?_)
  refine J.if_ne (q := 7) (tgt := 13) O dX12_shifts_4 rfl (by decide) (fun z2 => ?_) (fun z2 => ?_)
  · replace h := h.1 z2
    refine J.iload_n (q := 14) O dX12_shifts_13 rfl 2 rfl ?_
    refine J.iconst (q := 15) (v := (0 : Int32)) O dX12_shifts_14 rfl rfl ?_
    refine J.bipush (q := 17) (v := (7 : Int32)) O dX12_shifts_15 rfl rfl ?_
    refine J.callSI (q := 20) [.int a2, .int (0 : Int32), .int (7 : Int32)] [] [.int (7 : Int32), .int (0 : Int32), .int a2] rfl O dX12_shifts_17 rfl (c_X12_in hG h) wd_7_181 mw_X12_in rfl (by decide) (Nat.le_of_ble_eq_true rfl) (fun v3 M3 h => ?_)
    refine J.if_ne (q := 23) (tgt := 30) O dX12_shifts_20 rfl (by decide) (fun z4 => ?_) (fun z4 => ?_)
    · replace h := h.1 z4
      refine J.aload_n (q := 31) O dX12_shifts_30 rfl 0 rfl ?_
      refine J.iload_n (q := 32) O dX12_shifts_31 rfl 1 rfl ?_
      refine J.iload_n (q := 33) O dX12_shifts_32 rfl 2 rfl ?_
      refine J.callVI (q := 36) [.int a1, .int a2] [] [.int a2, .int a1, .ref (ad G 287)] rfl O dX12_shifts_33 rfl (c_X12_findShifts hG h) wd_8_231 mw_X12_findShifts io_287 rfl (by decide) (Nat.le_of_ble_eq_true rfl) (fun v5 M5 h => ?_)
      refine J.istore_n (q := 37) O dX12_shifts_36 rfl [(3, .int v5), (0, .ref (ad G 287)), (1, .int a1), (2, .int a2)] (by decide) rfl ?_
      refine J.iload_n (q := 38) O dX12_shifts_37 rfl 0 rfl ?_
      refine J.if_ge (q := 41) (tgt := 46) O dX12_shifts_38 rfl (by decide) (fun z6 => ?_) (fun z6 => ?_)
      · replace h := h.1 z6
        refine J.iload_n (q := 47) O dX12_shifts_46 rfl 0 rfl ?_
        exact J.sub [] rfl (j_X12_shifts_b47 hG O hR h)
      · replace h := h.2 z6
        refine J.bipush (q := 43) (v := (-9 : Int32)) O dX12_shifts_41 rfl rfl ?_
        refine J.goto (q := 47) O dX12_shifts_43 (by decide) ?_
        exact J.sub [] rfl (j_X12_shifts_b47 hG O hR h)
    · replace h := h.2 z4
      refine J.aload_n (q := 24) O dX12_shifts_23 rfl 0 rfl ?_
      refine J.bipush (q := 26) (v := (-2 : Int32)) O dX12_shifts_24 rfl rfl ?_
      refine J.callVI (q := 29) [.int (-2 : Int32)] [] [.int (-2 : Int32), .ref (ad G 287)] rfl O dX12_shifts_26 rfl (c_X12_refuse hG h) wd_7_158 mw_X12_refuse io_287 rfl (by decide) (Nat.le_of_ble_eq_true rfl) (fun v7 M7 h => ?_)
      exact hR _ _ _ _ dX12_shifts_29 h
  · replace h := h.2 z2
    refine J.aload_n (q := 8) O dX12_shifts_7 rfl 0 rfl ?_
    refine J.iconst (q := 9) (v := (-1 : Int32)) O dX12_shifts_8 rfl rfl ?_
    refine J.callVI (q := 12) [.int (-1 : Int32)] [] [.int (-1 : Int32), .ref (ad G 287)] rfl O dX12_shifts_9 rfl (c_X12_refuse hG h) wd_7_158 mw_X12_refuse io_287 rfl (by decide) (Nat.le_of_ble_eq_true rfl) (fun v8 M8 h => ?_)
    exact hR _ _ _ _ dX12_shifts_12 h
set_option maxHeartbeats 4000000 in
set_option maxRecDepth 20000 in
theorem j_X12_shiftOf_b15 {X : CX} {G : GX} {K : Int32 → Mem → Prop} (hG : Gd G) (O : Ok X G cX12_shiftOf 8 RX12 6) (hR : RetI X G cX12_shiftOf K) {M : Mem} (h : f_X12_shiftOf_b15 K  M) : J X G M 15 [(0, .ref (ad G 287))] [] := by
  unfold f_X12_shiftOf_b15 at h
  refine J.aload_n (q := 16) O dX12_shiftOf_15 rfl 0 rfl ?_
  refine J.iconst (q := 17) (v := (-1 : Int32)) O dX12_shiftOf_16 rfl rfl ?_
  refine J.callVI (q := 20) [.int (-1 : Int32)] [] [.int (-1 : Int32), .ref (ad G 287)] rfl O dX12_shiftOf_17 rfl (c_X12_refuse hG h) wd_7_158 mw_X12_refuse io_287 rfl (by decide) (Nat.le_of_ble_eq_true rfl) (fun v3 M3 h => ?_)
  exact hR _ _ _ _ dX12_shiftOf_20 h
set_option maxHeartbeats 4000000 in
set_option maxRecDepth 20000 in
theorem j_X12_shiftOf_b109 {X : CX} {G : GX} {K : Int32 → Mem → Prop} (hG : Gd G) (O : Ok X G cX12_shiftOf 8 RX12 6) (hR : RetI X G cX12_shiftOf K) {r70 : Int32 × Int32 × Int32 × Int32 × Int32 × Mem → Prop} (hr70 : ∀ a : Int32 × Int32 × Int32 × Int32 × Int32 × Mem, r70 a → J X G a.2.2.2.2.2 70 [(0, .ref (ad G 287)), (3, .int a.1), (4, .int a.2.1), (5, .int a.2.2.1), (6, .int a.2.2.2.1), (7, .int a.2.2.2.2.1)] []) {x3 : Int32} {x4 : Int32} {x5 : Int32} {x7 : Int32} {s0 : Int32} {M : Mem} (h : f_X12_shiftOf_b109 r70 K x3 x4 x5 x7 s0 M) : J X G M 109 [(0, .ref (ad G 287)), (3, .int x3), (4, .int x4), (5, .int x5), (7, .int x7)] [.int s0] := by
  unfold f_X12_shiftOf_b109 at h
  refine J.istore (q := 111) O dX12_shiftOf_109 rfl [(6, .int s0), (0, .ref (ad G 287)), (3, .int x3), (4, .int x4), (5, .int x5), (7, .int x7)] (by decide) rfl ?_
  refine J.iinc (q := 114) O dX12_shiftOf_111 rfl [(7, .int (x7 + (1 : Int32))), (6, .int s0), (0, .ref (ad G 287)), (3, .int x3), (4, .int x4), (5, .int x5)] 5 rfl rfl (by decide) rfl ?_
  refine J.goto (q := 70) O dX12_shiftOf_114 (by decide) ?_
  exact J.sub [2, 3, 4, 5, 1, 0] rfl (hr70 _ h)
set_option maxHeartbeats 4000000 in
set_option maxRecDepth 20000 in
theorem j_X12_shiftOf_b117 {X : CX} {G : GX} {K : Int32 → Mem → Prop} (hG : Gd G) (O : Ok X G cX12_shiftOf 8 RX12 6) (hR : RetI X G cX12_shiftOf K) {x6 : Int32} {M : Mem} (h : f_X12_shiftOf_b117 K x6 M) : J X G M 117 [(6, .int x6)] [] := by
  unfold f_X12_shiftOf_b117 at h
  refine J.iload (q := 119) O dX12_shiftOf_117 rfl 0 rfl ?_
  exact hR _ _ _ _ dX12_shiftOf_119 h
set_option maxHeartbeats 4000000 in
set_option maxRecDepth 20000 in
theorem j_X12_shiftOf_c70 {X : CX} {G : GX} {K : Int32 → Mem → Prop} (hG : Gd G) (O : Ok X G cX12_shiftOf 8 RX12 6) (hR : RetI X G cX12_shiftOf K) {a : Int32 × Int32 × Int32 × Int32 × Int32 × Mem} (h : Lp (fun (r70 : Int32 × Int32 × Int32 × Int32 × Int32 × Mem → Prop) a => f_X12_shiftOf_c70 K r70 a.1 a.2.1 a.2.2.1 a.2.2.2.1 a.2.2.2.2.1 a.2.2.2.2.2) a) : J X G a.2.2.2.2.2 70 [(0, .ref (ad G 287)), (3, .int a.1), (4, .int a.2.1), (5, .int a.2.2.1), (6, .int a.2.2.2.1), (7, .int a.2.2.2.2.1)] [] := by
  refine Lp.elim (P := fun a => J X G a.2.2.2.2.2 70 [(0, .ref (ad G 287)), (3, .int a.1), (4, .int a.2.1), (5, .int a.2.2.1), (6, .int a.2.2.2.1), (7, .int a.2.2.2.2.1)] []) ?_ h
  clear h
  intro r70 hr70 a h
  obtain ⟨x3, x4, x5, x6, x7, M⟩ := a
  unfold f_X12_shiftOf_c70 at h
  (try dsimp only at h ⊢)
  refine J.iload (q := 72) O dX12_shiftOf_70 rfl 5 rfl ?_
  refine J.iconst (q := 73) (v := (4 : Int32)) O dX12_shiftOf_72 rfl rfl ?_
  refine J.icmp_ge (q := 76) (tgt := 117) O dX12_shiftOf_73 rfl (by decide) (fun z4 => ?_) (fun z4 => ?_)
  · replace h := h.1 z4
    exact J.sub [4] rfl (j_X12_shiftOf_b117 hG O hR h)
  · replace h := h.2 z4
    refine J.iload (q := 78) O dX12_shiftOf_76 rfl 3 rfl ?_
    refine J.if_lt (q := 81) (tgt := 117) O dX12_shiftOf_78 rfl (by decide) (fun z5 => ?_) (fun z5 => ?_)
    · replace h := h.1 z5
      exact J.sub [4] rfl (j_X12_shiftOf_b117 hG O hR h)
    · replace h := h.2 z5
      refine J.aload_n (q := 82) O dX12_shiftOf_81 rfl 0 rfl ?_
      refine J.getR (q := 85) (c' := 287) (ci := 12) (k := 79) (r := 349) O dX12_shiftOf_82 rfl wd_6_151 (by decide) if_287_79 ?_
      refine J.iload (q := 87) O dX12_shiftOf_85 rfl 5 rfl ?_
      obtain ⟨hv6, h⟩ := h
      refine J.iald (q := 88) (c' := 349) (j := x7.toNatClampNeg) (M 349 x7.toNatClampNeg) rfl O dX12_shiftOf_87 rfl ar_349 hv6 rfl ?_
      refine J.iload_n (q := 89) O dX12_shiftOf_88 rfl 1 rfl ?_
      refine J.icmp_ne (q := 92) (tgt := 107) O dX12_shiftOf_89 rfl (by decide) (fun z7 => ?_) (fun z7 => ?_)
      · replace h := h.1 z7
        refine J.iload (q := 109) O dX12_shiftOf_107 rfl 4 rfl ?_
        exact J.sub [0, 1, 2, 3, 5] rfl (j_X12_shiftOf_b109 hG O hR hr70 h)
      · replace h := h.2 z7
        refine J.aload_n (q := 93) O dX12_shiftOf_92 rfl 0 rfl ?_
        refine J.getR (q := 96) (c' := 287) (ci := 12) (k := 83) (r := 352) O dX12_shiftOf_93 rfl wd_6_155 (by decide) if_287_83 ?_
        refine J.iload (q := 98) O dX12_shiftOf_96 rfl 2 rfl ?_
        obtain ⟨hv8, h⟩ := h
        refine J.iald (q := 99) (c' := 352) (j := x4.toNatClampNeg) (M 352 x4.toNatClampNeg) rfl O dX12_shiftOf_98 rfl ar_352 hv8 rfl ?_
        refine J.iload (q := 101) O dX12_shiftOf_99 rfl 5 rfl ?_
        refine J.callSI (q := 104) [.int (M 352 x4.toNatClampNeg), .int x7] [] [.int x7, .int (M 352 x4.toNatClampNeg)] rfl O dX12_shiftOf_101 rfl (c_X12_shiftIn hG h) wd_9_11 mw_X12_shiftIn rfl (by decide) (Nat.le_of_ble_eq_true rfl) (fun v9 M9 h => ?_)
        refine J.goto (q := 109) O dX12_shiftOf_104 (by decide) ?_
        exact J.sub [0, 1, 2, 3, 5] rfl (j_X12_shiftOf_b109 hG O hR hr70 h)
set_option maxHeartbeats 4000000 in
set_option maxRecDepth 20000 in
theorem c_X12_shiftOf {l : Launch} {G : GX} (hG : Gd G) {a1 : Int32} {a2 : Int32} {a3 : Int32} {a4 : Int32} {M : Mem} {K : Int32 → Mem → Prop} (h : f_X12_shiftOf a1 a2 a3 a4 M K) : CI l G yX12_shiftOf cX12_shiftOf 8 (some .int) 6 [.ref (ad G 287), .int a1, .int a2, .int a3, .int a4] M K := by
  unfold f_X12_shiftOf at h
  refine CI.mk hG (by decide) [(0, .ref (ad G 287)), (1, .int a1), (2, .int a2), (3, .int a3), (4, .int a4)] rfl (Nat.le_of_ble_eq_true rfl) (fun X O hlX hR => ?_)
  subst hlX
  refine J.iload_n (q := 1) O dX12_shiftOf_0 rfl 1 rfl ?_
  refine J.callSI (q := 4) [.int a1] [] [.int a1] rfl O dX12_shiftOf_1 rfl (c_X12_isShop hG h) wd_7_178 mw_X12_isShop rfl (by decide) (Nat.le_of_ble_eq_true rfl) (fun v10 M10 h => ?_)
  refine J.if_eq (q := 7) (tgt := 15) O dX12_shiftOf_4 rfl (by decide) (fun z11 => ?_) (fun z11 => ?_)
  · replace h := h.1 z11
    exact J.sub [0] rfl (j_X12_shiftOf_b15 hG O hR h)
  · replace h := h.2 z11
    refine J.aload_n (q := 8) O dX12_shiftOf_7 rfl 0 rfl ?_
    refine J.iload_n (q := 9) O dX12_shiftOf_8 rfl 3 rfl ?_
    refine J.callVI (q := 12) [.int a3] [] [.int a3, .ref (ad G 287)] rfl O dX12_shiftOf_9 rfl (c_X12_isPerson hG h) wd_7_188 mw_X12_isPerson io_287 rfl (by decide) (Nat.le_of_ble_eq_true rfl) (fun v12 M12 h => ?_)
    refine J.if_ne (q := 15) (tgt := 21) O dX12_shiftOf_12 rfl (by decide) (fun z13 => ?_) (fun z13 => ?_)
    · replace h := h.1 z13
      refine J.iload_n (q := 22) O dX12_shiftOf_21 rfl 2 rfl ?_
      refine J.iconst (q := 23) (v := (0 : Int32)) O dX12_shiftOf_22 rfl rfl ?_
      refine J.bipush (q := 25) (v := (7 : Int32)) O dX12_shiftOf_23 rfl rfl ?_
      refine J.callSI (q := 28) [.int a2, .int (0 : Int32), .int (7 : Int32)] [] [.int (7 : Int32), .int (0 : Int32), .int a2] rfl O dX12_shiftOf_25 rfl (c_X12_in hG h) wd_7_181 mw_X12_in rfl (by decide) (Nat.le_of_ble_eq_true rfl) (fun v14 M14 h => ?_)
      refine J.if_ne (q := 31) (tgt := 38) O dX12_shiftOf_28 rfl (by decide) (fun z15 => ?_) (fun z15 => ?_)
      · replace h := h.1 z15
        refine J.iload (q := 40) O dX12_shiftOf_38 rfl 4 rfl ?_
        refine J.iconst (q := 41) (v := (0 : Int32)) O dX12_shiftOf_40 rfl rfl ?_
        refine J.iconst (q := 42) (v := (3 : Int32)) O dX12_shiftOf_41 rfl rfl ?_
        refine J.callSI (q := 45) [.int a4, .int (0 : Int32), .int (3 : Int32)] [] [.int (3 : Int32), .int (0 : Int32), .int a4] rfl O dX12_shiftOf_42 rfl (c_X12_in hG h) wd_7_181 mw_X12_in rfl (by decide) (Nat.le_of_ble_eq_true rfl) (fun v16 M16 h => ?_)
        refine J.if_ne (q := 48) (tgt := 55) O dX12_shiftOf_45 rfl (by decide) (fun z17 => ?_) (fun z17 => ?_)
        · replace h := h.1 z17
          refine J.aload_n (q := 56) O dX12_shiftOf_55 rfl 0 rfl ?_
          refine J.iload_n (q := 57) O dX12_shiftOf_56 rfl 1 rfl ?_
          refine J.iload_n (q := 58) O dX12_shiftOf_57 rfl 2 rfl ?_
          refine J.callVI (q := 61) [.int a1, .int a2] [] [.int a2, .int a1, .ref (ad G 287)] rfl O dX12_shiftOf_58 rfl (c_X12_findShifts hG h) wd_8_231 mw_X12_findShifts io_287 rfl (by decide) (Nat.le_of_ble_eq_true rfl) (fun v18 M18 h => ?_)
          refine J.istore (q := 63) O dX12_shiftOf_61 rfl [(5, .int v18), (0, .ref (ad G 287)), (1, .int a1), (2, .int a2), (3, .int a3), (4, .int a4)] (by decide) rfl ?_
          refine J.bipush (q := 65) (v := (-9 : Int32)) O dX12_shiftOf_63 rfl rfl ?_
          refine J.istore (q := 67) O dX12_shiftOf_65 rfl [(6, .int (-9 : Int32)), (5, .int v18), (0, .ref (ad G 287)), (1, .int a1), (2, .int a2), (3, .int a3), (4, .int a4)] (by decide) rfl ?_
          refine J.iconst (q := 68) (v := (0 : Int32)) O dX12_shiftOf_67 rfl rfl ?_
          refine J.istore (q := 70) O dX12_shiftOf_68 rfl [(7, .int (0 : Int32)), (6, .int (-9 : Int32)), (5, .int v18), (0, .ref (ad G 287)), (1, .int a1), (2, .int a2), (3, .int a3), (4, .int a4)] (by decide) rfl ?_
          exact J.sub [3, 6, 7, 2, 1, 0] rfl (j_X12_shiftOf_c70 hG O hR h)
        · replace h := h.2 z17
          refine J.aload_n (q := 49) O dX12_shiftOf_48 rfl 0 rfl ?_
          refine J.bipush (q := 51) (v := (-3 : Int32)) O dX12_shiftOf_49 rfl rfl ?_
          refine J.callVI (q := 54) [.int (-3 : Int32)] [] [.int (-3 : Int32), .ref (ad G 287)] rfl O dX12_shiftOf_51 rfl (c_X12_refuse hG h) wd_7_158 mw_X12_refuse io_287 rfl (by decide) (Nat.le_of_ble_eq_true rfl) (fun v19 M19 h => ?_)
          exact hR _ _ _ _ dX12_shiftOf_54 h
      · replace h := h.2 z15
        refine J.aload_n (q := 32) O dX12_shiftOf_31 rfl 0 rfl ?_
        refine J.bipush (q := 34) (v := (-2 : Int32)) O dX12_shiftOf_32 rfl rfl ?_
        refine J.callVI (q := 37) [.int (-2 : Int32)] [] [.int (-2 : Int32), .ref (ad G 287)] rfl O dX12_shiftOf_34 rfl (c_X12_refuse hG h) wd_7_158 mw_X12_refuse io_287 rfl (by decide) (Nat.le_of_ble_eq_true rfl) (fun v20 M20 h => ?_)
        exact hR _ _ _ _ dX12_shiftOf_37 h
    · replace h := h.2 z13
      exact J.sub [0] rfl (j_X12_shiftOf_b15 hG O hR h)
set_option maxHeartbeats 4000000 in
set_option maxRecDepth 20000 in
theorem j_X12_bars_b77 {X : CX} {G : GX} {K : Int32 → Mem → Prop} (hG : Gd G) (O : Ok X G cX12_bars 4 RX12 6) (hR : RetI X G cX12_bars K) {r48 : Int32 × Int32 × Int32 × Mem → Prop} (hr48 : ∀ a : Int32 × Int32 × Int32 × Mem, r48 a → J X G a.2.2.2 48 [(0, .ref (ad G 287)), (1, .int a.1), (2, .int a.2.1), (3, .int a.2.2.1)] []) {x1 : Int32} {x3 : Int32} {s0 : Int32} {M : Mem} (h : f_X12_bars_b77 r48 K x1 x3 s0 M) : J X G M 77 [(0, .ref (ad G 287)), (1, .int x1), (3, .int x3)] [.int s0] := by
  unfold f_X12_bars_b77 at h
  refine J.istore_n (q := 78) O dX12_bars_77 rfl [(2, .int s0), (0, .ref (ad G 287)), (1, .int x1), (3, .int x3)] (by decide) rfl ?_
  refine J.iinc (q := 81) O dX12_bars_78 rfl [(3, .int (x3 + (-1 : Int32))), (2, .int s0), (0, .ref (ad G 287)), (1, .int x1)] 3 rfl rfl (by decide) rfl ?_
  refine J.goto (q := 48) O dX12_bars_81 (by decide) ?_
  exact J.sub [2, 3, 1, 0] rfl (hr48 _ h)
set_option maxHeartbeats 4000000 in
set_option maxRecDepth 20000 in
theorem j_X12_bars_b76 {X : CX} {G : GX} {K : Int32 → Mem → Prop} (hG : Gd G) (O : Ok X G cX12_bars 4 RX12 6) (hR : RetI X G cX12_bars K) {r48 : Int32 × Int32 × Int32 × Mem → Prop} (hr48 : ∀ a : Int32 × Int32 × Int32 × Mem, r48 a → J X G a.2.2.2 48 [(0, .ref (ad G 287)), (1, .int a.1), (2, .int a.2.1), (3, .int a.2.2.1)] []) {x1 : Int32} {x2 : Int32} {x3 : Int32} {M : Mem} (h : f_X12_bars_b76 r48 K x1 x2 x3 M) : J X G M 76 [(0, .ref (ad G 287)), (1, .int x1), (2, .int x2), (3, .int x3)] [] := by
  unfold f_X12_bars_b76 at h
  refine J.iload_n (q := 77) O dX12_bars_76 rfl 2 rfl ?_
  exact J.sub [0, 1, 3] rfl (j_X12_bars_b77 hG O hR hr48 h)
set_option maxHeartbeats 4000000 in
set_option maxRecDepth 20000 in
theorem j_X12_bars_c48 {X : CX} {G : GX} {K : Int32 → Mem → Prop} (hG : Gd G) (O : Ok X G cX12_bars 4 RX12 6) (hR : RetI X G cX12_bars K) {a : Int32 × Int32 × Int32 × Mem} (h : Lp (fun (r48 : Int32 × Int32 × Int32 × Mem → Prop) a => f_X12_bars_c48 K r48 a.1 a.2.1 a.2.2.1 a.2.2.2) a) : J X G a.2.2.2 48 [(0, .ref (ad G 287)), (1, .int a.1), (2, .int a.2.1), (3, .int a.2.2.1)] [] := by
  refine Lp.elim (P := fun a => J X G a.2.2.2 48 [(0, .ref (ad G 287)), (1, .int a.1), (2, .int a.2.1), (3, .int a.2.2.1)] []) ?_ h
  clear h
  intro r48 hr48 a h
  obtain ⟨x1, x2, x3, M⟩ := a
  unfold f_X12_bars_c48 at h
  (try dsimp only at h ⊢)
  refine J.iload_n (q := 49) O dX12_bars_48 rfl 3 rfl ?_
  refine J.if_lt (q := 52) (tgt := 84) O dX12_bars_49 rfl (by decide) (fun z1 => ?_) (fun z1 => ?_)
  · replace h := h.1 z1
    refine J.iload_n (q := 85) O dX12_bars_84 rfl 2 rfl ?_
    exact hR _ _ _ _ dX12_bars_85 h
  · replace h := h.2 z1
    refine J.iload_n (q := 53) O dX12_bars_52 rfl 3 rfl ?_
    refine J.callSI (q := 56) [.int x3] [] [.int x3] rfl O dX12_bars_53 rfl (c_X12_ones hG h) wd_8_23 mw_X12_ones rfl (by decide) (Nat.le_of_ble_eq_true rfl) (fun v2 M2 h => ?_)
    refine J.iload_n (q := 57) O dX12_bars_56 rfl 2 rfl ?_
    refine J.callSI (q := 60) [.int x2] [.int v2] [.int x2, .int v2] rfl O dX12_bars_57 rfl (c_X12_ones hG h) wd_8_23 mw_X12_ones rfl (by decide) (Nat.le_of_ble_eq_true rfl) (fun v3 M3 h => ?_)
    refine J.icmp_gt (q := 63) (tgt := 76) O dX12_bars_60 rfl (by decide) (fun z4 => ?_) (fun z4 => ?_)
    · replace h := h.1 z4
      exact J.sub [0, 1, 2, 3] rfl (j_X12_bars_b76 hG O hR hr48 h)
    · replace h := h.2 z4
      refine J.aload_n (q := 64) O dX12_bars_63 rfl 0 rfl ?_
      refine J.iload_n (q := 65) O dX12_bars_64 rfl 1 rfl ?_
      refine J.iload_n (q := 66) O dX12_bars_65 rfl 3 rfl ?_
      refine J.callVI (q := 69) [.int x1, .int x3] [] [.int x3, .int x1, .ref (ad G 287)] rfl O dX12_bars_66 rfl (c_X12_findShifts hG h) wd_8_231 mw_X12_findShifts io_287 rfl (by decide) (Nat.le_of_ble_eq_true rfl) (fun v5 M5 h => ?_)
      refine J.if_ge (q := 72) (tgt := 76) O dX12_bars_69 rfl (by decide) (fun z6 => ?_) (fun z6 => ?_)
      · replace h := h.1 z6
        exact J.sub [0, 1, 2, 3] rfl (j_X12_bars_b76 hG O hR hr48 h)
      · replace h := h.2 z6
        refine J.iload_n (q := 73) O dX12_bars_72 rfl 3 rfl ?_
        refine J.goto (q := 77) O dX12_bars_73 (by decide) ?_
        exact J.sub [0, 1, 3] rfl (j_X12_bars_b77 hG O hR hr48 h)
set_option maxHeartbeats 4000000 in
set_option maxRecDepth 20000 in
theorem c_X12_bars {l : Launch} {G : GX} (hG : Gd G) {a1 : Int32} {M : Mem} {K : Int32 → Mem → Prop} (h : f_X12_bars a1 M K) : CI l G yX12_bars cX12_bars 4 (some .int) 6 [.ref (ad G 287), .int a1] M K := by
  unfold f_X12_bars at h
  refine CI.mk hG (by decide) [(0, .ref (ad G 287)), (1, .int a1)] rfl (Nat.le_of_ble_eq_true rfl) (fun X O hlX hR => ?_)
  subst hlX
  refine J.iload_n (q := 1) O dX12_bars_0 rfl 1 rfl ?_
  refine J.callSI (q := 4) [.int a1] [] [.int a1] rfl O dX12_bars_1 rfl (c_X12_isShop hG h) wd_7_178 mw_X12_isShop rfl (by decide) (Nat.le_of_ble_eq_true rfl) (fun v7 M7 h => ?_)
  refine J.if_ne (q := 7) (tgt := 13) O dX12_bars_4 rfl (by decide) (fun z8 => ?_) (fun z8 => ?_)
  · replace h := h.1 z8
    refine J.aload_n (q := 14) O dX12_bars_13 rfl 0 rfl ?_
    refine J.iload_n (q := 15) O dX12_bars_14 rfl 1 rfl ?_
    refine J.callVV (q := 18) [.int a1] [] [.int a1, .ref (ad G 287)] rfl O dX12_bars_15 rfl (c_X12_findFour hG h) wd_8_235 mw_X12_findFour io_287 rfl (by decide) (Nat.le_of_ble_eq_true rfl) (fun M9 h => ?_)
    refine J.aload_n (q := 19) O dX12_bars_18 rfl 0 rfl ?_
    refine J.getI (q := 22) (c' := 287) (ci := 12) (k := 80) (M9 287 80) rfl O dX12_bars_19 rfl wd_6_152 (by decide) if_287_80 ?_
    refine J.iconst (q := 23) (v := (4 : Int32)) O dX12_bars_22 rfl rfl ?_
    refine J.icmp_ge (q := 26) (tgt := 29) O dX12_bars_23 rfl (by decide) (fun z10 => ?_) (fun z10 => ?_)
    · replace h := h.1 z10
      refine J.aload_n (q := 30) O dX12_bars_29 rfl 0 rfl ?_
      refine J.iload_n (q := 31) O dX12_bars_30 rfl 1 rfl ?_
      refine J.bipush (q := 33) (v := (7 : Int32)) O dX12_bars_31 rfl rfl ?_
      refine J.callVI (q := 36) [.int a1, .int (7 : Int32)] [] [.int (7 : Int32), .int a1, .ref (ad G 287)] rfl O dX12_bars_33 rfl (c_X12_findShifts hG h) wd_8_231 mw_X12_findShifts io_287 rfl (by decide) (Nat.le_of_ble_eq_true rfl) (fun v11 M11 h => ?_)
      refine J.if_lt (q := 39) (tgt := 42) O dX12_bars_36 rfl (by decide) (fun z12 => ?_) (fun z12 => ?_)
      · replace h := h.1 z12
        refine J.bipush (q := 44) (v := (7 : Int32)) O dX12_bars_42 rfl rfl ?_
        refine J.istore_n (q := 45) O dX12_bars_44 rfl [(2, .int (7 : Int32)), (0, .ref (ad G 287)), (1, .int a1)] (by decide) rfl ?_
        refine J.bipush (q := 47) (v := (6 : Int32)) O dX12_bars_45 rfl rfl ?_
        refine J.istore_n (q := 48) O dX12_bars_47 rfl [(3, .int (6 : Int32)), (2, .int (7 : Int32)), (0, .ref (ad G 287)), (1, .int a1)] (by decide) rfl ?_
        exact J.sub [2, 3, 1, 0] rfl (j_X12_bars_c48 hG O hR h)
      · replace h := h.2 z12
        refine J.bipush (q := 41) (v := (-9 : Int32)) O dX12_bars_39 rfl rfl ?_
        exact hR _ _ _ _ dX12_bars_41 h
    · replace h := h.2 z10
      refine J.bipush (q := 28) (v := (-8 : Int32)) O dX12_bars_26 rfl rfl ?_
      exact hR _ _ _ _ dX12_bars_28 h
  · replace h := h.2 z8
    refine J.aload_n (q := 8) O dX12_bars_7 rfl 0 rfl ?_
    refine J.iconst (q := 9) (v := (-1 : Int32)) O dX12_bars_8 rfl rfl ?_
    refine J.callVI (q := 12) [.int (-1 : Int32)] [] [.int (-1 : Int32), .ref (ad G 287)] rfl O dX12_bars_9 rfl (c_X12_refuse hG h) wd_7_158 mw_X12_refuse io_287 rfl (by decide) (Nat.le_of_ble_eq_true rfl) (fun v13 M13 h => ?_)
    exact hR _ _ _ _ dX12_bars_12 h
set_option maxHeartbeats 4000000 in
set_option maxRecDepth 20000 in
theorem c_X12_isPiece {l : Launch} {G : GX} (hG : Gd G) {a1 : Int32} {M : Mem} {K : Int32 → Mem → Prop} (h : f_X12_isPiece a1 M K) : CI l G yX12_isPiece cX12_isPiece 1 (some .boolean) 2 [.int a1] M K := by
  unfold f_X12_isPiece at h
  refine CZ.mk hG (by decide) [(0, .int a1)] rfl (Nat.le_of_ble_eq_true rfl) (fun X O hlX hR => ?_)
  subst hlX
  refine J.iload_n (q := 1) O dX12_isPiece_0 rfl 0 rfl ?_
  refine J.iconst (q := 2) (v := (0 : Int32)) O dX12_isPiece_1 rfl rfl ?_
  refine J.iconst (q := 3) (v := (4 : Int32)) O dX12_isPiece_2 rfl rfl ?_
  refine J.callSI (q := 6) [.int a1, .int (0 : Int32), .int (4 : Int32)] [] [.int (4 : Int32), .int (0 : Int32), .int a1] rfl O dX12_isPiece_3 rfl (c_X12_in hG h) wd_7_181 mw_X12_in rfl (by decide) (Nat.le_of_ble_eq_true rfl) (fun v1 M1 h => ?_)
  exact hR _ _ _ _ dX12_isPiece_6 h.1 h.2
set_option maxHeartbeats 4000000 in
set_option maxRecDepth 20000 in
theorem j_X12_study_b43 {X : CX} {G : GX} {K : Int32 → Mem → Prop} (hG : Gd G) (O : Ok X G cX12_study 3 RX12 3) (hR : RetI X G cX12_study K) {M : Mem} (h : f_X12_study_b43 K  M) : J X G M 43 [(0, .ref (ad G 287))] [] := by
  unfold f_X12_study_b43 at h
  refine J.aload_n (q := 44) O dX12_study_43 rfl 0 rfl ?_
  refine J.bipush (q := 46) (v := (-6 : Int32)) O dX12_study_44 rfl rfl ?_
  refine J.callVI (q := 49) [.int (-6 : Int32)] [] [.int (-6 : Int32), .ref (ad G 287)] rfl O dX12_study_46 rfl (c_X12_refuse hG h) wd_7_158 mw_X12_refuse io_287 rfl (by decide) (Nat.le_of_ble_eq_true rfl) (fun v9 M9 h => ?_)
  exact hR _ _ _ _ dX12_study_49 h
set_option maxHeartbeats 4000000 in
set_option maxRecDepth 20000 in
theorem c_X12_study {l : Launch} {G : GX} (hG : Gd G) {a1 : Int32} {a2 : Int32} {M : Mem} {K : Int32 → Mem → Prop} (h : f_X12_study a1 a2 M K) : CI l G yX12_study cX12_study 3 (some .int) 3 [.ref (ad G 287), .int a1, .int a2] M K := by
  unfold f_X12_study at h
  refine CI.mk hG (by decide) [(0, .ref (ad G 287)), (1, .int a1), (2, .int a2)] rfl (Nat.le_of_ble_eq_true rfl) (fun X O hlX hR => ?_)
  subst hlX
  refine J.iload_n (q := 1) O dX12_study_0 rfl 1 rfl ?_
  refine J.callSI (q := 4) [.int a1] [] [.int a1] rfl O dX12_study_1 rfl (c_X12_isPiece hG h) wd_9_38 mw_X12_isPiece rfl (by decide) (Nat.le_of_ble_eq_true rfl) (fun v10 M10 h => ?_)
  refine J.if_ne (q := 7) (tgt := 13) O dX12_study_4 rfl (by decide) (fun z11 => ?_) (fun z11 => ?_)
  · replace h := h.1 z11
    refine J.iload_n (q := 14) O dX12_study_13 rfl 2 rfl ?_
    refine J.iconst (q := 15) (v := (1 : Int32)) O dX12_study_14 rfl rfl ?_
    refine J.icmp_ge (q := 18) (tgt := 25) O dX12_study_15 rfl (by decide) (fun z12 => ?_) (fun z12 => ?_)
    · replace h := h.1 z12
      refine J.iload_n (q := 26) O dX12_study_25 rfl 2 rfl ?_
      refine J.sipush (q := 29) (v := (999 : Int32)) O dX12_study_26 rfl rfl ?_
      refine J.icmp_gt (q := 32) (tgt := 43) O dX12_study_29 rfl (by decide) (fun z13 => ?_) (fun z13 => ?_)
      · replace h := h.1 z13
        exact J.sub [0] rfl (j_X12_study_b43 hG O hR h)
      · replace h := h.2 z13
        refine J.aload_n (q := 33) O dX12_study_32 rfl 0 rfl ?_
        refine J.getR (q := 36) (c' := 287) (ci := 12) (k := 92) (r := 357) O dX12_study_33 rfl wd_6_164 (by decide) if_287_92 ?_
        refine J.iload_n (q := 37) O dX12_study_36 rfl 1 rfl ?_
        obtain ⟨hv14, h⟩ := h
        refine J.iald (q := 38) (c' := 357) (j := a1.toNatClampNeg) (M10 357 a1.toNatClampNeg) rfl O dX12_study_37 rfl ar_357 hv14 rfl ?_
        refine J.bipush (q := 40) (v := (12 : Int32)) O dX12_study_38 rfl rfl ?_
        refine J.icmp_ne (q := 43) (tgt := 50) O dX12_study_40 rfl (by decide) (fun z15 => ?_) (fun z15 => ?_)
        · replace h := h.1 z15
          refine J.aload_n (q := 51) O dX12_study_50 rfl 0 rfl ?_
          refine J.getR (q := 54) (c' := 287) (ci := 12) (k := 93) (r := 358) O dX12_study_51 rfl wd_6_165 (by decide) if_287_93 ?_
          refine J.bipush (q := 56) (v := (12 : Int32)) O dX12_study_54 rfl rfl ?_
          refine J.iload_n (q := 57) O dX12_study_56 rfl 1 rfl ?_
          refine J.imul (q := 58) O dX12_study_57 rfl ?_
          refine J.aload_n (q := 59) O dX12_study_58 rfl 0 rfl ?_
          refine J.getR (q := 62) (c' := 287) (ci := 12) (k := 92) (r := 357) O dX12_study_59 rfl wd_6_164 (by decide) if_287_92 ?_
          refine J.iload_n (q := 63) O dX12_study_62 rfl 1 rfl ?_
          obtain ⟨hv16, h⟩ := h
          refine J.iald (q := 64) (c' := 357) (j := a1.toNatClampNeg) (M10 357 a1.toNatClampNeg) rfl O dX12_study_63 rfl ar_357 hv16 rfl ?_
          refine J.iadd (q := 65) O dX12_study_64 rfl ?_
          refine J.aload_n (q := 66) O dX12_study_65 rfl 0 rfl ?_
          refine J.getI (q := 69) (c' := 287) (ci := 12) (k := 0) (M10 287 0) rfl O dX12_study_66 rfl wd_6_72 (by decide) if_287_0 ?_
          obtain ⟨hv17, h⟩ := h
          refine J.iast (q := 70) (c' := 358) (j := (((12 : Int32) * a1) + (M10 357 a1.toNatClampNeg)).toNatClampNeg) O dX12_study_69 rfl ar_358 hv17 rfl ?_
          refine J.aload_n (q := 71) O dX12_study_70 rfl 0 rfl ?_
          refine J.getR (q := 74) (c' := 287) (ci := 12) (k := 94) (r := 359) O dX12_study_71 rfl wd_6_166 (by decide) if_287_94 ?_
          refine J.bipush (q := 76) (v := (12 : Int32)) O dX12_study_74 rfl rfl ?_
          refine J.iload_n (q := 77) O dX12_study_76 rfl 1 rfl ?_
          refine J.imul (q := 78) O dX12_study_77 rfl ?_
          refine J.aload_n (q := 79) O dX12_study_78 rfl 0 rfl ?_
          refine J.getR (q := 82) (c' := 287) (ci := 12) (k := 92) (r := 357) O dX12_study_79 rfl wd_6_164 (by decide) if_287_92 ?_
          refine J.iload_n (q := 83) O dX12_study_82 rfl 1 rfl ?_
          obtain ⟨hv18, h⟩ := h
          refine J.iald (q := 84) (c' := 357) (j := a1.toNatClampNeg) (M10 357 a1.toNatClampNeg) rfl O dX12_study_83 rfl ar_357 hv18 rfl ?_
          refine J.iadd (q := 85) O dX12_study_84 rfl ?_
          refine J.iload_n (q := 86) O dX12_study_85 rfl 2 rfl ?_
          obtain ⟨hv19, h⟩ := h
          refine J.iast (q := 87) (c' := 359) (j := (((12 : Int32) * a1) + (M10 357 a1.toNatClampNeg)).toNatClampNeg) O dX12_study_86 rfl ar_359 hv19 rfl ?_
          refine J.aload_n (q := 88) O dX12_study_87 rfl 0 rfl ?_
          refine J.getR (q := 91) (c' := 287) (ci := 12) (k := 92) (r := 357) O dX12_study_88 rfl wd_6_164 (by decide) if_287_92 ?_
          refine J.iload_n (q := 92) O dX12_study_91 rfl 1 rfl ?_
          refine J.dup2 (q := 93) O dX12_study_92 rfl rfl rfl ?_
          obtain ⟨hv20, h⟩ := h
          refine J.iald (q := 94) (c' := 357) (j := a1.toNatClampNeg) (M10 357 a1.toNatClampNeg) rfl O dX12_study_93 rfl ar_357 hv20 rfl ?_
          refine J.iconst (q := 95) (v := (1 : Int32)) O dX12_study_94 rfl rfl ?_
          refine J.iadd (q := 96) O dX12_study_95 rfl ?_
          obtain ⟨hv21, h⟩ := h
          refine J.iast (q := 97) (c' := 357) (j := a1.toNatClampNeg) O dX12_study_96 rfl ar_357 hv21 rfl ?_
          refine J.aload_n (q := 98) O dX12_study_97 rfl 0 rfl ?_
          refine J.getR (q := 101) (c' := 287) (ci := 12) (k := 92) (r := 357) O dX12_study_98 rfl wd_6_164 (by decide) if_287_92 ?_
          refine J.iload_n (q := 102) O dX12_study_101 rfl 1 rfl ?_
          obtain ⟨hv22, h⟩ := h
          refine J.iald (q := 103) (c' := 357) (j := a1.toNatClampNeg) ((mset (mset (mset M10 358 ((((12 : Int32) * a1) + (M10 357 a1.toNatClampNeg)).toNatClampNeg) (M10 287 0)) 359 ((((12 : Int32) * a1) + (M10 357 a1.toNatClampNeg)).toNatClampNeg) a2) 357 a1.toNatClampNeg ((M10 357 a1.toNatClampNeg) + (1 : Int32))) 357 a1.toNatClampNeg) rfl O dX12_study_102 rfl ar_357 hv22 rfl ?_
          exact hR _ _ _ _ dX12_study_103 h
        · replace h := h.2 z15
          exact J.sub [0] rfl (j_X12_study_b43 hG O hR h)
    · replace h := h.2 z12
      refine J.aload_n (q := 19) O dX12_study_18 rfl 0 rfl ?_
      refine J.bipush (q := 21) (v := (-4 : Int32)) O dX12_study_19 rfl rfl ?_
      refine J.callVI (q := 24) [.int (-4 : Int32)] [] [.int (-4 : Int32), .ref (ad G 287)] rfl O dX12_study_21 rfl (c_X12_refuse hG h) wd_7_158 mw_X12_refuse io_287 rfl (by decide) (Nat.le_of_ble_eq_true rfl) (fun v23 M23 h => ?_)
      exact hR _ _ _ _ dX12_study_24 h
  · replace h := h.2 z11
    refine J.aload_n (q := 8) O dX12_study_7 rfl 0 rfl ?_
    refine J.iconst (q := 9) (v := (-1 : Int32)) O dX12_study_8 rfl rfl ?_
    refine J.callVI (q := 12) [.int (-1 : Int32)] [] [.int (-1 : Int32), .ref (ad G 287)] rfl O dX12_study_9 rfl (c_X12_refuse hG h) wd_7_158 mw_X12_refuse io_287 rfl (by decide) (Nat.le_of_ble_eq_true rfl) (fun v24 M24 h => ?_)
    exact hR _ _ _ _ dX12_study_12 h
set_option maxHeartbeats 4000000 in
set_option maxRecDepth 20000 in
theorem j_X12_timeOf_b113 {X : CX} {G : GX} {K : Int32 → Mem → Prop} (hG : Gd G) (O : Ok X G cX12_timeOf 8 RX12 1) (hR : RetI X G cX12_timeOf K) {r19 : Int32 × Int32 × Int32 × Int32 × Int32 × Int32 × Int32 × Mem → Prop} (hr19 : ∀ a : Int32 × Int32 × Int32 × Int32 × Int32 × Int32 × Int32 × Mem, r19 a → J X G a.2.2.2.2.2.2.2 19 [(0, .ref (ad G 287)), (1, .int a.1), (2, .int a.2.1), (3, .int a.2.2.1), (4, .int a.2.2.2.1), (5, .int a.2.2.2.2.1), (6, .int a.2.2.2.2.2.1), (7, .int a.2.2.2.2.2.2.1)] []) {x1 : Int32} {x2 : Int32} {x3 : Int32} {x4 : Int32} {x5 : Int32} {x6 : Int32} {x7 : Int32} {M : Mem} (h : f_X12_timeOf_b113 r19 K x1 x2 x3 x4 x5 x6 x7 M) : J X G M 113 [(0, .ref (ad G 287)), (1, .int x1), (2, .int x2), (3, .int x3), (4, .int x4), (5, .int x5), (6, .int x6), (7, .int x7)] [] := by
  unfold f_X12_timeOf_b113 at h
  refine J.iinc (q := 116) O dX12_timeOf_113 rfl [(7, .int (x7 + (1 : Int32))), (0, .ref (ad G 287)), (1, .int x1), (2, .int x2), (3, .int x3), (4, .int x4), (5, .int x5), (6, .int x6)] 7 rfl rfl (by decide) rfl ?_
  refine J.goto (q := 19) O dX12_timeOf_116 (by decide) ?_
  exact J.sub [1, 2, 3, 4, 5, 6, 7, 0] rfl (hr19 _ h)
set_option maxHeartbeats 4000000 in
set_option maxRecDepth 20000 in
theorem j_X12_timeOf_b111 {X : CX} {G : GX} {K : Int32 → Mem → Prop} (hG : Gd G) (O : Ok X G cX12_timeOf 8 RX12 1) (hR : RetI X G cX12_timeOf K) {r19 : Int32 × Int32 × Int32 × Int32 × Int32 × Int32 × Int32 × Mem → Prop} (hr19 : ∀ a : Int32 × Int32 × Int32 × Int32 × Int32 × Int32 × Int32 × Mem, r19 a → J X G a.2.2.2.2.2.2.2 19 [(0, .ref (ad G 287)), (1, .int a.1), (2, .int a.2.1), (3, .int a.2.2.1), (4, .int a.2.2.2.1), (5, .int a.2.2.2.2.1), (6, .int a.2.2.2.2.2.1), (7, .int a.2.2.2.2.2.2.1)] []) {x1 : Int32} {x2 : Int32} {x3 : Int32} {x4 : Int32} {x5 : Int32} {x7 : Int32} {s0 : Int32} {M : Mem} (h : f_X12_timeOf_b111 r19 K x1 x2 x3 x4 x5 x7 s0 M) : J X G M 111 [(0, .ref (ad G 287)), (1, .int x1), (2, .int x2), (3, .int x3), (4, .int x4), (5, .int x5), (7, .int x7)] [.int s0] := by
  unfold f_X12_timeOf_b111 at h
  refine J.istore (q := 113) O dX12_timeOf_111 rfl [(6, .int s0), (0, .ref (ad G 287)), (1, .int x1), (2, .int x2), (3, .int x3), (4, .int x4), (5, .int x5), (7, .int x7)] (by decide) rfl ?_
  exact J.sub [1, 2, 3, 4, 5, 6, 0, 7] rfl (j_X12_timeOf_b113 hG O hR hr19 h)
set_option maxHeartbeats 4000000 in
set_option maxRecDepth 20000 in
theorem j_X12_timeOf_b85 {X : CX} {G : GX} {K : Int32 → Mem → Prop} (hG : Gd G) (O : Ok X G cX12_timeOf 8 RX12 1) (hR : RetI X G cX12_timeOf K) {r19 : Int32 × Int32 × Int32 × Int32 × Int32 × Int32 × Int32 × Mem → Prop} (hr19 : ∀ a : Int32 × Int32 × Int32 × Int32 × Int32 × Int32 × Int32 × Mem, r19 a → J X G a.2.2.2.2.2.2.2 19 [(0, .ref (ad G 287)), (1, .int a.1), (2, .int a.2.1), (3, .int a.2.2.1), (4, .int a.2.2.2.1), (5, .int a.2.2.2.2.1), (6, .int a.2.2.2.2.2.1), (7, .int a.2.2.2.2.2.2.1)] []) {x1 : Int32} {x2 : Int32} {x3 : Int32} {x4 : Int32} {x6 : Int32} {x7 : Int32} {s0 : Int32} {M : Mem} (h : f_X12_timeOf_b85 r19 K x1 x2 x3 x4 x6 x7 s0 M) : J X G M 85 [(0, .ref (ad G 287)), (1, .int x1), (2, .int x2), (3, .int x3), (4, .int x4), (6, .int x6), (7, .int x7)] [.int s0] := by
  unfold f_X12_timeOf_b85 at h
  refine J.istore (q := 87) O dX12_timeOf_85 rfl [(5, .int s0), (0, .ref (ad G 287)), (1, .int x1), (2, .int x2), (3, .int x3), (4, .int x4), (6, .int x6), (7, .int x7)] (by decide) rfl ?_
  refine J.aload_n (q := 88) O dX12_timeOf_87 rfl 1 rfl ?_
  refine J.getR (q := 91) (c' := 287) (ci := 12) (k := 94) (r := 359) O dX12_timeOf_88 rfl wd_6_166 (by decide) if_287_94 ?_
  refine J.iload (q := 93) O dX12_timeOf_91 rfl 7 rfl ?_
  obtain ⟨hv9, h⟩ := h
  refine J.iald (q := 94) (c' := 359) (j := x7.toNatClampNeg) (M 359 x7.toNatClampNeg) rfl O dX12_timeOf_93 rfl ar_359 hv9 rfl ?_
  refine J.iload (q := 96) O dX12_timeOf_94 rfl 6 rfl ?_
  refine J.icmp_le (q := 99) (tgt := 109) O dX12_timeOf_96 rfl (by decide) (fun z10 => ?_) (fun z10 => ?_)
  · replace h := h.1 z10
    refine J.iload (q := 111) O dX12_timeOf_109 rfl 6 rfl ?_
    exact J.sub [1, 2, 3, 4, 5, 0, 7] rfl (j_X12_timeOf_b111 hG O hR hr19 h)
  · replace h := h.2 z10
    refine J.aload_n (q := 100) O dX12_timeOf_99 rfl 1 rfl ?_
    refine J.getR (q := 103) (c' := 287) (ci := 12) (k := 94) (r := 359) O dX12_timeOf_100 rfl wd_6_166 (by decide) if_287_94 ?_
    refine J.iload (q := 105) O dX12_timeOf_103 rfl 7 rfl ?_
    obtain ⟨hv11, h⟩ := h
    refine J.iald (q := 106) (c' := 359) (j := x7.toNatClampNeg) (M 359 x7.toNatClampNeg) rfl O dX12_timeOf_105 rfl ar_359 hv11 rfl ?_
    refine J.goto (q := 111) O dX12_timeOf_106 (by decide) ?_
    exact J.sub [1, 2, 3, 4, 5, 0, 7] rfl (j_X12_timeOf_b111 hG O hR hr19 h)
set_option maxHeartbeats 4000000 in
set_option maxRecDepth 20000 in
theorem j_X12_timeOf_b141 {X : CX} {G : GX} {K : Int32 → Mem → Prop} (hG : Gd G) (O : Ok X G cX12_timeOf 8 RX12 1) (hR : RetI X G cX12_timeOf K) {s0 : Int32} {M : Mem} (h : f_X12_timeOf_b141 K s0 M) : J X G M 141 [] [.int s0] := by
  unfold f_X12_timeOf_b141 at h
  exact hR _ _ _ _ dX12_timeOf_141 h
set_option maxHeartbeats 4000000 in
set_option maxRecDepth 20000 in
theorem j_X12_timeOf_c19 {X : CX} {G : GX} {K : Int32 → Mem → Prop} (hG : Gd G) (O : Ok X G cX12_timeOf 8 RX12 1) (hR : RetI X G cX12_timeOf K) {a : Int32 × Int32 × Int32 × Int32 × Int32 × Int32 × Int32 × Mem} (h : Lp (fun (r19 : Int32 × Int32 × Int32 × Int32 × Int32 × Int32 × Int32 × Mem → Prop) a => f_X12_timeOf_c19 K r19 a.1 a.2.1 a.2.2.1 a.2.2.2.1 a.2.2.2.2.1 a.2.2.2.2.2.1 a.2.2.2.2.2.2.1 a.2.2.2.2.2.2.2) a) : J X G a.2.2.2.2.2.2.2 19 [(0, .ref (ad G 287)), (1, .int a.1), (2, .int a.2.1), (3, .int a.2.2.1), (4, .int a.2.2.2.1), (5, .int a.2.2.2.2.1), (6, .int a.2.2.2.2.2.1), (7, .int a.2.2.2.2.2.2.1)] [] := by
  refine Lp.elim (P := fun a => J X G a.2.2.2.2.2.2.2 19 [(0, .ref (ad G 287)), (1, .int a.1), (2, .int a.2.1), (3, .int a.2.2.1), (4, .int a.2.2.2.1), (5, .int a.2.2.2.2.1), (6, .int a.2.2.2.2.2.1), (7, .int a.2.2.2.2.2.2.1)] []) ?_ h
  clear h
  intro r19 hr19 a h
  obtain ⟨x1, x2, x3, x4, x5, x6, x7, M⟩ := a
  unfold f_X12_timeOf_c19 at h
  (try dsimp only at h ⊢)
  refine J.iload (q := 21) O dX12_timeOf_19 rfl 7 rfl ?_
  refine J.bipush (q := 23) (v := (12 : Int32)) O dX12_timeOf_21 rfl rfl ?_
  refine J.iload_n (q := 24) O dX12_timeOf_23 rfl 1 rfl ?_
  refine J.imul (q := 25) O dX12_timeOf_24 rfl ?_
  refine J.aload_n (q := 26) O dX12_timeOf_25 rfl 0 rfl ?_
  refine J.getR (q := 29) (c' := 287) (ci := 12) (k := 92) (r := 357) O dX12_timeOf_26 rfl wd_6_164 (by decide) if_287_92 ?_
  refine J.iload_n (q := 30) O dX12_timeOf_29 rfl 1 rfl ?_
  obtain ⟨hv12, h⟩ := h
  refine J.iald (q := 31) (c' := 357) (j := x1.toNatClampNeg) (M 357 x1.toNatClampNeg) rfl O dX12_timeOf_30 rfl ar_357 hv12 rfl ?_
  refine J.iadd (q := 32) O dX12_timeOf_31 rfl ?_
  refine J.icmp_ge (q := 35) (tgt := 119) O dX12_timeOf_32 rfl (by decide) (fun z13 => ?_) (fun z13 => ?_)
  · replace h := h.1 z13
    refine J.iload_n (q := 120) O dX12_timeOf_119 rfl 3 rfl ?_
    refine J.iconst (q := 121) (v := (3 : Int32)) O dX12_timeOf_120 rfl rfl ?_
    refine J.icmp_ge (q := 124) (tgt := 129) O dX12_timeOf_121 rfl (by decide) (fun z14 => ?_) (fun z14 => ?_)
    · replace h := h.1 z14
      refine J.iload (q := 131) O dX12_timeOf_129 rfl 4 rfl ?_
      refine J.iload (q := 133) O dX12_timeOf_131 rfl 5 rfl ?_
      refine J.isub (q := 134) O dX12_timeOf_133 rfl ?_
      refine J.iload (q := 136) O dX12_timeOf_134 rfl 6 rfl ?_
      refine J.isub (q := 137) O dX12_timeOf_136 rfl ?_
      refine J.iload_n (q := 138) O dX12_timeOf_137 rfl 3 rfl ?_
      refine J.iconst (q := 139) (v := (2 : Int32)) O dX12_timeOf_138 rfl rfl ?_
      refine J.isub (q := 140) O dX12_timeOf_139 rfl ?_
      obtain ⟨hz15, h⟩ := h
      refine J.idiv (q := 141) O dX12_timeOf_140 rfl hz15 ?_
      exact J.sub [] rfl (j_X12_timeOf_b141 hG O hR h)
    · replace h := h.2 z14
      refine J.bipush (q := 126) (v := (-9 : Int32)) O dX12_timeOf_124 rfl rfl ?_
      refine J.goto (q := 141) O dX12_timeOf_126 (by decide) ?_
      exact J.sub [] rfl (j_X12_timeOf_b141 hG O hR h)
  · replace h := h.2 z13
    refine J.aload_n (q := 36) O dX12_timeOf_35 rfl 0 rfl ?_
    refine J.getR (q := 39) (c' := 287) (ci := 12) (k := 93) (r := 358) O dX12_timeOf_36 rfl wd_6_165 (by decide) if_287_93 ?_
    refine J.iload (q := 41) O dX12_timeOf_39 rfl 7 rfl ?_
    obtain ⟨hv16, h⟩ := h
    refine J.iald (q := 42) (c' := 358) (j := x7.toNatClampNeg) (M 358 x7.toNatClampNeg) rfl O dX12_timeOf_41 rfl ar_358 hv16 rfl ?_
    refine J.iload_n (q := 43) O dX12_timeOf_42 rfl 2 rfl ?_
    refine J.icmp_gt (q := 46) (tgt := 113) O dX12_timeOf_43 rfl (by decide) (fun z17 => ?_) (fun z17 => ?_)
    · replace h := h.1 z17
      exact J.sub [0, 1, 2, 3, 4, 5, 6, 7] rfl (j_X12_timeOf_b113 hG O hR hr19 h)
    · replace h := h.2 z17
      refine J.iinc (q := 49) O dX12_timeOf_46 rfl [(3, .int (x3 + (1 : Int32))), (0, .ref (ad G 287)), (1, .int x1), (2, .int x2), (4, .int x4), (5, .int x5), (6, .int x6), (7, .int x7)] 3 rfl rfl (by decide) rfl ?_
      refine J.iload (q := 51) O dX12_timeOf_49 rfl 4 rfl ?_
      refine J.aload_n (q := 52) O dX12_timeOf_51 rfl 1 rfl ?_
      refine J.getR (q := 55) (c' := 287) (ci := 12) (k := 94) (r := 359) O dX12_timeOf_52 rfl wd_6_166 (by decide) if_287_94 ?_
      refine J.iload (q := 57) O dX12_timeOf_55 rfl 7 rfl ?_
      obtain ⟨hv18, h⟩ := h
      refine J.iald (q := 58) (c' := 359) (j := x7.toNatClampNeg) (M 359 x7.toNatClampNeg) rfl O dX12_timeOf_57 rfl ar_359 hv18 rfl ?_
      refine J.iadd (q := 59) O dX12_timeOf_58 rfl ?_
      refine J.istore (q := 61) O dX12_timeOf_59 rfl [(4, .int (x4 + (M 359 x7.toNatClampNeg))), (3, .int (x3 + (1 : Int32))), (0, .ref (ad G 287)), (1, .int x1), (2, .int x2), (5, .int x5), (6, .int x6), (7, .int x7)] (by decide) rfl ?_
      refine J.aload_n (q := 62) O dX12_timeOf_61 rfl 2 rfl ?_
      refine J.getR (q := 65) (c' := 287) (ci := 12) (k := 94) (r := 359) O dX12_timeOf_62 rfl wd_6_166 (by decide) if_287_94 ?_
      refine J.iload (q := 67) O dX12_timeOf_65 rfl 7 rfl ?_
      obtain ⟨hv19, h⟩ := h
      refine J.iald (q := 68) (c' := 359) (j := x7.toNatClampNeg) (M 359 x7.toNatClampNeg) rfl O dX12_timeOf_67 rfl ar_359 hv19 rfl ?_
      refine J.iload (q := 70) O dX12_timeOf_68 rfl 5 rfl ?_
      refine J.icmp_ge (q := 73) (tgt := 83) O dX12_timeOf_70 rfl (by decide) (fun z20 => ?_) (fun z20 => ?_)
      · replace h := h.1 z20
        refine J.iload (q := 85) O dX12_timeOf_83 rfl 5 rfl ?_
        exact J.sub [2, 3, 4, 1, 0, 6, 7] rfl (j_X12_timeOf_b85 hG O hR hr19 h)
      · replace h := h.2 z20
        refine J.aload_n (q := 74) O dX12_timeOf_73 rfl 2 rfl ?_
        refine J.getR (q := 77) (c' := 287) (ci := 12) (k := 94) (r := 359) O dX12_timeOf_74 rfl wd_6_166 (by decide) if_287_94 ?_
        refine J.iload (q := 79) O dX12_timeOf_77 rfl 7 rfl ?_
        obtain ⟨hv21, h⟩ := h
        refine J.iald (q := 80) (c' := 359) (j := x7.toNatClampNeg) (M 359 x7.toNatClampNeg) rfl O dX12_timeOf_79 rfl ar_359 hv21 rfl ?_
        refine J.goto (q := 85) O dX12_timeOf_80 (by decide) ?_
        exact J.sub [2, 3, 4, 1, 0, 6, 7] rfl (j_X12_timeOf_b85 hG O hR hr19 h)
set_option maxHeartbeats 4000000 in
set_option maxRecDepth 20000 in
theorem c_X12_timeOf {l : Launch} {G : GX} (hG : Gd G) {a1 : Int32} {a2 : Int32} {M : Mem} {K : Int32 → Mem → Prop} (h : f_X12_timeOf a1 a2 M K) : CI l G yX12_timeOf cX12_timeOf 8 (some .int) 1 [.ref (ad G 287), .int a1, .int a2] M K := by
  unfold f_X12_timeOf at h
  refine CI.mk hG (by decide) [(0, .ref (ad G 287)), (1, .int a1), (2, .int a2)] rfl (Nat.le_of_ble_eq_true rfl) (fun X O hlX hR => ?_)
  subst hlX
  refine J.iconst (q := 1) (v := (0 : Int32)) O dX12_timeOf_0 rfl rfl ?_
  refine J.istore_n (q := 2) O dX12_timeOf_1 rfl [(3, .int (0 : Int32)), (0, .ref (ad G 287)), (1, .int a1), (2, .int a2)] (by decide) rfl ?_
  refine J.iconst (q := 3) (v := (0 : Int32)) O dX12_timeOf_2 rfl rfl ?_
  refine J.istore (q := 5) O dX12_timeOf_3 rfl [(4, .int (0 : Int32)), (3, .int (0 : Int32)), (0, .ref (ad G 287)), (1, .int a1), (2, .int a2)] (by decide) rfl ?_
  refine J.sipush (q := 8) (v := (1000 : Int32)) O dX12_timeOf_5 rfl rfl ?_
  refine J.istore (q := 10) O dX12_timeOf_8 rfl [(5, .int (1000 : Int32)), (4, .int (0 : Int32)), (3, .int (0 : Int32)), (0, .ref (ad G 287)), (1, .int a1), (2, .int a2)] (by decide) rfl ?_
  refine J.iconst (q := 11) (v := (0 : Int32)) O dX12_timeOf_10 rfl rfl ?_
  refine J.istore (q := 13) O dX12_timeOf_11 rfl [(6, .int (0 : Int32)), (5, .int (1000 : Int32)), (4, .int (0 : Int32)), (3, .int (0 : Int32)), (0, .ref (ad G 287)), (1, .int a1), (2, .int a2)] (by decide) rfl ?_
  refine J.bipush (q := 15) (v := (12 : Int32)) O dX12_timeOf_13 rfl rfl ?_
  refine J.iload_n (q := 16) O dX12_timeOf_15 rfl 5 rfl ?_
  refine J.imul (q := 17) O dX12_timeOf_16 rfl ?_
  refine J.istore (q := 19) O dX12_timeOf_17 rfl [(7, .int ((12 : Int32) * a1)), (6, .int (0 : Int32)), (5, .int (1000 : Int32)), (4, .int (0 : Int32)), (3, .int (0 : Int32)), (0, .ref (ad G 287)), (1, .int a1), (2, .int a2)] (by decide) rfl ?_
  exact J.sub [5, 6, 7, 4, 3, 2, 1, 0] rfl (j_X12_timeOf_c19 hG O hR h)
set_option maxHeartbeats 4000000 in
set_option maxRecDepth 20000 in
theorem j_X12_time_b48 {X : CX} {G : GX} {K : Int32 → Mem → Prop} (hG : Gd G) (O : Ok X G cX12_time 3 RX12 3) (hR : RetI X G cX12_time K) {s0 : Int32} {M : Mem} (h : f_X12_time_b48 K s0 M) : J X G M 48 [] [.int s0] := by
  unfold f_X12_time_b48 at h
  exact hR _ _ _ _ dX12_time_48 h
set_option maxHeartbeats 4000000 in
set_option maxRecDepth 20000 in
theorem c_X12_time {l : Launch} {G : GX} (hG : Gd G) {a1 : Int32} {a2 : Int32} {M : Mem} {K : Int32 → Mem → Prop} (h : f_X12_time a1 a2 M K) : CI l G yX12_time cX12_time 3 (some .int) 3 [.ref (ad G 287), .int a1, .int a2] M K := by
  unfold f_X12_time at h
  refine CI.mk hG (by decide) [(0, .ref (ad G 287)), (1, .int a1), (2, .int a2)] rfl (Nat.le_of_ble_eq_true rfl) (fun X O hlX hR => ?_)
  subst hlX
  refine J.iload_n (q := 1) O dX12_time_0 rfl 1 rfl ?_
  refine J.callSI (q := 4) [.int a1] [] [.int a1] rfl O dX12_time_1 rfl (c_X12_isPiece hG h) wd_9_38 mw_X12_isPiece rfl (by decide) (Nat.le_of_ble_eq_true rfl) (fun v1 M1 h => ?_)
  refine J.if_ne (q := 7) (tgt := 13) O dX12_time_4 rfl (by decide) (fun z2 => ?_) (fun z2 => ?_)
  · replace h := h.1 z2
    refine J.iload_n (q := 14) O dX12_time_13 rfl 2 rfl ?_
    refine J.if_ge (q := 17) (tgt := 26) O dX12_time_14 rfl (by decide) (fun z3 => ?_) (fun z3 => ?_)
    · replace h := h.1 z3
      refine J.iload_n (q := 27) O dX12_time_26 rfl 2 rfl ?_
      refine J.sipush (q := 30) (v := (1000 : Int32)) O dX12_time_27 rfl rfl ?_
      refine J.icmp_le (q := 33) (tgt := 42) O dX12_time_30 rfl (by decide) (fun z4 => ?_) (fun z4 => ?_)
      · replace h := h.1 z4
        refine J.aload_n (q := 43) O dX12_time_42 rfl 0 rfl ?_
        refine J.iload_n (q := 44) O dX12_time_43 rfl 1 rfl ?_
        refine J.iload_n (q := 45) O dX12_time_44 rfl 2 rfl ?_
        refine J.callVI (q := 48) [.int a1, .int a2] [] [.int a2, .int a1, .ref (ad G 287)] rfl O dX12_time_45 rfl (c_X12_timeOf hG h) wd_9_45 mw_X12_timeOf io_287 rfl (by decide) (Nat.le_of_ble_eq_true rfl) (fun v5 M5 h => ?_)
        exact J.sub [] rfl (j_X12_time_b48 hG O hR h)
      · replace h := h.2 z4
        refine J.aload_n (q := 34) O dX12_time_33 rfl 0 rfl ?_
        refine J.bipush (q := 36) (v := (-6 : Int32)) O dX12_time_34 rfl rfl ?_
        refine J.callVI (q := 39) [.int (-6 : Int32)] [] [.int (-6 : Int32), .ref (ad G 287)] rfl O dX12_time_36 rfl (c_X12_refuse hG h) wd_7_158 mw_X12_refuse io_287 rfl (by decide) (Nat.le_of_ble_eq_true rfl) (fun v6 M6 h => ?_)
        refine J.goto (q := 48) O dX12_time_39 (by decide) ?_
        exact J.sub [] rfl (j_X12_time_b48 hG O hR h)
    · replace h := h.2 z3
      refine J.aload_n (q := 18) O dX12_time_17 rfl 0 rfl ?_
      refine J.bipush (q := 20) (v := (-4 : Int32)) O dX12_time_18 rfl rfl ?_
      refine J.callVI (q := 23) [.int (-4 : Int32)] [] [.int (-4 : Int32), .ref (ad G 287)] rfl O dX12_time_20 rfl (c_X12_refuse hG h) wd_7_158 mw_X12_refuse io_287 rfl (by decide) (Nat.le_of_ble_eq_true rfl) (fun v7 M7 h => ?_)
      refine J.goto (q := 48) O dX12_time_23 (by decide) ?_
      exact J.sub [] rfl (j_X12_time_b48 hG O hR h)
  · replace h := h.2 z2
    refine J.aload_n (q := 8) O dX12_time_7 rfl 0 rfl ?_
    refine J.iconst (q := 9) (v := (-1 : Int32)) O dX12_time_8 rfl rfl ?_
    refine J.callVI (q := 12) [.int (-1 : Int32)] [] [.int (-1 : Int32), .ref (ad G 287)] rfl O dX12_time_9 rfl (c_X12_refuse hG h) wd_7_158 mw_X12_refuse io_287 rfl (by decide) (Nat.le_of_ble_eq_true rfl) (fun v8 M8 h => ?_)
    exact hR _ _ _ _ dX12_time_12 h
set_option maxHeartbeats 4000000 in
set_option maxRecDepth 20000 in
theorem j_X12_changed_b22 {X : CX} {G : GX} {K : Int32 → Mem → Prop} (hG : Gd G) (O : Ok X G cX12_changed 6 RX12 3) (hR : RetI X G cX12_changed K) {M : Mem} (h : f_X12_changed_b22 K  M) : J X G M 22 [(0, .ref (ad G 287))] [] := by
  unfold f_X12_changed_b22 at h
  refine J.aload_n (q := 23) O dX12_changed_22 rfl 0 rfl ?_
  refine J.bipush (q := 25) (v := (-4 : Int32)) O dX12_changed_23 rfl rfl ?_
  refine J.callVI (q := 28) [.int (-4 : Int32)] [] [.int (-4 : Int32), .ref (ad G 287)] rfl O dX12_changed_25 rfl (c_X12_refuse hG h) wd_7_158 mw_X12_refuse io_287 rfl (by decide) (Nat.le_of_ble_eq_true rfl) (fun v1 M1 h => ?_)
  exact hR _ _ _ _ dX12_changed_28 h
set_option maxHeartbeats 4000000 in
set_option maxRecDepth 20000 in
theorem j_X12_changed_b43 {X : CX} {G : GX} {K : Int32 → Mem → Prop} (hG : Gd G) (O : Ok X G cX12_changed 6 RX12 3) (hR : RetI X G cX12_changed K) {M : Mem} (h : f_X12_changed_b43 K  M) : J X G M 43 [(0, .ref (ad G 287))] [] := by
  unfold f_X12_changed_b43 at h
  refine J.aload_n (q := 44) O dX12_changed_43 rfl 0 rfl ?_
  refine J.bipush (q := 46) (v := (-6 : Int32)) O dX12_changed_44 rfl rfl ?_
  refine J.callVI (q := 49) [.int (-6 : Int32)] [] [.int (-6 : Int32), .ref (ad G 287)] rfl O dX12_changed_46 rfl (c_X12_refuse hG h) wd_7_158 mw_X12_refuse io_287 rfl (by decide) (Nat.le_of_ble_eq_true rfl) (fun v2 M2 h => ?_)
  exact hR _ _ _ _ dX12_changed_49 h
set_option maxHeartbeats 4000000 in
set_option maxRecDepth 20000 in
theorem j_X12_changed_b96 {X : CX} {G : GX} {K : Int32 → Mem → Prop} (hG : Gd G) (O : Ok X G cX12_changed 6 RX12 3) (hR : RetI X G cX12_changed K) {s0 : Int32} {M : Mem} (h : f_X12_changed_b96 K s0 M) : J X G M 96 [] [.int s0] := by
  unfold f_X12_changed_b96 at h
  exact hR _ _ _ _ dX12_changed_96 h
set_option maxHeartbeats 4000000 in
set_option maxRecDepth 20000 in
theorem j_X12_changed_b95 {X : CX} {G : GX} {K : Int32 → Mem → Prop} (hG : Gd G) (O : Ok X G cX12_changed 6 RX12 3) (hR : RetI X G cX12_changed K) {M : Mem} (h : f_X12_changed_b95 K  M) : J X G M 95 [] [] := by
  unfold f_X12_changed_b95 at h
  refine J.iconst (q := 96) (v := (0 : Int32)) O dX12_changed_95 rfl rfl ?_
  exact J.sub [] rfl (j_X12_changed_b96 hG O hR h)
set_option maxHeartbeats 4000000 in
set_option maxRecDepth 20000 in
theorem j_X12_changed_b75 {X : CX} {G : GX} {K : Int32 → Mem → Prop} (hG : Gd G) (O : Ok X G cX12_changed 6 RX12 3) (hR : RetI X G cX12_changed K) {x2 : Int32} {x4 : Int32} {s0 : Int32} {M : Mem} (h : f_X12_changed_b75 K x2 x4 s0 M) : J X G M 75 [(2, .int x2), (4, .int x4)] [.int s0] := by
  unfold f_X12_changed_b75 at h
  refine J.istore (q := 77) O dX12_changed_75 rfl [(5, .int s0), (2, .int x2), (4, .int x4)] (by decide) rfl ?_
  refine J.iload (q := 79) O dX12_changed_77 rfl 2 rfl ?_
  refine J.if_lt (q := 82) (tgt := 95) O dX12_changed_79 rfl (by decide) (fun z3 => ?_) (fun z3 => ?_)
  · replace h := h.1 z3
    exact J.sub [] rfl (j_X12_changed_b95 hG O hR h)
  · replace h := h.2 z3
    refine J.bipush (q := 84) (v := (10 : Int32)) O dX12_changed_82 rfl rfl ?_
    refine J.iload (q := 86) O dX12_changed_84 rfl 0 rfl ?_
    refine J.imul (q := 87) O dX12_changed_86 rfl ?_
    refine J.iload_n (q := 88) O dX12_changed_87 rfl 1 rfl ?_
    refine J.icmp_le (q := 91) (tgt := 95) O dX12_changed_88 rfl (by decide) (fun z4 => ?_) (fun z4 => ?_)
    · replace h := h.1 z4
      exact J.sub [] rfl (j_X12_changed_b95 hG O hR h)
    · replace h := h.2 z4
      refine J.iconst (q := 92) (v := (1 : Int32)) O dX12_changed_91 rfl rfl ?_
      refine J.goto (q := 96) O dX12_changed_92 (by decide) ?_
      exact J.sub [] rfl (j_X12_changed_b96 hG O hR h)
set_option maxHeartbeats 4000000 in
set_option maxRecDepth 20000 in
theorem c_X12_changed {l : Launch} {G : GX} (hG : Gd G) {a1 : Int32} {a2 : Int32} {a3 : Int32} {M : Mem} {K : Int32 → Mem → Prop} (h : f_X12_changed a1 a2 a3 M K) : CI l G yX12_changed cX12_changed 6 (some .int) 3 [.ref (ad G 287), .int a1, .int a2, .int a3] M K := by
  unfold f_X12_changed at h
  refine CI.mk hG (by decide) [(0, .ref (ad G 287)), (1, .int a1), (2, .int a2), (3, .int a3)] rfl (Nat.le_of_ble_eq_true rfl) (fun X O hlX hR => ?_)
  subst hlX
  refine J.iload_n (q := 1) O dX12_changed_0 rfl 1 rfl ?_
  refine J.callSI (q := 4) [.int a1] [] [.int a1] rfl O dX12_changed_1 rfl (c_X12_isPiece hG h) wd_9_38 mw_X12_isPiece rfl (by decide) (Nat.le_of_ble_eq_true rfl) (fun v5 M5 h => ?_)
  refine J.if_ne (q := 7) (tgt := 13) O dX12_changed_4 rfl (by decide) (fun z6 => ?_) (fun z6 => ?_)
  · replace h := h.1 z6
    refine J.iload_n (q := 14) O dX12_changed_13 rfl 2 rfl ?_
    refine J.iconst (q := 15) (v := (1 : Int32)) O dX12_changed_14 rfl rfl ?_
    refine J.icmp_lt (q := 18) (tgt := 22) O dX12_changed_15 rfl (by decide) (fun z7 => ?_) (fun z7 => ?_)
    · replace h := h.1 z7
      exact J.sub [0] rfl (j_X12_changed_b22 hG O hR h)
    · replace h := h.2 z7
      refine J.iload_n (q := 19) O dX12_changed_18 rfl 3 rfl ?_
      refine J.if_ge (q := 22) (tgt := 29) O dX12_changed_19 rfl (by decide) (fun z8 => ?_) (fun z8 => ?_)
      · replace h := h.1 z8
        refine J.iload_n (q := 30) O dX12_changed_29 rfl 2 rfl ?_
        refine J.sipush (q := 33) (v := (999 : Int32)) O dX12_changed_30 rfl rfl ?_
        refine J.icmp_gt (q := 36) (tgt := 43) O dX12_changed_33 rfl (by decide) (fun z9 => ?_) (fun z9 => ?_)
        · replace h := h.1 z9
          exact J.sub [0] rfl (j_X12_changed_b43 hG O hR h)
        · replace h := h.2 z9
          refine J.iload_n (q := 37) O dX12_changed_36 rfl 3 rfl ?_
          refine J.sipush (q := 40) (v := (1000 : Int32)) O dX12_changed_37 rfl rfl ?_
          refine J.icmp_le (q := 43) (tgt := 50) O dX12_changed_40 rfl (by decide) (fun z10 => ?_) (fun z10 => ?_)
          · replace h := h.1 z10
            refine J.aload_n (q := 51) O dX12_changed_50 rfl 0 rfl ?_
            refine J.iload_n (q := 52) O dX12_changed_51 rfl 1 rfl ?_
            refine J.iload_n (q := 53) O dX12_changed_52 rfl 3 rfl ?_
            refine J.callVI (q := 56) [.int a1, .int a3] [] [.int a3, .int a1, .ref (ad G 287)] rfl O dX12_changed_53 rfl (c_X12_timeOf hG h) wd_9_45 mw_X12_timeOf io_287 rfl (by decide) (Nat.le_of_ble_eq_true rfl) (fun v11 M11 h => ?_)
            refine J.istore (q := 58) O dX12_changed_56 rfl [(4, .int v11), (0, .ref (ad G 287)), (1, .int a1), (2, .int a2), (3, .int a3)] (by decide) rfl ?_
            refine J.iload (q := 60) O dX12_changed_58 rfl 0 rfl ?_
            refine J.iload_n (q := 61) O dX12_changed_60 rfl 3 rfl ?_
            refine J.icmp_le (q := 64) (tgt := 71) O dX12_changed_61 rfl (by decide) (fun z12 => ?_) (fun z12 => ?_)
            · replace h := h.1 z12
              refine J.iload_n (q := 72) O dX12_changed_71 rfl 3 rfl ?_
              refine J.iload (q := 74) O dX12_changed_72 rfl 0 rfl ?_
              refine J.isub (q := 75) O dX12_changed_74 rfl ?_
              exact J.sub [3, 0] rfl (j_X12_changed_b75 hG O hR h)
            · replace h := h.2 z12
              refine J.iload (q := 66) O dX12_changed_64 rfl 0 rfl ?_
              refine J.iload_n (q := 67) O dX12_changed_66 rfl 3 rfl ?_
              refine J.isub (q := 68) O dX12_changed_67 rfl ?_
              refine J.goto (q := 75) O dX12_changed_68 (by decide) ?_
              exact J.sub [3, 0] rfl (j_X12_changed_b75 hG O hR h)
          · replace h := h.2 z10
            exact J.sub [0] rfl (j_X12_changed_b43 hG O hR h)
      · replace h := h.2 z8
        exact J.sub [0] rfl (j_X12_changed_b22 hG O hR h)
  · replace h := h.2 z6
    refine J.aload_n (q := 8) O dX12_changed_7 rfl 0 rfl ?_
    refine J.iconst (q := 9) (v := (-1 : Int32)) O dX12_changed_8 rfl rfl ?_
    refine J.callVI (q := 12) [.int (-1 : Int32)] [] [.int (-1 : Int32), .ref (ad G 287)] rfl O dX12_changed_9 rfl (c_X12_refuse hG h) wd_7_158 mw_X12_refuse io_287 rfl (by decide) (Nat.le_of_ble_eq_true rfl) (fun v13 M13 h => ?_)
    exact hR _ _ _ _ dX12_changed_12 h
set_option maxHeartbeats 4000000 in
set_option maxRecDepth 20000 in
theorem c_X12_weight {l : Launch} {G : GX} (hG : Gd G) {a1 : Int32} {a2 : Int32} {M : Mem} {K : Int32 → Mem → Prop} (h : f_X12_weight a1 a2 M K) : CI l G yX12_weight cX12_weight 4 (some .int) 2 [.ref (ad G 287), .int a1, .int a2] M K := by
  unfold f_X12_weight at h
  refine CI.mk hG (by decide) [(0, .ref (ad G 287)), (1, .int a1), (2, .int a2)] rfl (Nat.le_of_ble_eq_true rfl) (fun X O hlX hR => ?_)
  subst hlX
  refine J.iload_n (q := 1) O dX12_weight_0 rfl 1 rfl ?_
  refine J.iconst (q := 2) (v := (0 : Int32)) O dX12_weight_1 rfl rfl ?_
  refine J.iconst (q := 3) (v := (3 : Int32)) O dX12_weight_2 rfl rfl ?_
  refine J.callSI (q := 6) [.int a1, .int (0 : Int32), .int (3 : Int32)] [] [.int (3 : Int32), .int (0 : Int32), .int a1] rfl O dX12_weight_3 rfl (c_X12_in hG h) wd_7_181 mw_X12_in rfl (by decide) (Nat.le_of_ble_eq_true rfl) (fun v3 M3 h => ?_)
  refine J.if_ne (q := 9) (tgt := 16) O dX12_weight_6 rfl (by decide) (fun z4 => ?_) (fun z4 => ?_)
  · replace h := h.1 z4
    refine J.iload_n (q := 17) O dX12_weight_16 rfl 2 rfl ?_
    refine J.if_ge (q := 20) (tgt := 27) O dX12_weight_17 rfl (by decide) (fun z5 => ?_) (fun z5 => ?_)
    · replace h := h.1 z5
      refine J.iload_n (q := 28) O dX12_weight_27 rfl 2 rfl ?_
      refine J.bipush (q := 30) (v := (9 : Int32)) O dX12_weight_28 rfl rfl ?_
      refine J.icmp_le (q := 33) (tgt := 40) O dX12_weight_30 rfl (by decide) (fun z6 => ?_) (fun z6 => ?_)
      · replace h := h.1 z6
        refine J.aload_n (q := 41) O dX12_weight_40 rfl 0 rfl ?_
        refine J.getR (q := 44) (c' := 287) (ci := 12) (k := 95) (r := 360) O dX12_weight_41 rfl wd_6_167 (by decide) if_287_95 ?_
        refine J.iload_n (q := 45) O dX12_weight_44 rfl 1 rfl ?_
        obtain ⟨hv7, h⟩ := h
        refine J.iald (q := 46) (c' := 360) (j := a1.toNatClampNeg) (M3 360 a1.toNatClampNeg) rfl O dX12_weight_45 rfl ar_360 hv7 rfl ?_
        refine J.istore_n (q := 47) O dX12_weight_46 rfl [(3, .int (M3 360 a1.toNatClampNeg)), (0, .ref (ad G 287)), (1, .int a1), (2, .int a2)] (by decide) rfl ?_
        refine J.aload_n (q := 48) O dX12_weight_47 rfl 1 rfl ?_
        refine J.getR (q := 51) (c' := 287) (ci := 12) (k := 95) (r := 360) O dX12_weight_48 rfl wd_6_167 (by decide) if_287_95 ?_
        refine J.iload_n (q := 52) O dX12_weight_51 rfl 2 rfl ?_
        refine J.iload_n (q := 53) O dX12_weight_52 rfl 3 rfl ?_
        obtain ⟨hv8, h⟩ := h
        refine J.iast (q := 54) (c' := 360) (j := a1.toNatClampNeg) O dX12_weight_53 rfl ar_360 hv8 rfl ?_
        refine J.iload_n (q := 55) O dX12_weight_54 rfl 0 rfl ?_
        exact hR _ _ _ _ dX12_weight_55 h
      · replace h := h.2 z6
        refine J.aload_n (q := 34) O dX12_weight_33 rfl 0 rfl ?_
        refine J.bipush (q := 36) (v := (-6 : Int32)) O dX12_weight_34 rfl rfl ?_
        refine J.callVI (q := 39) [.int (-6 : Int32)] [] [.int (-6 : Int32), .ref (ad G 287)] rfl O dX12_weight_36 rfl (c_X12_refuse hG h) wd_7_158 mw_X12_refuse io_287 rfl (by decide) (Nat.le_of_ble_eq_true rfl) (fun v9 M9 h => ?_)
        exact hR _ _ _ _ dX12_weight_39 h
    · replace h := h.2 z5
      refine J.aload_n (q := 21) O dX12_weight_20 rfl 0 rfl ?_
      refine J.bipush (q := 23) (v := (-4 : Int32)) O dX12_weight_21 rfl rfl ?_
      refine J.callVI (q := 26) [.int (-4 : Int32)] [] [.int (-4 : Int32), .ref (ad G 287)] rfl O dX12_weight_23 rfl (c_X12_refuse hG h) wd_7_158 mw_X12_refuse io_287 rfl (by decide) (Nat.le_of_ble_eq_true rfl) (fun v10 M10 h => ?_)
      exact hR _ _ _ _ dX12_weight_26 h
  · replace h := h.2 z4
    refine J.aload_n (q := 10) O dX12_weight_9 rfl 0 rfl ?_
    refine J.bipush (q := 12) (v := (-2 : Int32)) O dX12_weight_10 rfl rfl ?_
    refine J.callVI (q := 15) [.int (-2 : Int32)] [] [.int (-2 : Int32), .ref (ad G 287)] rfl O dX12_weight_12 rfl (c_X12_refuse hG h) wd_7_158 mw_X12_refuse io_287 rfl (by decide) (Nat.le_of_ble_eq_true rfl) (fun v11 M11 h => ?_)
    exact hR _ _ _ _ dX12_weight_15 h
set_option maxHeartbeats 4000000 in
set_option maxRecDepth 20000 in
theorem j_X12_list_c10 {X : CX} {G : GX} {K : Int32 → Mem → Prop} (hG : Gd G) (O : Ok X G cX12_list 2 RX12 1) (hR : RetI X G cX12_list K) {a : Int32 × Mem} (h : Lp (fun (r10 : Int32 × Mem → Prop) a => f_X12_list_c10 K r10 a.1 a.2) a) : J X G a.2 10 [(0, .ref (ad G 287)), (1, .int a.1)] [] := by
  refine Lp.elim (P := fun a => J X G a.2 10 [(0, .ref (ad G 287)), (1, .int a.1)] []) ?_ h
  clear h
  intro r10 hr10 a h
  obtain ⟨x1, M⟩ := a
  unfold f_X12_list_c10 at h
  (try dsimp only at h ⊢)
  refine J.iload_n (q := 11) O dX12_list_10 rfl 1 rfl ?_
  refine J.bipush (q := 13) (v := (48 : Int32)) O dX12_list_11 rfl rfl ?_
  refine J.icmp_ge (q := 16) (tgt := 34) O dX12_list_13 rfl (by decide) (fun z3 => ?_) (fun z3 => ?_)
  · replace h := h.1 z3
    refine J.iconst (q := 35) (v := (1 : Int32)) O dX12_list_34 rfl rfl ?_
    exact hR _ _ _ _ dX12_list_35 h
  · replace h := h.2 z3
    refine J.aload_n (q := 17) O dX12_list_16 rfl 0 rfl ?_
    refine J.getR (q := 20) (c' := 287) (ci := 12) (k := 7) (r := 293) O dX12_list_17 rfl wd_6_79 (by decide) if_287_7 ?_
    refine J.iload_n (q := 21) O dX12_list_20 rfl 1 rfl ?_
    refine J.aload_n (q := 22) O dX12_list_21 rfl 0 rfl ?_
    refine J.getR (q := 25) (c' := 287) (ci := 12) (k := 6) (r := 292) O dX12_list_22 rfl wd_6_78 (by decide) if_287_6 ?_
    refine J.iload_n (q := 26) O dX12_list_25 rfl 1 rfl ?_
    obtain ⟨hv4, h⟩ := h
    refine J.iald (q := 27) (c' := 292) (j := x1.toNatClampNeg) (M 292 x1.toNatClampNeg) rfl O dX12_list_26 rfl ar_292 hv4 rfl ?_
    obtain ⟨hv5, h⟩ := h
    refine J.iast (q := 28) (c' := 293) (j := x1.toNatClampNeg) O dX12_list_27 rfl ar_293 hv5 rfl ?_
    refine J.iinc (q := 31) O dX12_list_28 rfl [(1, .int (x1 + (1 : Int32))), (0, .ref (ad G 287))] 1 rfl rfl (by decide) rfl ?_
    refine J.goto (q := 10) O dX12_list_31 (by decide) ?_
    exact J.sub [1, 0] rfl (hr10 _ h)
set_option maxHeartbeats 4000000 in
set_option maxRecDepth 20000 in
theorem c_X12_list {l : Launch} {G : GX} (hG : Gd G) {M : Mem} {K : Int32 → Mem → Prop} (h : f_X12_list  M K) : CI l G yX12_list cX12_list 2 (some .int) 1 [.ref (ad G 287)] M K := by
  unfold f_X12_list at h
  refine CI.mk hG (by decide) [(0, .ref (ad G 287))] rfl (Nat.le_of_ble_eq_true rfl) (fun X O hlX hR => ?_)
  subst hlX
  refine J.aload_n (q := 1) O dX12_list_0 rfl 0 rfl ?_
  refine J.aload_n (q := 2) O dX12_list_1 rfl 0 rfl ?_
  refine J.getI (q := 5) (c' := 287) (ci := 12) (k := 0) (M 287 0) rfl O dX12_list_2 rfl wd_6_72 (by decide) if_287_0 ?_
  refine J.putI (q := 8) (c' := 287) (ci := 12) (k := 96) O dX12_list_5 rfl wd_6_168 (by decide) if_287_96 rfl rfl ?_
  refine J.iconst (q := 9) (v := (0 : Int32)) O dX12_list_8 rfl rfl ?_
  refine J.istore_n (q := 10) O dX12_list_9 rfl [(1, .int (0 : Int32)), (0, .ref (ad G 287))] (by decide) rfl ?_
  exact J.sub [1, 0] rfl (j_X12_list_c10 hG O hR h)
set_option maxHeartbeats 4000000 in
set_option maxRecDepth 20000 in
theorem j_X12_right_b134 {X : CX} {G : GX} {K : Int32 → Mem → Prop} (hG : Gd G) (O : Ok X G cX12_right 5 RX12 3) (hR : RetI X G cX12_right K) {x4 : Int32} {s0 : Int32} {s1 : Int32} {M : Mem} (h : f_X12_right_b134 K x4 s0 s1 M) : J X G M 134 [(4, .int x4)] [.int s0, .int s1, .ref (ad G 293)] := by
  unfold f_X12_right_b134 at h
  obtain ⟨hv5, h⟩ := h
  refine J.iast (q := 135) (c' := 293) (j := s1.toNatClampNeg) O dX12_right_134 rfl ar_293 hv5 rfl ?_
  refine J.iload (q := 137) O dX12_right_135 rfl 0 rfl ?_
  exact hR _ _ _ _ dX12_right_137 h
set_option maxHeartbeats 4000000 in
set_option maxRecDepth 20000 in
theorem j_X12_right_b120 {X : CX} {G : GX} {K : Int32 → Mem → Prop} (hG : Gd G) (O : Ok X G cX12_right 5 RX12 3) (hR : RetI X G cX12_right K) {x3 : Int32} {x4 : Int32} {s0 : Int32} {M : Mem} (h : f_X12_right_b120 K x3 x4 s0 M) : J X G M 120 [(3, .int x3), (4, .int x4)] [.int s0, .ref (ad G 293)] := by
  unfold f_X12_right_b120 at h
  refine J.iload_n (q := 121) O dX12_right_120 rfl 0 rfl ?_
  refine J.goto (q := 134) O dX12_right_121 (by decide) ?_
  exact J.sub [1] rfl (j_X12_right_b134 hG O hR h)
set_option maxHeartbeats 4000000 in
set_option maxRecDepth 20000 in
theorem j_X12_right_b53 {X : CX} {G : GX} {K : Int32 → Mem → Prop} (hG : Gd G) (O : Ok X G cX12_right 5 RX12 3) (hR : RetI X G cX12_right K) {x1 : Int32} {x2 : Int32} {x3 : Int32} {s0 : Int32} {s1 : Int32} {M : Mem} (h : f_X12_right_b53 K x1 x2 x3 s0 s1 M) : J X G M 53 [(0, .ref (ad G 287)), (1, .int x1), (2, .int x2), (3, .int x3)] [.int s0, .int s1] := by
  unfold f_X12_right_b53 at h
  refine J.icmp_le (q := 56) (tgt := 63) O dX12_right_53 rfl (by decide) (fun z6 => ?_) (fun z6 => ?_)
  · replace h := h.1 z6
    refine J.aload_n (q := 64) O dX12_right_63 rfl 0 rfl ?_
    refine J.getR (q := 67) (c' := 287) (ci := 12) (k := 6) (r := 292) O dX12_right_64 rfl wd_6_78 (by decide) if_287_6 ?_
    refine J.iconst (q := 68) (v := (2 : Int32)) O dX12_right_67 rfl rfl ?_
    refine J.iload_n (q := 69) O dX12_right_68 rfl 1 rfl ?_
    refine J.imul (q := 70) O dX12_right_69 rfl ?_
    refine J.iload_n (q := 71) O dX12_right_70 rfl 2 rfl ?_
    refine J.iadd (q := 72) O dX12_right_71 rfl ?_
    obtain ⟨hv7, h⟩ := h
    refine J.iald (q := 73) (c' := 292) (j := (((2 : Int32) * x1) + x2).toNatClampNeg) (M 292 ((((2 : Int32) * x1) + x2).toNatClampNeg)) rfl O dX12_right_72 rfl ar_292 hv7 rfl ?_
    refine J.istore (q := 75) O dX12_right_73 rfl [(4, .int (M 292 ((((2 : Int32) * x1) + x2).toNatClampNeg))), (0, .ref (ad G 287)), (1, .int x1), (2, .int x2), (3, .int x3)] (by decide) rfl ?_
    refine J.aload_n (q := 76) O dX12_right_75 rfl 1 rfl ?_
    refine J.getR (q := 79) (c' := 287) (ci := 12) (k := 6) (r := 292) O dX12_right_76 rfl wd_6_78 (by decide) if_287_6 ?_
    refine J.iconst (q := 80) (v := (2 : Int32)) O dX12_right_79 rfl rfl ?_
    refine J.iload_n (q := 81) O dX12_right_80 rfl 2 rfl ?_
    refine J.imul (q := 82) O dX12_right_81 rfl ?_
    refine J.iload_n (q := 83) O dX12_right_82 rfl 3 rfl ?_
    refine J.iadd (q := 84) O dX12_right_83 rfl ?_
    refine J.iload_n (q := 85) O dX12_right_84 rfl 4 rfl ?_
    obtain ⟨hv8, h⟩ := h
    refine J.iast (q := 86) (c' := 292) (j := (((2 : Int32) * x1) + x2).toNatClampNeg) O dX12_right_85 rfl ar_292 hv8 rfl ?_
    refine J.aload_n (q := 87) O dX12_right_86 rfl 1 rfl ?_
    refine J.getR (q := 90) (c' := 287) (ci := 12) (k := 7) (r := 293) O dX12_right_87 rfl wd_6_79 (by decide) if_287_7 ?_
    refine J.iconst (q := 91) (v := (2 : Int32)) O dX12_right_90 rfl rfl ?_
    refine J.iload_n (q := 92) O dX12_right_91 rfl 2 rfl ?_
    refine J.imul (q := 93) O dX12_right_92 rfl ?_
    refine J.iload_n (q := 94) O dX12_right_93 rfl 3 rfl ?_
    refine J.iadd (q := 95) O dX12_right_94 rfl ?_
    refine J.aload_n (q := 96) O dX12_right_95 rfl 1 rfl ?_
    refine J.getI (q := 99) (c' := 287) (ci := 12) (k := 96) (M 287 96) rfl O dX12_right_96 rfl wd_6_168 (by decide) if_287_96 ?_
    refine J.if_lt (q := 102) (tgt := 120) O dX12_right_99 rfl (by decide) (fun z9 => ?_) (fun z9 => ?_)
    · replace h := h.1 z9
      exact J.sub [4, 0] rfl (j_X12_right_b120 hG O hR h)
    · replace h := h.2 z9
      refine J.aload_n (q := 103) O dX12_right_102 rfl 1 rfl ?_
      refine J.getI (q := 106) (c' := 287) (ci := 12) (k := 0) (M 287 0) rfl O dX12_right_103 rfl wd_6_72 (by decide) if_287_0 ?_
      refine J.aload_n (q := 107) O dX12_right_106 rfl 1 rfl ?_
      refine J.getI (q := 110) (c' := 287) (ci := 12) (k := 96) (M 287 96) rfl O dX12_right_107 rfl wd_6_168 (by decide) if_287_96 ?_
      refine J.isub (q := 111) O dX12_right_110 rfl ?_
      refine J.aload_n (q := 112) O dX12_right_111 rfl 1 rfl ?_
      refine J.getR (q := 115) (c' := 287) (ci := 12) (k := 51) (r := 325) O dX12_right_112 rfl wd_6_123 (by decide) if_287_51 ?_
      refine J.iconst (q := 116) (v := (2 : Int32)) O dX12_right_115 rfl rfl ?_
      refine J.iald (q := 117) (c' := 325) (j := 2) (M 325 2) rfl O dX12_right_116 rfl ar_325 (vin_lit (by decide)) (by decide) ?_
      refine J.icmp_gt (q := 120) (tgt := 124) O dX12_right_117 rfl (by decide) (fun z10 => ?_) (fun z10 => ?_)
      · replace h := h.1 z10
        refine J.aload_n (q := 125) O dX12_right_124 rfl 1 rfl ?_
        refine J.getR (q := 128) (c' := 287) (ci := 12) (k := 7) (r := 293) O dX12_right_125 rfl wd_6_79 (by decide) if_287_7 ?_
        refine J.iconst (q := 129) (v := (2 : Int32)) O dX12_right_128 rfl rfl ?_
        refine J.iload_n (q := 130) O dX12_right_129 rfl 2 rfl ?_
        refine J.imul (q := 131) O dX12_right_130 rfl ?_
        refine J.iload_n (q := 132) O dX12_right_131 rfl 3 rfl ?_
        refine J.iadd (q := 133) O dX12_right_132 rfl ?_
        obtain ⟨hv11, h⟩ := h
        refine J.iald (q := 134) (c' := 293) (j := (((2 : Int32) * x1) + x2).toNatClampNeg) (M 293 ((((2 : Int32) * x1) + x2).toNatClampNeg)) rfl O dX12_right_133 rfl ar_293 hv11 rfl ?_
        exact J.sub [0] rfl (j_X12_right_b134 hG O hR h)
      · replace h := h.2 z10
        exact J.sub [4, 0] rfl (j_X12_right_b120 hG O hR h)
  · replace h := h.2 z6
    refine J.aload_n (q := 57) O dX12_right_56 rfl 0 rfl ?_
    refine J.bipush (q := 59) (v := (-6 : Int32)) O dX12_right_57 rfl rfl ?_
    refine J.callVI (q := 62) [.int (-6 : Int32)] [] [.int (-6 : Int32), .ref (ad G 287)] rfl O dX12_right_59 rfl (c_X12_refuse hG h) wd_7_158 mw_X12_refuse io_287 rfl (by decide) (Nat.le_of_ble_eq_true rfl) (fun v12 M12 h => ?_)
    exact hR _ _ _ _ dX12_right_62 h
set_option maxHeartbeats 4000000 in
set_option maxRecDepth 20000 in
theorem c_X12_right {l : Launch} {G : GX} (hG : Gd G) {a1 : Int32} {a2 : Int32} {a3 : Int32} {M : Mem} {K : Int32 → Mem → Prop} (h : f_X12_right a1 a2 a3 M K) : CI l G yX12_right cX12_right 5 (some .int) 3 [.ref (ad G 287), .int a1, .int a2, .int a3] M K := by
  unfold f_X12_right at h
  refine CI.mk hG (by decide) [(0, .ref (ad G 287)), (1, .int a1), (2, .int a2), (3, .int a3)] rfl (Nat.le_of_ble_eq_true rfl) (fun X O hlX hR => ?_)
  subst hlX
  refine J.aload_n (q := 1) O dX12_right_0 rfl 0 rfl ?_
  refine J.iload_n (q := 2) O dX12_right_1 rfl 1 rfl ?_
  refine J.callVI (q := 5) [.int a1] [] [.int a1, .ref (ad G 287)] rfl O dX12_right_2 rfl (c_X12_isPerson hG h) wd_7_188 mw_X12_isPerson io_287 rfl (by decide) (Nat.le_of_ble_eq_true rfl) (fun v13 M13 h => ?_)
  refine J.if_ne (q := 8) (tgt := 14) O dX12_right_5 rfl (by decide) (fun z14 => ?_) (fun z14 => ?_)
  · replace h := h.1 z14
    refine J.iload_n (q := 15) O dX12_right_14 rfl 2 rfl ?_
    refine J.iconst (q := 16) (v := (0 : Int32)) O dX12_right_15 rfl rfl ?_
    refine J.iconst (q := 17) (v := (1 : Int32)) O dX12_right_16 rfl rfl ?_
    refine J.callSI (q := 20) [.int a2, .int (0 : Int32), .int (1 : Int32)] [] [.int (1 : Int32), .int (0 : Int32), .int a2] rfl O dX12_right_17 rfl (c_X12_in hG h) wd_7_181 mw_X12_in rfl (by decide) (Nat.le_of_ble_eq_true rfl) (fun v15 M15 h => ?_)
    refine J.if_ne (q := 23) (tgt := 30) O dX12_right_20 rfl (by decide) (fun z16 => ?_) (fun z16 => ?_)
    · replace h := h.1 z16
      refine J.iload_n (q := 31) O dX12_right_30 rfl 3 rfl ?_
      refine J.if_ge (q := 34) (tgt := 41) O dX12_right_31 rfl (by decide) (fun z17 => ?_) (fun z17 => ?_)
      · replace h := h.1 z17
        refine J.iload_n (q := 42) O dX12_right_41 rfl 3 rfl ?_
        refine J.iload_n (q := 43) O dX12_right_42 rfl 2 rfl ?_
        refine J.if_ne (q := 46) (tgt := 51) O dX12_right_43 rfl (by decide) (fun z18 => ?_) (fun z18 => ?_)
        · replace h := h.1 z18
          refine J.bipush (q := 53) (v := (100 : Int32)) O dX12_right_51 rfl rfl ?_
          exact J.sub [0, 1, 2, 3] rfl (j_X12_right_b53 hG O hR h)
        · replace h := h.2 z18
          refine J.bipush (q := 48) (v := (9 : Int32)) O dX12_right_46 rfl rfl ?_
          refine J.goto (q := 53) O dX12_right_48 (by decide) ?_
          exact J.sub [0, 1, 2, 3] rfl (j_X12_right_b53 hG O hR h)
      · replace h := h.2 z17
        refine J.aload_n (q := 35) O dX12_right_34 rfl 0 rfl ?_
        refine J.bipush (q := 37) (v := (-4 : Int32)) O dX12_right_35 rfl rfl ?_
        refine J.callVI (q := 40) [.int (-4 : Int32)] [] [.int (-4 : Int32), .ref (ad G 287)] rfl O dX12_right_37 rfl (c_X12_refuse hG h) wd_7_158 mw_X12_refuse io_287 rfl (by decide) (Nat.le_of_ble_eq_true rfl) (fun v19 M19 h => ?_)
        exact hR _ _ _ _ dX12_right_40 h
    · replace h := h.2 z16
      refine J.aload_n (q := 24) O dX12_right_23 rfl 0 rfl ?_
      refine J.bipush (q := 26) (v := (-2 : Int32)) O dX12_right_24 rfl rfl ?_
      refine J.callVI (q := 29) [.int (-2 : Int32)] [] [.int (-2 : Int32), .ref (ad G 287)] rfl O dX12_right_26 rfl (c_X12_refuse hG h) wd_7_158 mw_X12_refuse io_287 rfl (by decide) (Nat.le_of_ble_eq_true rfl) (fun v20 M20 h => ?_)
      exact hR _ _ _ _ dX12_right_29 h
  · replace h := h.2 z14
    refine J.aload_n (q := 9) O dX12_right_8 rfl 0 rfl ?_
    refine J.iconst (q := 10) (v := (-1 : Int32)) O dX12_right_9 rfl rfl ?_
    refine J.callVI (q := 13) [.int (-1 : Int32)] [] [.int (-1 : Int32), .ref (ad G 287)] rfl O dX12_right_10 rfl (c_X12_refuse hG h) wd_7_158 mw_X12_refuse io_287 rfl (by decide) (Nat.le_of_ble_eq_true rfl) (fun v21 M21 h => ?_)
    exact hR _ _ _ _ dX12_right_13 h
set_option maxHeartbeats 4000000 in
set_option maxRecDepth 20000 in
theorem c_X12_pointsOf {l : Launch} {G : GX} (hG : Gd G) {a1 : Int32} {M : Mem} {K : Int32 → Mem → Prop} (h : f_X12_pointsOf a1 M K) : CI l G yX12_pointsOf cX12_pointsOf 4 (some .int) 1 [.ref (ad G 287), .int a1] M K := by
  unfold f_X12_pointsOf at h
  refine CI.mk hG (by decide) [(0, .ref (ad G 287)), (1, .int a1)] rfl (Nat.le_of_ble_eq_true rfl) (fun X O hlX hR => ?_)
  subst hlX
  refine J.aload_n (q := 1) O dX12_pointsOf_0 rfl 0 rfl ?_
  refine J.getI (q := 4) (c' := 287) (ci := 12) (k := 0) (M 287 0) rfl O dX12_pointsOf_1 rfl wd_6_72 (by decide) if_287_0 ?_
  refine J.aload_n (q := 5) O dX12_pointsOf_4 rfl 0 rfl ?_
  refine J.getR (q := 8) (c' := 287) (ci := 12) (k := 4) (r := 290) O dX12_pointsOf_5 rfl wd_6_76 (by decide) if_287_4 ?_
  refine J.iload_n (q := 9) O dX12_pointsOf_8 rfl 1 rfl ?_
  obtain ⟨hv5, h⟩ := h
  refine J.iald (q := 10) (c' := 290) (j := a1.toNatClampNeg) (M 290 a1.toNatClampNeg) rfl O dX12_pointsOf_9 rfl ar_290 hv5 rfl ?_
  refine J.isub (q := 11) O dX12_pointsOf_10 rfl ?_
  refine J.sipush (q := 14) (v := (365 : Int32)) O dX12_pointsOf_11 rfl rfl ?_
  refine J.idiv (q := 15) O dX12_pointsOf_14 rfl (by decide) ?_
  refine J.istore_n (q := 16) O dX12_pointsOf_15 rfl [(2, .int (((M 287 0) - (M 290 a1.toNatClampNeg)) / (365 : Int32))), (0, .ref (ad G 287)), (1, .int a1)] (by decide) rfl ?_
  refine J.aload_n (q := 17) O dX12_pointsOf_16 rfl 1 rfl ?_
  refine J.getI (q := 20) (c' := 287) (ci := 12) (k := 0) (M 287 0) rfl O dX12_pointsOf_17 rfl wd_6_72 (by decide) if_287_0 ?_
  refine J.aload_n (q := 21) O dX12_pointsOf_20 rfl 1 rfl ?_
  refine J.getR (q := 24) (c' := 287) (ci := 12) (k := 5) (r := 291) O dX12_pointsOf_21 rfl wd_6_77 (by decide) if_287_5 ?_
  refine J.iload_n (q := 25) O dX12_pointsOf_24 rfl 2 rfl ?_
  obtain ⟨hv6, h⟩ := h
  refine J.iald (q := 26) (c' := 291) (j := a1.toNatClampNeg) (M 291 a1.toNatClampNeg) rfl O dX12_pointsOf_25 rfl ar_291 hv6 rfl ?_
  refine J.isub (q := 27) O dX12_pointsOf_26 rfl ?_
  refine J.sipush (q := 30) (v := (365 : Int32)) O dX12_pointsOf_27 rfl rfl ?_
  refine J.idiv (q := 31) O dX12_pointsOf_30 rfl (by decide) ?_
  refine J.istore_n (q := 32) O dX12_pointsOf_31 rfl [(3, .int (((M 287 0) - (M 291 a1.toNatClampNeg)) / (365 : Int32))), (2, .int (((M 287 0) - (M 290 a1.toNatClampNeg)) / (365 : Int32))), (0, .ref (ad G 287)), (1, .int a1)] (by decide) rfl ?_
  refine J.aload_n (q := 33) O dX12_pointsOf_32 rfl 2 rfl ?_
  refine J.getR (q := 36) (c' := 287) (ci := 12) (k := 95) (r := 360) O dX12_pointsOf_33 rfl wd_6_167 (by decide) if_287_95 ?_
  refine J.iconst (q := 37) (v := (0 : Int32)) O dX12_pointsOf_36 rfl rfl ?_
  refine J.iald (q := 38) (c' := 360) (j := 0) (M 360 0) rfl O dX12_pointsOf_37 rfl ar_360 (vin_lit (by decide)) (by decide) ?_
  refine J.iload_n (q := 39) O dX12_pointsOf_38 rfl 1 rfl ?_
  refine J.imul (q := 40) O dX12_pointsOf_39 rfl ?_
  refine J.aload_n (q := 41) O dX12_pointsOf_40 rfl 2 rfl ?_
  refine J.getR (q := 44) (c' := 287) (ci := 12) (k := 95) (r := 360) O dX12_pointsOf_41 rfl wd_6_167 (by decide) if_287_95 ?_
  refine J.iconst (q := 45) (v := (1 : Int32)) O dX12_pointsOf_44 rfl rfl ?_
  refine J.iald (q := 46) (c' := 360) (j := 1) (M 360 1) rfl O dX12_pointsOf_45 rfl ar_360 (vin_lit (by decide)) (by decide) ?_
  refine J.iload_n (q := 47) O dX12_pointsOf_46 rfl 0 rfl ?_
  refine J.imul (q := 48) O dX12_pointsOf_47 rfl ?_
  refine J.iadd (q := 49) O dX12_pointsOf_48 rfl ?_
  refine J.aload_n (q := 50) O dX12_pointsOf_49 rfl 2 rfl ?_
  refine J.getR (q := 53) (c' := 287) (ci := 12) (k := 95) (r := 360) O dX12_pointsOf_50 rfl wd_6_167 (by decide) if_287_95 ?_
  refine J.iconst (q := 54) (v := (2 : Int32)) O dX12_pointsOf_53 rfl rfl ?_
  refine J.iald (q := 55) (c' := 360) (j := 2) (M 360 2) rfl O dX12_pointsOf_54 rfl ar_360 (vin_lit (by decide)) (by decide) ?_
  refine J.aload_n (q := 56) O dX12_pointsOf_55 rfl 2 rfl ?_
  refine J.getR (q := 59) (c' := 287) (ci := 12) (k := 7) (r := 293) O dX12_pointsOf_56 rfl wd_6_79 (by decide) if_287_7 ?_
  refine J.iconst (q := 60) (v := (2 : Int32)) O dX12_pointsOf_59 rfl rfl ?_
  refine J.iload_n (q := 61) O dX12_pointsOf_60 rfl 3 rfl ?_
  refine J.imul (q := 62) O dX12_pointsOf_61 rfl ?_
  obtain ⟨hv7, h⟩ := h
  refine J.iald (q := 63) (c' := 293) (j := ((2 : Int32) * a1).toNatClampNeg) (M 293 (((2 : Int32) * a1).toNatClampNeg)) rfl O dX12_pointsOf_62 rfl ar_293 hv7 rfl ?_
  refine J.imul (q := 64) O dX12_pointsOf_63 rfl ?_
  refine J.iadd (q := 65) O dX12_pointsOf_64 rfl ?_
  refine J.aload_n (q := 66) O dX12_pointsOf_65 rfl 2 rfl ?_
  refine J.getR (q := 69) (c' := 287) (ci := 12) (k := 95) (r := 360) O dX12_pointsOf_66 rfl wd_6_167 (by decide) if_287_95 ?_
  refine J.iconst (q := 70) (v := (3 : Int32)) O dX12_pointsOf_69 rfl rfl ?_
  refine J.iald (q := 71) (c' := 360) (j := 3) (M 360 3) rfl O dX12_pointsOf_70 rfl ar_360 (vin_lit (by decide)) (by decide) ?_
  refine J.aload_n (q := 72) O dX12_pointsOf_71 rfl 2 rfl ?_
  refine J.getR (q := 75) (c' := 287) (ci := 12) (k := 7) (r := 293) O dX12_pointsOf_72 rfl wd_6_79 (by decide) if_287_7 ?_
  refine J.iconst (q := 76) (v := (2 : Int32)) O dX12_pointsOf_75 rfl rfl ?_
  refine J.iload_n (q := 77) O dX12_pointsOf_76 rfl 3 rfl ?_
  refine J.imul (q := 78) O dX12_pointsOf_77 rfl ?_
  refine J.iconst (q := 79) (v := (1 : Int32)) O dX12_pointsOf_78 rfl rfl ?_
  refine J.iadd (q := 80) O dX12_pointsOf_79 rfl ?_
  obtain ⟨hv8, h⟩ := h
  refine J.iald (q := 81) (c' := 293) (j := (((2 : Int32) * a1) + (1 : Int32)).toNatClampNeg) (M 293 ((((2 : Int32) * a1) + (1 : Int32)).toNatClampNeg)) rfl O dX12_pointsOf_80 rfl ar_293 hv8 rfl ?_
  refine J.imul (q := 82) O dX12_pointsOf_81 rfl ?_
  refine J.iadd (q := 83) O dX12_pointsOf_82 rfl ?_
  exact hR _ _ _ _ dX12_pointsOf_83 h
set_option maxHeartbeats 4000000 in
set_option maxRecDepth 20000 in
theorem j_X12_points_b21 {X : CX} {G : GX} {K : Int32 → Mem → Prop} (hG : Gd G) (O : Ok X G cX12_points 2 RX12 3) (hR : RetI X G cX12_points K) {s0 : Int32} {M : Mem} (h : f_X12_points_b21 K s0 M) : J X G M 21 [] [.int s0] := by
  unfold f_X12_points_b21 at h
  exact hR _ _ _ _ dX12_points_21 h
set_option maxHeartbeats 4000000 in
set_option maxRecDepth 20000 in
theorem c_X12_points {l : Launch} {G : GX} (hG : Gd G) {a1 : Int32} {M : Mem} {K : Int32 → Mem → Prop} (h : f_X12_points a1 M K) : CI l G yX12_points cX12_points 2 (some .int) 3 [.ref (ad G 287), .int a1] M K := by
  unfold f_X12_points at h
  refine CI.mk hG (by decide) [(0, .ref (ad G 287)), (1, .int a1)] rfl (Nat.le_of_ble_eq_true rfl) (fun X O hlX hR => ?_)
  subst hlX
  refine J.aload_n (q := 1) O dX12_points_0 rfl 0 rfl ?_
  refine J.iload_n (q := 2) O dX12_points_1 rfl 1 rfl ?_
  refine J.callVI (q := 5) [.int a1] [] [.int a1, .ref (ad G 287)] rfl O dX12_points_2 rfl (c_X12_isPerson hG h) wd_7_188 mw_X12_isPerson io_287 rfl (by decide) (Nat.le_of_ble_eq_true rfl) (fun v1 M1 h => ?_)
  refine J.if_eq (q := 8) (tgt := 16) O dX12_points_5 rfl (by decide) (fun z2 => ?_) (fun z2 => ?_)
  · replace h := h.1 z2
    refine J.aload_n (q := 17) O dX12_points_16 rfl 0 rfl ?_
    refine J.iconst (q := 18) (v := (-1 : Int32)) O dX12_points_17 rfl rfl ?_
    refine J.callVI (q := 21) [.int (-1 : Int32)] [] [.int (-1 : Int32), .ref (ad G 287)] rfl O dX12_points_18 rfl (c_X12_refuse hG h) wd_7_158 mw_X12_refuse io_287 rfl (by decide) (Nat.le_of_ble_eq_true rfl) (fun v3 M3 h => ?_)
    exact J.sub [] rfl (j_X12_points_b21 hG O hR h)
  · replace h := h.2 z2
    refine J.aload_n (q := 9) O dX12_points_8 rfl 0 rfl ?_
    refine J.iload_n (q := 10) O dX12_points_9 rfl 1 rfl ?_
    refine J.callVI (q := 13) [.int a1] [] [.int a1, .ref (ad G 287)] rfl O dX12_points_10 rfl (c_X12_pointsOf hG h) wd_9_69 mw_X12_pointsOf io_287 rfl (by decide) (Nat.le_of_ble_eq_true rfl) (fun v4 M4 h => ?_)
    refine J.goto (q := 21) O dX12_points_13 (by decide) ?_
    exact J.sub [] rfl (j_X12_points_b21 hG O hR h)
set_option maxHeartbeats 4000000 in
set_option maxRecDepth 20000 in
theorem j_X12_goesAhead_b31 {X : CX} {G : GX} {K : Int32 → Mem → Prop} (hG : Gd G) (O : Ok X G cX12_goesAhead 3 RX12 2) (hR : RetZ X G cX12_goesAhead K) {s0 : Int32} {M : Mem} (h : f_X12_goesAhead_b31 K s0 M) : J X G M 31 [] [.int s0] := by
  unfold f_X12_goesAhead_b31 at h
  exact hR _ _ _ _ dX12_goesAhead_31 h.1 h.2
set_option maxHeartbeats 4000000 in
set_option maxRecDepth 20000 in
theorem j_X12_goesAhead_b80 {X : CX} {G : GX} {K : Int32 → Mem → Prop} (hG : Gd G) (O : Ok X G cX12_goesAhead 3 RX12 2) (hR : RetZ X G cX12_goesAhead K) {s0 : Int32} {M : Mem} (h : f_X12_goesAhead_b80 K s0 M) : J X G M 80 [] [.int s0] := by
  unfold f_X12_goesAhead_b80 at h
  exact hR _ _ _ _ dX12_goesAhead_80 h.1 h.2
set_option maxHeartbeats 4000000 in
set_option maxRecDepth 20000 in
theorem c_X12_goesAhead {l : Launch} {G : GX} (hG : Gd G) {a1 : Int32} {a2 : Int32} {M : Mem} {K : Int32 → Mem → Prop} (h : f_X12_goesAhead a1 a2 M K) : CI l G yX12_goesAhead cX12_goesAhead 3 (some .boolean) 2 [.ref (ad G 287), .int a1, .int a2] M K := by
  unfold f_X12_goesAhead at h
  refine CZ.mk hG (by decide) [(0, .ref (ad G 287)), (1, .int a1), (2, .int a2)] rfl (Nat.le_of_ble_eq_true rfl) (fun X O hlX hR => ?_)
  subst hlX
  refine J.aload_n (q := 1) O dX12_goesAhead_0 rfl 0 rfl ?_
  refine J.iload_n (q := 2) O dX12_goesAhead_1 rfl 1 rfl ?_
  refine J.callVI (q := 5) [.int a1] [] [.int a1, .ref (ad G 287)] rfl O dX12_goesAhead_2 rfl (c_X12_pointsOf hG h) wd_9_69 mw_X12_pointsOf io_287 rfl (by decide) (Nat.le_of_ble_eq_true rfl) (fun v7 M7 h => ?_)
  refine J.aload_n (q := 6) O dX12_goesAhead_5 rfl 0 rfl ?_
  refine J.iload_n (q := 7) O dX12_goesAhead_6 rfl 2 rfl ?_
  refine J.callVI (q := 10) [.int a2] [.int v7] [.int a2, .ref (ad G 287), .int v7] rfl O dX12_goesAhead_7 rfl (c_X12_pointsOf hG h) wd_9_69 mw_X12_pointsOf io_287 rfl (by decide) (Nat.le_of_ble_eq_true rfl) (fun v8 M8 h => ?_)
  refine J.icmp_eq (q := 13) (tgt := 32) O dX12_goesAhead_10 rfl (by decide) (fun z9 => ?_) (fun z9 => ?_)
  · replace h := h.1 z9
    refine J.aload_n (q := 33) O dX12_goesAhead_32 rfl 0 rfl ?_
    refine J.getR (q := 36) (c' := 287) (ci := 12) (k := 5) (r := 291) O dX12_goesAhead_33 rfl wd_6_77 (by decide) if_287_5 ?_
    refine J.iload_n (q := 37) O dX12_goesAhead_36 rfl 1 rfl ?_
    obtain ⟨hv10, h⟩ := h
    refine J.iald (q := 38) (c' := 291) (j := a1.toNatClampNeg) (M8 291 a1.toNatClampNeg) rfl O dX12_goesAhead_37 rfl ar_291 hv10 rfl ?_
    refine J.aload_n (q := 39) O dX12_goesAhead_38 rfl 0 rfl ?_
    refine J.getR (q := 42) (c' := 287) (ci := 12) (k := 5) (r := 291) O dX12_goesAhead_39 rfl wd_6_77 (by decide) if_287_5 ?_
    refine J.iload_n (q := 43) O dX12_goesAhead_42 rfl 2 rfl ?_
    obtain ⟨hv11, h⟩ := h
    refine J.iald (q := 44) (c' := 291) (j := a2.toNatClampNeg) (M8 291 a2.toNatClampNeg) rfl O dX12_goesAhead_43 rfl ar_291 hv11 rfl ?_
    refine J.icmp_eq (q := 47) (tgt := 70) O dX12_goesAhead_44 rfl (by decide) (fun z12 => ?_) (fun z12 => ?_)
    · replace h := h.1 z12
      refine J.iload_n (q := 71) O dX12_goesAhead_70 rfl 1 rfl ?_
      refine J.iload_n (q := 72) O dX12_goesAhead_71 rfl 2 rfl ?_
      refine J.icmp_le (q := 75) (tgt := 79) O dX12_goesAhead_72 rfl (by decide) (fun z13 => ?_) (fun z13 => ?_)
      · replace h := h.1 z13
        refine J.iconst (q := 80) (v := (0 : Int32)) O dX12_goesAhead_79 rfl rfl ?_
        exact J.sub [] rfl (j_X12_goesAhead_b80 hG O hR h)
      · replace h := h.2 z13
        refine J.iconst (q := 76) (v := (1 : Int32)) O dX12_goesAhead_75 rfl rfl ?_
        refine J.goto (q := 80) O dX12_goesAhead_76 (by decide) ?_
        exact J.sub [] rfl (j_X12_goesAhead_b80 hG O hR h)
    · replace h := h.2 z12
      refine J.aload_n (q := 48) O dX12_goesAhead_47 rfl 0 rfl ?_
      refine J.getR (q := 51) (c' := 287) (ci := 12) (k := 5) (r := 291) O dX12_goesAhead_48 rfl wd_6_77 (by decide) if_287_5 ?_
      refine J.iload_n (q := 52) O dX12_goesAhead_51 rfl 1 rfl ?_
      obtain ⟨hv14, h⟩ := h
      refine J.iald (q := 53) (c' := 291) (j := a1.toNatClampNeg) (M8 291 a1.toNatClampNeg) rfl O dX12_goesAhead_52 rfl ar_291 hv14 rfl ?_
      refine J.aload_n (q := 54) O dX12_goesAhead_53 rfl 0 rfl ?_
      refine J.getR (q := 57) (c' := 287) (ci := 12) (k := 5) (r := 291) O dX12_goesAhead_54 rfl wd_6_77 (by decide) if_287_5 ?_
      refine J.iload_n (q := 58) O dX12_goesAhead_57 rfl 2 rfl ?_
      obtain ⟨hv15, h⟩ := h
      refine J.iald (q := 59) (c' := 291) (j := a2.toNatClampNeg) (M8 291 a2.toNatClampNeg) rfl O dX12_goesAhead_58 rfl ar_291 hv15 rfl ?_
      refine J.icmp_le (q := 62) (tgt := 66) O dX12_goesAhead_59 rfl (by decide) (fun z16 => ?_) (fun z16 => ?_)
      · replace h := h.1 z16
        refine J.iconst (q := 67) (v := (0 : Int32)) O dX12_goesAhead_66 rfl rfl ?_
        refine J.goto (q := 80) O dX12_goesAhead_67 (by decide) ?_
        exact J.sub [] rfl (j_X12_goesAhead_b80 hG O hR h)
      · replace h := h.2 z16
        refine J.iconst (q := 63) (v := (1 : Int32)) O dX12_goesAhead_62 rfl rfl ?_
        refine J.goto (q := 80) O dX12_goesAhead_63 (by decide) ?_
        exact J.sub [] rfl (j_X12_goesAhead_b80 hG O hR h)
  · replace h := h.2 z9
    refine J.aload_n (q := 14) O dX12_goesAhead_13 rfl 0 rfl ?_
    refine J.iload_n (q := 15) O dX12_goesAhead_14 rfl 1 rfl ?_
    refine J.callVI (q := 18) [.int a1] [] [.int a1, .ref (ad G 287)] rfl O dX12_goesAhead_15 rfl (c_X12_pointsOf hG h) wd_9_69 mw_X12_pointsOf io_287 rfl (by decide) (Nat.le_of_ble_eq_true rfl) (fun v17 M17 h => ?_)
    refine J.aload_n (q := 19) O dX12_goesAhead_18 rfl 0 rfl ?_
    refine J.iload_n (q := 20) O dX12_goesAhead_19 rfl 2 rfl ?_
    refine J.callVI (q := 23) [.int a2] [.int v17] [.int a2, .ref (ad G 287), .int v17] rfl O dX12_goesAhead_20 rfl (c_X12_pointsOf hG h) wd_9_69 mw_X12_pointsOf io_287 rfl (by decide) (Nat.le_of_ble_eq_true rfl) (fun v18 M18 h => ?_)
    refine J.icmp_ge (q := 26) (tgt := 30) O dX12_goesAhead_23 rfl (by decide) (fun z19 => ?_) (fun z19 => ?_)
    · replace h := h.1 z19
      refine J.iconst (q := 31) (v := (0 : Int32)) O dX12_goesAhead_30 rfl rfl ?_
      exact J.sub [] rfl (j_X12_goesAhead_b31 hG O hR h)
    · replace h := h.2 z19
      refine J.iconst (q := 27) (v := (1 : Int32)) O dX12_goesAhead_26 rfl rfl ?_
      refine J.goto (q := 31) O dX12_goesAhead_27 (by decide) ?_
      exact J.sub [] rfl (j_X12_goesAhead_b31 hG O hR h)
set_option maxHeartbeats 4000000 in
set_option maxRecDepth 20000 in
theorem j_X12_goes_b110 {X : CX} {G : GX} {K : Int32 → Mem → Prop} (hG : Gd G) (O : Ok X G cX12_goes 7 RX12 3) (hR : RetI X G cX12_goes K) {r40 : Int32 × Int32 × Int32 × Int32 × Mem → Prop} (hr40 : ∀ a : Int32 × Int32 × Int32 × Int32 × Mem, r40 a → J X G a.2.2.2.2 40 [(0, .ref (ad G 287)), (1, .int a.1), (2, .int a.2.1), (3, .int a.2.2.1), (4, .int a.2.2.2.1)] []) {r55 : Int32 × Int32 × Int32 × Int32 × Int32 × Int32 × Mem → Prop} (hr55 : ∀ a : Int32 × Int32 × Int32 × Int32 × Int32 × Int32 × Mem, r55 a → J X G a.2.2.2.2.2.2 55 [(0, .ref (ad G 287)), (1, .int a.1), (2, .int a.2.1), (3, .int a.2.2.1), (4, .int a.2.2.2.1), (5, .int a.2.2.2.2.1), (6, .int a.2.2.2.2.2.1)] []) {x1 : Int32} {x2 : Int32} {x3 : Int32} {x4 : Int32} {x6 : Int32} {s0 : Int32} {s1 : Int32} {M : Mem} (h : f_X12_goes_b110 r40 r55 K x1 x2 x3 x4 x6 s0 s1 M) : J X G M 110 [(0, .ref (ad G 287)), (1, .int x1), (2, .int x2), (3, .int x3), (4, .int x4), (6, .int x6)] [.int s0, .int s1] := by
  unfold f_X12_goes_b110 at h
  refine J.iadd (q := 111) O dX12_goes_110 rfl ?_
  refine J.istore (q := 113) O dX12_goes_111 rfl [(5, .int (s1 + s0)), (0, .ref (ad G 287)), (1, .int x1), (2, .int x2), (3, .int x3), (4, .int x4), (6, .int x6)] (by decide) rfl ?_
  refine J.iinc (q := 116) O dX12_goes_113 rfl [(6, .int (x6 + (1 : Int32))), (5, .int (s1 + s0)), (0, .ref (ad G 287)), (1, .int x1), (2, .int x2), (3, .int x3), (4, .int x4)] 6 rfl rfl (by decide) rfl ?_
  refine J.goto (q := 55) O dX12_goes_116 (by decide) ?_
  exact J.sub [2, 3, 4, 5, 6, 1, 0] rfl (hr55 _ h)
set_option maxHeartbeats 4000000 in
set_option maxRecDepth 20000 in
theorem j_X12_goes_b109 {X : CX} {G : GX} {K : Int32 → Mem → Prop} (hG : Gd G) (O : Ok X G cX12_goes 7 RX12 3) (hR : RetI X G cX12_goes K) {r40 : Int32 × Int32 × Int32 × Int32 × Mem → Prop} (hr40 : ∀ a : Int32 × Int32 × Int32 × Int32 × Mem, r40 a → J X G a.2.2.2.2 40 [(0, .ref (ad G 287)), (1, .int a.1), (2, .int a.2.1), (3, .int a.2.2.1), (4, .int a.2.2.2.1)] []) {r55 : Int32 × Int32 × Int32 × Int32 × Int32 × Int32 × Mem → Prop} (hr55 : ∀ a : Int32 × Int32 × Int32 × Int32 × Int32 × Int32 × Mem, r55 a → J X G a.2.2.2.2.2.2 55 [(0, .ref (ad G 287)), (1, .int a.1), (2, .int a.2.1), (3, .int a.2.2.1), (4, .int a.2.2.2.1), (5, .int a.2.2.2.2.1), (6, .int a.2.2.2.2.2.1)] []) {x1 : Int32} {x2 : Int32} {x3 : Int32} {x4 : Int32} {x6 : Int32} {s0 : Int32} {M : Mem} (h : f_X12_goes_b109 r40 r55 K x1 x2 x3 x4 x6 s0 M) : J X G M 109 [(0, .ref (ad G 287)), (1, .int x1), (2, .int x2), (3, .int x3), (4, .int x4), (6, .int x6)] [.int s0] := by
  unfold f_X12_goes_b109 at h
  refine J.iconst (q := 110) (v := (0 : Int32)) O dX12_goes_109 rfl rfl ?_
  exact J.sub [0, 1, 2, 3, 4, 5] rfl (j_X12_goes_b110 hG O hR hr40 hr55 h)
set_option maxHeartbeats 4000000 in
set_option maxRecDepth 20000 in
theorem j_X12_goes_b154 {X : CX} {G : GX} {K : Int32 → Mem → Prop} (hG : Gd G) (O : Ok X G cX12_goes 7 RX12 3) (hR : RetI X G cX12_goes K) {r40 : Int32 × Int32 × Int32 × Int32 × Mem → Prop} (hr40 : ∀ a : Int32 × Int32 × Int32 × Int32 × Mem, r40 a → J X G a.2.2.2.2 40 [(0, .ref (ad G 287)), (1, .int a.1), (2, .int a.2.1), (3, .int a.2.2.1), (4, .int a.2.2.2.1)] []) {x1 : Int32} {x2 : Int32} {x3 : Int32} {x4 : Int32} {M : Mem} (h : f_X12_goes_b154 r40 K x1 x2 x3 x4 M) : J X G M 154 [(0, .ref (ad G 287)), (1, .int x1), (2, .int x2), (3, .int x3), (4, .int x4)] [] := by
  unfold f_X12_goes_b154 at h
  refine J.iinc (q := 157) O dX12_goes_154 rfl [(4, .int (x4 + (1 : Int32))), (0, .ref (ad G 287)), (1, .int x1), (2, .int x2), (3, .int x3)] 4 rfl rfl (by decide) rfl ?_
  refine J.goto (q := 40) O dX12_goes_157 (by decide) ?_
  exact J.sub [1, 2, 3, 4, 0] rfl (hr40 _ h)
set_option maxHeartbeats 4000000 in
set_option maxRecDepth 20000 in
theorem j_X12_goes_c55 {X : CX} {G : GX} {K : Int32 → Mem → Prop} (hG : Gd G) (O : Ok X G cX12_goes 7 RX12 3) (hR : RetI X G cX12_goes K) {r40 : Int32 × Int32 × Int32 × Int32 × Mem → Prop} (hr40 : ∀ a : Int32 × Int32 × Int32 × Int32 × Mem, r40 a → J X G a.2.2.2.2 40 [(0, .ref (ad G 287)), (1, .int a.1), (2, .int a.2.1), (3, .int a.2.2.1), (4, .int a.2.2.2.1)] []) {a : Int32 × Int32 × Int32 × Int32 × Int32 × Int32 × Mem} (h : Lp (fun (r55 : Int32 × Int32 × Int32 × Int32 × Int32 × Int32 × Mem → Prop) a => f_X12_goes_c55 r40 K r55 a.1 a.2.1 a.2.2.1 a.2.2.2.1 a.2.2.2.2.1 a.2.2.2.2.2.1 a.2.2.2.2.2.2) a) : J X G a.2.2.2.2.2.2 55 [(0, .ref (ad G 287)), (1, .int a.1), (2, .int a.2.1), (3, .int a.2.2.1), (4, .int a.2.2.2.1), (5, .int a.2.2.2.2.1), (6, .int a.2.2.2.2.2.1)] [] := by
  refine Lp.elim (P := fun a => J X G a.2.2.2.2.2.2 55 [(0, .ref (ad G 287)), (1, .int a.1), (2, .int a.2.1), (3, .int a.2.2.1), (4, .int a.2.2.2.1), (5, .int a.2.2.2.2.1), (6, .int a.2.2.2.2.2.1)] []) ?_ h
  clear h
  intro r55 hr55 a h
  obtain ⟨x1, x2, x3, x4, x5, x6, M⟩ := a
  unfold f_X12_goes_c55 at h
  (try dsimp only at h ⊢)
  refine J.iload (q := 57) O dX12_goes_55 rfl 6 rfl ?_
  refine J.aload_n (q := 58) O dX12_goes_57 rfl 0 rfl ?_
  refine J.getI (q := 61) (c' := 287) (ci := 12) (k := 2) (M 287 2) rfl O dX12_goes_58 rfl wd_6_74 (by decide) if_287_2 ?_
  refine J.icmp_ge (q := 64) (tgt := 119) O dX12_goes_61 rfl (by decide) (fun z5 => ?_) (fun z5 => ?_)
  · replace h := h.1 z5
    refine J.aload_n (q := 120) O dX12_goes_119 rfl 0 rfl ?_
    refine J.getR (q := 123) (c' := 287) (ci := 12) (k := 3) (r := 289) O dX12_goes_120 rfl wd_6_75 (by decide) if_287_3 ?_
    refine J.iload (q := 125) O dX12_goes_123 rfl 4 rfl ?_
    obtain ⟨hv6, h⟩ := h
    refine J.iald (q := 126) (c' := 289) (j := x4.toNatClampNeg) (M 289 x4.toNatClampNeg) rfl O dX12_goes_125 rfl ar_289 hv6 rfl ?_
    refine J.iload_n (q := 127) O dX12_goes_126 rfl 1 rfl ?_
    refine J.icmp_ne (q := 130) (tgt := 154) O dX12_goes_127 rfl (by decide) (fun z7 => ?_) (fun z7 => ?_)
    · replace h := h.1 z7
      exact J.sub [0, 1, 2, 3, 4] rfl (j_X12_goes_b154 hG O hR hr40 h)
    · replace h := h.2 z7
      refine J.aload_n (q := 131) O dX12_goes_130 rfl 0 rfl ?_
      refine J.getR (q := 134) (c' := 287) (ci := 12) (k := 8) (r := 294) O dX12_goes_131 rfl wd_6_80 (by decide) if_287_8 ?_
      refine J.iload (q := 136) O dX12_goes_134 rfl 4 rfl ?_
      obtain ⟨hv8, h⟩ := h
      refine J.zald (q := 137) (c' := 294) (j := x4.toNatClampNeg) (M 294 x4.toNatClampNeg) rfl O dX12_goes_136 rfl ar_294 hv8 rfl ?_
      refine J.if_ne (q := 140) (tgt := 154) O dX12_goes_137 rfl (by decide) (fun z9 => ?_) (fun z9 => ?_)
      · replace h := h.1 z9
        exact J.sub [0, 1, 2, 3, 4] rfl (j_X12_goes_b154 hG O hR hr40 h)
      · replace h := h.2 z9
        refine J.iload (q := 142) O dX12_goes_140 rfl 5 rfl ?_
        refine J.iload_n (q := 143) O dX12_goes_142 rfl 3 rfl ?_
        refine J.icmp_ne (q := 146) (tgt := 154) O dX12_goes_143 rfl (by decide) (fun z10 => ?_) (fun z10 => ?_)
        · replace h := h.1 z10
          exact J.sub [0, 1, 2, 3, 4] rfl (j_X12_goes_b154 hG O hR hr40 h)
        · replace h := h.2 z10
          refine J.iload_n (q := 147) O dX12_goes_146 rfl 3 rfl ?_
          refine J.iload_n (q := 148) O dX12_goes_147 rfl 2 rfl ?_
          refine J.icmp_ge (q := 151) (tgt := 154) O dX12_goes_148 rfl (by decide) (fun z11 => ?_) (fun z11 => ?_)
          · replace h := h.1 z11
            exact J.sub [0, 1, 2, 3, 4] rfl (j_X12_goes_b154 hG O hR hr40 h)
          · replace h := h.2 z11
            refine J.iload (q := 153) O dX12_goes_151 rfl 4 rfl ?_
            exact hR _ _ _ _ dX12_goes_153 h
  · replace h := h.2 z5
    refine J.iload (q := 66) O dX12_goes_64 rfl 5 rfl ?_
    refine J.iload (q := 68) O dX12_goes_66 rfl 6 rfl ?_
    refine J.iload (q := 70) O dX12_goes_68 rfl 4 rfl ?_
    refine J.icmp_eq (q := 73) (tgt := 109) O dX12_goes_70 rfl (by decide) (fun z12 => ?_) (fun z12 => ?_)
    · replace h := h.1 z12
      exact J.sub [0, 1, 2, 3, 4, 6] rfl (j_X12_goes_b109 hG O hR hr40 hr55 h)
    · replace h := h.2 z12
      refine J.aload_n (q := 74) O dX12_goes_73 rfl 0 rfl ?_
      refine J.getR (q := 77) (c' := 287) (ci := 12) (k := 3) (r := 289) O dX12_goes_74 rfl wd_6_75 (by decide) if_287_3 ?_
      refine J.iload (q := 79) O dX12_goes_77 rfl 6 rfl ?_
      obtain ⟨hv13, h⟩ := h
      refine J.iald (q := 80) (c' := 289) (j := x6.toNatClampNeg) (M 289 x6.toNatClampNeg) rfl O dX12_goes_79 rfl ar_289 hv13 rfl ?_
      refine J.iload_n (q := 81) O dX12_goes_80 rfl 1 rfl ?_
      refine J.icmp_ne (q := 84) (tgt := 109) O dX12_goes_81 rfl (by decide) (fun z14 => ?_) (fun z14 => ?_)
      · replace h := h.1 z14
        exact J.sub [0, 1, 2, 3, 4, 6] rfl (j_X12_goes_b109 hG O hR hr40 hr55 h)
      · replace h := h.2 z14
        refine J.aload_n (q := 85) O dX12_goes_84 rfl 0 rfl ?_
        refine J.getR (q := 88) (c' := 287) (ci := 12) (k := 8) (r := 294) O dX12_goes_85 rfl wd_6_80 (by decide) if_287_8 ?_
        refine J.iload (q := 90) O dX12_goes_88 rfl 6 rfl ?_
        obtain ⟨hv15, h⟩ := h
        refine J.zald (q := 91) (c' := 294) (j := x6.toNatClampNeg) (M 294 x6.toNatClampNeg) rfl O dX12_goes_90 rfl ar_294 hv15 rfl ?_
        refine J.if_ne (q := 94) (tgt := 109) O dX12_goes_91 rfl (by decide) (fun z16 => ?_) (fun z16 => ?_)
        · replace h := h.1 z16
          exact J.sub [0, 1, 2, 3, 4, 6] rfl (j_X12_goes_b109 hG O hR hr40 hr55 h)
        · replace h := h.2 z16
          refine J.aload_n (q := 95) O dX12_goes_94 rfl 0 rfl ?_
          refine J.iload (q := 97) O dX12_goes_95 rfl 6 rfl ?_
          refine J.iload (q := 99) O dX12_goes_97 rfl 4 rfl ?_
          refine J.callVI (q := 102) [.int x6, .int x4] [.int x5] [.int x4, .int x6, .ref (ad G 287), .int x5] rfl O dX12_goes_99 rfl (c_X12_goesAhead hG h) wd_9_77 mw_X12_goesAhead io_287 rfl (by decide) (Nat.le_of_ble_eq_true rfl) (fun v17 M17 h => ?_)
          refine J.if_eq (q := 105) (tgt := 109) O dX12_goes_102 rfl (by decide) (fun z18 => ?_) (fun z18 => ?_)
          · replace h := h.1 z18
            exact J.sub [0, 1, 2, 3, 4, 6] rfl (j_X12_goes_b109 hG O hR hr40 hr55 h)
          · replace h := h.2 z18
            refine J.iconst (q := 106) (v := (1 : Int32)) O dX12_goes_105 rfl rfl ?_
            refine J.goto (q := 110) O dX12_goes_106 (by decide) ?_
            exact J.sub [0, 1, 2, 3, 4, 6] rfl (j_X12_goes_b110 hG O hR hr40 hr55 h)
set_option maxHeartbeats 4000000 in
set_option maxRecDepth 20000 in
theorem j_X12_goes_c40 {X : CX} {G : GX} {K : Int32 → Mem → Prop} (hG : Gd G) (O : Ok X G cX12_goes 7 RX12 3) (hR : RetI X G cX12_goes K) {a : Int32 × Int32 × Int32 × Int32 × Mem} (h : Lp (fun (r40 : Int32 × Int32 × Int32 × Int32 × Mem → Prop) a => f_X12_goes_c40 K r40 a.1 a.2.1 a.2.2.1 a.2.2.2.1 a.2.2.2.2) a) : J X G a.2.2.2.2 40 [(0, .ref (ad G 287)), (1, .int a.1), (2, .int a.2.1), (3, .int a.2.2.1), (4, .int a.2.2.2.1)] [] := by
  refine Lp.elim (P := fun a => J X G a.2.2.2.2 40 [(0, .ref (ad G 287)), (1, .int a.1), (2, .int a.2.1), (3, .int a.2.2.1), (4, .int a.2.2.2.1)] []) ?_ h
  clear h
  intro r40 hr40 a h
  obtain ⟨x1, x2, x3, x4, M⟩ := a
  unfold f_X12_goes_c40 at h
  (try dsimp only at h ⊢)
  refine J.iload (q := 42) O dX12_goes_40 rfl 4 rfl ?_
  refine J.aload_n (q := 43) O dX12_goes_42 rfl 0 rfl ?_
  refine J.getI (q := 46) (c' := 287) (ci := 12) (k := 2) (M 287 2) rfl O dX12_goes_43 rfl wd_6_74 (by decide) if_287_2 ?_
  refine J.icmp_ge (q := 49) (tgt := 160) O dX12_goes_46 rfl (by decide) (fun z19 => ?_) (fun z19 => ?_)
  · replace h := h.1 z19
    refine J.bipush (q := 162) (v := (-9 : Int32)) O dX12_goes_160 rfl rfl ?_
    exact hR _ _ _ _ dX12_goes_162 h
  · replace h := h.2 z19
    refine J.iconst (q := 50) (v := (0 : Int32)) O dX12_goes_49 rfl rfl ?_
    refine J.istore (q := 52) O dX12_goes_50 rfl [(5, .int (0 : Int32)), (0, .ref (ad G 287)), (1, .int x1), (2, .int x2), (3, .int x3), (4, .int x4)] (by decide) rfl ?_
    refine J.iconst (q := 53) (v := (0 : Int32)) O dX12_goes_52 rfl rfl ?_
    refine J.istore (q := 55) O dX12_goes_53 rfl [(6, .int (0 : Int32)), (5, .int (0 : Int32)), (0, .ref (ad G 287)), (1, .int x1), (2, .int x2), (3, .int x3), (4, .int x4)] (by decide) rfl ?_
    exact J.sub [2, 3, 4, 5, 6, 1, 0] rfl (j_X12_goes_c55 hG O hR hr40 h)
set_option maxHeartbeats 4000000 in
set_option maxRecDepth 20000 in
theorem c_X12_goes {l : Launch} {G : GX} (hG : Gd G) {a1 : Int32} {a2 : Int32} {a3 : Int32} {M : Mem} {K : Int32 → Mem → Prop} (h : f_X12_goes a1 a2 a3 M K) : CI l G yX12_goes cX12_goes 7 (some .int) 3 [.ref (ad G 287), .int a1, .int a2, .int a3] M K := by
  unfold f_X12_goes at h
  refine CI.mk hG (by decide) [(0, .ref (ad G 287)), (1, .int a1), (2, .int a2), (3, .int a3)] rfl (Nat.le_of_ble_eq_true rfl) (fun X O hlX hR => ?_)
  subst hlX
  refine J.iload_n (q := 1) O dX12_goes_0 rfl 1 rfl ?_
  refine J.callSI (q := 4) [.int a1] [] [.int a1] rfl O dX12_goes_1 rfl (c_X12_isShop hG h) wd_7_178 mw_X12_isShop rfl (by decide) (Nat.le_of_ble_eq_true rfl) (fun v20 M20 h => ?_)
  refine J.if_ne (q := 7) (tgt := 13) O dX12_goes_4 rfl (by decide) (fun z21 => ?_) (fun z21 => ?_)
  · replace h := h.1 z21
    refine J.iload_n (q := 14) O dX12_goes_13 rfl 2 rfl ?_
    refine J.if_ge (q := 17) (tgt := 24) O dX12_goes_14 rfl (by decide) (fun z22 => ?_) (fun z22 => ?_)
    · replace h := h.1 z22
      refine J.iload_n (q := 25) O dX12_goes_24 rfl 2 rfl ?_
      refine J.bipush (q := 27) (v := (24 : Int32)) O dX12_goes_25 rfl rfl ?_
      refine J.icmp_le (q := 30) (tgt := 37) O dX12_goes_27 rfl (by decide) (fun z23 => ?_) (fun z23 => ?_)
      · replace h := h.1 z23
        refine J.iconst (q := 38) (v := (0 : Int32)) O dX12_goes_37 rfl rfl ?_
        refine J.istore (q := 40) O dX12_goes_38 rfl [(4, .int (0 : Int32)), (0, .ref (ad G 287)), (1, .int a1), (2, .int a2), (3, .int a3)] (by decide) rfl ?_
        exact J.sub [1, 2, 3, 4, 0] rfl (j_X12_goes_c40 hG O hR h)
      · replace h := h.2 z23
        refine J.aload_n (q := 31) O dX12_goes_30 rfl 0 rfl ?_
        refine J.bipush (q := 33) (v := (-6 : Int32)) O dX12_goes_31 rfl rfl ?_
        refine J.callVI (q := 36) [.int (-6 : Int32)] [] [.int (-6 : Int32), .ref (ad G 287)] rfl O dX12_goes_33 rfl (c_X12_refuse hG h) wd_7_158 mw_X12_refuse io_287 rfl (by decide) (Nat.le_of_ble_eq_true rfl) (fun v24 M24 h => ?_)
        exact hR _ _ _ _ dX12_goes_36 h
    · replace h := h.2 z22
      refine J.aload_n (q := 18) O dX12_goes_17 rfl 0 rfl ?_
      refine J.bipush (q := 20) (v := (-4 : Int32)) O dX12_goes_18 rfl rfl ?_
      refine J.callVI (q := 23) [.int (-4 : Int32)] [] [.int (-4 : Int32), .ref (ad G 287)] rfl O dX12_goes_20 rfl (c_X12_refuse hG h) wd_7_158 mw_X12_refuse io_287 rfl (by decide) (Nat.le_of_ble_eq_true rfl) (fun v25 M25 h => ?_)
      exact hR _ _ _ _ dX12_goes_23 h
  · replace h := h.2 z21
    refine J.aload_n (q := 8) O dX12_goes_7 rfl 0 rfl ?_
    refine J.iconst (q := 9) (v := (-1 : Int32)) O dX12_goes_8 rfl rfl ?_
    refine J.callVI (q := 12) [.int (-1 : Int32)] [] [.int (-1 : Int32), .ref (ad G 287)] rfl O dX12_goes_9 rfl (c_X12_refuse hG h) wd_7_158 mw_X12_refuse io_287 rfl (by decide) (Nat.le_of_ble_eq_true rfl) (fun v26 M26 h => ?_)
    exact hR _ _ _ _ dX12_goes_12 h
set_option maxHeartbeats 4000000 in
set_option maxRecDepth 20000 in
theorem j_X12_planned_b13 {X : CX} {G : GX} {K : Int32 → Mem → Prop} (hG : Gd G) (O : Ok X G cX12_planned 4 RX12 2) (hR : RetI X G cX12_planned K) {M : Mem} (h : f_X12_planned_b13 K  M) : J X G M 13 [(0, .ref (ad G 287))] [] := by
  unfold f_X12_planned_b13 at h
  refine J.aload_n (q := 14) O dX12_planned_13 rfl 0 rfl ?_
  refine J.bipush (q := 16) (v := (-4 : Int32)) O dX12_planned_14 rfl rfl ?_
  refine J.callVI (q := 19) [.int (-4 : Int32)] [] [.int (-4 : Int32), .ref (ad G 287)] rfl O dX12_planned_16 rfl (c_X12_refuse hG h) wd_7_158 mw_X12_refuse io_287 rfl (by decide) (Nat.le_of_ble_eq_true rfl) (fun v4 M4 h => ?_)
  exact hR _ _ _ _ dX12_planned_19 h
set_option maxHeartbeats 4000000 in
set_option maxRecDepth 20000 in
theorem j_X12_planned_b57 {X : CX} {G : GX} {K : Int32 → Mem → Prop} (hG : Gd G) (O : Ok X G cX12_planned 4 RX12 2) (hR : RetI X G cX12_planned K) {M : Mem} (h : f_X12_planned_b57 K  M) : J X G M 57 [(0, .ref (ad G 287))] [] := by
  unfold f_X12_planned_b57 at h
  refine J.aload_n (q := 58) O dX12_planned_57 rfl 0 rfl ?_
  refine J.bipush (q := 60) (v := (-6 : Int32)) O dX12_planned_58 rfl rfl ?_
  refine J.callVI (q := 63) [.int (-6 : Int32)] [] [.int (-6 : Int32), .ref (ad G 287)] rfl O dX12_planned_60 rfl (c_X12_refuse hG h) wd_7_158 mw_X12_refuse io_287 rfl (by decide) (Nat.le_of_ble_eq_true rfl) (fun v5 M5 h => ?_)
  exact hR _ _ _ _ dX12_planned_63 h
set_option maxHeartbeats 4000000 in
set_option maxRecDepth 20000 in
theorem c_X12_planned {l : Launch} {G : GX} (hG : Gd G) {a1 : Int32} {a2 : Int32} {a3 : Int32} {M : Mem} {K : Int32 → Mem → Prop} (h : f_X12_planned a1 a2 a3 M K) : CI l G yX12_planned cX12_planned 4 (some .int) 2 [.ref (ad G 287), .int a1, .int a2, .int a3] M K := by
  unfold f_X12_planned at h
  refine CI.mk hG (by decide) [(0, .ref (ad G 287)), (1, .int a1), (2, .int a2), (3, .int a3)] rfl (Nat.le_of_ble_eq_true rfl) (fun X O hlX hR => ?_)
  subst hlX
  refine J.iload_n (q := 1) O dX12_planned_0 rfl 1 rfl ?_
  refine J.iconst (q := 2) (v := (1 : Int32)) O dX12_planned_1 rfl rfl ?_
  refine J.icmp_lt (q := 5) (tgt := 13) O dX12_planned_2 rfl (by decide) (fun z6 => ?_) (fun z6 => ?_)
  · replace h := h.1 z6
    exact J.sub [0] rfl (j_X12_planned_b13 hG O hR h)
  · replace h := h.2 z6
    refine J.iload_n (q := 6) O dX12_planned_5 rfl 2 rfl ?_
    refine J.if_lt (q := 9) (tgt := 13) O dX12_planned_6 rfl (by decide) (fun z7 => ?_) (fun z7 => ?_)
    · replace h := h.1 z7
      exact J.sub [0] rfl (j_X12_planned_b13 hG O hR h)
    · replace h := h.2 z7
      refine J.iload_n (q := 10) O dX12_planned_9 rfl 3 rfl ?_
      refine J.if_ge (q := 13) (tgt := 20) O dX12_planned_10 rfl (by decide) (fun z8 => ?_) (fun z8 => ?_)
      · replace h := h.1 z8
        refine J.iload_n (q := 21) O dX12_planned_20 rfl 3 rfl ?_
        refine J.iconst (q := 22) (v := (1 : Int32)) O dX12_planned_21 rfl rfl ?_
        refine J.aload_n (q := 23) O dX12_planned_22 rfl 0 rfl ?_
        refine J.getI (q := 26) (c' := 287) (ci := 12) (k := 97) (M 287 97) rfl O dX12_planned_23 rfl wd_6_169 (by decide) if_287_97 ?_
        refine J.ishl (q := 27) O dX12_planned_26 rfl ?_
        refine J.icmp_lt (q := 30) (tgt := 37) O dX12_planned_27 rfl (by decide) (fun z9 => ?_) (fun z9 => ?_)
        · replace h := h.1 z9
          refine J.iload_n (q := 38) O dX12_planned_37 rfl 1 rfl ?_
          refine J.iconst (q := 39) (v := (3 : Int32)) O dX12_planned_38 rfl rfl ?_
          refine J.icmp_gt (q := 42) (tgt := 57) O dX12_planned_39 rfl (by decide) (fun z10 => ?_) (fun z10 => ?_)
          · replace h := h.1 z10
            exact J.sub [0] rfl (j_X12_planned_b57 hG O hR h)
          · replace h := h.2 z10
            refine J.iload_n (q := 43) O dX12_planned_42 rfl 2 rfl ?_
            refine J.bipush (q := 45) (v := (6 : Int32)) O dX12_planned_43 rfl rfl ?_
            refine J.icmp_gt (q := 48) (tgt := 57) O dX12_planned_45 rfl (by decide) (fun z11 => ?_) (fun z11 => ?_)
            · replace h := h.1 z11
              exact J.sub [0] rfl (j_X12_planned_b57 hG O hR h)
            · replace h := h.2 z11
              refine J.aload_n (q := 49) O dX12_planned_48 rfl 0 rfl ?_
              refine J.getI (q := 52) (c' := 287) (ci := 12) (k := 97) (M 287 97) rfl O dX12_planned_49 rfl wd_6_169 (by decide) if_287_97 ?_
              refine J.bipush (q := 54) (v := (7 : Int32)) O dX12_planned_52 rfl rfl ?_
              refine J.icmp_ne (q := 57) (tgt := 64) O dX12_planned_54 rfl (by decide) (fun z12 => ?_) (fun z12 => ?_)
              · replace h := h.1 z12
                refine J.aload_n (q := 65) O dX12_planned_64 rfl 0 rfl ?_
                refine J.getR (q := 68) (c' := 287) (ci := 12) (k := 98) (r := 361) O dX12_planned_65 rfl wd_6_170 (by decide) if_287_98 ?_
                refine J.aload_n (q := 69) O dX12_planned_68 rfl 0 rfl ?_
                refine J.getI (q := 72) (c' := 287) (ci := 12) (k := 97) (M 287 97) rfl O dX12_planned_69 rfl wd_6_169 (by decide) if_287_97 ?_
                refine J.iload_n (q := 73) O dX12_planned_72 rfl 1 rfl ?_
                obtain ⟨hv13, h⟩ := h
                refine J.iast (q := 74) (c' := 361) (j := (M 287 97).toNatClampNeg) O dX12_planned_73 rfl ar_361 hv13 rfl ?_
                refine J.aload_n (q := 75) O dX12_planned_74 rfl 0 rfl ?_
                refine J.getR (q := 78) (c' := 287) (ci := 12) (k := 99) (r := 362) O dX12_planned_75 rfl wd_6_171 (by decide) if_287_99 ?_
                refine J.aload_n (q := 79) O dX12_planned_78 rfl 0 rfl ?_
                refine J.getI (q := 82) (c' := 287) (ci := 12) (k := 97) (M 287 97) rfl O dX12_planned_79 rfl wd_6_169 (by decide) if_287_97 ?_
                refine J.iload_n (q := 83) O dX12_planned_82 rfl 2 rfl ?_
                obtain ⟨hv14, h⟩ := h
                refine J.iast (q := 84) (c' := 362) (j := (M 287 97).toNatClampNeg) O dX12_planned_83 rfl ar_362 hv14 rfl ?_
                refine J.aload_n (q := 85) O dX12_planned_84 rfl 0 rfl ?_
                refine J.getR (q := 88) (c' := 287) (ci := 12) (k := 100) (r := 363) O dX12_planned_85 rfl wd_6_172 (by decide) if_287_100 ?_
                refine J.aload_n (q := 89) O dX12_planned_88 rfl 0 rfl ?_
                refine J.getI (q := 92) (c' := 287) (ci := 12) (k := 97) (M 287 97) rfl O dX12_planned_89 rfl wd_6_169 (by decide) if_287_97 ?_
                refine J.iload_n (q := 93) O dX12_planned_92 rfl 3 rfl ?_
                obtain ⟨hv15, h⟩ := h
                refine J.iast (q := 94) (c' := 363) (j := (M 287 97).toNatClampNeg) O dX12_planned_93 rfl ar_363 hv15 rfl ?_
                refine J.aload_n (q := 95) O dX12_planned_94 rfl 0 rfl ?_
                refine J.dup (q := 96) O dX12_planned_95 rfl rfl ?_
                refine J.getI (q := 99) (c' := 287) (ci := 12) (k := 97) (M 287 97) rfl O dX12_planned_96 rfl wd_6_169 (by decide) if_287_97 ?_
                refine J.iconst (q := 100) (v := (1 : Int32)) O dX12_planned_99 rfl rfl ?_
                refine J.iadd (q := 101) O dX12_planned_100 rfl ?_
                refine J.putI (q := 104) (c' := 287) (ci := 12) (k := 97) O dX12_planned_101 rfl wd_6_169 (by decide) if_287_97 rfl rfl ?_
                refine J.aload_n (q := 105) O dX12_planned_104 rfl 0 rfl ?_
                refine J.getI (q := 108) (c' := 287) (ci := 12) (k := 97) ((M 287 97) + (1 : Int32)) rfl O dX12_planned_105 rfl wd_6_169 (by decide) if_287_97 ?_
                refine J.iconst (q := 109) (v := (1 : Int32)) O dX12_planned_108 rfl rfl ?_
                refine J.isub (q := 110) O dX12_planned_109 rfl ?_
                exact hR _ _ _ _ dX12_planned_110 h
              · replace h := h.2 z12
                exact J.sub [0] rfl (j_X12_planned_b57 hG O hR h)
        · replace h := h.2 z9
          refine J.aload_n (q := 31) O dX12_planned_30 rfl 0 rfl ?_
          refine J.bipush (q := 33) (v := (-3 : Int32)) O dX12_planned_31 rfl rfl ?_
          refine J.callVI (q := 36) [.int (-3 : Int32)] [] [.int (-3 : Int32), .ref (ad G 287)] rfl O dX12_planned_33 rfl (c_X12_refuse hG h) wd_7_158 mw_X12_refuse io_287 rfl (by decide) (Nat.le_of_ble_eq_true rfl) (fun v16 M16 h => ?_)
          exact hR _ _ _ _ dX12_planned_36 h
      · replace h := h.2 z8
        exact J.sub [0] rfl (j_X12_planned_b13 hG O hR h)
set_option maxHeartbeats 4000000 in
set_option maxRecDepth 20000 in
theorem j_X12_mayBeAt_b71 {X : CX} {G : GX} {K : Int32 → Mem → Prop} (hG : Gd G) (O : Ok X G cX12_mayBeAt 5 RX12 1) (hR : RetZ X G cX12_mayBeAt K) {r31 : Int32 × Int32 × Int32 × Int32 × Mem → Prop} (hr31 : ∀ a : Int32 × Int32 × Int32 × Int32 × Mem, r31 a → J X G a.2.2.2.2 31 [(0, .ref (ad G 287)), (1, .int a.1), (2, .int a.2.1), (3, .int a.2.2.1), (4, .int a.2.2.2.1)] []) {x1 : Int32} {x2 : Int32} {x4 : Int32} {s0 : Int32} {M : Mem} (h : f_X12_mayBeAt_b71 r31 K x1 x2 x4 s0 M) : J X G M 71 [(0, .ref (ad G 287)), (1, .int x1), (2, .int x2), (4, .int x4)] [.int s0] := by
  unfold f_X12_mayBeAt_b71 at h
  refine J.istore_n (q := 72) O dX12_mayBeAt_71 rfl [(3, .int s0), (0, .ref (ad G 287)), (1, .int x1), (2, .int x2), (4, .int x4)] (by decide) rfl ?_
  refine J.iinc (q := 75) O dX12_mayBeAt_72 rfl [(4, .int (x4 + (1 : Int32))), (3, .int s0), (0, .ref (ad G 287)), (1, .int x1), (2, .int x2)] 4 rfl rfl (by decide) rfl ?_
  refine J.goto (q := 31) O dX12_mayBeAt_75 (by decide) ?_
  exact J.sub [2, 3, 4, 1, 0] rfl (hr31 _ h)
set_option maxHeartbeats 4000000 in
set_option maxRecDepth 20000 in
theorem j_X12_mayBeAt_b66 {X : CX} {G : GX} {K : Int32 → Mem → Prop} (hG : Gd G) (O : Ok X G cX12_mayBeAt 5 RX12 1) (hR : RetZ X G cX12_mayBeAt K) {r31 : Int32 × Int32 × Int32 × Int32 × Mem → Prop} (hr31 : ∀ a : Int32 × Int32 × Int32 × Int32 × Mem, r31 a → J X G a.2.2.2.2 31 [(0, .ref (ad G 287)), (1, .int a.1), (2, .int a.2.1), (3, .int a.2.2.1), (4, .int a.2.2.2.1)] []) {x1 : Int32} {x2 : Int32} {x4 : Int32} {M : Mem} (h : f_X12_mayBeAt_b66 r31 K x1 x2 x4 M) : J X G M 66 [(0, .ref (ad G 287)), (1, .int x1), (2, .int x2), (4, .int x4)] [] := by
  unfold f_X12_mayBeAt_b66 at h
  refine J.iconst (q := 67) (v := (1 : Int32)) O dX12_mayBeAt_66 rfl rfl ?_
  refine J.goto (q := 71) O dX12_mayBeAt_67 (by decide) ?_
  exact J.sub [0, 1, 2, 3] rfl (j_X12_mayBeAt_b71 hG O hR hr31 h)
set_option maxHeartbeats 4000000 in
set_option maxRecDepth 20000 in
theorem j_X12_mayBeAt_b70 {X : CX} {G : GX} {K : Int32 → Mem → Prop} (hG : Gd G) (O : Ok X G cX12_mayBeAt 5 RX12 1) (hR : RetZ X G cX12_mayBeAt K) {r31 : Int32 × Int32 × Int32 × Int32 × Mem → Prop} (hr31 : ∀ a : Int32 × Int32 × Int32 × Int32 × Mem, r31 a → J X G a.2.2.2.2 31 [(0, .ref (ad G 287)), (1, .int a.1), (2, .int a.2.1), (3, .int a.2.2.1), (4, .int a.2.2.2.1)] []) {x1 : Int32} {x2 : Int32} {x4 : Int32} {M : Mem} (h : f_X12_mayBeAt_b70 r31 K x1 x2 x4 M) : J X G M 70 [(0, .ref (ad G 287)), (1, .int x1), (2, .int x2), (4, .int x4)] [] := by
  unfold f_X12_mayBeAt_b70 at h
  refine J.iconst (q := 71) (v := (0 : Int32)) O dX12_mayBeAt_70 rfl rfl ?_
  exact J.sub [0, 1, 2, 3] rfl (j_X12_mayBeAt_b71 hG O hR hr31 h)
set_option maxHeartbeats 4000000 in
set_option maxRecDepth 20000 in
theorem j_X12_mayBeAt_c31 {X : CX} {G : GX} {K : Int32 → Mem → Prop} (hG : Gd G) (O : Ok X G cX12_mayBeAt 5 RX12 1) (hR : RetZ X G cX12_mayBeAt K) {a : Int32 × Int32 × Int32 × Int32 × Mem} (h : Lp (fun (r31 : Int32 × Int32 × Int32 × Int32 × Mem → Prop) a => f_X12_mayBeAt_c31 K r31 a.1 a.2.1 a.2.2.1 a.2.2.2.1 a.2.2.2.2) a) : J X G a.2.2.2.2 31 [(0, .ref (ad G 287)), (1, .int a.1), (2, .int a.2.1), (3, .int a.2.2.1), (4, .int a.2.2.2.1)] [] := by
  refine Lp.elim (P := fun a => J X G a.2.2.2.2 31 [(0, .ref (ad G 287)), (1, .int a.1), (2, .int a.2.1), (3, .int a.2.2.1), (4, .int a.2.2.2.1)] []) ?_ h
  clear h
  intro r31 hr31 a h
  obtain ⟨x1, x2, x3, x4, M⟩ := a
  unfold f_X12_mayBeAt_c31 at h
  (try dsimp only at h ⊢)
  refine J.iload (q := 33) O dX12_mayBeAt_31 rfl 4 rfl ?_
  refine J.iload_n (q := 34) O dX12_mayBeAt_33 rfl 1 rfl ?_
  refine J.icmp_ge (q := 37) (tgt := 78) O dX12_mayBeAt_34 rfl (by decide) (fun z5 => ?_) (fun z5 => ?_)
  · replace h := h.1 z5
    refine J.iload_n (q := 79) O dX12_mayBeAt_78 rfl 3 rfl ?_
    exact hR _ _ _ _ dX12_mayBeAt_79 h.1 h.2
  · replace h := h.2 z5
    refine J.iload_n (q := 38) O dX12_mayBeAt_37 rfl 3 rfl ?_
    refine J.if_eq (q := 41) (tgt := 70) O dX12_mayBeAt_38 rfl (by decide) (fun z7 => ?_) (fun z7 => ?_)
    · replace h := h.1 z7
      exact J.sub [0, 1, 2, 4] rfl (j_X12_mayBeAt_b70 hG O hR hr31 h)
    · replace h := h.2 z7
      refine J.aload_n (q := 42) O dX12_mayBeAt_41 rfl 0 rfl ?_
      refine J.getR (q := 45) (c' := 287) (ci := 12) (k := 100) (r := 363) O dX12_mayBeAt_42 rfl wd_6_172 (by decide) if_287_100 ?_
      refine J.iload_n (q := 46) O dX12_mayBeAt_45 rfl 1 rfl ?_
      obtain ⟨hv8, h⟩ := h
      refine J.iald (q := 47) (c' := 363) (j := x1.toNatClampNeg) (M 363 x1.toNatClampNeg) rfl O dX12_mayBeAt_46 rfl ar_363 hv8 rfl ?_
      refine J.iload (q := 49) O dX12_mayBeAt_47 rfl 4 rfl ?_
      refine J.ishr (q := 50) O dX12_mayBeAt_49 rfl ?_
      refine J.iconst (q := 51) (v := (1 : Int32)) O dX12_mayBeAt_50 rfl rfl ?_
      refine J.iand (q := 52) O dX12_mayBeAt_51 rfl ?_
      refine J.if_eq (q := 55) (tgt := 66) O dX12_mayBeAt_52 rfl (by decide) (fun z9 => ?_) (fun z9 => ?_)
      · replace h := h.1 z9
        exact J.sub [0, 1, 2, 4] rfl (j_X12_mayBeAt_b66 hG O hR hr31 h)
      · replace h := h.2 z9
        refine J.aload_n (q := 56) O dX12_mayBeAt_55 rfl 0 rfl ?_
        refine J.getR (q := 59) (c' := 287) (ci := 12) (k := 101) (r := 364) O dX12_mayBeAt_56 rfl wd_6_173 (by decide) if_287_101 ?_
        refine J.iload (q := 61) O dX12_mayBeAt_59 rfl 4 rfl ?_
        obtain ⟨hv10, h⟩ := h
        refine J.iald (q := 62) (c' := 364) (j := x4.toNatClampNeg) (M 364 x4.toNatClampNeg) rfl O dX12_mayBeAt_61 rfl ar_364 hv10 rfl ?_
        refine J.iload_n (q := 63) O dX12_mayBeAt_62 rfl 2 rfl ?_
        refine J.icmp_ge (q := 66) (tgt := 70) O dX12_mayBeAt_63 rfl (by decide) (fun z11 => ?_) (fun z11 => ?_)
        · replace h := h.1 z11
          exact J.sub [0, 1, 2, 4] rfl (j_X12_mayBeAt_b70 hG O hR hr31 h)
        · replace h := h.2 z11
          exact J.sub [0, 1, 2, 4] rfl (j_X12_mayBeAt_b66 hG O hR hr31 h)
set_option maxHeartbeats 4000000 in
set_option maxRecDepth 20000 in
theorem j_X12_mayBeAt_b27 {X : CX} {G : GX} {K : Int32 → Mem → Prop} (hG : Gd G) (O : Ok X G cX12_mayBeAt 5 RX12 1) (hR : RetZ X G cX12_mayBeAt K) {x1 : Int32} {x2 : Int32} {s0 : Int32} {M : Mem} (h : f_X12_mayBeAt_b27 K x1 x2 s0 M) : J X G M 27 [(0, .ref (ad G 287)), (1, .int x1), (2, .int x2)] [.int s0] := by
  unfold f_X12_mayBeAt_b27 at h
  refine J.istore_n (q := 28) O dX12_mayBeAt_27 rfl [(3, .int s0), (0, .ref (ad G 287)), (1, .int x1), (2, .int x2)] (by decide) rfl ?_
  refine J.iconst (q := 29) (v := (0 : Int32)) O dX12_mayBeAt_28 rfl rfl ?_
  refine J.istore (q := 31) O dX12_mayBeAt_29 rfl [(4, .int (0 : Int32)), (3, .int s0), (0, .ref (ad G 287)), (1, .int x1), (2, .int x2)] (by decide) rfl ?_
  exact J.sub [2, 3, 4, 1, 0] rfl (j_X12_mayBeAt_c31 hG O hR h)
set_option maxHeartbeats 4000000 in
set_option maxRecDepth 20000 in
theorem c_X12_mayBeAt {l : Launch} {G : GX} (hG : Gd G) {a1 : Int32} {a2 : Int32} {M : Mem} {K : Int32 → Mem → Prop} (h : f_X12_mayBeAt a1 a2 M K) : CI l G yX12_mayBeAt cX12_mayBeAt 5 (some .boolean) 1 [.ref (ad G 287), .int a1, .int a2] M K := by
  unfold f_X12_mayBeAt at h
  refine CZ.mk hG (by decide) [(0, .ref (ad G 287)), (1, .int a1), (2, .int a2)] rfl (Nat.le_of_ble_eq_true rfl) (fun X O hlX hR => ?_)
  subst hlX
  refine J.aload_n (q := 1) O dX12_mayBeAt_0 rfl 0 rfl ?_
  refine J.getR (q := 4) (c' := 287) (ci := 12) (k := 104) (r := 367) O dX12_mayBeAt_1 rfl wd_6_176 (by decide) if_287_104 ?_
  refine J.iload_n (q := 5) O dX12_mayBeAt_4 rfl 2 rfl ?_
  obtain ⟨hv12, h⟩ := h
  refine J.iald (q := 6) (c' := 367) (j := a2.toNatClampNeg) (M 367 a2.toNatClampNeg) rfl O dX12_mayBeAt_5 rfl ar_367 hv12 rfl ?_
  refine J.aload_n (q := 7) O dX12_mayBeAt_6 rfl 0 rfl ?_
  refine J.getR (q := 10) (c' := 287) (ci := 12) (k := 98) (r := 361) O dX12_mayBeAt_7 rfl wd_6_170 (by decide) if_287_98 ?_
  refine J.iload_n (q := 11) O dX12_mayBeAt_10 rfl 1 rfl ?_
  obtain ⟨hv13, h⟩ := h
  refine J.iald (q := 12) (c' := 361) (j := a1.toNatClampNeg) (M 361 a1.toNatClampNeg) rfl O dX12_mayBeAt_11 rfl ar_361 hv13 rfl ?_
  refine J.iadd (q := 13) O dX12_mayBeAt_12 rfl ?_
  refine J.aload_n (q := 14) O dX12_mayBeAt_13 rfl 0 rfl ?_
  refine J.getR (q := 17) (c' := 287) (ci := 12) (k := 51) (r := 325) O dX12_mayBeAt_14 rfl wd_6_123 (by decide) if_287_51 ?_
  refine J.iconst (q := 18) (v := (3 : Int32)) O dX12_mayBeAt_17 rfl rfl ?_
  refine J.iald (q := 19) (c' := 325) (j := 3) (M 325 3) rfl O dX12_mayBeAt_18 rfl ar_325 (vin_lit (by decide)) (by decide) ?_
  refine J.icmp_gt (q := 22) (tgt := 26) O dX12_mayBeAt_19 rfl (by decide) (fun z14 => ?_) (fun z14 => ?_)
  · replace h := h.1 z14
    refine J.iconst (q := 27) (v := (0 : Int32)) O dX12_mayBeAt_26 rfl rfl ?_
    exact J.sub [0, 1, 2] rfl (j_X12_mayBeAt_b27 hG O hR h)
  · replace h := h.2 z14
    refine J.iconst (q := 23) (v := (1 : Int32)) O dX12_mayBeAt_22 rfl rfl ?_
    refine J.goto (q := 27) O dX12_mayBeAt_23 (by decide) ?_
    exact J.sub [0, 1, 2] rfl (j_X12_mayBeAt_b27 hG O hR h)
set_option maxHeartbeats 4000000 in
set_option maxRecDepth 20000 in
theorem j_X12_findPlan_c60 {X : CX} {G : GX} {K : Int32 → Mem → Prop} (hG : Gd G) (O : Ok X G cX12_findPlan 4 RX12 2) (hR : RetI X G cX12_findPlan K) {r39 : Int32 × Int32 × Mem → Prop} (hr39 : ∀ a : Int32 × Int32 × Mem, r39 a → J X G a.2.2 39 [(0, .ref (ad G 287)), (1, .int a.1), (2, .int a.2.1)] []) {a : Int32 × Int32 × Int32 × Mem} (h : Lp (fun (r60 : Int32 × Int32 × Int32 × Mem → Prop) a => f_X12_findPlan_c60 r39 K r60 a.1 a.2.1 a.2.2.1 a.2.2.2) a) : J X G a.2.2.2 60 [(0, .ref (ad G 287)), (1, .int a.1), (2, .int a.2.1), (3, .int a.2.2.1)] [] := by
  refine Lp.elim (P := fun a => J X G a.2.2.2 60 [(0, .ref (ad G 287)), (1, .int a.1), (2, .int a.2.1), (3, .int a.2.2.1)] []) ?_ h
  clear h
  intro r60 hr60 a h
  obtain ⟨x1, x2, x3, M⟩ := a
  unfold f_X12_findPlan_c60 at h
  (try dsimp only at h ⊢)
  refine J.iload_n (q := 61) O dX12_findPlan_60 rfl 3 rfl ?_
  refine J.aload_n (q := 62) O dX12_findPlan_61 rfl 0 rfl ?_
  refine J.getI (q := 65) (c' := 287) (ci := 12) (k := 97) (M 287 97) rfl O dX12_findPlan_62 rfl wd_6_169 (by decide) if_287_97 ?_
  refine J.icmp_ge (q := 68) (tgt := 86) O dX12_findPlan_65 rfl (by decide) (fun z21 => ?_) (fun z21 => ?_)
  · replace h := h.1 z21
    refine J.iinc (q := 89) O dX12_findPlan_86 rfl [(2, .int (x2 + (-1 : Int32))), (0, .ref (ad G 287)), (1, .int x1), (3, .int x3)] 2 rfl rfl (by decide) rfl ?_
    refine J.goto (q := 39) O dX12_findPlan_89 (by decide) ?_
    exact J.sub [1, 2, 0] rfl (hr39 _ h)
  · replace h := h.2 z21
    refine J.aload_n (q := 69) O dX12_findPlan_68 rfl 0 rfl ?_
    refine J.getR (q := 72) (c' := 287) (ci := 12) (k := 102) (r := 365) O dX12_findPlan_69 rfl wd_6_174 (by decide) if_287_102 ?_
    refine J.iload_n (q := 73) O dX12_findPlan_72 rfl 3 rfl ?_
    refine J.aload_n (q := 74) O dX12_findPlan_73 rfl 0 rfl ?_
    refine J.getR (q := 77) (c' := 287) (ci := 12) (k := 101) (r := 364) O dX12_findPlan_74 rfl wd_6_173 (by decide) if_287_101 ?_
    refine J.iload_n (q := 78) O dX12_findPlan_77 rfl 3 rfl ?_
    obtain ⟨hv22, h⟩ := h
    refine J.iald (q := 79) (c' := 364) (j := x3.toNatClampNeg) (M 364 x3.toNatClampNeg) rfl O dX12_findPlan_78 rfl ar_364 hv22 rfl ?_
    obtain ⟨hv23, h⟩ := h
    refine J.iast (q := 80) (c' := 365) (j := x3.toNatClampNeg) O dX12_findPlan_79 rfl ar_365 hv23 rfl ?_
    refine J.iinc (q := 83) O dX12_findPlan_80 rfl [(3, .int (x3 + (1 : Int32))), (0, .ref (ad G 287)), (1, .int x1), (2, .int x2)] 3 rfl rfl (by decide) rfl ?_
    refine J.goto (q := 60) O dX12_findPlan_83 (by decide) ?_
    exact J.sub [1, 2, 3, 0] rfl (hr60 _ h)
set_option maxHeartbeats 4000000 in
set_option maxRecDepth 20000 in
theorem j_X12_findPlan_b254 {X : CX} {G : GX} {K : Int32 → Mem → Prop} (hG : Gd G) (O : Ok X G cX12_findPlan 4 RX12 2) (hR : RetI X G cX12_findPlan K) {r39 : Int32 × Int32 × Mem → Prop} (hr39 : ∀ a : Int32 × Int32 × Mem, r39 a → J X G a.2.2 39 [(0, .ref (ad G 287)), (1, .int a.1), (2, .int a.2.1)] []) {x1 : Int32} {x2 : Int32} {M : Mem} (h : f_X12_findPlan_b254 r39 K x1 x2 M) : J X G M 254 [(0, .ref (ad G 287)), (1, .int x1), (2, .int x2)] [] := by
  unfold f_X12_findPlan_b254 at h
  refine J.goto (q := 39) O dX12_findPlan_254 (by decide) ?_
  exact J.sub [0, 1, 2] rfl (hr39 _ h)
set_option maxHeartbeats 4000000 in
set_option maxRecDepth 20000 in
theorem j_X12_findPlan_b238 {X : CX} {G : GX} {K : Int32 → Mem → Prop} (hG : Gd G) (O : Ok X G cX12_findPlan 4 RX12 2) (hR : RetI X G cX12_findPlan K) {r39 : Int32 × Int32 × Mem → Prop} (hr39 : ∀ a : Int32 × Int32 × Mem, r39 a → J X G a.2.2 39 [(0, .ref (ad G 287)), (1, .int a.1), (2, .int a.2.1)] []) {x1 : Int32} {x2 : Int32} {M : Mem} (h : f_X12_findPlan_b238 r39 K x1 x2 M) : J X G M 238 [(0, .ref (ad G 287)), (1, .int x1), (2, .int x2)] [] := by
  unfold f_X12_findPlan_b238 at h
  refine J.iinc (q := 241) O dX12_findPlan_238 rfl [(2, .int (x2 + (1 : Int32))), (0, .ref (ad G 287)), (1, .int x1)] 2 rfl rfl (by decide) rfl ?_
  refine J.iload_n (q := 242) O dX12_findPlan_241 rfl 0 rfl ?_
  refine J.bipush (q := 244) (v := (7 : Int32)) O dX12_findPlan_242 rfl rfl ?_
  refine J.icmp_ge (q := 247) (tgt := 254) O dX12_findPlan_244 rfl (by decide) (fun z24 => ?_) (fun z24 => ?_)
  · replace h := h.1 z24
    exact J.sub [1, 2, 0] rfl (j_X12_findPlan_b254 hG O hR hr39 h)
  · replace h := h.2 z24
    refine J.aload_n (q := 248) O dX12_findPlan_247 rfl 1 rfl ?_
    refine J.getR (q := 251) (c' := 287) (ci := 12) (k := 101) (r := 364) O dX12_findPlan_248 rfl wd_6_173 (by decide) if_287_101 ?_
    refine J.iload_n (q := 252) O dX12_findPlan_251 rfl 0 rfl ?_
    refine J.iconst (q := 253) (v := (-1 : Int32)) O dX12_findPlan_252 rfl rfl ?_
    obtain ⟨hv25, h⟩ := h
    refine J.iast (q := 254) (c' := 364) (j := (x2 + (1 : Int32)).toNatClampNeg) O dX12_findPlan_253 rfl ar_364 hv25 rfl ?_
    exact J.sub [1, 2, 0] rfl (j_X12_findPlan_b254 hG O hR hr39 h)
set_option maxHeartbeats 4000000 in
set_option maxRecDepth 20000 in
theorem j_X12_findPlan_b220 {X : CX} {G : GX} {K : Int32 → Mem → Prop} (hG : Gd G) (O : Ok X G cX12_findPlan 4 RX12 2) (hR : RetI X G cX12_findPlan K) {r39 : Int32 × Int32 × Mem → Prop} (hr39 : ∀ a : Int32 × Int32 × Mem, r39 a → J X G a.2.2 39 [(0, .ref (ad G 287)), (1, .int a.1), (2, .int a.2.1)] []) {x1 : Int32} {x2 : Int32} {s0 : Int32} {s1 : Int32} {s2 : Int32} {M : Mem} (h : f_X12_findPlan_b220 r39 K x1 x2 s0 s1 s2 M) : J X G M 220 [(0, .ref (ad G 287)), (1, .int x1), (2, .int x2)] [.int s0, .int s1, .int s2, .ref (ad G 366)] := by
  unfold f_X12_findPlan_b220 at h
  refine J.iadd (q := 221) O dX12_findPlan_220 rfl ?_
  obtain ⟨hv26, h⟩ := h
  refine J.iast (q := 222) (c' := 366) (j := s2.toNatClampNeg) O dX12_findPlan_221 rfl ar_366 hv26 rfl ?_
  refine J.iload_n (q := 223) O dX12_findPlan_222 rfl 1 rfl ?_
  refine J.if_lt (q := 226) (tgt := 238) O dX12_findPlan_223 rfl (by decide) (fun z27 => ?_) (fun z27 => ?_)
  · replace h := h.1 z27
    exact J.sub [0, 1, 2] rfl (j_X12_findPlan_b238 hG O hR hr39 h)
  · replace h := h.2 z27
    refine J.aload_n (q := 227) O dX12_findPlan_226 rfl 0 rfl ?_
    refine J.getR (q := 230) (c' := 287) (ci := 12) (k := 103) (r := 366) O dX12_findPlan_227 rfl wd_6_175 (by decide) if_287_103 ?_
    refine J.iload_n (q := 231) O dX12_findPlan_230 rfl 2 rfl ?_
    refine J.iconst (q := 232) (v := (1 : Int32)) O dX12_findPlan_231 rfl rfl ?_
    refine J.iadd (q := 233) O dX12_findPlan_232 rfl ?_
    obtain ⟨hv28, h⟩ := h
    refine J.iald (q := 234) (c' := 366) (j := (x2 + (1 : Int32)).toNatClampNeg) ((mset M 366 s2.toNatClampNeg (s1 + s0)) 366 ((x2 + (1 : Int32)).toNatClampNeg)) rfl O dX12_findPlan_233 rfl ar_366 hv28 rfl ?_
    refine J.iload_n (q := 235) O dX12_findPlan_234 rfl 1 rfl ?_
    refine J.icmp_ge (q := 238) (tgt := 254) O dX12_findPlan_235 rfl (by decide) (fun z29 => ?_) (fun z29 => ?_)
    · replace h := h.1 z29
      exact J.sub [0, 1, 2] rfl (j_X12_findPlan_b254 hG O hR hr39 h)
    · replace h := h.2 z29
      exact J.sub [0, 1, 2] rfl (j_X12_findPlan_b238 hG O hR hr39 h)
set_option maxHeartbeats 4000000 in
set_option maxRecDepth 20000 in
theorem j_X12_findPlan_b151 {X : CX} {G : GX} {K : Int32 → Mem → Prop} (hG : Gd G) (O : Ok X G cX12_findPlan 4 RX12 2) (hR : RetI X G cX12_findPlan K) {r39 : Int32 × Int32 × Mem → Prop} (hr39 : ∀ a : Int32 × Int32 × Mem, r39 a → J X G a.2.2 39 [(0, .ref (ad G 287)), (1, .int a.1), (2, .int a.2.1)] []) {x1 : Int32} {x2 : Int32} {x3 : Int32} {M : Mem} (h : f_X12_findPlan_b151 r39 K x1 x2 x3 M) : J X G M 151 [(0, .ref (ad G 287)), (1, .int x1), (2, .int x2), (3, .int x3)] [] := by
  unfold f_X12_findPlan_b151 at h
  refine J.iload_n (q := 152) O dX12_findPlan_151 rfl 3 rfl ?_
  refine J.bipush (q := 154) (v := (7 : Int32)) O dX12_findPlan_152 rfl rfl ?_
  refine J.icmp_ne (q := 157) (tgt := 163) O dX12_findPlan_154 rfl (by decide) (fun z30 => ?_) (fun z30 => ?_)
  · replace h := h.1 z30
    refine J.aload_n (q := 164) O dX12_findPlan_163 rfl 0 rfl ?_
    refine J.getR (q := 167) (c' := 287) (ci := 12) (k := 101) (r := 364) O dX12_findPlan_164 rfl wd_6_173 (by decide) if_287_101 ?_
    refine J.iload_n (q := 168) O dX12_findPlan_167 rfl 2 rfl ?_
    refine J.iload_n (q := 169) O dX12_findPlan_168 rfl 3 rfl ?_
    obtain ⟨hv31, h⟩ := h
    refine J.iast (q := 170) (c' := 364) (j := x2.toNatClampNeg) O dX12_findPlan_169 rfl ar_364 hv31 rfl ?_
    refine J.aload_n (q := 171) O dX12_findPlan_170 rfl 0 rfl ?_
    refine J.getR (q := 174) (c' := 287) (ci := 12) (k := 104) (r := 367) O dX12_findPlan_171 rfl wd_6_176 (by decide) if_287_104 ?_
    refine J.iload_n (q := 175) O dX12_findPlan_174 rfl 3 rfl ?_
    refine J.dup2 (q := 176) O dX12_findPlan_175 rfl rfl rfl ?_
    obtain ⟨hv32, h⟩ := h
    refine J.iald (q := 177) (c' := 367) (j := x3.toNatClampNeg) (M 367 x3.toNatClampNeg) rfl O dX12_findPlan_176 rfl ar_367 hv32 rfl ?_
    refine J.aload_n (q := 178) O dX12_findPlan_177 rfl 0 rfl ?_
    refine J.getR (q := 181) (c' := 287) (ci := 12) (k := 98) (r := 361) O dX12_findPlan_178 rfl wd_6_170 (by decide) if_287_98 ?_
    refine J.iload_n (q := 182) O dX12_findPlan_181 rfl 2 rfl ?_
    obtain ⟨hv33, h⟩ := h
    refine J.iald (q := 183) (c' := 361) (j := x2.toNatClampNeg) (M 361 x2.toNatClampNeg) rfl O dX12_findPlan_182 rfl ar_361 hv33 rfl ?_
    refine J.iadd (q := 184) O dX12_findPlan_183 rfl ?_
    obtain ⟨hv34, h⟩ := h
    refine J.iast (q := 185) (c' := 367) (j := x3.toNatClampNeg) O dX12_findPlan_184 rfl ar_367 hv34 rfl ?_
    refine J.aload_n (q := 186) O dX12_findPlan_185 rfl 0 rfl ?_
    refine J.getR (q := 189) (c' := 287) (ci := 12) (k := 103) (r := 366) O dX12_findPlan_186 rfl wd_6_175 (by decide) if_287_103 ?_
    refine J.iload_n (q := 190) O dX12_findPlan_189 rfl 2 rfl ?_
    refine J.iconst (q := 191) (v := (1 : Int32)) O dX12_findPlan_190 rfl rfl ?_
    refine J.iadd (q := 192) O dX12_findPlan_191 rfl ?_
    refine J.aload_n (q := 193) O dX12_findPlan_192 rfl 0 rfl ?_
    refine J.getR (q := 196) (c' := 287) (ci := 12) (k := 103) (r := 366) O dX12_findPlan_193 rfl wd_6_175 (by decide) if_287_103 ?_
    refine J.iload_n (q := 197) O dX12_findPlan_196 rfl 2 rfl ?_
    obtain ⟨hv35, h⟩ := h
    refine J.iald (q := 198) (c' := 366) (j := x2.toNatClampNeg) (M 366 x2.toNatClampNeg) rfl O dX12_findPlan_197 rfl ar_366 hv35 rfl ?_
    refine J.iload_n (q := 199) O dX12_findPlan_198 rfl 3 rfl ?_
    refine J.aload_n (q := 200) O dX12_findPlan_199 rfl 0 rfl ?_
    refine J.getR (q := 203) (c' := 287) (ci := 12) (k := 99) (r := 362) O dX12_findPlan_200 rfl wd_6_171 (by decide) if_287_99 ?_
    refine J.iload_n (q := 204) O dX12_findPlan_203 rfl 2 rfl ?_
    obtain ⟨hv36, h⟩ := h
    refine J.iald (q := 205) (c' := 362) (j := x2.toNatClampNeg) (M 362 x2.toNatClampNeg) rfl O dX12_findPlan_204 rfl ar_362 hv36 rfl ?_
    refine J.icmp_le (q := 208) (tgt := 219) O dX12_findPlan_205 rfl (by decide) (fun z37 => ?_) (fun z37 => ?_)
    · replace h := h.1 z37
      refine J.iconst (q := 220) (v := (0 : Int32)) O dX12_findPlan_219 rfl rfl ?_
      exact J.sub [0, 1, 2] rfl (j_X12_findPlan_b220 hG O hR hr39 h)
    · replace h := h.2 z37
      refine J.iload_n (q := 209) O dX12_findPlan_208 rfl 3 rfl ?_
      refine J.aload_n (q := 210) O dX12_findPlan_209 rfl 0 rfl ?_
      refine J.getR (q := 213) (c' := 287) (ci := 12) (k := 99) (r := 362) O dX12_findPlan_210 rfl wd_6_171 (by decide) if_287_99 ?_
      refine J.iload_n (q := 214) O dX12_findPlan_213 rfl 2 rfl ?_
      obtain ⟨hv38, h⟩ := h
      refine J.iald (q := 215) (c' := 362) (j := x2.toNatClampNeg) (M 362 x2.toNatClampNeg) rfl O dX12_findPlan_214 rfl ar_362 hv38 rfl ?_
      refine J.isub (q := 216) O dX12_findPlan_215 rfl ?_
      refine J.goto (q := 220) O dX12_findPlan_216 (by decide) ?_
      exact J.sub [0, 1, 2] rfl (j_X12_findPlan_b220 hG O hR hr39 h)
  · replace h := h.2 z30
    refine J.iinc (q := 160) O dX12_findPlan_157 rfl [(2, .int (x2 + (-1 : Int32))), (0, .ref (ad G 287)), (1, .int x1), (3, .int x3)] 2 rfl rfl (by decide) rfl ?_
    refine J.goto (q := 39) O dX12_findPlan_160 (by decide) ?_
    exact J.sub [1, 2, 0] rfl (hr39 _ h)
set_option maxHeartbeats 4000000 in
set_option maxRecDepth 20000 in
theorem j_X12_findPlan_c130 {X : CX} {G : GX} {K : Int32 → Mem → Prop} (hG : Gd G) (O : Ok X G cX12_findPlan 4 RX12 2) (hR : RetI X G cX12_findPlan K) {r39 : Int32 × Int32 × Mem → Prop} (hr39 : ∀ a : Int32 × Int32 × Mem, r39 a → J X G a.2.2 39 [(0, .ref (ad G 287)), (1, .int a.1), (2, .int a.2.1)] []) {a : Int32 × Int32 × Int32 × Mem} (h : Lp (fun (r130 : Int32 × Int32 × Int32 × Mem → Prop) a => f_X12_findPlan_c130 r39 K r130 a.1 a.2.1 a.2.2.1 a.2.2.2) a) : J X G a.2.2.2 130 [(0, .ref (ad G 287)), (1, .int a.1), (2, .int a.2.1), (3, .int a.2.2.1)] [] := by
  refine Lp.elim (P := fun a => J X G a.2.2.2 130 [(0, .ref (ad G 287)), (1, .int a.1), (2, .int a.2.1), (3, .int a.2.2.1)] []) ?_ h
  clear h
  intro r130 hr130 a h
  obtain ⟨x1, x2, x3, M⟩ := a
  unfold f_X12_findPlan_c130 at h
  (try dsimp only at h ⊢)
  refine J.iload_n (q := 131) O dX12_findPlan_130 rfl 3 rfl ?_
  refine J.bipush (q := 133) (v := (7 : Int32)) O dX12_findPlan_131 rfl rfl ?_
  refine J.icmp_ge (q := 136) (tgt := 151) O dX12_findPlan_133 rfl (by decide) (fun z39 => ?_) (fun z39 => ?_)
  · replace h := h.1 z39
    exact J.sub [0, 1, 2, 3] rfl (j_X12_findPlan_b151 hG O hR hr39 h)
  · replace h := h.2 z39
    refine J.aload_n (q := 137) O dX12_findPlan_136 rfl 0 rfl ?_
    refine J.iload_n (q := 138) O dX12_findPlan_137 rfl 2 rfl ?_
    refine J.iload_n (q := 139) O dX12_findPlan_138 rfl 3 rfl ?_
    refine J.callVI (q := 142) [.int x2, .int x3] [] [.int x3, .int x2, .ref (ad G 287)] rfl O dX12_findPlan_139 rfl (c_X12_mayBeAt hG h) wd_9_93 mw_X12_mayBeAt io_287 rfl (by decide) (Nat.le_of_ble_eq_true rfl) (fun v40 M40 h => ?_)
    refine J.if_ne (q := 145) (tgt := 151) O dX12_findPlan_142 rfl (by decide) (fun z41 => ?_) (fun z41 => ?_)
    · replace h := h.1 z41
      exact J.sub [0, 1, 2, 3] rfl (j_X12_findPlan_b151 hG O hR hr39 h)
    · replace h := h.2 z41
      refine J.iinc (q := 148) O dX12_findPlan_145 rfl [(3, .int (x3 + (1 : Int32))), (0, .ref (ad G 287)), (1, .int x1), (2, .int x2)] 3 rfl rfl (by decide) rfl ?_
      refine J.goto (q := 130) O dX12_findPlan_148 (by decide) ?_
      exact J.sub [1, 2, 3, 0] rfl (hr130 _ h)
set_option maxHeartbeats 4000000 in
set_option maxRecDepth 20000 in
theorem j_X12_findPlan_b121 {X : CX} {G : GX} {K : Int32 → Mem → Prop} (hG : Gd G) (O : Ok X G cX12_findPlan 4 RX12 2) (hR : RetI X G cX12_findPlan K) {r39 : Int32 × Int32 × Mem → Prop} (hr39 : ∀ a : Int32 × Int32 × Mem, r39 a → J X G a.2.2 39 [(0, .ref (ad G 287)), (1, .int a.1), (2, .int a.2.1)] []) {x1 : Int32} {x2 : Int32} {M : Mem} (h : f_X12_findPlan_b121 r39 K x1 x2 M) : J X G M 121 [(0, .ref (ad G 287)), (1, .int x1), (2, .int x2)] [] := by
  unfold f_X12_findPlan_b121 at h
  refine J.aload_n (q := 122) O dX12_findPlan_121 rfl 0 rfl ?_
  refine J.getR (q := 125) (c' := 287) (ci := 12) (k := 101) (r := 364) O dX12_findPlan_122 rfl wd_6_173 (by decide) if_287_101 ?_
  refine J.iload_n (q := 126) O dX12_findPlan_125 rfl 2 rfl ?_
  obtain ⟨hv42, h⟩ := h
  refine J.iald (q := 127) (c' := 364) (j := x2.toNatClampNeg) (M 364 x2.toNatClampNeg) rfl O dX12_findPlan_126 rfl ar_364 hv42 rfl ?_
  refine J.iconst (q := 128) (v := (1 : Int32)) O dX12_findPlan_127 rfl rfl ?_
  refine J.iadd (q := 129) O dX12_findPlan_128 rfl ?_
  refine J.istore_n (q := 130) O dX12_findPlan_129 rfl [(3, .int ((M 364 x2.toNatClampNeg) + (1 : Int32))), (0, .ref (ad G 287)), (1, .int x1), (2, .int x2)] (by decide) rfl ?_
  exact J.sub [1, 2, 3, 0] rfl (j_X12_findPlan_c130 hG O hR hr39 h)
set_option maxHeartbeats 4000000 in
set_option maxRecDepth 20000 in
theorem j_X12_findPlan_c39 {X : CX} {G : GX} {K : Int32 → Mem → Prop} (hG : Gd G) (O : Ok X G cX12_findPlan 4 RX12 2) (hR : RetI X G cX12_findPlan K) {a : Int32 × Int32 × Mem} (h : Lp (fun (r39 : Int32 × Int32 × Mem → Prop) a => f_X12_findPlan_c39 K r39 a.1 a.2.1 a.2.2) a) : J X G a.2.2 39 [(0, .ref (ad G 287)), (1, .int a.1), (2, .int a.2.1)] [] := by
  refine Lp.elim (P := fun a => J X G a.2.2 39 [(0, .ref (ad G 287)), (1, .int a.1), (2, .int a.2.1)] []) ?_ h
  clear h
  intro r39 hr39 a h
  obtain ⟨x1, x2, M⟩ := a
  unfold f_X12_findPlan_c39 at h
  (try dsimp only at h ⊢)
  refine J.iload_n (q := 40) O dX12_findPlan_39 rfl 2 rfl ?_
  refine J.if_lt (q := 43) (tgt := 257) O dX12_findPlan_40 rfl (by decide) (fun z43 => ?_) (fun z43 => ?_)
  · replace h := h.1 z43
    refine J.iload_n (q := 258) O dX12_findPlan_257 rfl 1 rfl ?_
    exact hR _ _ _ _ dX12_findPlan_258 h
  · replace h := h.2 z43
    refine J.iload_n (q := 44) O dX12_findPlan_43 rfl 2 rfl ?_
    refine J.aload_n (q := 45) O dX12_findPlan_44 rfl 0 rfl ?_
    refine J.getI (q := 48) (c' := 287) (ci := 12) (k := 97) (M 287 97) rfl O dX12_findPlan_45 rfl wd_6_169 (by decide) if_287_97 ?_
    refine J.icmp_ne (q := 51) (tgt := 92) O dX12_findPlan_48 rfl (by decide) (fun z44 => ?_) (fun z44 => ?_)
    · replace h := h.1 z44
      refine J.aload_n (q := 93) O dX12_findPlan_92 rfl 0 rfl ?_
      refine J.getR (q := 96) (c' := 287) (ci := 12) (k := 101) (r := 364) O dX12_findPlan_93 rfl wd_6_173 (by decide) if_287_101 ?_
      refine J.iload_n (q := 97) O dX12_findPlan_96 rfl 2 rfl ?_
      obtain ⟨hv45, h⟩ := h
      refine J.iald (q := 98) (c' := 364) (j := x2.toNatClampNeg) (M 364 x2.toNatClampNeg) rfl O dX12_findPlan_97 rfl ar_364 hv45 rfl ?_
      refine J.if_lt (q := 101) (tgt := 121) O dX12_findPlan_98 rfl (by decide) (fun z46 => ?_) (fun z46 => ?_)
      · replace h := h.1 z46
        exact J.sub [0, 1, 2] rfl (j_X12_findPlan_b121 hG O hR hr39 h)
      · replace h := h.2 z46
        refine J.aload_n (q := 102) O dX12_findPlan_101 rfl 0 rfl ?_
        refine J.getR (q := 105) (c' := 287) (ci := 12) (k := 104) (r := 367) O dX12_findPlan_102 rfl wd_6_176 (by decide) if_287_104 ?_
        refine J.aload_n (q := 106) O dX12_findPlan_105 rfl 0 rfl ?_
        refine J.getR (q := 109) (c' := 287) (ci := 12) (k := 101) (r := 364) O dX12_findPlan_106 rfl wd_6_173 (by decide) if_287_101 ?_
        refine J.iload_n (q := 110) O dX12_findPlan_109 rfl 2 rfl ?_
        obtain ⟨hv47, h⟩ := h
        refine J.iald (q := 111) (c' := 364) (j := x2.toNatClampNeg) (M 364 x2.toNatClampNeg) rfl O dX12_findPlan_110 rfl ar_364 hv47 rfl ?_
        refine J.dup2 (q := 112) O dX12_findPlan_111 rfl rfl rfl ?_
        obtain ⟨hv48, h⟩ := h
        refine J.iald (q := 113) (c' := 367) (j := (M 364 x2.toNatClampNeg).toNatClampNeg) (M 367 ((M 364 x2.toNatClampNeg).toNatClampNeg)) rfl O dX12_findPlan_112 rfl ar_367 hv48 rfl ?_
        refine J.aload_n (q := 114) O dX12_findPlan_113 rfl 0 rfl ?_
        refine J.getR (q := 117) (c' := 287) (ci := 12) (k := 98) (r := 361) O dX12_findPlan_114 rfl wd_6_170 (by decide) if_287_98 ?_
        refine J.iload_n (q := 118) O dX12_findPlan_117 rfl 2 rfl ?_
        obtain ⟨hv49, h⟩ := h
        refine J.iald (q := 119) (c' := 361) (j := x2.toNatClampNeg) (M 361 x2.toNatClampNeg) rfl O dX12_findPlan_118 rfl ar_361 hv49 rfl ?_
        refine J.isub (q := 120) O dX12_findPlan_119 rfl ?_
        obtain ⟨hv50, h⟩ := h
        refine J.iast (q := 121) (c' := 367) (j := (M 364 x2.toNatClampNeg).toNatClampNeg) O dX12_findPlan_120 rfl ar_367 hv50 rfl ?_
        exact J.sub [0, 1, 2] rfl (j_X12_findPlan_b121 hG O hR hr39 h)
    · replace h := h.2 z44
      refine J.aload_n (q := 52) O dX12_findPlan_51 rfl 0 rfl ?_
      refine J.getR (q := 55) (c' := 287) (ci := 12) (k := 103) (r := 366) O dX12_findPlan_52 rfl wd_6_175 (by decide) if_287_103 ?_
      refine J.iload_n (q := 56) O dX12_findPlan_55 rfl 2 rfl ?_
      obtain ⟨hv51, h⟩ := h
      refine J.iald (q := 57) (c' := 366) (j := x2.toNatClampNeg) (M 366 x2.toNatClampNeg) rfl O dX12_findPlan_56 rfl ar_366 hv51 rfl ?_
      refine J.istore_n (q := 58) O dX12_findPlan_57 rfl [(1, .int (M 366 x2.toNatClampNeg)), (0, .ref (ad G 287)), (2, .int x2)] (by decide) rfl ?_
      refine J.iconst (q := 59) (v := (0 : Int32)) O dX12_findPlan_58 rfl rfl ?_
      refine J.istore_n (q := 60) O dX12_findPlan_59 rfl [(3, .int (0 : Int32)), (1, .int (M 366 x2.toNatClampNeg)), (0, .ref (ad G 287)), (2, .int x2)] (by decide) rfl ?_
      exact J.sub [2, 1, 3, 0] rfl (j_X12_findPlan_c60 hG O hR hr39 h)
set_option maxHeartbeats 4000000 in
set_option maxRecDepth 20000 in
theorem j_X12_findPlan_c6 {X : CX} {G : GX} {K : Int32 → Mem → Prop} (hG : Gd G) (O : Ok X G cX12_findPlan 4 RX12 2) (hR : RetI X G cX12_findPlan K) {a : Int32 × Int32 × Int32 × Mem} (h : Lp (fun (r6 : Int32 × Int32 × Int32 × Mem → Prop) a => f_X12_findPlan_c6 K r6 a.1 a.2.1 a.2.2.1 a.2.2.2) a) : J X G a.2.2.2 6 [(0, .ref (ad G 287)), (1, .int a.1), (2, .int a.2.1), (3, .int a.2.2.1)] [] := by
  refine Lp.elim (P := fun a => J X G a.2.2.2 6 [(0, .ref (ad G 287)), (1, .int a.1), (2, .int a.2.1), (3, .int a.2.2.1)] []) ?_ h
  clear h
  intro r6 hr6 a h
  obtain ⟨x1, x2, x3, M⟩ := a
  unfold f_X12_findPlan_c6 at h
  (try dsimp only at h ⊢)
  refine J.iload_n (q := 7) O dX12_findPlan_6 rfl 3 rfl ?_
  refine J.bipush (q := 9) (v := (7 : Int32)) O dX12_findPlan_7 rfl rfl ?_
  refine J.icmp_ge (q := 12) (tgt := 25) O dX12_findPlan_9 rfl (by decide) (fun z52 => ?_) (fun z52 => ?_)
  · replace h := h.1 z52
    refine J.aload_n (q := 26) O dX12_findPlan_25 rfl 0 rfl ?_
    refine J.getR (q := 29) (c' := 287) (ci := 12) (k := 103) (r := 366) O dX12_findPlan_26 rfl wd_6_175 (by decide) if_287_103 ?_
    refine J.iconst (q := 30) (v := (0 : Int32)) O dX12_findPlan_29 rfl rfl ?_
    refine J.iconst (q := 31) (v := (0 : Int32)) O dX12_findPlan_30 rfl rfl ?_
    refine J.iast (q := 32) (c' := 366) (j := 0) O dX12_findPlan_31 rfl ar_366 (vin_lit (by decide)) (by decide) ?_
    refine J.aload_n (q := 33) O dX12_findPlan_32 rfl 0 rfl ?_
    refine J.getR (q := 36) (c' := 287) (ci := 12) (k := 101) (r := 364) O dX12_findPlan_33 rfl wd_6_173 (by decide) if_287_101 ?_
    refine J.iconst (q := 37) (v := (0 : Int32)) O dX12_findPlan_36 rfl rfl ?_
    refine J.iconst (q := 38) (v := (-1 : Int32)) O dX12_findPlan_37 rfl rfl ?_
    refine J.iast (q := 39) (c' := 364) (j := 0) O dX12_findPlan_38 rfl ar_364 (vin_lit (by decide)) (by decide) ?_
    exact J.sub [0, 1, 2] rfl (j_X12_findPlan_c39 hG O hR h)
  · replace h := h.2 z52
    refine J.aload_n (q := 13) O dX12_findPlan_12 rfl 0 rfl ?_
    refine J.getR (q := 16) (c' := 287) (ci := 12) (k := 104) (r := 367) O dX12_findPlan_13 rfl wd_6_176 (by decide) if_287_104 ?_
    refine J.iload_n (q := 17) O dX12_findPlan_16 rfl 3 rfl ?_
    refine J.iconst (q := 18) (v := (0 : Int32)) O dX12_findPlan_17 rfl rfl ?_
    obtain ⟨hv53, h⟩ := h
    refine J.iast (q := 19) (c' := 367) (j := x3.toNatClampNeg) O dX12_findPlan_18 rfl ar_367 hv53 rfl ?_
    refine J.iinc (q := 22) O dX12_findPlan_19 rfl [(3, .int (x3 + (1 : Int32))), (0, .ref (ad G 287)), (1, .int x1), (2, .int x2)] 3 rfl rfl (by decide) rfl ?_
    refine J.goto (q := 6) O dX12_findPlan_22 (by decide) ?_
    exact J.sub [1, 2, 3, 0] rfl (hr6 _ h)
set_option maxHeartbeats 4000000 in
set_option maxRecDepth 20000 in
theorem c_X12_findPlan {l : Launch} {G : GX} (hG : Gd G) {M : Mem} {K : Int32 → Mem → Prop} (h : f_X12_findPlan  M K) : CI l G yX12_findPlan cX12_findPlan 4 (some .int) 2 [.ref (ad G 287)] M K := by
  unfold f_X12_findPlan at h
  refine CI.mk hG (by decide) [(0, .ref (ad G 287))] rfl (Nat.le_of_ble_eq_true rfl) (fun X O hlX hR => ?_)
  subst hlX
  refine J.iconst (q := 1) (v := (-1 : Int32)) O dX12_findPlan_0 rfl rfl ?_
  refine J.istore_n (q := 2) O dX12_findPlan_1 rfl [(1, .int (-1 : Int32)), (0, .ref (ad G 287))] (by decide) rfl ?_
  refine J.iconst (q := 3) (v := (0 : Int32)) O dX12_findPlan_2 rfl rfl ?_
  refine J.istore_n (q := 4) O dX12_findPlan_3 rfl [(2, .int (0 : Int32)), (1, .int (-1 : Int32)), (0, .ref (ad G 287))] (by decide) rfl ?_
  refine J.iconst (q := 5) (v := (0 : Int32)) O dX12_findPlan_4 rfl rfl ?_
  refine J.istore_n (q := 6) O dX12_findPlan_5 rfl [(3, .int (0 : Int32)), (2, .int (0 : Int32)), (1, .int (-1 : Int32)), (0, .ref (ad G 287))] (by decide) rfl ?_
  exact J.sub [3, 2, 1, 0] rfl (j_X12_findPlan_c6 hG O hR h)
set_option maxHeartbeats 4000000 in
set_option maxRecDepth 20000 in
theorem j_X12_plan_b15 {X : CX} {G : GX} {K : Int32 → Mem → Prop} (hG : Gd G) (O : Ok X G cX12_plan 2 RX12 3) (hR : RetI X G cX12_plan K) {s0 : Int32} {M : Mem} (h : f_X12_plan_b15 K s0 M) : J X G M 15 [] [.int s0] := by
  unfold f_X12_plan_b15 at h
  exact hR _ _ _ _ dX12_plan_15 h
set_option maxHeartbeats 4000000 in
set_option maxRecDepth 20000 in
theorem c_X12_plan {l : Launch} {G : GX} (hG : Gd G) {M : Mem} {K : Int32 → Mem → Prop} (h : f_X12_plan  M K) : CI l G yX12_plan cX12_plan 2 (some .int) 3 [.ref (ad G 287)] M K := by
  unfold f_X12_plan at h
  refine CI.mk hG (by decide) [(0, .ref (ad G 287))] rfl (Nat.le_of_ble_eq_true rfl) (fun X O hlX hR => ?_)
  subst hlX
  refine J.aload_n (q := 1) O dX12_plan_0 rfl 0 rfl ?_
  refine J.callVI (q := 4) [] [] [.ref (ad G 287)] rfl O dX12_plan_1 rfl (c_X12_findPlan hG h) wd_9_89 mw_X12_findPlan io_287 rfl (by decide) (Nat.le_of_ble_eq_true rfl) (fun v1 M1 h => ?_)
  refine J.istore_n (q := 5) O dX12_plan_4 rfl [(1, .int v1), (0, .ref (ad G 287))] (by decide) rfl ?_
  refine J.iload_n (q := 6) O dX12_plan_5 rfl 0 rfl ?_
  refine J.if_ge (q := 9) (tgt := 14) O dX12_plan_6 rfl (by decide) (fun z2 => ?_) (fun z2 => ?_)
  · replace h := h.1 z2
    refine J.iload_n (q := 15) O dX12_plan_14 rfl 0 rfl ?_
    exact J.sub [] rfl (j_X12_plan_b15 hG O hR h)
  · replace h := h.2 z2
    refine J.bipush (q := 11) (v := (-9 : Int32)) O dX12_plan_9 rfl rfl ?_
    refine J.goto (q := 15) O dX12_plan_11 (by decide) ?_
    exact J.sub [] rfl (j_X12_plan_b15 hG O hR h)
set_option maxHeartbeats 4000000 in
set_option maxRecDepth 20000 in
theorem j_X12_placeOf_b38 {X : CX} {G : GX} {K : Int32 → Mem → Prop} (hG : Gd G) (O : Ok X G cX12_placeOf 2 RX12 3) (hR : RetI X G cX12_placeOf K) {s0 : Int32} {M : Mem} (h : f_X12_placeOf_b38 K s0 M) : J X G M 38 [] [.int s0] := by
  unfold f_X12_placeOf_b38 at h
  exact hR _ _ _ _ dX12_placeOf_38 h
set_option maxHeartbeats 4000000 in
set_option maxRecDepth 20000 in
theorem c_X12_placeOf {l : Launch} {G : GX} (hG : Gd G) {a1 : Int32} {M : Mem} {K : Int32 → Mem → Prop} (h : f_X12_placeOf a1 M K) : CI l G yX12_placeOf cX12_placeOf 2 (some .int) 3 [.ref (ad G 287), .int a1] M K := by
  unfold f_X12_placeOf at h
  refine CI.mk hG (by decide) [(0, .ref (ad G 287)), (1, .int a1)] rfl (Nat.le_of_ble_eq_true rfl) (fun X O hlX hR => ?_)
  subst hlX
  refine J.iload_n (q := 1) O dX12_placeOf_0 rfl 1 rfl ?_
  refine J.iconst (q := 2) (v := (0 : Int32)) O dX12_placeOf_1 rfl rfl ?_
  refine J.aload_n (q := 3) O dX12_placeOf_2 rfl 0 rfl ?_
  refine J.getI (q := 6) (c' := 287) (ci := 12) (k := 97) (M 287 97) rfl O dX12_placeOf_3 rfl wd_6_169 (by decide) if_287_97 ?_
  refine J.iconst (q := 7) (v := (1 : Int32)) O dX12_placeOf_6 rfl rfl ?_
  refine J.isub (q := 8) O dX12_placeOf_7 rfl ?_
  refine J.callSI (q := 11) [.int a1, .int (0 : Int32), .int ((M 287 97) - (1 : Int32))] [] [.int ((M 287 97) - (1 : Int32)), .int (0 : Int32), .int a1] rfl O dX12_placeOf_8 rfl (c_X12_in hG h) wd_7_181 mw_X12_in rfl (by decide) (Nat.le_of_ble_eq_true rfl) (fun v2 M2 h => ?_)
  refine J.if_ne (q := 14) (tgt := 20) O dX12_placeOf_11 rfl (by decide) (fun z3 => ?_) (fun z3 => ?_)
  · replace h := h.1 z3
    refine J.aload_n (q := 21) O dX12_placeOf_20 rfl 0 rfl ?_
    refine J.callVI (q := 24) [] [] [.ref (ad G 287)] rfl O dX12_placeOf_21 rfl (c_X12_findPlan hG h) wd_9_89 mw_X12_findPlan io_287 rfl (by decide) (Nat.le_of_ble_eq_true rfl) (fun v4 M4 h => ?_)
    refine J.if_ge (q := 27) (tgt := 32) O dX12_placeOf_24 rfl (by decide) (fun z5 => ?_) (fun z5 => ?_)
    · replace h := h.1 z5
      refine J.aload_n (q := 33) O dX12_placeOf_32 rfl 0 rfl ?_
      refine J.getR (q := 36) (c' := 287) (ci := 12) (k := 102) (r := 365) O dX12_placeOf_33 rfl wd_6_174 (by decide) if_287_102 ?_
      refine J.iload_n (q := 37) O dX12_placeOf_36 rfl 1 rfl ?_
      obtain ⟨hv6, h⟩ := h
      refine J.iald (q := 38) (c' := 365) (j := a1.toNatClampNeg) (M4 365 a1.toNatClampNeg) rfl O dX12_placeOf_37 rfl ar_365 hv6 rfl ?_
      exact J.sub [] rfl (j_X12_placeOf_b38 hG O hR h)
    · replace h := h.2 z5
      refine J.bipush (q := 29) (v := (-9 : Int32)) O dX12_placeOf_27 rfl rfl ?_
      refine J.goto (q := 38) O dX12_placeOf_29 (by decide) ?_
      exact J.sub [] rfl (j_X12_placeOf_b38 hG O hR h)
  · replace h := h.2 z3
    refine J.aload_n (q := 15) O dX12_placeOf_14 rfl 0 rfl ?_
    refine J.iconst (q := 16) (v := (-1 : Int32)) O dX12_placeOf_15 rfl rfl ?_
    refine J.callVI (q := 19) [.int (-1 : Int32)] [] [.int (-1 : Int32), .ref (ad G 287)] rfl O dX12_placeOf_16 rfl (c_X12_refuse hG h) wd_7_158 mw_X12_refuse io_287 rfl (by decide) (Nat.le_of_ble_eq_true rfl) (fun v7 M7 h => ?_)
    exact hR _ _ _ _ dX12_placeOf_19 h
set_option maxHeartbeats 4000000 in
set_option maxRecDepth 20000 in
theorem c_X12_put {l : Launch} {G : GX} (hG : Gd G) {a1 : Int32} {M : Mem} {K : Int32 → Mem → Prop} (h : f_X12_put a1 M K) : CI l G yX12_put cX12_put 2 (some .int) 2 [.ref (ad G 287), .int a1] M K := by
  unfold f_X12_put at h
  refine CI.mk hG (by decide) [(0, .ref (ad G 287)), (1, .int a1)] rfl (Nat.le_of_ble_eq_true rfl) (fun X O hlX hR => ?_)
  subst hlX
  refine J.aload_n (q := 1) O dX12_put_0 rfl 0 rfl ?_
  refine J.getI (q := 4) (c' := 287) (ci := 12) (k := 106) (M 287 106) rfl O dX12_put_1 rfl wd_6_178 (by decide) if_287_106 ?_
  refine J.bipush (q := 6) (v := (40 : Int32)) O dX12_put_4 rfl rfl ?_
  refine J.icmp_ne (q := 9) (tgt := 16) O dX12_put_6 rfl (by decide) (fun z2 => ?_) (fun z2 => ?_)
  · replace h := h.1 z2
    refine J.aload_n (q := 17) O dX12_put_16 rfl 0 rfl ?_
    refine J.getR (q := 20) (c' := 287) (ci := 12) (k := 105) (r := 368) O dX12_put_17 rfl wd_6_177 (by decide) if_287_105 ?_
    refine J.aload_n (q := 21) O dX12_put_20 rfl 0 rfl ?_
    refine J.getI (q := 24) (c' := 287) (ci := 12) (k := 106) (M 287 106) rfl O dX12_put_21 rfl wd_6_178 (by decide) if_287_106 ?_
    refine J.iload_n (q := 25) O dX12_put_24 rfl 1 rfl ?_
    obtain ⟨hv3, h⟩ := h
    refine J.iast (q := 26) (c' := 368) (j := (M 287 106).toNatClampNeg) O dX12_put_25 rfl ar_368 hv3 rfl ?_
    refine J.aload_n (q := 27) O dX12_put_26 rfl 0 rfl ?_
    refine J.dup (q := 28) O dX12_put_27 rfl rfl ?_
    refine J.getI (q := 31) (c' := 287) (ci := 12) (k := 106) (M 287 106) rfl O dX12_put_28 rfl wd_6_178 (by decide) if_287_106 ?_
    refine J.iconst (q := 32) (v := (1 : Int32)) O dX12_put_31 rfl rfl ?_
    refine J.iadd (q := 33) O dX12_put_32 rfl ?_
    refine J.putI (q := 36) (c' := 287) (ci := 12) (k := 106) O dX12_put_33 rfl wd_6_178 (by decide) if_287_106 rfl rfl ?_
    refine J.aload_n (q := 37) O dX12_put_36 rfl 0 rfl ?_
    refine J.getI (q := 40) (c' := 287) (ci := 12) (k := 106) ((M 287 106) + (1 : Int32)) rfl O dX12_put_37 rfl wd_6_178 (by decide) if_287_106 ?_
    exact hR _ _ _ _ dX12_put_40 h
  · replace h := h.2 z2
    refine J.aload_n (q := 10) O dX12_put_9 rfl 0 rfl ?_
    refine J.bipush (q := 12) (v := (-6 : Int32)) O dX12_put_10 rfl rfl ?_
    refine J.callVI (q := 15) [.int (-6 : Int32)] [] [.int (-6 : Int32), .ref (ad G 287)] rfl O dX12_put_12 rfl (c_X12_refuse hG h) wd_7_158 mw_X12_refuse io_287 rfl (by decide) (Nat.le_of_ble_eq_true rfl) (fun v4 M4 h => ?_)
    exact hR _ _ _ _ dX12_put_15 h
set_option maxHeartbeats 4000000 in
set_option maxRecDepth 20000 in
theorem j_X12_check_b8 {X : CX} {G : GX} {K : Int32 → Mem → Prop} (hG : Gd G) (O : Ok X G cX12_check 5 RX12 4) (hR : RetI X G cX12_check K) {M : Mem} (h : f_X12_check_b8 K  M) : J X G M 8 [(0, .ref (ad G 287))] [] := by
  unfold f_X12_check_b8 at h
  refine J.aload_n (q := 9) O dX12_check_8 rfl 0 rfl ?_
  refine J.bipush (q := 11) (v := (-4 : Int32)) O dX12_check_9 rfl rfl ?_
  refine J.callVI (q := 14) [.int (-4 : Int32)] [] [.int (-4 : Int32), .ref (ad G 287)] rfl O dX12_check_11 rfl (c_X12_refuse hG h) wd_7_158 mw_X12_refuse io_287 rfl (by decide) (Nat.le_of_ble_eq_true rfl) (fun v3 M3 h => ?_)
  exact hR _ _ _ _ dX12_check_14 h
set_option maxHeartbeats 4000000 in
set_option maxRecDepth 20000 in
theorem j_X12_check_b28 {X : CX} {G : GX} {K : Int32 → Mem → Prop} (hG : Gd G) (O : Ok X G cX12_check 5 RX12 4) (hR : RetI X G cX12_check K) {M : Mem} (h : f_X12_check_b28 K  M) : J X G M 28 [(0, .ref (ad G 287))] [] := by
  unfold f_X12_check_b28 at h
  refine J.aload_n (q := 29) O dX12_check_28 rfl 0 rfl ?_
  refine J.bipush (q := 31) (v := (-3 : Int32)) O dX12_check_29 rfl rfl ?_
  refine J.callVI (q := 34) [.int (-3 : Int32)] [] [.int (-3 : Int32), .ref (ad G 287)] rfl O dX12_check_31 rfl (c_X12_refuse hG h) wd_7_158 mw_X12_refuse io_287 rfl (by decide) (Nat.le_of_ble_eq_true rfl) (fun v4 M4 h => ?_)
  exact hR _ _ _ _ dX12_check_34 h
set_option maxHeartbeats 4000000 in
set_option maxRecDepth 20000 in
theorem j_X12_check_b92 {X : CX} {G : GX} {K : Int32 → Mem → Prop} (hG : Gd G) (O : Ok X G cX12_check 5 RX12 4) (hR : RetI X G cX12_check K) {x4 : Int32} {M : Mem} (h : f_X12_check_b92 K x4 M) : J X G M 92 [(4, .int x4)] [] := by
  unfold f_X12_check_b92 at h
  refine J.iload (q := 94) O dX12_check_92 rfl 0 rfl ?_
  exact hR _ _ _ _ dX12_check_94 h
set_option maxHeartbeats 4000000 in
set_option maxRecDepth 20000 in
theorem j_X12_check_c48 {X : CX} {G : GX} {K : Int32 → Mem → Prop} (hG : Gd G) (O : Ok X G cX12_check 5 RX12 4) (hR : RetI X G cX12_check K) {a : Int32 × Int32 × Int32 × Int32 × Mem} (h : Lp (fun (r48 : Int32 × Int32 × Int32 × Int32 × Mem → Prop) a => f_X12_check_c48 K r48 a.1 a.2.1 a.2.2.1 a.2.2.2.1 a.2.2.2.2) a) : J X G a.2.2.2.2 48 [(0, .ref (ad G 287)), (1, .int a.1), (2, .int a.2.1), (3, .int a.2.2.1), (4, .int a.2.2.2.1)] [] := by
  refine Lp.elim (P := fun a => J X G a.2.2.2.2 48 [(0, .ref (ad G 287)), (1, .int a.1), (2, .int a.2.1), (3, .int a.2.2.1), (4, .int a.2.2.2.1)] []) ?_ h
  clear h
  intro r48 hr48 a h
  obtain ⟨x1, x2, x3, x4, M⟩ := a
  unfold f_X12_check_c48 at h
  (try dsimp only at h ⊢)
  refine J.iload (q := 50) O dX12_check_48 rfl 4 rfl ?_
  refine J.iload_n (q := 51) O dX12_check_50 rfl 3 rfl ?_
  refine J.icmp_ge (q := 54) (tgt := 101) O dX12_check_51 rfl (by decide) (fun z5 => ?_) (fun z5 => ?_)
  · replace h := h.1 z5
    refine J.bipush (q := 103) (v := (-9 : Int32)) O dX12_check_101 rfl rfl ?_
    exact hR _ _ _ _ dX12_check_103 h
  · replace h := h.2 z5
    refine J.iload (q := 56) O dX12_check_54 rfl 4 rfl ?_
    refine J.aload_n (q := 57) O dX12_check_56 rfl 0 rfl ?_
    refine J.getI (q := 60) (c' := 287) (ci := 12) (k := 32) (M 287 32) rfl O dX12_check_57 rfl wd_6_104 (by decide) if_287_32 ?_
    refine J.icmp_ge (q := 63) (tgt := 92) O dX12_check_60 rfl (by decide) (fun z6 => ?_) (fun z6 => ?_)
    · replace h := h.1 z6
      exact J.sub [4] rfl (j_X12_check_b92 hG O hR h)
    · replace h := h.2 z6
      refine J.aload_n (q := 64) O dX12_check_63 rfl 0 rfl ?_
      refine J.getR (q := 67) (c' := 287) (ci := 12) (k := 38) (r := 313) O dX12_check_64 rfl wd_6_110 (by decide) if_287_38 ?_
      refine J.iload (q := 69) O dX12_check_67 rfl 4 rfl ?_
      obtain ⟨hv7, h⟩ := h
      refine J.iald (q := 70) (c' := 313) (j := x4.toNatClampNeg) (M 313 x4.toNatClampNeg) rfl O dX12_check_69 rfl ar_313 hv7 rfl ?_
      refine J.iload_n (q := 71) O dX12_check_70 rfl 1 rfl ?_
      refine J.icmp_gt (q := 74) (tgt := 92) O dX12_check_71 rfl (by decide) (fun z8 => ?_) (fun z8 => ?_)
      · replace h := h.1 z8
        exact J.sub [4] rfl (j_X12_check_b92 hG O hR h)
      · replace h := h.2 z8
        refine J.aload_n (q := 75) O dX12_check_74 rfl 0 rfl ?_
        refine J.iload (q := 77) O dX12_check_75 rfl 4 rfl ?_
        refine J.iload_n (q := 78) O dX12_check_77 rfl 1 rfl ?_
        refine J.iload_n (q := 79) O dX12_check_78 rfl 2 rfl ?_
        refine J.callVI (q := 82) [.int x4, .int x1, .int x2] [] [.int x2, .int x1, .int x4, .ref (ad G 287)] rfl O dX12_check_79 rfl (c_X12_stateOf hG h) wd_8_70 mw_X12_stateOf io_287 rfl (by decide) (Nat.le_of_ble_eq_true rfl) (fun v9 M9 h => ?_)
        refine J.aload_n (q := 83) O dX12_check_82 rfl 0 rfl ?_
        refine J.getR (q := 86) (c' := 287) (ci := 12) (k := 105) (r := 368) O dX12_check_83 rfl wd_6_177 (by decide) if_287_105 ?_
        refine J.iload (q := 88) O dX12_check_86 rfl 4 rfl ?_
        obtain ⟨hv10, h⟩ := h
        refine J.iald (q := 89) (c' := 368) (j := x4.toNatClampNeg) (M9 368 x4.toNatClampNeg) rfl O dX12_check_88 rfl ar_368 hv10 rfl ?_
        refine J.icmp_eq (q := 92) (tgt := 95) O dX12_check_89 rfl (by decide) (fun z11 => ?_) (fun z11 => ?_)
        · replace h := h.1 z11
          refine J.iinc (q := 98) O dX12_check_95 rfl [(4, .int (x4 + (1 : Int32))), (0, .ref (ad G 287)), (1, .int x1), (2, .int x2), (3, .int x3)] 4 rfl rfl (by decide) rfl ?_
          refine J.goto (q := 48) O dX12_check_98 (by decide) ?_
          exact J.sub [1, 2, 3, 4, 0] rfl (hr48 _ h)
        · replace h := h.2 z11
          exact J.sub [4] rfl (j_X12_check_b92 hG O hR h)
set_option maxHeartbeats 4000000 in
set_option maxRecDepth 20000 in
theorem c_X12_check {l : Launch} {G : GX} (hG : Gd G) {a1 : Int32} {a2 : Int32} {M : Mem} {K : Int32 → Mem → Prop} (h : f_X12_check a1 a2 M K) : CI l G yX12_check cX12_check 5 (some .int) 4 [.ref (ad G 287), .int a1, .int a2] M K := by
  unfold f_X12_check at h
  refine CI.mk hG (by decide) [(0, .ref (ad G 287)), (1, .int a1), (2, .int a2)] rfl (Nat.le_of_ble_eq_true rfl) (fun X O hlX hR => ?_)
  subst hlX
  refine J.iload_n (q := 1) O dX12_check_0 rfl 1 rfl ?_
  refine J.if_lt (q := 4) (tgt := 8) O dX12_check_1 rfl (by decide) (fun z12 => ?_) (fun z12 => ?_)
  · replace h := h.1 z12
    exact J.sub [0] rfl (j_X12_check_b8 hG O hR h)
  · replace h := h.2 z12
    refine J.iload_n (q := 5) O dX12_check_4 rfl 2 rfl ?_
    refine J.if_ge (q := 8) (tgt := 15) O dX12_check_5 rfl (by decide) (fun z13 => ?_) (fun z13 => ?_)
    · replace h := h.1 z13
      refine J.iload_n (q := 16) O dX12_check_15 rfl 1 rfl ?_
      refine J.iload_n (q := 17) O dX12_check_16 rfl 2 rfl ?_
      refine J.icmp_gt (q := 20) (tgt := 28) O dX12_check_17 rfl (by decide) (fun z14 => ?_) (fun z14 => ?_)
      · replace h := h.1 z14
        exact J.sub [0] rfl (j_X12_check_b28 hG O hR h)
      · replace h := h.2 z14
        refine J.iload_n (q := 21) O dX12_check_20 rfl 2 rfl ?_
        refine J.aload_n (q := 22) O dX12_check_21 rfl 0 rfl ?_
        refine J.getI (q := 25) (c' := 287) (ci := 12) (k := 0) (M 287 0) rfl O dX12_check_22 rfl wd_6_72 (by decide) if_287_0 ?_
        refine J.icmp_le (q := 28) (tgt := 35) O dX12_check_25 rfl (by decide) (fun z15 => ?_) (fun z15 => ?_)
        · replace h := h.1 z15
          refine J.aload_n (q := 36) O dX12_check_35 rfl 0 rfl ?_
          refine J.getI (q := 39) (c' := 287) (ci := 12) (k := 106) (M 287 106) rfl O dX12_check_36 rfl wd_6_178 (by decide) if_287_106 ?_
          refine J.istore_n (q := 40) O dX12_check_39 rfl [(3, .int (M 287 106)), (0, .ref (ad G 287)), (1, .int a1), (2, .int a2)] (by decide) rfl ?_
          refine J.aload_n (q := 41) O dX12_check_40 rfl 1 rfl ?_
          refine J.iconst (q := 42) (v := (0 : Int32)) O dX12_check_41 rfl rfl ?_
          refine J.putI (q := 45) (c' := 287) (ci := 12) (k := 106) O dX12_check_42 rfl wd_6_178 (by decide) if_287_106 rfl rfl ?_
          refine J.iconst (q := 46) (v := (0 : Int32)) O dX12_check_45 rfl rfl ?_
          refine J.istore (q := 48) O dX12_check_46 rfl [(4, .int (0 : Int32)), (3, .int (M 287 106)), (0, .ref (ad G 287)), (1, .int a1), (2, .int a2)] (by decide) rfl ?_
          exact J.sub [2, 3, 4, 1, 0] rfl (j_X12_check_c48 hG O hR h)
        · replace h := h.2 z15
          exact J.sub [0] rfl (j_X12_check_b28 hG O hR h)
    · replace h := h.2 z13
      exact J.sub [0] rfl (j_X12_check_b8 hG O hR h)
set_option maxHeartbeats 4000000 in
set_option maxRecDepth 20000 in
theorem j_X12_count_b90 {X : CX} {G : GX} {K : Int32 → Mem → Prop} (hG : Gd G) (O : Ok X G cX12_count 4 RX12 6) (hR : RetI X G cX12_count K) {r67 : Int32 × Int32 × Mem → Prop} (hr67 : ∀ a : Int32 × Int32 × Mem, r67 a → J X G a.2.2 67 [(0, .ref (ad G 287)), (2, .int a.1), (3, .int a.2.1)] []) {x3 : Int32} {s0 : Int32} {s1 : Int32} {M : Mem} (h : f_X12_count_b90 r67 K x3 s0 s1 M) : J X G M 90 [(0, .ref (ad G 287)), (3, .int x3)] [.int s0, .int s1] := by
  unfold f_X12_count_b90 at h
  refine J.iadd (q := 91) O dX12_count_90 rfl ?_
  refine J.istore_n (q := 92) O dX12_count_91 rfl [(2, .int (s1 + s0)), (0, .ref (ad G 287)), (3, .int x3)] (by decide) rfl ?_
  refine J.iinc (q := 95) O dX12_count_92 rfl [(3, .int (x3 + (1 : Int32))), (2, .int (s1 + s0)), (0, .ref (ad G 287))] 2 rfl rfl (by decide) rfl ?_
  refine J.goto (q := 67) O dX12_count_95 (by decide) ?_
  exact J.sub [2, 1, 0] rfl (hr67 _ h)
set_option maxHeartbeats 4000000 in
set_option maxRecDepth 20000 in
theorem j_X12_count_c67 {X : CX} {G : GX} {K : Int32 → Mem → Prop} (hG : Gd G) (O : Ok X G cX12_count 4 RX12 6) (hR : RetI X G cX12_count K) {a : Int32 × Int32 × Mem} (h : Lp (fun (r67 : Int32 × Int32 × Mem → Prop) a => f_X12_count_c67 K r67 a.1 a.2.1 a.2.2) a) : J X G a.2.2 67 [(0, .ref (ad G 287)), (2, .int a.1), (3, .int a.2.1)] [] := by
  refine Lp.elim (P := fun a => J X G a.2.2 67 [(0, .ref (ad G 287)), (2, .int a.1), (3, .int a.2.1)] []) ?_ h
  clear h
  intro r67 hr67 a h
  obtain ⟨x2, x3, M⟩ := a
  unfold f_X12_count_c67 at h
  (try dsimp only at h ⊢)
  refine J.iload_n (q := 68) O dX12_count_67 rfl 2 rfl ?_
  refine J.aload_n (q := 69) O dX12_count_68 rfl 0 rfl ?_
  refine J.getI (q := 72) (c' := 287) (ci := 12) (k := 2) (M 287 2) rfl O dX12_count_69 rfl wd_6_74 (by decide) if_287_2 ?_
  refine J.icmp_ge (q := 75) (tgt := 98) O dX12_count_72 rfl (by decide) (fun z3 => ?_) (fun z3 => ?_)
  · replace h := h.1 z3
    refine J.iload_n (q := 99) O dX12_count_98 rfl 1 rfl ?_
    exact hR _ _ _ _ dX12_count_99 h
  · replace h := h.2 z3
    refine J.iload_n (q := 76) O dX12_count_75 rfl 1 rfl ?_
    refine J.aload_n (q := 77) O dX12_count_76 rfl 0 rfl ?_
    refine J.getR (q := 80) (c' := 287) (ci := 12) (k := 8) (r := 294) O dX12_count_77 rfl wd_6_80 (by decide) if_287_8 ?_
    refine J.iload_n (q := 81) O dX12_count_80 rfl 2 rfl ?_
    obtain ⟨hv4, h⟩ := h
    refine J.zald (q := 82) (c' := 294) (j := x3.toNatClampNeg) (M 294 x3.toNatClampNeg) rfl O dX12_count_81 rfl ar_294 hv4 rfl ?_
    refine J.if_eq (q := 85) (tgt := 89) O dX12_count_82 rfl (by decide) (fun z5 => ?_) (fun z5 => ?_)
    · replace h := h.1 z5
      refine J.iconst (q := 90) (v := (1 : Int32)) O dX12_count_89 rfl rfl ?_
      exact J.sub [0, 2] rfl (j_X12_count_b90 hG O hR hr67 h)
    · replace h := h.2 z5
      refine J.iconst (q := 86) (v := (0 : Int32)) O dX12_count_85 rfl rfl ?_
      refine J.goto (q := 90) O dX12_count_86 (by decide) ?_
      exact J.sub [0, 2] rfl (j_X12_count_b90 hG O hR hr67 h)
set_option maxHeartbeats 4000000 in
set_option maxRecDepth 20000 in
theorem j_X12_count_b144 {X : CX} {G : GX} {K : Int32 → Mem → Prop} (hG : Gd G) (O : Ok X G cX12_count 4 RX12 6) (hR : RetI X G cX12_count K) {r122 : Int32 × Int32 × Mem → Prop} (hr122 : ∀ a : Int32 × Int32 × Mem, r122 a → J X G a.2.2 122 [(0, .ref (ad G 287)), (2, .int a.1), (3, .int a.2.1)] []) {x3 : Int32} {s0 : Int32} {s1 : Int32} {M : Mem} (h : f_X12_count_b144 r122 K x3 s0 s1 M) : J X G M 144 [(0, .ref (ad G 287)), (3, .int x3)] [.int s0, .int s1] := by
  unfold f_X12_count_b144 at h
  refine J.iadd (q := 145) O dX12_count_144 rfl ?_
  refine J.istore_n (q := 146) O dX12_count_145 rfl [(2, .int (s1 + s0)), (0, .ref (ad G 287)), (3, .int x3)] (by decide) rfl ?_
  refine J.iinc (q := 149) O dX12_count_146 rfl [(3, .int (x3 + (1 : Int32))), (2, .int (s1 + s0)), (0, .ref (ad G 287))] 2 rfl rfl (by decide) rfl ?_
  refine J.goto (q := 122) O dX12_count_149 (by decide) ?_
  exact J.sub [2, 1, 0] rfl (hr122 _ h)
set_option maxHeartbeats 4000000 in
set_option maxRecDepth 20000 in
theorem j_X12_count_c122 {X : CX} {G : GX} {K : Int32 → Mem → Prop} (hG : Gd G) (O : Ok X G cX12_count 4 RX12 6) (hR : RetI X G cX12_count K) {a : Int32 × Int32 × Mem} (h : Lp (fun (r122 : Int32 × Int32 × Mem → Prop) a => f_X12_count_c122 K r122 a.1 a.2.1 a.2.2) a) : J X G a.2.2 122 [(0, .ref (ad G 287)), (2, .int a.1), (3, .int a.2.1)] [] := by
  refine Lp.elim (P := fun a => J X G a.2.2 122 [(0, .ref (ad G 287)), (2, .int a.1), (3, .int a.2.1)] []) ?_ h
  clear h
  intro r122 hr122 a h
  obtain ⟨x2, x3, M⟩ := a
  unfold f_X12_count_c122 at h
  (try dsimp only at h ⊢)
  refine J.iload_n (q := 123) O dX12_count_122 rfl 2 rfl ?_
  refine J.aload_n (q := 124) O dX12_count_123 rfl 0 rfl ?_
  refine J.getI (q := 127) (c' := 287) (ci := 12) (k := 57) (M 287 57) rfl O dX12_count_124 rfl wd_6_129 (by decide) if_287_57 ?_
  refine J.icmp_ge (q := 130) (tgt := 152) O dX12_count_127 rfl (by decide) (fun z6 => ?_) (fun z6 => ?_)
  · replace h := h.1 z6
    refine J.iload_n (q := 153) O dX12_count_152 rfl 1 rfl ?_
    exact hR _ _ _ _ dX12_count_153 h
  · replace h := h.2 z6
    refine J.iload_n (q := 131) O dX12_count_130 rfl 1 rfl ?_
    refine J.aload_n (q := 132) O dX12_count_131 rfl 0 rfl ?_
    refine J.iload_n (q := 133) O dX12_count_132 rfl 2 rfl ?_
    refine J.callVI (q := 136) [.int x3] [.int x2] [.int x3, .ref (ad G 287), .int x2] rfl O dX12_count_133 rfl (c_X12_holdsNow hG h) wd_8_162 mw_X12_holdsNow io_287 rfl (by decide) (Nat.le_of_ble_eq_true rfl) (fun v7 M7 h => ?_)
    refine J.if_eq (q := 139) (tgt := 143) O dX12_count_136 rfl (by decide) (fun z8 => ?_) (fun z8 => ?_)
    · replace h := h.1 z8
      refine J.iconst (q := 144) (v := (0 : Int32)) O dX12_count_143 rfl rfl ?_
      exact J.sub [0, 2] rfl (j_X12_count_b144 hG O hR hr122 h)
    · replace h := h.2 z8
      refine J.iconst (q := 140) (v := (1 : Int32)) O dX12_count_139 rfl rfl ?_
      refine J.goto (q := 144) O dX12_count_140 (by decide) ?_
      exact J.sub [0, 2] rfl (j_X12_count_b144 hG O hR hr122 h)
set_option maxHeartbeats 4000000 in
set_option maxRecDepth 20000 in
theorem j_X12_count_b183 {X : CX} {G : GX} {K : Int32 → Mem → Prop} (hG : Gd G) (O : Ok X G cX12_count 4 RX12 6) (hR : RetI X G cX12_count K) {r161 : Int32 × Int32 × Mem → Prop} (hr161 : ∀ a : Int32 × Int32 × Mem, r161 a → J X G a.2.2 161 [(0, .ref (ad G 287)), (2, .int a.1), (3, .int a.2.1)] []) {x3 : Int32} {s0 : Int32} {s1 : Int32} {M : Mem} (h : f_X12_count_b183 r161 K x3 s0 s1 M) : J X G M 183 [(0, .ref (ad G 287)), (3, .int x3)] [.int s0, .int s1] := by
  unfold f_X12_count_b183 at h
  refine J.iadd (q := 184) O dX12_count_183 rfl ?_
  refine J.istore_n (q := 185) O dX12_count_184 rfl [(2, .int (s1 + s0)), (0, .ref (ad G 287)), (3, .int x3)] (by decide) rfl ?_
  refine J.iinc (q := 188) O dX12_count_185 rfl [(3, .int (x3 + (1 : Int32))), (2, .int (s1 + s0)), (0, .ref (ad G 287))] 2 rfl rfl (by decide) rfl ?_
  refine J.goto (q := 161) O dX12_count_188 (by decide) ?_
  exact J.sub [2, 1, 0] rfl (hr161 _ h)
set_option maxHeartbeats 4000000 in
set_option maxRecDepth 20000 in
theorem j_X12_count_c161 {X : CX} {G : GX} {K : Int32 → Mem → Prop} (hG : Gd G) (O : Ok X G cX12_count 4 RX12 6) (hR : RetI X G cX12_count K) {a : Int32 × Int32 × Mem} (h : Lp (fun (r161 : Int32 × Int32 × Mem → Prop) a => f_X12_count_c161 K r161 a.1 a.2.1 a.2.2) a) : J X G a.2.2 161 [(0, .ref (ad G 287)), (2, .int a.1), (3, .int a.2.1)] [] := by
  refine Lp.elim (P := fun a => J X G a.2.2 161 [(0, .ref (ad G 287)), (2, .int a.1), (3, .int a.2.1)] []) ?_ h
  clear h
  intro r161 hr161 a h
  obtain ⟨x2, x3, M⟩ := a
  unfold f_X12_count_c161 at h
  (try dsimp only at h ⊢)
  refine J.iload_n (q := 162) O dX12_count_161 rfl 2 rfl ?_
  refine J.aload_n (q := 163) O dX12_count_162 rfl 0 rfl ?_
  refine J.getI (q := 166) (c' := 287) (ci := 12) (k := 67) (M 287 67) rfl O dX12_count_163 rfl wd_6_139 (by decide) if_287_67 ?_
  refine J.icmp_ge (q := 169) (tgt := 191) O dX12_count_166 rfl (by decide) (fun z9 => ?_) (fun z9 => ?_)
  · replace h := h.1 z9
    refine J.iload_n (q := 192) O dX12_count_191 rfl 1 rfl ?_
    exact hR _ _ _ _ dX12_count_192 h
  · replace h := h.2 z9
    refine J.iload_n (q := 170) O dX12_count_169 rfl 1 rfl ?_
    refine J.aload_n (q := 171) O dX12_count_170 rfl 0 rfl ?_
    refine J.iload_n (q := 172) O dX12_count_171 rfl 2 rfl ?_
    refine J.callVI (q := 175) [.int x3] [.int x2] [.int x3, .ref (ad G 287), .int x2] rfl O dX12_count_172 rfl (c_X12_voidSince hG h) wd_8_207 mw_X12_voidSince io_287 rfl (by decide) (Nat.le_of_ble_eq_true rfl) (fun v10 M10 h => ?_)
    refine J.if_lt (q := 178) (tgt := 182) O dX12_count_175 rfl (by decide) (fun z11 => ?_) (fun z11 => ?_)
    · replace h := h.1 z11
      refine J.iconst (q := 183) (v := (0 : Int32)) O dX12_count_182 rfl rfl ?_
      exact J.sub [0, 2] rfl (j_X12_count_b183 hG O hR hr161 h)
    · replace h := h.2 z11
      refine J.iconst (q := 179) (v := (1 : Int32)) O dX12_count_178 rfl rfl ?_
      refine J.goto (q := 183) O dX12_count_179 (by decide) ?_
      exact J.sub [0, 2] rfl (j_X12_count_b183 hG O hR hr161 h)
set_option maxHeartbeats 4000000 in
set_option maxRecDepth 20000 in
theorem j_X12_count_b228 {X : CX} {G : GX} {K : Int32 → Mem → Prop} (hG : Gd G) (O : Ok X G cX12_count 4 RX12 6) (hR : RetI X G cX12_count K) {s0 : Int32} {M : Mem} (h : f_X12_count_b228 K s0 M) : J X G M 228 [] [.int s0] := by
  unfold f_X12_count_b228 at h
  exact hR _ _ _ _ dX12_count_228 h
set_option maxHeartbeats 4000000 in
set_option maxRecDepth 20000 in
theorem c_X12_count {l : Launch} {G : GX} (hG : Gd G) {a1 : Int32} {M : Mem} {K : Int32 → Mem → Prop} (h : f_X12_count a1 M K) : CI l G yX12_count cX12_count 4 (some .int) 6 [.ref (ad G 287), .int a1] M K := by
  unfold f_X12_count at h
  refine CI.mk hG (by decide) [(0, .ref (ad G 287)), (1, .int a1)] rfl (Nat.le_of_ble_eq_true rfl) (fun X O hlX hR => ?_)
  subst hlX
  refine J.iconst (q := 1) (v := (0 : Int32)) O dX12_count_0 rfl rfl ?_
  refine J.istore_n (q := 2) O dX12_count_1 rfl [(2, .int (0 : Int32)), (0, .ref (ad G 287)), (1, .int a1)] (by decide) rfl ?_
  refine J.iload_n (q := 3) O dX12_count_2 rfl 2 rfl ?_
  rcases tsw_cov a1 (0) 10 (by decide) with z15 | ⟨j, hj, z15⟩
  · replace h := h.1 (by omega)
    refine J.tswOut (q := 203) O dX12_count_3 (by omega) (by decide) ?_
    refine J.iload_n (q := 204) O dX12_count_203 rfl 2 rfl ?_
    refine J.bipush (q := 206) (v := (11 : Int32)) O dX12_count_204 rfl rfl ?_
    refine J.bipush (q := 208) (v := (16 : Int32)) O dX12_count_206 rfl rfl ?_
    refine J.callSI (q := 211) [.int a1, .int (11 : Int32), .int (16 : Int32)] [] [.int (16 : Int32), .int (11 : Int32), .int a1] rfl O dX12_count_208 rfl (c_X12_in hG h) wd_7_181 mw_X12_in rfl (by decide) (Nat.le_of_ble_eq_true rfl) (fun v12 M12 h => ?_)
    refine J.if_eq (q := 214) (tgt := 226) O dX12_count_211 rfl (by decide) (fun z13 => ?_) (fun z13 => ?_)
    · replace h := h.1 z13
      refine J.bipush (q := 228) (v := (-9 : Int32)) O dX12_count_226 rfl rfl ?_
      exact J.sub [] rfl (j_X12_count_b228 hG O hR h)
    · replace h := h.2 z13
      refine J.aload_n (q := 215) O dX12_count_214 rfl 1 rfl ?_
      refine J.getR (q := 218) (c' := 287) (ci := 12) (k := 9) (r := 295) O dX12_count_215 rfl wd_6_81 (by decide) if_287_9 ?_
      refine J.iload_n (q := 219) O dX12_count_218 rfl 2 rfl ?_
      refine J.bipush (q := 221) (v := (10 : Int32)) O dX12_count_219 rfl rfl ?_
      refine J.isub (q := 222) O dX12_count_221 rfl ?_
      obtain ⟨hv14, h⟩ := h
      refine J.iald (q := 223) (c' := 295) (j := (a1 - (10 : Int32)).toNatClampNeg) (M12 295 ((a1 - (10 : Int32)).toNatClampNeg)) rfl O dX12_count_222 rfl ar_295 hv14 rfl ?_
      refine J.goto (q := 228) O dX12_count_223 (by decide) ?_
      exact J.sub [] rfl (j_X12_count_b228 hG O hR h)
  · match j, hj, z15 with
    | 0, _, z15 =>
      have z15 : a1 = (0 : Int32) := z15.trans (by decide)
      replace h := h.2.1 z15
      refine J.tswIn (q := 60) O dX12_count_3 (0 : Int32) z15 (by decide) (by decide) rfl (by decide) ?_
      refine J.aload_n (q := 61) O dX12_count_60 rfl 1 rfl ?_
      refine J.getI (q := 64) (c' := 287) (ci := 12) (k := 0) (M 287 0) rfl O dX12_count_61 rfl wd_6_72 (by decide) if_287_0 ?_
      exact hR _ _ _ _ dX12_count_64 h
    | 1, _, z15 =>
      have z15 : a1 = (1 : Int32) := z15.trans (by decide)
      replace h := h.2.2.1 z15
      refine J.tswIn (q := 65) O dX12_count_3 (1 : Int32) z15 (by decide) (by decide) rfl (by decide) ?_
      refine J.iconst (q := 66) (v := (0 : Int32)) O dX12_count_65 rfl rfl ?_
      refine J.istore_n (q := 67) O dX12_count_66 rfl [(3, .int (0 : Int32)), (2, .int (0 : Int32)), (0, .ref (ad G 287)), (1, .int a1)] (by decide) rfl ?_
      exact J.sub [2, 1, 0] rfl (j_X12_count_c67 hG O hR h)
    | 2, _, z15 =>
      have z15 : a1 = (2 : Int32) := z15.trans (by decide)
      replace h := h.2.2.2.1 z15
      refine J.tswIn (q := 100) O dX12_count_3 (2 : Int32) z15 (by decide) (by decide) rfl (by decide) ?_
      refine J.aload_n (q := 101) O dX12_count_100 rfl 1 rfl ?_
      refine J.getI (q := 104) (c' := 287) (ci := 12) (k := 12) (M 287 12) rfl O dX12_count_101 rfl wd_6_84 (by decide) if_287_12 ?_
      exact hR _ _ _ _ dX12_count_104 h
    | 3, _, z15 =>
      have z15 : a1 = (3 : Int32) := z15.trans (by decide)
      replace h := h.2.2.2.2.1 z15
      refine J.tswIn (q := 105) O dX12_count_3 (3 : Int32) z15 (by decide) (by decide) rfl (by decide) ?_
      refine J.aload_n (q := 106) O dX12_count_105 rfl 1 rfl ?_
      refine J.getI (q := 109) (c' := 287) (ci := 12) (k := 32) (M 287 32) rfl O dX12_count_106 rfl wd_6_104 (by decide) if_287_32 ?_
      exact hR _ _ _ _ dX12_count_109 h
    | 4, _, z15 =>
      have z15 : a1 = (4 : Int32) := z15.trans (by decide)
      replace h := h.2.2.2.2.2.1 z15
      refine J.tswIn (q := 110) O dX12_count_3 (4 : Int32) z15 (by decide) (by decide) rfl (by decide) ?_
      refine J.aload_n (q := 111) O dX12_count_110 rfl 1 rfl ?_
      refine J.getI (q := 114) (c' := 287) (ci := 12) (k := 48) (M 287 48) rfl O dX12_count_111 rfl wd_6_120 (by decide) if_287_48 ?_
      exact hR _ _ _ _ dX12_count_114 h
    | 5, _, z15 =>
      have z15 : a1 = (5 : Int32) := z15.trans (by decide)
      replace h := h.2.2.2.2.2.2.1 z15
      refine J.tswIn (q := 115) O dX12_count_3 (5 : Int32) z15 (by decide) (by decide) rfl (by decide) ?_
      refine J.aload_n (q := 116) O dX12_count_115 rfl 1 rfl ?_
      refine J.getI (q := 119) (c' := 287) (ci := 12) (k := 52) (M 287 52) rfl O dX12_count_116 rfl wd_6_124 (by decide) if_287_52 ?_
      exact hR _ _ _ _ dX12_count_119 h
    | 6, _, z15 =>
      have z15 : a1 = (6 : Int32) := z15.trans (by decide)
      replace h := h.2.2.2.2.2.2.2.1 z15
      refine J.tswIn (q := 120) O dX12_count_3 (6 : Int32) z15 (by decide) (by decide) rfl (by decide) ?_
      refine J.iconst (q := 121) (v := (0 : Int32)) O dX12_count_120 rfl rfl ?_
      refine J.istore_n (q := 122) O dX12_count_121 rfl [(3, .int (0 : Int32)), (2, .int (0 : Int32)), (0, .ref (ad G 287)), (1, .int a1)] (by decide) rfl ?_
      exact J.sub [2, 1, 0] rfl (j_X12_count_c122 hG O hR h)
    | 7, _, z15 =>
      have z15 : a1 = (7 : Int32) := z15.trans (by decide)
      replace h := h.2.2.2.2.2.2.2.2.1 z15
      refine J.tswIn (q := 154) O dX12_count_3 (7 : Int32) z15 (by decide) (by decide) rfl (by decide) ?_
      refine J.aload_n (q := 155) O dX12_count_154 rfl 1 rfl ?_
      refine J.getI (q := 158) (c' := 287) (ci := 12) (k := 67) (M 287 67) rfl O dX12_count_155 rfl wd_6_139 (by decide) if_287_67 ?_
      exact hR _ _ _ _ dX12_count_158 h
    | 8, _, z15 =>
      have z15 : a1 = (8 : Int32) := z15.trans (by decide)
      replace h := h.2.2.2.2.2.2.2.2.2.1 z15
      refine J.tswIn (q := 159) O dX12_count_3 (8 : Int32) z15 (by decide) (by decide) rfl (by decide) ?_
      refine J.iconst (q := 160) (v := (0 : Int32)) O dX12_count_159 rfl rfl ?_
      refine J.istore_n (q := 161) O dX12_count_160 rfl [(3, .int (0 : Int32)), (2, .int (0 : Int32)), (0, .ref (ad G 287)), (1, .int a1)] (by decide) rfl ?_
      exact J.sub [2, 1, 0] rfl (j_X12_count_c161 hG O hR h)
    | 9, _, z15 =>
      have z15 : a1 = (9 : Int32) := z15.trans (by decide)
      replace h := h.2.2.2.2.2.2.2.2.2.2.1 z15
      refine J.tswIn (q := 193) O dX12_count_3 (9 : Int32) z15 (by decide) (by decide) rfl (by decide) ?_
      refine J.aload_n (q := 194) O dX12_count_193 rfl 1 rfl ?_
      refine J.getI (q := 197) (c' := 287) (ci := 12) (k := 11) (M 287 11) rfl O dX12_count_194 rfl wd_6_83 (by decide) if_287_11 ?_
      exact hR _ _ _ _ dX12_count_197 h
    | 10, _, z15 =>
      have z15 : a1 = (10 : Int32) := z15.trans (by decide)
      replace h := h.2.2.2.2.2.2.2.2.2.2.2 z15
      refine J.tswIn (q := 198) O dX12_count_3 (10 : Int32) z15 (by decide) (by decide) rfl (by decide) ?_
      refine J.aload_n (q := 199) O dX12_count_198 rfl 1 rfl ?_
      refine J.getI (q := 202) (c' := 287) (ci := 12) (k := 106) (M 287 106) rfl O dX12_count_199 rfl wd_6_178 (by decide) if_287_106 ?_
      exact hR _ _ _ _ dX12_count_202 h
    | j + 11, hj, _ => exact absurd hj (by omega)
