set_option maxHeartbeats 4000000 in
set_option maxRecDepth 20000 in
theorem j_X12_stateOf_b129 {X : CX} {G : GX} {K : Int32 → Mem → Prop} (hG : Gd G) (O : Ok X G cX12_stateOf 5 RX12 3) (hR : RetI X G cX12_stateOf K) {s0 : Int32} {M : Mem} (h : f_X12_stateOf_b129 K s0 M) : J X G M 129 [] [.int s0] := by
  unfold f_X12_stateOf_b129 at h
  exact hR _ _ _ _ dX12_stateOf_129 h
set_option maxHeartbeats 4000000 in
set_option maxRecDepth 20000 in
theorem c_X12_stateOf {l : Launch} {G : GX} (hG : Gd G) {a1 : Int32} {a2 : Int32} {a3 : Int32} {M : Mem} {K : Int32 → Mem → Prop} (h : f_X12_stateOf a1 a2 a3 M K) : CI l G yX12_stateOf cX12_stateOf 5 (some .int) 3 [.ref (ad G 287), .int a1, .int a2, .int a3] M K := by
  unfold f_X12_stateOf at h
  refine CI.mk hG (by decide) [(0, .ref (ad G 287)), (1, .int a1), (2, .int a2), (3, .int a3)] rfl (Nat.le_of_ble_eq_true rfl) (fun X O hlX hR => ?_)
  subst hlX
  refine J.aload_n (q := 1) O dX12_stateOf_0 rfl 0 rfl ?_
  refine J.iload_n (q := 2) O dX12_stateOf_1 rfl 1 rfl ?_
  refine J.iload_n (q := 3) O dX12_stateOf_2 rfl 2 rfl ?_
  refine J.callVI (q := 6) [.int a1, .int a2] [] [.int a2, .int a1, .ref (ad G 287)] rfl O dX12_stateOf_3 rfl (c_X12_isWithdrawn hG h) wd_8_50 mw_X12_isWithdrawn io_287 rfl (by decide) (Nat.le_of_ble_eq_true rfl) (fun v5 M5 h => ?_)
  refine J.if_eq (q := 9) (tgt := 11) O dX12_stateOf_6 rfl (by decide) (fun z6 => ?_) (fun z6 => ?_)
  · replace h := h.1 z6
    refine J.aload_n (q := 12) O dX12_stateOf_11 rfl 0 rfl ?_
    refine J.getR (q := 15) (c' := 287) (ci := 12) (k := 36) (r := 311) O dX12_stateOf_12 rfl wd_6_108 (by decide) if_287_36 ?_
    refine J.iload_n (q := 16) O dX12_stateOf_15 rfl 1 rfl ?_
    obtain ⟨hv7, h⟩ := h
    refine J.iald (q := 17) (c' := 311) (j := a1.toNatClampNeg) (M5 311 a1.toNatClampNeg) rfl O dX12_stateOf_16 rfl ar_311 hv7 rfl ?_
    refine J.if_ne (q := 20) (tgt := 22) O dX12_stateOf_17 rfl (by decide) (fun z8 => ?_) (fun z8 => ?_)
    · replace h := h.1 z8
      refine J.aload_n (q := 23) O dX12_stateOf_22 rfl 0 rfl ?_
      refine J.iload_n (q := 24) O dX12_stateOf_23 rfl 1 rfl ?_
      refine J.iload_n (q := 25) O dX12_stateOf_24 rfl 2 rfl ?_
      refine J.iload_n (q := 26) O dX12_stateOf_25 rfl 3 rfl ?_
      refine J.callVI (q := 29) [.int a1, .int a2, .int a3] [] [.int a3, .int a2, .int a1, .ref (ad G 287)] rfl O dX12_stateOf_26 rfl (c_X12_ruling hG h) wd_8_74 mw_X12_ruling io_287 rfl (by decide) (Nat.le_of_ble_eq_true rfl) (fun v9 M9 h => ?_)
      refine J.if_lt (q := 32) (tgt := 43) O dX12_stateOf_29 rfl (by decide) (fun z10 => ?_) (fun z10 => ?_)
      · replace h := h.1 z10
        refine J.aload_n (q := 44) O dX12_stateOf_43 rfl 0 rfl ?_
        refine J.iload_n (q := 45) O dX12_stateOf_44 rfl 1 rfl ?_
        refine J.iload_n (q := 46) O dX12_stateOf_45 rfl 2 rfl ?_
        refine J.iload_n (q := 47) O dX12_stateOf_46 rfl 3 rfl ?_
        refine J.callVI (q := 50) [.int a1, .int a2, .int a3] [] [.int a3, .int a2, .int a1, .ref (ad G 287)] rfl O dX12_stateOf_47 rfl (c_X12_answer hG h) wd_8_78 mw_X12_answer io_287 rfl (by decide) (Nat.le_of_ble_eq_true rfl) (fun v11 M11 h => ?_)
        refine J.if_lt (q := 53) (tgt := 63) O dX12_stateOf_50 rfl (by decide) (fun z12 => ?_) (fun z12 => ?_)
        · replace h := h.1 z12
          refine J.aload_n (q := 64) O dX12_stateOf_63 rfl 0 rfl ?_
          refine J.iload_n (q := 65) O dX12_stateOf_64 rfl 1 rfl ?_
          refine J.iload_n (q := 66) O dX12_stateOf_65 rfl 2 rfl ?_
          refine J.iload_n (q := 67) O dX12_stateOf_66 rfl 3 rfl ?_
          refine J.callVI (q := 70) [.int a1, .int a2, .int a3] [] [.int a3, .int a2, .int a1, .ref (ad G 287)] rfl O dX12_stateOf_67 rfl (c_X12_wholeSince hG h) wd_8_82 mw_X12_wholeSince io_287 rfl (by decide) (Nat.le_of_ble_eq_true rfl) (fun v13 M13 h => ?_)
          refine J.istore (q := 72) O dX12_stateOf_70 rfl [(4, .int v13), (0, .ref (ad G 287)), (1, .int a1), (2, .int a2), (3, .int a3)] (by decide) rfl ?_
          refine J.iload (q := 74) O dX12_stateOf_72 rfl 0 rfl ?_
          refine J.if_ge (q := 77) (tgt := 79) O dX12_stateOf_74 rfl (by decide) (fun z14 => ?_) (fun z14 => ?_)
          · replace h := h.1 z14
            refine J.aload_n (q := 80) O dX12_stateOf_79 rfl 1 rfl ?_
            refine J.getR (q := 83) (c' := 287) (ci := 12) (k := 36) (r := 311) O dX12_stateOf_80 rfl wd_6_108 (by decide) if_287_36 ?_
            refine J.iload_n (q := 84) O dX12_stateOf_83 rfl 2 rfl ?_
            obtain ⟨hv15, h⟩ := h
            refine J.iald (q := 85) (c' := 311) (j := a1.toNatClampNeg) (M13 311 a1.toNatClampNeg) rfl O dX12_stateOf_84 rfl ar_311 hv15 rfl ?_
            refine J.iconst (q := 86) (v := (1 : Int32)) O dX12_stateOf_85 rfl rfl ?_
            refine J.icmp_ne (q := 89) (tgt := 92) O dX12_stateOf_86 rfl (by decide) (fun z16 => ?_) (fun z16 => ?_)
            · replace h := h.1 z16
              refine J.aload_n (q := 93) O dX12_stateOf_92 rfl 1 rfl ?_
              refine J.iload (q := 95) O dX12_stateOf_93 rfl 0 rfl ?_
              refine J.iload_n (q := 96) O dX12_stateOf_95 rfl 3 rfl ?_
              refine J.callVI (q := 99) [.int v13, .int a2] [] [.int a2, .int v13, .ref (ad G 287)] rfl O dX12_stateOf_96 rfl (c_X12_workdaysIn hG h) wd_7_170 mw_X12_workdaysIn io_287 rfl (by decide) (Nat.le_of_ble_eq_true rfl) (fun v17 M17 h => ?_)
              refine J.aload_n (q := 100) O dX12_stateOf_99 rfl 1 rfl ?_
              refine J.getR (q := 103) (c' := 287) (ci := 12) (k := 40) (r := 315) O dX12_stateOf_100 rfl wd_6_112 (by decide) if_287_40 ?_
              refine J.iload_n (q := 104) O dX12_stateOf_103 rfl 2 rfl ?_
              obtain ⟨hv18, h⟩ := h
              refine J.iald (q := 105) (c' := 315) (j := a1.toNatClampNeg) (M17 315 a1.toNatClampNeg) rfl O dX12_stateOf_104 rfl ar_315 hv18 rfl ?_
              refine J.icmp_gt (q := 108) (tgt := 112) O dX12_stateOf_105 rfl (by decide) (fun z19 => ?_) (fun z19 => ?_)
              · replace h := h.1 z19
                refine J.aload_n (q := 113) O dX12_stateOf_112 rfl 1 rfl ?_
                refine J.getR (q := 116) (c' := 287) (ci := 12) (k := 41) (r := 316) O dX12_stateOf_113 rfl wd_6_113 (by decide) if_287_41 ?_
                refine J.iload_n (q := 117) O dX12_stateOf_116 rfl 2 rfl ?_
                obtain ⟨hv20, h⟩ := h
                refine J.iald (q := 118) (c' := 316) (j := a1.toNatClampNeg) (M17 316 a1.toNatClampNeg) rfl O dX12_stateOf_117 rfl ar_316 hv20 rfl ?_
                refine J.iconst (q := 119) (v := (1 : Int32)) O dX12_stateOf_118 rfl rfl ?_
                refine J.icmp_ne (q := 122) (tgt := 127) O dX12_stateOf_119 rfl (by decide) (fun z21 => ?_) (fun z21 => ?_)
                · replace h := h.1 z21
                  refine J.bipush (q := 129) (v := (7 : Int32)) O dX12_stateOf_127 rfl rfl ?_
                  exact J.sub [] rfl (j_X12_stateOf_b129 hG O hR h)
                · replace h := h.2 z21
                  refine J.bipush (q := 124) (v := (6 : Int32)) O dX12_stateOf_122 rfl rfl ?_
                  refine J.goto (q := 129) O dX12_stateOf_124 (by decide) ?_
                  exact J.sub [] rfl (j_X12_stateOf_b129 hG O hR h)
              · replace h := h.2 z19
                refine J.iconst (q := 109) (v := (3 : Int32)) O dX12_stateOf_108 rfl rfl ?_
                refine J.goto (q := 129) O dX12_stateOf_109 (by decide) ?_
                exact J.sub [] rfl (j_X12_stateOf_b129 hG O hR h)
            · replace h := h.2 z16
              refine J.bipush (q := 91) (v := (6 : Int32)) O dX12_stateOf_89 rfl rfl ?_
              exact hR _ _ _ _ dX12_stateOf_91 h
          · replace h := h.2 z14
            refine J.iconst (q := 78) (v := (2 : Int32)) O dX12_stateOf_77 rfl rfl ?_
            exact hR _ _ _ _ dX12_stateOf_78 h
        · replace h := h.2 z12
          refine J.iconst (q := 54) (v := (5 : Int32)) O dX12_stateOf_53 rfl rfl ?_
          refine J.aload_n (q := 55) O dX12_stateOf_54 rfl 0 rfl ?_
          refine J.iload_n (q := 56) O dX12_stateOf_55 rfl 1 rfl ?_
          refine J.iload_n (q := 57) O dX12_stateOf_56 rfl 2 rfl ?_
          refine J.iload_n (q := 58) O dX12_stateOf_57 rfl 3 rfl ?_
          refine J.callVI (q := 61) [.int a1, .int a2, .int a3] [.int (5 : Int32)] [.int a3, .int a2, .int a1, .ref (ad G 287), .int (5 : Int32)] rfl O dX12_stateOf_58 rfl (c_X12_answer hG h) wd_8_78 mw_X12_answer io_287 rfl (by decide) (Nat.le_of_ble_eq_true rfl) (fun v22 M22 h => ?_)
          refine J.isub (q := 62) O dX12_stateOf_61 rfl ?_
          exact hR _ _ _ _ dX12_stateOf_62 h
      · replace h := h.2 z10
        refine J.bipush (q := 34) (v := (9 : Int32)) O dX12_stateOf_32 rfl rfl ?_
        refine J.aload_n (q := 35) O dX12_stateOf_34 rfl 0 rfl ?_
        refine J.iload_n (q := 36) O dX12_stateOf_35 rfl 1 rfl ?_
        refine J.iload_n (q := 37) O dX12_stateOf_36 rfl 2 rfl ?_
        refine J.iload_n (q := 38) O dX12_stateOf_37 rfl 3 rfl ?_
        refine J.callVI (q := 41) [.int a1, .int a2, .int a3] [.int (9 : Int32)] [.int a3, .int a2, .int a1, .ref (ad G 287), .int (9 : Int32)] rfl O dX12_stateOf_38 rfl (c_X12_ruling hG h) wd_8_74 mw_X12_ruling io_287 rfl (by decide) (Nat.le_of_ble_eq_true rfl) (fun v23 M23 h => ?_)
        refine J.isub (q := 42) O dX12_stateOf_41 rfl ?_
        exact hR _ _ _ _ dX12_stateOf_42 h
    · replace h := h.2 z8
      refine J.iconst (q := 21) (v := (0 : Int32)) O dX12_stateOf_20 rfl rfl ?_
      exact hR _ _ _ _ dX12_stateOf_21 h
  · replace h := h.2 z6
    refine J.iconst (q := 10) (v := (1 : Int32)) O dX12_stateOf_9 rfl rfl ?_
    exact hR _ _ _ _ dX12_stateOf_10 h
set_option maxHeartbeats 4000000 in
set_option maxRecDepth 20000 in
theorem j_X12_lets_b57 {X : CX} {G : GX} {K : Int32 → Mem → Prop} (hG : Gd G) (O : Ok X G cX12_lets 4 RX12 4) (hR : RetZ X G cX12_lets K) {s0 : Int32} {M : Mem} (h : f_X12_lets_b57 K s0 M) : J X G M 57 [] [.int s0] := by
  unfold f_X12_lets_b57 at h
  exact hR _ _ _ _ dX12_lets_57 h.1 h.2
set_option maxHeartbeats 4000000 in
set_option maxRecDepth 20000 in
theorem j_X12_lets_b69 {X : CX} {G : GX} {K : Int32 → Mem → Prop} (hG : Gd G) (O : Ok X G cX12_lets 4 RX12 4) (hR : RetZ X G cX12_lets K) {s0 : Int32} {M : Mem} (h : f_X12_lets_b69 K s0 M) : J X G M 69 [] [.int s0] := by
  unfold f_X12_lets_b69 at h
  exact hR _ _ _ _ dX12_lets_69 h.1 h.2
set_option maxHeartbeats 4000000 in
set_option maxRecDepth 20000 in
theorem j_X12_lets_b100 {X : CX} {G : GX} {K : Int32 → Mem → Prop} (hG : Gd G) (O : Ok X G cX12_lets 4 RX12 4) (hR : RetZ X G cX12_lets K) {s0 : Int32} {M : Mem} (h : f_X12_lets_b100 K s0 M) : J X G M 100 [] [.int s0] := by
  unfold f_X12_lets_b100 at h
  exact hR _ _ _ _ dX12_lets_100 h.1 h.2
set_option maxHeartbeats 4000000 in
set_option maxRecDepth 20000 in
theorem j_X12_lets_b95 {X : CX} {G : GX} {K : Int32 → Mem → Prop} (hG : Gd G) (O : Ok X G cX12_lets 4 RX12 4) (hR : RetZ X G cX12_lets K) {M : Mem} (h : f_X12_lets_b95 K  M) : J X G M 95 [] [] := by
  unfold f_X12_lets_b95 at h
  refine J.iconst (q := 96) (v := (1 : Int32)) O dX12_lets_95 rfl rfl ?_
  refine J.goto (q := 100) O dX12_lets_96 (by decide) ?_
  exact J.sub [] rfl (j_X12_lets_b100 hG O hR h)
set_option maxHeartbeats 4000000 in
set_option maxRecDepth 20000 in
theorem j_X12_lets_b133 {X : CX} {G : GX} {K : Int32 → Mem → Prop} (hG : Gd G) (O : Ok X G cX12_lets 4 RX12 4) (hR : RetZ X G cX12_lets K) {s0 : Int32} {M : Mem} (h : f_X12_lets_b133 K s0 M) : J X G M 133 [] [.int s0] := by
  unfold f_X12_lets_b133 at h
  exact hR _ _ _ _ dX12_lets_133 h.1 h.2
set_option maxHeartbeats 4000000 in
set_option maxRecDepth 20000 in
theorem j_X12_lets_b128 {X : CX} {G : GX} {K : Int32 → Mem → Prop} (hG : Gd G) (O : Ok X G cX12_lets 4 RX12 4) (hR : RetZ X G cX12_lets K) {M : Mem} (h : f_X12_lets_b128 K  M) : J X G M 128 [] [] := by
  unfold f_X12_lets_b128 at h
  refine J.iconst (q := 129) (v := (1 : Int32)) O dX12_lets_128 rfl rfl ?_
  refine J.goto (q := 133) O dX12_lets_129 (by decide) ?_
  exact J.sub [] rfl (j_X12_lets_b133 hG O hR h)
set_option maxHeartbeats 4000000 in
set_option maxRecDepth 20000 in
theorem c_X12_lets {l : Launch} {G : GX} (hG : Gd G) {a1 : Int32} {a2 : Int32} {M : Mem} {K : Int32 → Mem → Prop} (h : f_X12_lets a1 a2 M K) : CI l G yX12_lets cX12_lets 4 (some .boolean) 4 [.ref (ad G 287), .int a1, .int a2] M K := by
  unfold f_X12_lets at h
  refine CZ.mk hG (by decide) [(0, .ref (ad G 287)), (1, .int a1), (2, .int a2)] rfl (Nat.le_of_ble_eq_true rfl) (fun X O hlX hR => ?_)
  subst hlX
  refine J.aload_n (q := 1) O dX12_lets_0 rfl 0 rfl ?_
  refine J.iload_n (q := 2) O dX12_lets_1 rfl 1 rfl ?_
  refine J.iload_n (q := 3) O dX12_lets_2 rfl 2 rfl ?_
  refine J.aload_n (q := 4) O dX12_lets_3 rfl 0 rfl ?_
  refine J.getI (q := 7) (c' := 287) (ci := 12) (k := 0) (M 287 0) rfl O dX12_lets_4 rfl wd_6_72 (by decide) if_287_0 ?_
  refine J.callVI (q := 10) [.int a1, .int a2, .int (M 287 0)] [] [.int (M 287 0), .int a2, .int a1, .ref (ad G 287)] rfl O dX12_lets_7 rfl (c_X12_stateOf hG h) wd_8_70 mw_X12_stateOf io_287 rfl (by decide) (Nat.le_of_ble_eq_true rfl) (fun v6 M6 h => ?_)
  refine J.istore_n (q := 11) O dX12_lets_10 rfl [(3, .int v6), (0, .ref (ad G 287)), (1, .int a1), (2, .int a2)] (by decide) rfl ?_
  refine J.aload_n (q := 12) O dX12_lets_11 rfl 1 rfl ?_
  refine J.getR (q := 15) (c' := 287) (ci := 12) (k := 36) (r := 311) O dX12_lets_12 rfl wd_6_108 (by decide) if_287_36 ?_
  refine J.iload_n (q := 16) O dX12_lets_15 rfl 2 rfl ?_
  obtain ⟨hv7, h⟩ := h
  refine J.iald (q := 17) (c' := 311) (j := a1.toNatClampNeg) (M6 311 a1.toNatClampNeg) rfl O dX12_lets_16 rfl ar_311 hv7 rfl ?_
  rcases tsw_cov (M6 311 a1.toNatClampNeg) (0) 3 (by decide) with z13 | ⟨j, hj, z13⟩
  · replace h := h.1 (by omega)
    refine J.tswOut (q := 101) O dX12_lets_17 (by omega) (by decide) ?_
    refine J.iload_n (q := 102) O dX12_lets_101 rfl 0 rfl ?_
    refine J.iconst (q := 103) (v := (2 : Int32)) O dX12_lets_102 rfl rfl ?_
    refine J.icmp_eq (q := 106) (tgt := 128) O dX12_lets_103 rfl (by decide) (fun z8 => ?_) (fun z8 => ?_)
    · replace h := h.1 z8
      exact J.sub [] rfl (j_X12_lets_b128 hG O hR h)
    · replace h := h.2 z8
      refine J.iload_n (q := 107) O dX12_lets_106 rfl 0 rfl ?_
      refine J.iconst (q := 108) (v := (3 : Int32)) O dX12_lets_107 rfl rfl ?_
      refine J.icmp_eq (q := 111) (tgt := 128) O dX12_lets_108 rfl (by decide) (fun z9 => ?_) (fun z9 => ?_)
      · replace h := h.1 z9
        exact J.sub [] rfl (j_X12_lets_b128 hG O hR h)
      · replace h := h.2 z9
        refine J.iload_n (q := 112) O dX12_lets_111 rfl 0 rfl ?_
        refine J.iconst (q := 113) (v := (4 : Int32)) O dX12_lets_112 rfl rfl ?_
        refine J.icmp_eq (q := 116) (tgt := 128) O dX12_lets_113 rfl (by decide) (fun z10 => ?_) (fun z10 => ?_)
        · replace h := h.1 z10
          exact J.sub [] rfl (j_X12_lets_b128 hG O hR h)
        · replace h := h.2 z10
          refine J.iload_n (q := 117) O dX12_lets_116 rfl 0 rfl ?_
          refine J.bipush (q := 119) (v := (6 : Int32)) O dX12_lets_117 rfl rfl ?_
          refine J.icmp_eq (q := 122) (tgt := 128) O dX12_lets_119 rfl (by decide) (fun z11 => ?_) (fun z11 => ?_)
          · replace h := h.1 z11
            exact J.sub [] rfl (j_X12_lets_b128 hG O hR h)
          · replace h := h.2 z11
            refine J.iload_n (q := 123) O dX12_lets_122 rfl 0 rfl ?_
            refine J.bipush (q := 125) (v := (8 : Int32)) O dX12_lets_123 rfl rfl ?_
            refine J.icmp_ne (q := 128) (tgt := 132) O dX12_lets_125 rfl (by decide) (fun z12 => ?_) (fun z12 => ?_)
            · replace h := h.1 z12
              refine J.iconst (q := 133) (v := (0 : Int32)) O dX12_lets_132 rfl rfl ?_
              exact J.sub [] rfl (j_X12_lets_b133 hG O hR h)
            · replace h := h.2 z12
              exact J.sub [] rfl (j_X12_lets_b128 hG O hR h)
  · match j, hj, z13 with
    | 0, _, z13 =>
      have z13 : (M6 311 a1.toNatClampNeg) = (0 : Int32) := z13.trans (by decide)
      replace h := h.2.1 z13
      refine J.tswIn (q := 48) O dX12_lets_17 (0 : Int32) z13 (by decide) (by decide) rfl (by decide) ?_
      refine J.iload_n (q := 49) O dX12_lets_48 rfl 0 rfl ?_
      refine J.if_ne (q := 52) (tgt := 56) O dX12_lets_49 rfl (by decide) (fun z14 => ?_) (fun z14 => ?_)
      · replace h := h.1 z14
        refine J.iconst (q := 57) (v := (0 : Int32)) O dX12_lets_56 rfl rfl ?_
        exact J.sub [] rfl (j_X12_lets_b57 hG O hR h)
      · replace h := h.2 z14
        refine J.iconst (q := 53) (v := (1 : Int32)) O dX12_lets_52 rfl rfl ?_
        refine J.goto (q := 57) O dX12_lets_53 (by decide) ?_
        exact J.sub [] rfl (j_X12_lets_b57 hG O hR h)
    | 1, _, z13 =>
      have z13 : (M6 311 a1.toNatClampNeg) = (1 : Int32) := z13.trans (by decide)
      replace h := h.2.2.1 z13
      refine J.tswIn (q := 58) O dX12_lets_17 (1 : Int32) z13 (by decide) (by decide) rfl (by decide) ?_
      refine J.iload_n (q := 59) O dX12_lets_58 rfl 0 rfl ?_
      refine J.bipush (q := 61) (v := (6 : Int32)) O dX12_lets_59 rfl rfl ?_
      refine J.icmp_ne (q := 64) (tgt := 68) O dX12_lets_61 rfl (by decide) (fun z15 => ?_) (fun z15 => ?_)
      · replace h := h.1 z15
        refine J.iconst (q := 69) (v := (0 : Int32)) O dX12_lets_68 rfl rfl ?_
        exact J.sub [] rfl (j_X12_lets_b69 hG O hR h)
      · replace h := h.2 z15
        refine J.iconst (q := 65) (v := (1 : Int32)) O dX12_lets_64 rfl rfl ?_
        refine J.goto (q := 69) O dX12_lets_65 (by decide) ?_
        exact J.sub [] rfl (j_X12_lets_b69 hG O hR h)
    | 2, _, z13 =>
      have z13 : (M6 311 a1.toNatClampNeg) = (2 : Int32) := z13.trans (by decide)
      replace h := h.2.2.2.1 z13
      refine J.tswIn (q := 70) O dX12_lets_17 (2 : Int32) z13 (by decide) (by decide) rfl (by decide) ?_
      refine J.iload_n (q := 71) O dX12_lets_70 rfl 0 rfl ?_
      refine J.iconst (q := 72) (v := (4 : Int32)) O dX12_lets_71 rfl rfl ?_
      refine J.bipush (q := 74) (v := (6 : Int32)) O dX12_lets_72 rfl rfl ?_
      refine J.callSI (q := 77) [.int v6, .int (4 : Int32), .int (6 : Int32)] [] [.int (6 : Int32), .int (4 : Int32), .int v6] rfl O dX12_lets_74 rfl (c_X12_in hG h) wd_7_181 mw_X12_in rfl (by decide) (Nat.le_of_ble_eq_true rfl) (fun v16 M16 h => ?_)
      exact hR _ _ _ _ dX12_lets_77 h.1 h.2
    | 3, _, z13 =>
      have z13 : (M6 311 a1.toNatClampNeg) = (3 : Int32) := z13.trans (by decide)
      replace h := h.2.2.2.2 z13
      refine J.tswIn (q := 78) O dX12_lets_17 (3 : Int32) z13 (by decide) (by decide) rfl (by decide) ?_
      refine J.iload_n (q := 79) O dX12_lets_78 rfl 0 rfl ?_
      refine J.iconst (q := 80) (v := (4 : Int32)) O dX12_lets_79 rfl rfl ?_
      refine J.icmp_eq (q := 83) (tgt := 95) O dX12_lets_80 rfl (by decide) (fun z18 => ?_) (fun z18 => ?_)
      · replace h := h.1 z18
        exact J.sub [] rfl (j_X12_lets_b95 hG O hR h)
      · replace h := h.2 z18
        refine J.iload_n (q := 84) O dX12_lets_83 rfl 0 rfl ?_
        refine J.bipush (q := 86) (v := (6 : Int32)) O dX12_lets_84 rfl rfl ?_
        refine J.icmp_eq (q := 89) (tgt := 95) O dX12_lets_86 rfl (by decide) (fun z19 => ?_) (fun z19 => ?_)
        · replace h := h.1 z19
          exact J.sub [] rfl (j_X12_lets_b95 hG O hR h)
        · replace h := h.2 z19
          refine J.iload_n (q := 90) O dX12_lets_89 rfl 0 rfl ?_
          refine J.bipush (q := 92) (v := (8 : Int32)) O dX12_lets_90 rfl rfl ?_
          refine J.icmp_ne (q := 95) (tgt := 99) O dX12_lets_92 rfl (by decide) (fun z20 => ?_) (fun z20 => ?_)
          · replace h := h.1 z20
            refine J.iconst (q := 100) (v := (0 : Int32)) O dX12_lets_99 rfl rfl ?_
            exact J.sub [] rfl (j_X12_lets_b100 hG O hR h)
          · replace h := h.2 z20
            exact J.sub [] rfl (j_X12_lets_b95 hG O hR h)
    | j + 4, hj, _ => exact absurd hj (by omega)
set_option maxHeartbeats 4000000 in
set_option maxRecDepth 20000 in
theorem j_X12_paper_b18 {X : CX} {G : GX} {K : Int32 → Mem → Prop} (hG : Gd G) (O : Ok X G cX12_paper 4 RX12 3) (hR : RetI X G cX12_paper K) {M : Mem} (h : f_X12_paper_b18 K  M) : J X G M 18 [(0, .ref (ad G 287))] [] := by
  unfold f_X12_paper_b18 at h
  refine J.aload_n (q := 19) O dX12_paper_18 rfl 0 rfl ?_
  refine J.iconst (q := 20) (v := (-1 : Int32)) O dX12_paper_19 rfl rfl ?_
  refine J.callVI (q := 23) [.int (-1 : Int32)] [] [.int (-1 : Int32), .ref (ad G 287)] rfl O dX12_paper_20 rfl (c_X12_refuse hG h) wd_7_158 mw_X12_refuse io_287 rfl (by decide) (Nat.le_of_ble_eq_true rfl) (fun v3 M3 h => ?_)
  exact hR _ _ _ _ dX12_paper_23 h
set_option maxHeartbeats 4000000 in
set_option maxRecDepth 20000 in
theorem j_X12_paper_b57 {X : CX} {G : GX} {K : Int32 → Mem → Prop} (hG : Gd G) (O : Ok X G cX12_paper 4 RX12 3) (hR : RetI X G cX12_paper K) {M : Mem} (h : f_X12_paper_b57 K  M) : J X G M 57 [(0, .ref (ad G 287))] [] := by
  unfold f_X12_paper_b57 at h
  refine J.aload_n (q := 58) O dX12_paper_57 rfl 0 rfl ?_
  refine J.bipush (q := 60) (v := (-3 : Int32)) O dX12_paper_58 rfl rfl ?_
  refine J.callVI (q := 63) [.int (-3 : Int32)] [] [.int (-3 : Int32), .ref (ad G 287)] rfl O dX12_paper_60 rfl (c_X12_refuse hG h) wd_7_158 mw_X12_refuse io_287 rfl (by decide) (Nat.le_of_ble_eq_true rfl) (fun v4 M4 h => ?_)
  exact hR _ _ _ _ dX12_paper_63 h
set_option maxHeartbeats 4000000 in
set_option maxRecDepth 20000 in
theorem j_X12_paper_b93 {X : CX} {G : GX} {K : Int32 → Mem → Prop} (hG : Gd G) (O : Ok X G cX12_paper 4 RX12 3) (hR : RetI X G cX12_paper K) {x1 : Int32} {x2 : Int32} {s0 : Int32} {s1 : Int32} {M : Mem} (h : f_X12_paper_b93 K x1 x2 s0 s1 M) : J X G M 93 [(0, .ref (ad G 287)), (1, .int x1), (2, .int x2)] [.int s0, .int s1, .ref (ad G 287)] := by
  unfold f_X12_paper_b93 at h
  refine J.iload_n (q := 94) O dX12_paper_93 rfl 2 rfl ?_
  refine J.iconst (q := 95) (v := (0 : Int32)) O dX12_paper_94 rfl rfl ?_
  refine J.callVV (q := 98) [.int s1, .int s0, .int x2, .int (0 : Int32)] [] [.int (0 : Int32), .int x2, .int s0, .int s1, .ref (ad G 287)] rfl O dX12_paper_95 rfl (c_X12_tell hG h) wd_8_58 mw_X12_tell io_287 rfl (by decide) (Nat.le_of_ble_eq_true rfl) (fun M5 h => ?_)
  refine J.aload_n (q := 99) O dX12_paper_98 rfl 0 rfl ?_
  refine J.getR (q := 102) (c' := 287) (ci := 12) (k := 42) (r := 317) O dX12_paper_99 rfl wd_6_114 (by decide) if_287_42 ?_
  refine J.iload_n (q := 103) O dX12_paper_102 rfl 1 rfl ?_
  obtain ⟨hv6, h⟩ := h
  refine J.iald (q := 104) (c' := 317) (j := x1.toNatClampNeg) (M5 317 x1.toNatClampNeg) rfl O dX12_paper_103 rfl ar_317 hv6 rfl ?_
  exact hR _ _ _ _ dX12_paper_104 h
set_option maxHeartbeats 4000000 in
set_option maxRecDepth 20000 in
theorem j_X12_paper_b64 {X : CX} {G : GX} {K : Int32 → Mem → Prop} (hG : Gd G) (O : Ok X G cX12_paper 4 RX12 3) (hR : RetI X G cX12_paper K) {x1 : Int32} {x2 : Int32} {x3 : Int32} {M : Mem} (h : f_X12_paper_b64 K x1 x2 x3 M) : J X G M 64 [(0, .ref (ad G 287)), (1, .int x1), (2, .int x2), (3, .int x3)] [] := by
  unfold f_X12_paper_b64 at h
  refine J.aload_n (q := 65) O dX12_paper_64 rfl 0 rfl ?_
  refine J.getR (q := 68) (c' := 287) (ci := 12) (k := 42) (r := 317) O dX12_paper_65 rfl wd_6_114 (by decide) if_287_42 ?_
  refine J.iload_n (q := 69) O dX12_paper_68 rfl 1 rfl ?_
  obtain ⟨hv7, h⟩ := h
  refine J.iald (q := 70) (c' := 317) (j := x1.toNatClampNeg) (M 317 x1.toNatClampNeg) rfl O dX12_paper_69 rfl ar_317 hv7 rfl ?_
  refine J.bipush (q := 72) (v := (30 : Int32)) O dX12_paper_70 rfl rfl ?_
  refine J.icmp_ne (q := 75) (tgt := 82) O dX12_paper_72 rfl (by decide) (fun z8 => ?_) (fun z8 => ?_)
  · replace h := h.1 z8
    refine J.aload_n (q := 83) O dX12_paper_82 rfl 0 rfl ?_
    refine J.iload_n (q := 84) O dX12_paper_83 rfl 1 rfl ?_
    refine J.iload_n (q := 85) O dX12_paper_84 rfl 3 rfl ?_
    refine J.if_eq (q := 88) (tgt := 92) O dX12_paper_85 rfl (by decide) (fun z9 => ?_) (fun z9 => ?_)
    · replace h := h.1 z9
      refine J.iconst (q := 93) (v := (1 : Int32)) O dX12_paper_92 rfl rfl ?_
      exact J.sub [0, 1, 2] rfl (j_X12_paper_b93 hG O hR h)
    · replace h := h.2 z9
      refine J.iconst (q := 89) (v := (0 : Int32)) O dX12_paper_88 rfl rfl ?_
      refine J.goto (q := 93) O dX12_paper_89 (by decide) ?_
      exact J.sub [0, 1, 2] rfl (j_X12_paper_b93 hG O hR h)
  · replace h := h.2 z8
    refine J.aload_n (q := 76) O dX12_paper_75 rfl 0 rfl ?_
    refine J.bipush (q := 78) (v := (-6 : Int32)) O dX12_paper_76 rfl rfl ?_
    refine J.callVI (q := 81) [.int (-6 : Int32)] [] [.int (-6 : Int32), .ref (ad G 287)] rfl O dX12_paper_78 rfl (c_X12_refuse hG h) wd_7_158 mw_X12_refuse io_287 rfl (by decide) (Nat.le_of_ble_eq_true rfl) (fun v10 M10 h => ?_)
    exact hR _ _ _ _ dX12_paper_81 h
set_option maxHeartbeats 4000000 in
set_option maxRecDepth 20000 in
theorem c_X12_paper {l : Launch} {G : GX} (hG : Gd G) {a1 : Int32} {a2 : Int32} {a3 : Int32} {M : Mem} {K : Int32 → Mem → Prop} (h : f_X12_paper a1 a2 a3 M K) : CI l G yX12_paper cX12_paper 4 (some .int) 3 [.ref (ad G 287), .int a1, .int a2, .int a3] M K := by
  unfold f_X12_paper at h
  refine CI.mk hG (by decide) [(0, .ref (ad G 287)), (1, .int a1), (2, .int a2), (3, .int a3)] rfl (Nat.le_of_ble_eq_true rfl) (fun X O hlX hR => ?_)
  subst hlX
  refine J.aload_n (q := 1) O dX12_paper_0 rfl 0 rfl ?_
  refine J.iload_n (q := 2) O dX12_paper_1 rfl 1 rfl ?_
  refine J.callVI (q := 5) [.int a1] [] [.int a1, .ref (ad G 287)] rfl O dX12_paper_2 rfl (c_X12_isMatter hG h) wd_8_46 mw_X12_isMatter io_287 rfl (by decide) (Nat.le_of_ble_eq_true rfl) (fun v11 M11 h => ?_)
  refine J.if_eq (q := 8) (tgt := 18) O dX12_paper_5 rfl (by decide) (fun z12 => ?_) (fun z12 => ?_)
  · replace h := h.1 z12
    exact J.sub [0] rfl (j_X12_paper_b18 hG O hR h)
  · replace h := h.2 z12
    refine J.iload_n (q := 9) O dX12_paper_8 rfl 2 rfl ?_
    refine J.iconst (q := 10) (v := (0 : Int32)) O dX12_paper_9 rfl rfl ?_
    refine J.bipush (q := 12) (v := (7 : Int32)) O dX12_paper_10 rfl rfl ?_
    refine J.callSI (q := 15) [.int a2, .int (0 : Int32), .int (7 : Int32)] [] [.int (7 : Int32), .int (0 : Int32), .int a2] rfl O dX12_paper_12 rfl (c_X12_in hG h) wd_7_181 mw_X12_in rfl (by decide) (Nat.le_of_ble_eq_true rfl) (fun v13 M13 h => ?_)
    refine J.if_ne (q := 18) (tgt := 24) O dX12_paper_15 rfl (by decide) (fun z14 => ?_) (fun z14 => ?_)
    · replace h := h.1 z14
      refine J.aload_n (q := 25) O dX12_paper_24 rfl 0 rfl ?_
      refine J.iload_n (q := 26) O dX12_paper_25 rfl 1 rfl ?_
      refine J.aload_n (q := 27) O dX12_paper_26 rfl 0 rfl ?_
      refine J.getI (q := 30) (c' := 287) (ci := 12) (k := 0) (M13 287 0) rfl O dX12_paper_27 rfl wd_6_72 (by decide) if_287_0 ?_
      refine J.callVI (q := 33) [.int a1, .int (M13 287 0)] [] [.int (M13 287 0), .int a1, .ref (ad G 287)] rfl O dX12_paper_30 rfl (c_X12_isWithdrawn hG h) wd_8_50 mw_X12_isWithdrawn io_287 rfl (by decide) (Nat.le_of_ble_eq_true rfl) (fun v15 M15 h => ?_)
      refine J.if_ne (q := 36) (tgt := 57) O dX12_paper_33 rfl (by decide) (fun z16 => ?_) (fun z16 => ?_)
      · replace h := h.1 z16
        exact J.sub [0] rfl (j_X12_paper_b57 hG O hR h)
      · replace h := h.2 z16
        refine J.iload_n (q := 37) O dX12_paper_36 rfl 3 rfl ?_
        refine J.if_ne (q := 40) (tgt := 64) O dX12_paper_37 rfl (by decide) (fun z17 => ?_) (fun z17 => ?_)
        · replace h := h.1 z17
          exact J.sub [0, 1, 2, 3] rfl (j_X12_paper_b64 hG O hR h)
        · replace h := h.2 z17
          refine J.aload_n (q := 41) O dX12_paper_40 rfl 0 rfl ?_
          refine J.iload_n (q := 42) O dX12_paper_41 rfl 1 rfl ?_
          refine J.iload_n (q := 43) O dX12_paper_42 rfl 2 rfl ?_
          refine J.aload_n (q := 44) O dX12_paper_43 rfl 0 rfl ?_
          refine J.getI (q := 47) (c' := 287) (ci := 12) (k := 0) (M15 287 0) rfl O dX12_paper_44 rfl wd_6_72 (by decide) if_287_0 ?_
          refine J.aload_n (q := 48) O dX12_paper_47 rfl 0 rfl ?_
          refine J.getI (q := 51) (c' := 287) (ci := 12) (k := 0) (M15 287 0) rfl O dX12_paper_48 rfl wd_6_72 (by decide) if_287_0 ?_
          refine J.callVI (q := 54) [.int a1, .int a2, .int (M15 287 0), .int (M15 287 0)] [] [.int (M15 287 0), .int (M15 287 0), .int a2, .int a1, .ref (ad G 287)] rfl O dX12_paper_51 rfl (c_X12_givenOn hG h) wd_8_54 mw_X12_givenOn io_287 rfl (by decide) (Nat.le_of_ble_eq_true rfl) (fun v18 M18 h => ?_)
          refine J.if_ge (q := 57) (tgt := 64) O dX12_paper_54 rfl (by decide) (fun z19 => ?_) (fun z19 => ?_)
          · replace h := h.1 z19
            exact J.sub [0, 1, 2, 3] rfl (j_X12_paper_b64 hG O hR h)
          · replace h := h.2 z19
            exact J.sub [0] rfl (j_X12_paper_b57 hG O hR h)
    · replace h := h.2 z14
      exact J.sub [0] rfl (j_X12_paper_b18 hG O hR h)
set_option maxHeartbeats 4000000 in
set_option maxRecDepth 20000 in
theorem c_X12_withdraw {l : Launch} {G : GX} (hG : Gd G) {a1 : Int32} {M : Mem} {K : Int32 → Mem → Prop} (h : f_X12_withdraw a1 M K) : CI l G yX12_withdraw cX12_withdraw 2 (some .int) 3 [.ref (ad G 287), .int a1] M K := by
  unfold f_X12_withdraw at h
  refine CI.mk hG (by decide) [(0, .ref (ad G 287)), (1, .int a1)] rfl (Nat.le_of_ble_eq_true rfl) (fun X O hlX hR => ?_)
  subst hlX
  refine J.aload_n (q := 1) O dX12_withdraw_0 rfl 0 rfl ?_
  refine J.iload_n (q := 2) O dX12_withdraw_1 rfl 1 rfl ?_
  refine J.callVI (q := 5) [.int a1] [] [.int a1, .ref (ad G 287)] rfl O dX12_withdraw_2 rfl (c_X12_isMatter hG h) wd_8_46 mw_X12_isMatter io_287 rfl (by decide) (Nat.le_of_ble_eq_true rfl) (fun v2 M2 h => ?_)
  refine J.if_ne (q := 8) (tgt := 14) O dX12_withdraw_5 rfl (by decide) (fun z3 => ?_) (fun z3 => ?_)
  · replace h := h.1 z3
    refine J.aload_n (q := 15) O dX12_withdraw_14 rfl 0 rfl ?_
    refine J.iload_n (q := 16) O dX12_withdraw_15 rfl 1 rfl ?_
    refine J.aload_n (q := 17) O dX12_withdraw_16 rfl 0 rfl ?_
    refine J.getI (q := 20) (c' := 287) (ci := 12) (k := 0) (M2 287 0) rfl O dX12_withdraw_17 rfl wd_6_72 (by decide) if_287_0 ?_
    refine J.callVI (q := 23) [.int a1, .int (M2 287 0)] [] [.int (M2 287 0), .int a1, .ref (ad G 287)] rfl O dX12_withdraw_20 rfl (c_X12_isWithdrawn hG h) wd_8_50 mw_X12_isWithdrawn io_287 rfl (by decide) (Nat.le_of_ble_eq_true rfl) (fun v4 M4 h => ?_)
    refine J.if_eq (q := 26) (tgt := 33) O dX12_withdraw_23 rfl (by decide) (fun z5 => ?_) (fun z5 => ?_)
    · replace h := h.1 z5
      refine J.aload_n (q := 34) O dX12_withdraw_33 rfl 0 rfl ?_
      refine J.getR (q := 37) (c' := 287) (ci := 12) (k := 42) (r := 317) O dX12_withdraw_34 rfl wd_6_114 (by decide) if_287_42 ?_
      refine J.iload_n (q := 38) O dX12_withdraw_37 rfl 1 rfl ?_
      obtain ⟨hv6, h⟩ := h
      refine J.iald (q := 39) (c' := 317) (j := a1.toNatClampNeg) (M4 317 a1.toNatClampNeg) rfl O dX12_withdraw_38 rfl ar_317 hv6 rfl ?_
      refine J.bipush (q := 41) (v := (30 : Int32)) O dX12_withdraw_39 rfl rfl ?_
      refine J.icmp_ne (q := 44) (tgt := 51) O dX12_withdraw_41 rfl (by decide) (fun z7 => ?_) (fun z7 => ?_)
      · replace h := h.1 z7
        refine J.aload_n (q := 52) O dX12_withdraw_51 rfl 0 rfl ?_
        refine J.iload_n (q := 53) O dX12_withdraw_52 rfl 1 rfl ?_
        refine J.iconst (q := 54) (v := (2 : Int32)) O dX12_withdraw_53 rfl rfl ?_
        refine J.iconst (q := 55) (v := (-1 : Int32)) O dX12_withdraw_54 rfl rfl ?_
        refine J.iconst (q := 56) (v := (0 : Int32)) O dX12_withdraw_55 rfl rfl ?_
        refine J.callVV (q := 59) [.int a1, .int (2 : Int32), .int (-1 : Int32), .int (0 : Int32)] [] [.int (0 : Int32), .int (-1 : Int32), .int (2 : Int32), .int a1, .ref (ad G 287)] rfl O dX12_withdraw_56 rfl (c_X12_tell hG h) wd_8_58 mw_X12_tell io_287 rfl (by decide) (Nat.le_of_ble_eq_true rfl) (fun M8 h => ?_)
        refine J.iconst (q := 60) (v := (1 : Int32)) O dX12_withdraw_59 rfl rfl ?_
        exact hR _ _ _ _ dX12_withdraw_60 h
      · replace h := h.2 z7
        refine J.aload_n (q := 45) O dX12_withdraw_44 rfl 0 rfl ?_
        refine J.bipush (q := 47) (v := (-6 : Int32)) O dX12_withdraw_45 rfl rfl ?_
        refine J.callVI (q := 50) [.int (-6 : Int32)] [] [.int (-6 : Int32), .ref (ad G 287)] rfl O dX12_withdraw_47 rfl (c_X12_refuse hG h) wd_7_158 mw_X12_refuse io_287 rfl (by decide) (Nat.le_of_ble_eq_true rfl) (fun v9 M9 h => ?_)
        exact hR _ _ _ _ dX12_withdraw_50 h
    · replace h := h.2 z5
      refine J.aload_n (q := 27) O dX12_withdraw_26 rfl 0 rfl ?_
      refine J.bipush (q := 29) (v := (-3 : Int32)) O dX12_withdraw_27 rfl rfl ?_
      refine J.callVI (q := 32) [.int (-3 : Int32)] [] [.int (-3 : Int32), .ref (ad G 287)] rfl O dX12_withdraw_29 rfl (c_X12_refuse hG h) wd_7_158 mw_X12_refuse io_287 rfl (by decide) (Nat.le_of_ble_eq_true rfl) (fun v10 M10 h => ?_)
      exact hR _ _ _ _ dX12_withdraw_32 h
  · replace h := h.2 z3
    refine J.aload_n (q := 9) O dX12_withdraw_8 rfl 0 rfl ?_
    refine J.iconst (q := 10) (v := (-1 : Int32)) O dX12_withdraw_9 rfl rfl ?_
    refine J.callVI (q := 13) [.int (-1 : Int32)] [] [.int (-1 : Int32), .ref (ad G 287)] rfl O dX12_withdraw_10 rfl (c_X12_refuse hG h) wd_7_158 mw_X12_refuse io_287 rfl (by decide) (Nat.le_of_ble_eq_true rfl) (fun v11 M11 h => ?_)
    exact hR _ _ _ _ dX12_withdraw_13 h
set_option maxHeartbeats 4000000 in
set_option maxRecDepth 20000 in
theorem j_X12_state_b22 {X : CX} {G : GX} {K : Int32 → Mem → Prop} (hG : Gd G) (O : Ok X G cX12_state 4 RX12 4) (hR : RetI X G cX12_state K) {M : Mem} (h : f_X12_state_b22 K  M) : J X G M 22 [(0, .ref (ad G 287))] [] := by
  unfold f_X12_state_b22 at h
  refine J.aload_n (q := 23) O dX12_state_22 rfl 0 rfl ?_
  refine J.bipush (q := 25) (v := (-4 : Int32)) O dX12_state_23 rfl rfl ?_
  refine J.callVI (q := 28) [.int (-4 : Int32)] [] [.int (-4 : Int32), .ref (ad G 287)] rfl O dX12_state_25 rfl (c_X12_refuse hG h) wd_7_158 mw_X12_refuse io_287 rfl (by decide) (Nat.le_of_ble_eq_true rfl) (fun v2 M2 h => ?_)
  exact hR _ _ _ _ dX12_state_28 h
set_option maxHeartbeats 4000000 in
set_option maxRecDepth 20000 in
theorem j_X12_state_b52 {X : CX} {G : GX} {K : Int32 → Mem → Prop} (hG : Gd G) (O : Ok X G cX12_state 4 RX12 4) (hR : RetI X G cX12_state K) {M : Mem} (h : f_X12_state_b52 K  M) : J X G M 52 [(0, .ref (ad G 287))] [] := by
  unfold f_X12_state_b52 at h
  refine J.aload_n (q := 53) O dX12_state_52 rfl 0 rfl ?_
  refine J.bipush (q := 55) (v := (-3 : Int32)) O dX12_state_53 rfl rfl ?_
  refine J.callVI (q := 58) [.int (-3 : Int32)] [] [.int (-3 : Int32), .ref (ad G 287)] rfl O dX12_state_55 rfl (c_X12_refuse hG h) wd_7_158 mw_X12_refuse io_287 rfl (by decide) (Nat.le_of_ble_eq_true rfl) (fun v3 M3 h => ?_)
  exact hR _ _ _ _ dX12_state_58 h
set_option maxHeartbeats 4000000 in
set_option maxRecDepth 20000 in
theorem c_X12_state {l : Launch} {G : GX} (hG : Gd G) {a1 : Int32} {a2 : Int32} {a3 : Int32} {M : Mem} {K : Int32 → Mem → Prop} (h : f_X12_state a1 a2 a3 M K) : CI l G yX12_state cX12_state 4 (some .int) 4 [.ref (ad G 287), .int a1, .int a2, .int a3] M K := by
  unfold f_X12_state at h
  refine CI.mk hG (by decide) [(0, .ref (ad G 287)), (1, .int a1), (2, .int a2), (3, .int a3)] rfl (Nat.le_of_ble_eq_true rfl) (fun X O hlX hR => ?_)
  subst hlX
  refine J.aload_n (q := 1) O dX12_state_0 rfl 0 rfl ?_
  refine J.iload_n (q := 2) O dX12_state_1 rfl 1 rfl ?_
  refine J.callVI (q := 5) [.int a1] [] [.int a1, .ref (ad G 287)] rfl O dX12_state_2 rfl (c_X12_isMatter hG h) wd_8_46 mw_X12_isMatter io_287 rfl (by decide) (Nat.le_of_ble_eq_true rfl) (fun v4 M4 h => ?_)
  refine J.if_ne (q := 8) (tgt := 14) O dX12_state_5 rfl (by decide) (fun z5 => ?_) (fun z5 => ?_)
  · replace h := h.1 z5
    refine J.iload_n (q := 15) O dX12_state_14 rfl 2 rfl ?_
    refine J.if_lt (q := 18) (tgt := 22) O dX12_state_15 rfl (by decide) (fun z6 => ?_) (fun z6 => ?_)
    · replace h := h.1 z6
      exact J.sub [0] rfl (j_X12_state_b22 hG O hR h)
    · replace h := h.2 z6
      refine J.iload_n (q := 19) O dX12_state_18 rfl 3 rfl ?_
      refine J.if_ge (q := 22) (tgt := 29) O dX12_state_19 rfl (by decide) (fun z7 => ?_) (fun z7 => ?_)
      · replace h := h.1 z7
        refine J.iload_n (q := 30) O dX12_state_29 rfl 2 rfl ?_
        refine J.aload_n (q := 31) O dX12_state_30 rfl 0 rfl ?_
        refine J.getR (q := 34) (c' := 287) (ci := 12) (k := 38) (r := 313) O dX12_state_31 rfl wd_6_110 (by decide) if_287_38 ?_
        refine J.iload_n (q := 35) O dX12_state_34 rfl 1 rfl ?_
        obtain ⟨hv8, h⟩ := h
        refine J.iald (q := 36) (c' := 313) (j := a1.toNatClampNeg) (M4 313 a1.toNatClampNeg) rfl O dX12_state_35 rfl ar_313 hv8 rfl ?_
        refine J.icmp_lt (q := 39) (tgt := 52) O dX12_state_36 rfl (by decide) (fun z9 => ?_) (fun z9 => ?_)
        · replace h := h.1 z9
          exact J.sub [0] rfl (j_X12_state_b52 hG O hR h)
        · replace h := h.2 z9
          refine J.iload_n (q := 40) O dX12_state_39 rfl 2 rfl ?_
          refine J.iload_n (q := 41) O dX12_state_40 rfl 3 rfl ?_
          refine J.icmp_gt (q := 44) (tgt := 52) O dX12_state_41 rfl (by decide) (fun z10 => ?_) (fun z10 => ?_)
          · replace h := h.1 z10
            exact J.sub [0] rfl (j_X12_state_b52 hG O hR h)
          · replace h := h.2 z10
            refine J.iload_n (q := 45) O dX12_state_44 rfl 3 rfl ?_
            refine J.aload_n (q := 46) O dX12_state_45 rfl 0 rfl ?_
            refine J.getI (q := 49) (c' := 287) (ci := 12) (k := 0) (M4 287 0) rfl O dX12_state_46 rfl wd_6_72 (by decide) if_287_0 ?_
            refine J.icmp_le (q := 52) (tgt := 59) O dX12_state_49 rfl (by decide) (fun z11 => ?_) (fun z11 => ?_)
            · replace h := h.1 z11
              refine J.aload_n (q := 60) O dX12_state_59 rfl 0 rfl ?_
              refine J.iload_n (q := 61) O dX12_state_60 rfl 1 rfl ?_
              refine J.iload_n (q := 62) O dX12_state_61 rfl 2 rfl ?_
              refine J.iload_n (q := 63) O dX12_state_62 rfl 3 rfl ?_
              refine J.callVI (q := 66) [.int a1, .int a2, .int a3] [] [.int a3, .int a2, .int a1, .ref (ad G 287)] rfl O dX12_state_63 rfl (c_X12_stateOf hG h) wd_8_70 mw_X12_stateOf io_287 rfl (by decide) (Nat.le_of_ble_eq_true rfl) (fun v12 M12 h => ?_)
              exact hR _ _ _ _ dX12_state_66 h
            · replace h := h.2 z11
              exact J.sub [0] rfl (j_X12_state_b52 hG O hR h)
      · replace h := h.2 z7
        exact J.sub [0] rfl (j_X12_state_b22 hG O hR h)
  · replace h := h.2 z5
    refine J.aload_n (q := 9) O dX12_state_8 rfl 0 rfl ?_
    refine J.iconst (q := 10) (v := (-1 : Int32)) O dX12_state_9 rfl rfl ?_
    refine J.callVI (q := 13) [.int (-1 : Int32)] [] [.int (-1 : Int32), .ref (ad G 287)] rfl O dX12_state_10 rfl (c_X12_refuse hG h) wd_7_158 mw_X12_refuse io_287 rfl (by decide) (Nat.le_of_ble_eq_true rfl) (fun v13 M13 h => ?_)
    exact hR _ _ _ _ dX12_state_13 h
set_option maxHeartbeats 4000000 in
set_option maxRecDepth 20000 in
theorem j_X12_matterOf_b102 {X : CX} {G : GX} {K : Int32 → Mem → Prop} (hG : Gd G) (O : Ok X G cX12_matterOf 4 RX12 5) (hR : RetI X G cX12_matterOf K) {s0 : Int32} {M : Mem} (h : f_X12_matterOf_b102 K s0 M) : J X G M 102 [] [.int s0] := by
  unfold f_X12_matterOf_b102 at h
  exact hR _ _ _ _ dX12_matterOf_102 h
set_option maxHeartbeats 4000000 in
set_option maxRecDepth 20000 in
theorem j_X12_matterOf_b120 {X : CX} {G : GX} {K : Int32 → Mem → Prop} (hG : Gd G) (O : Ok X G cX12_matterOf 4 RX12 5) (hR : RetI X G cX12_matterOf K) {s0 : Int32} {M : Mem} (h : f_X12_matterOf_b120 K s0 M) : J X G M 120 [] [.int s0] := by
  unfold f_X12_matterOf_b120 at h
  exact hR _ _ _ _ dX12_matterOf_120 h
set_option maxHeartbeats 4000000 in
set_option maxRecDepth 20000 in
theorem c_X12_matterOf {l : Launch} {G : GX} (hG : Gd G) {a1 : Int32} {a2 : Int32} {M : Mem} {K : Int32 → Mem → Prop} (h : f_X12_matterOf a1 a2 M K) : CI l G yX12_matterOf cX12_matterOf 4 (some .int) 5 [.ref (ad G 287), .int a1, .int a2] M K := by
  unfold f_X12_matterOf at h
  refine CI.mk hG (by decide) [(0, .ref (ad G 287)), (1, .int a1), (2, .int a2)] rfl (Nat.le_of_ble_eq_true rfl) (fun X O hlX hR => ?_)
  subst hlX
  refine J.aload_n (q := 1) O dX12_matterOf_0 rfl 0 rfl ?_
  refine J.iload_n (q := 2) O dX12_matterOf_1 rfl 1 rfl ?_
  refine J.callVI (q := 5) [.int a1] [] [.int a1, .ref (ad G 287)] rfl O dX12_matterOf_2 rfl (c_X12_isMatter hG h) wd_8_46 mw_X12_isMatter io_287 rfl (by decide) (Nat.le_of_ble_eq_true rfl) (fun v5 M5 h => ?_)
  refine J.if_ne (q := 8) (tgt := 14) O dX12_matterOf_5 rfl (by decide) (fun z6 => ?_) (fun z6 => ?_)
  · replace h := h.1 z6
    refine J.iload_n (q := 15) O dX12_matterOf_14 rfl 2 rfl ?_
    refine J.iconst (q := 16) (v := (0 : Int32)) O dX12_matterOf_15 rfl rfl ?_
    refine J.iconst (q := 17) (v := (5 : Int32)) O dX12_matterOf_16 rfl rfl ?_
    refine J.callSI (q := 20) [.int a2, .int (0 : Int32), .int (5 : Int32)] [] [.int (5 : Int32), .int (0 : Int32), .int a2] rfl O dX12_matterOf_17 rfl (c_X12_in hG h) wd_7_181 mw_X12_in rfl (by decide) (Nat.le_of_ble_eq_true rfl) (fun v7 M7 h => ?_)
    refine J.if_ne (q := 23) (tgt := 30) O dX12_matterOf_20 rfl (by decide) (fun z8 => ?_) (fun z8 => ?_)
    · replace h := h.1 z8
      refine J.iload_n (q := 31) O dX12_matterOf_30 rfl 2 rfl ?_
      rcases tsw_cov a2 (0) 4 (by decide) with z10 | ⟨j, hj, z10⟩
      · replace h := h.1 (by omega)
        refine J.tswOut (q := 128) O dX12_matterOf_31 (by omega) (by decide) ?_
        refine J.aload_n (q := 129) O dX12_matterOf_128 rfl 0 rfl ?_
        refine J.getR (q := 132) (c' := 287) (ci := 12) (k := 37) (r := 312) O dX12_matterOf_129 rfl wd_6_109 (by decide) if_287_37 ?_
        refine J.iload_n (q := 133) O dX12_matterOf_132 rfl 1 rfl ?_
        obtain ⟨hv9, h⟩ := h
        refine J.iald (q := 134) (c' := 312) (j := a1.toNatClampNeg) (M7 312 a1.toNatClampNeg) rfl O dX12_matterOf_133 rfl ar_312 hv9 rfl ?_
        exact hR _ _ _ _ dX12_matterOf_134 h
      · match j, hj, z10 with
        | 0, _, z10 =>
          have z10 : a2 = (0 : Int32) := z10.trans (by decide)
          replace h := h.2.1 z10
          refine J.tswIn (q := 64) O dX12_matterOf_31 (0 : Int32) z10 (by decide) (by decide) rfl (by decide) ?_
          refine J.aload_n (q := 65) O dX12_matterOf_64 rfl 0 rfl ?_
          refine J.getR (q := 68) (c' := 287) (ci := 12) (k := 36) (r := 311) O dX12_matterOf_65 rfl wd_6_108 (by decide) if_287_36 ?_
          refine J.iload_n (q := 69) O dX12_matterOf_68 rfl 1 rfl ?_
          obtain ⟨hv11, h⟩ := h
          refine J.iald (q := 70) (c' := 311) (j := a1.toNatClampNeg) (M7 311 a1.toNatClampNeg) rfl O dX12_matterOf_69 rfl ar_311 hv11 rfl ?_
          exact hR _ _ _ _ dX12_matterOf_70 h
        | 1, _, z10 =>
          have z10 : a2 = (1 : Int32) := z10.trans (by decide)
          replace h := h.2.2.1 z10
          refine J.tswIn (q := 71) O dX12_matterOf_31 (1 : Int32) z10 (by decide) (by decide) rfl (by decide) ?_
          refine J.aload_n (q := 72) O dX12_matterOf_71 rfl 0 rfl ?_
          refine J.getR (q := 75) (c' := 287) (ci := 12) (k := 38) (r := 313) O dX12_matterOf_72 rfl wd_6_110 (by decide) if_287_38 ?_
          refine J.iload_n (q := 76) O dX12_matterOf_75 rfl 1 rfl ?_
          obtain ⟨hv12, h⟩ := h
          refine J.iald (q := 77) (c' := 313) (j := a1.toNatClampNeg) (M7 313 a1.toNatClampNeg) rfl O dX12_matterOf_76 rfl ar_313 hv12 rfl ?_
          exact hR _ _ _ _ dX12_matterOf_77 h
        | 2, _, z10 =>
          have z10 : a2 = (2 : Int32) := z10.trans (by decide)
          replace h := h.2.2.2.1 z10
          refine J.tswIn (q := 78) O dX12_matterOf_31 (2 : Int32) z10 (by decide) (by decide) rfl (by decide) ?_
          refine J.aload_n (q := 79) O dX12_matterOf_78 rfl 0 rfl ?_
          refine J.iload_n (q := 80) O dX12_matterOf_79 rfl 1 rfl ?_
          refine J.aload_n (q := 81) O dX12_matterOf_80 rfl 0 rfl ?_
          refine J.getI (q := 84) (c' := 287) (ci := 12) (k := 0) (M7 287 0) rfl O dX12_matterOf_81 rfl wd_6_72 (by decide) if_287_0 ?_
          refine J.aload_n (q := 85) O dX12_matterOf_84 rfl 0 rfl ?_
          refine J.getI (q := 88) (c' := 287) (ci := 12) (k := 0) (M7 287 0) rfl O dX12_matterOf_85 rfl wd_6_72 (by decide) if_287_0 ?_
          refine J.callVI (q := 91) [.int a1, .int (M7 287 0), .int (M7 287 0)] [] [.int (M7 287 0), .int (M7 287 0), .int a1, .ref (ad G 287)] rfl O dX12_matterOf_88 rfl (c_X12_wholeSince hG h) wd_8_82 mw_X12_wholeSince io_287 rfl (by decide) (Nat.le_of_ble_eq_true rfl) (fun v13 M13 h => ?_)
          refine J.istore_n (q := 92) O dX12_matterOf_91 rfl [(3, .int v13), (0, .ref (ad G 287)), (1, .int a1), (2, .int a2)] (by decide) rfl ?_
          refine J.iload_n (q := 93) O dX12_matterOf_92 rfl 0 rfl ?_
          refine J.if_ge (q := 96) (tgt := 101) O dX12_matterOf_93 rfl (by decide) (fun z14 => ?_) (fun z14 => ?_)
          · replace h := h.1 z14
            refine J.iload_n (q := 102) O dX12_matterOf_101 rfl 0 rfl ?_
            exact J.sub [] rfl (j_X12_matterOf_b102 hG O hR h)
          · replace h := h.2 z14
            refine J.bipush (q := 98) (v := (-9 : Int32)) O dX12_matterOf_96 rfl rfl ?_
            refine J.goto (q := 102) O dX12_matterOf_98 (by decide) ?_
            exact J.sub [] rfl (j_X12_matterOf_b102 hG O hR h)
        | 3, _, z10 =>
          have z10 : a2 = (3 : Int32) := z10.trans (by decide)
          replace h := h.2.2.2.2.1 z10
          refine J.tswIn (q := 103) O dX12_matterOf_31 (3 : Int32) z10 (by decide) (by decide) rfl (by decide) ?_
          refine J.aload_n (q := 104) O dX12_matterOf_103 rfl 0 rfl ?_
          refine J.iload_n (q := 105) O dX12_matterOf_104 rfl 1 rfl ?_
          refine J.aload_n (q := 106) O dX12_matterOf_105 rfl 0 rfl ?_
          refine J.getI (q := 109) (c' := 287) (ci := 12) (k := 0) (M7 287 0) rfl O dX12_matterOf_106 rfl wd_6_72 (by decide) if_287_0 ?_
          refine J.callVI (q := 112) [.int a1, .int (M7 287 0)] [] [.int (M7 287 0), .int a1, .ref (ad G 287)] rfl O dX12_matterOf_109 rfl (c_X12_lets hG h) wd_8_90 mw_X12_lets io_287 rfl (by decide) (Nat.le_of_ble_eq_true rfl) (fun v15 M15 h => ?_)
          refine J.if_eq (q := 115) (tgt := 119) O dX12_matterOf_112 rfl (by decide) (fun z16 => ?_) (fun z16 => ?_)
          · replace h := h.1 z16
            refine J.iconst (q := 120) (v := (0 : Int32)) O dX12_matterOf_119 rfl rfl ?_
            exact J.sub [] rfl (j_X12_matterOf_b120 hG O hR h)
          · replace h := h.2 z16
            refine J.iconst (q := 116) (v := (1 : Int32)) O dX12_matterOf_115 rfl rfl ?_
            refine J.goto (q := 120) O dX12_matterOf_116 (by decide) ?_
            exact J.sub [] rfl (j_X12_matterOf_b120 hG O hR h)
        | 4, _, z10 =>
          have z10 : a2 = (4 : Int32) := z10.trans (by decide)
          replace h := h.2.2.2.2.2 z10
          refine J.tswIn (q := 121) O dX12_matterOf_31 (4 : Int32) z10 (by decide) (by decide) rfl (by decide) ?_
          refine J.aload_n (q := 122) O dX12_matterOf_121 rfl 0 rfl ?_
          refine J.getR (q := 125) (c' := 287) (ci := 12) (k := 42) (r := 317) O dX12_matterOf_122 rfl wd_6_114 (by decide) if_287_42 ?_
          refine J.iload_n (q := 126) O dX12_matterOf_125 rfl 1 rfl ?_
          obtain ⟨hv17, h⟩ := h
          refine J.iald (q := 127) (c' := 317) (j := a1.toNatClampNeg) (M7 317 a1.toNatClampNeg) rfl O dX12_matterOf_126 rfl ar_317 hv17 rfl ?_
          exact hR _ _ _ _ dX12_matterOf_127 h
        | j + 5, hj, _ => exact absurd hj (by omega)
    · replace h := h.2 z8
      refine J.aload_n (q := 24) O dX12_matterOf_23 rfl 0 rfl ?_
      refine J.bipush (q := 26) (v := (-2 : Int32)) O dX12_matterOf_24 rfl rfl ?_
      refine J.callVI (q := 29) [.int (-2 : Int32)] [] [.int (-2 : Int32), .ref (ad G 287)] rfl O dX12_matterOf_26 rfl (c_X12_refuse hG h) wd_7_158 mw_X12_refuse io_287 rfl (by decide) (Nat.le_of_ble_eq_true rfl) (fun v18 M18 h => ?_)
      exact hR _ _ _ _ dX12_matterOf_29 h
  · replace h := h.2 z6
    refine J.aload_n (q := 9) O dX12_matterOf_8 rfl 0 rfl ?_
    refine J.iconst (q := 10) (v := (-1 : Int32)) O dX12_matterOf_9 rfl rfl ?_
    refine J.callVI (q := 13) [.int (-1 : Int32)] [] [.int (-1 : Int32), .ref (ad G 287)] rfl O dX12_matterOf_10 rfl (c_X12_refuse hG h) wd_7_158 mw_X12_refuse io_287 rfl (by decide) (Nat.le_of_ble_eq_true rfl) (fun v19 M19 h => ?_)
    exact hR _ _ _ _ dX12_matterOf_13 h
set_option maxHeartbeats 4000000 in
set_option maxRecDepth 20000 in
theorem c_X12_votes {l : Launch} {G : GX} (hG : Gd G) {a1 : Int32} {a2 : Int32} {M : Mem} {K : Int32 → Mem → Prop} (h : f_X12_votes a1 a2 M K) : CI l G yX12_votes cX12_votes 4 (some .int) 3 [.ref (ad G 287), .int a1, .int a2] M K := by
  unfold f_X12_votes at h
  refine CI.mk hG (by decide) [(0, .ref (ad G 287)), (1, .int a1), (2, .int a2)] rfl (Nat.le_of_ble_eq_true rfl) (fun X O hlX hR => ?_)
  subst hlX
  refine J.iload_n (q := 1) O dX12_votes_0 rfl 1 rfl ?_
  refine J.callSI (q := 4) [.int a1] [] [.int a1] rfl O dX12_votes_1 rfl (c_X12_isShop hG h) wd_7_178 mw_X12_isShop rfl (by decide) (Nat.le_of_ble_eq_true rfl) (fun v3 M3 h => ?_)
  refine J.if_ne (q := 7) (tgt := 13) O dX12_votes_4 rfl (by decide) (fun z4 => ?_) (fun z4 => ?_)
  · replace h := h.1 z4
    refine J.iload_n (q := 14) O dX12_votes_13 rfl 2 rfl ?_
    refine J.if_ge (q := 17) (tgt := 24) O dX12_votes_14 rfl (by decide) (fun z5 => ?_) (fun z5 => ?_)
    · replace h := h.1 z5
      refine J.iload_n (q := 25) O dX12_votes_24 rfl 2 rfl ?_
      refine J.sipush (q := 28) (v := (999 : Int32)) O dX12_votes_25 rfl rfl ?_
      refine J.icmp_le (q := 31) (tgt := 38) O dX12_votes_28 rfl (by decide) (fun z6 => ?_) (fun z6 => ?_)
      · replace h := h.1 z6
        refine J.aload_n (q := 39) O dX12_votes_38 rfl 0 rfl ?_
        refine J.getR (q := 42) (c' := 287) (ci := 12) (k := 47) (r := 322) O dX12_votes_39 rfl wd_6_119 (by decide) if_287_47 ?_
        refine J.iload_n (q := 43) O dX12_votes_42 rfl 1 rfl ?_
        obtain ⟨hv7, h⟩ := h
        refine J.iald (q := 44) (c' := 322) (j := a1.toNatClampNeg) (M3 322 a1.toNatClampNeg) rfl O dX12_votes_43 rfl ar_322 hv7 rfl ?_
        refine J.istore_n (q := 45) O dX12_votes_44 rfl [(3, .int (M3 322 a1.toNatClampNeg)), (0, .ref (ad G 287)), (1, .int a1), (2, .int a2)] (by decide) rfl ?_
        refine J.aload_n (q := 46) O dX12_votes_45 rfl 1 rfl ?_
        refine J.getR (q := 49) (c' := 287) (ci := 12) (k := 47) (r := 322) O dX12_votes_46 rfl wd_6_119 (by decide) if_287_47 ?_
        refine J.iload_n (q := 50) O dX12_votes_49 rfl 2 rfl ?_
        refine J.iload_n (q := 51) O dX12_votes_50 rfl 3 rfl ?_
        obtain ⟨hv8, h⟩ := h
        refine J.iast (q := 52) (c' := 322) (j := a1.toNatClampNeg) O dX12_votes_51 rfl ar_322 hv8 rfl ?_
        refine J.iload_n (q := 53) O dX12_votes_52 rfl 0 rfl ?_
        exact hR _ _ _ _ dX12_votes_53 h
      · replace h := h.2 z6
        refine J.aload_n (q := 32) O dX12_votes_31 rfl 0 rfl ?_
        refine J.bipush (q := 34) (v := (-6 : Int32)) O dX12_votes_32 rfl rfl ?_
        refine J.callVI (q := 37) [.int (-6 : Int32)] [] [.int (-6 : Int32), .ref (ad G 287)] rfl O dX12_votes_34 rfl (c_X12_refuse hG h) wd_7_158 mw_X12_refuse io_287 rfl (by decide) (Nat.le_of_ble_eq_true rfl) (fun v9 M9 h => ?_)
        exact hR _ _ _ _ dX12_votes_37 h
    · replace h := h.2 z5
      refine J.aload_n (q := 18) O dX12_votes_17 rfl 0 rfl ?_
      refine J.bipush (q := 20) (v := (-4 : Int32)) O dX12_votes_18 rfl rfl ?_
      refine J.callVI (q := 23) [.int (-4 : Int32)] [] [.int (-4 : Int32), .ref (ad G 287)] rfl O dX12_votes_20 rfl (c_X12_refuse hG h) wd_7_158 mw_X12_refuse io_287 rfl (by decide) (Nat.le_of_ble_eq_true rfl) (fun v10 M10 h => ?_)
      exact hR _ _ _ _ dX12_votes_23 h
  · replace h := h.2 z4
    refine J.aload_n (q := 8) O dX12_votes_7 rfl 0 rfl ?_
    refine J.iconst (q := 9) (v := (-1 : Int32)) O dX12_votes_8 rfl rfl ?_
    refine J.callVI (q := 12) [.int (-1 : Int32)] [] [.int (-1 : Int32), .ref (ad G 287)] rfl O dX12_votes_9 rfl (c_X12_refuse hG h) wd_7_158 mw_X12_refuse io_287 rfl (by decide) (Nat.le_of_ble_eq_true rfl) (fun v11 M11 h => ?_)
    exact hR _ _ _ _ dX12_votes_12 h
set_option maxHeartbeats 4000000 in
set_option maxRecDepth 20000 in
theorem j_X12_elect_b58 {X : CX} {G : GX} {K : Int32 → Mem → Prop} (hG : Gd G) (O : Ok X G cX12_elect 8 RX12 2) (hR : RetI X G cX12_elect K) {r34 : Int32 × Int32 × Int32 × Mem → Prop} (hr34 : ∀ a : Int32 × Int32 × Int32 × Mem, r34 a → J X G a.2.2.2 34 [(0, .ref (ad G 287)), (1, .int a.1), (2, .int a.2.1), (3, .int a.2.2.1)] []) {x1 : Int32} {x3 : Int32} {s0 : Int32} {M : Mem} (h : f_X12_elect_b58 r34 K x1 x3 s0 M) : J X G M 58 [(0, .ref (ad G 287)), (1, .int x1), (3, .int x3)] [.int s0] := by
  unfold f_X12_elect_b58 at h
  refine J.istore_n (q := 59) O dX12_elect_58 rfl [(2, .int s0), (0, .ref (ad G 287)), (1, .int x1), (3, .int x3)] (by decide) rfl ?_
  refine J.iinc (q := 62) O dX12_elect_59 rfl [(3, .int (x3 + (1 : Int32))), (2, .int s0), (0, .ref (ad G 287)), (1, .int x1)] 3 rfl rfl (by decide) rfl ?_
  refine J.goto (q := 34) O dX12_elect_62 (by decide) ?_
  exact J.sub [2, 3, 1, 0] rfl (hr34 _ h)
set_option maxHeartbeats 4000000 in
set_option maxRecDepth 20000 in
theorem j_X12_elect_b53 {X : CX} {G : GX} {K : Int32 → Mem → Prop} (hG : Gd G) (O : Ok X G cX12_elect 8 RX12 2) (hR : RetI X G cX12_elect K) {r34 : Int32 × Int32 × Int32 × Mem → Prop} (hr34 : ∀ a : Int32 × Int32 × Int32 × Mem, r34 a → J X G a.2.2.2 34 [(0, .ref (ad G 287)), (1, .int a.1), (2, .int a.2.1), (3, .int a.2.2.1)] []) {x1 : Int32} {x3 : Int32} {M : Mem} (h : f_X12_elect_b53 r34 K x1 x3 M) : J X G M 53 [(0, .ref (ad G 287)), (1, .int x1), (3, .int x3)] [] := by
  unfold f_X12_elect_b53 at h
  refine J.iconst (q := 54) (v := (1 : Int32)) O dX12_elect_53 rfl rfl ?_
  refine J.goto (q := 58) O dX12_elect_54 (by decide) ?_
  exact J.sub [0, 1, 2] rfl (j_X12_elect_b58 hG O hR hr34 h)
set_option maxHeartbeats 4000000 in
set_option maxRecDepth 20000 in
theorem j_X12_elect_b126 {X : CX} {G : GX} {K : Int32 → Mem → Prop} (hG : Gd G) (O : Ok X G cX12_elect 8 RX12 2) (hR : RetI X G cX12_elect K) {r65 : Int32 × Int32 × Mem → Prop} (hr65 : ∀ a : Int32 × Int32 × Mem, r65 a → J X G a.2.2 65 [(0, .ref (ad G 287)), (1, .int a.1), (2, .int a.2.1)] []) {r85 : Int32 × Int32 × Int32 × Int32 × Int32 × Mem → Prop} (hr85 : ∀ a : Int32 × Int32 × Int32 × Int32 × Int32 × Mem, r85 a → J X G a.2.2.2.2.2 85 [(0, .ref (ad G 287)), (1, .int a.1), (2, .int a.2.1), (3, .int a.2.2.1), (4, .int a.2.2.2.1), (5, .int a.2.2.2.2.1)] []) {r98 : Int32 × Int32 × Int32 × Int32 × Int32 × Int32 × Int32 × Mem → Prop} (hr98 : ∀ a : Int32 × Int32 × Int32 × Int32 × Int32 × Int32 × Int32 × Mem, r98 a → J X G a.2.2.2.2.2.2.2 98 [(0, .ref (ad G 287)), (1, .int a.1), (2, .int a.2.1), (3, .int a.2.2.1), (4, .int a.2.2.2.1), (5, .int a.2.2.2.2.1), (6, .int a.2.2.2.2.2.1), (7, .int a.2.2.2.2.2.2.1)] []) {x1 : Int32} {x2 : Int32} {x3 : Int32} {x4 : Int32} {x5 : Int32} {x7 : Int32} {s0 : Int32} {s1 : Int32} {M : Mem} (h : f_X12_elect_b126 r65 r85 r98 K x1 x2 x3 x4 x5 x7 s0 s1 M) : J X G M 126 [(0, .ref (ad G 287)), (1, .int x1), (2, .int x2), (3, .int x3), (4, .int x4), (5, .int x5), (7, .int x7)] [.int s0, .int s1] := by
  unfold f_X12_elect_b126 at h
  refine J.iadd (q := 127) O dX12_elect_126 rfl ?_
  refine J.istore (q := 129) O dX12_elect_127 rfl [(6, .int (s1 + s0)), (0, .ref (ad G 287)), (1, .int x1), (2, .int x2), (3, .int x3), (4, .int x4), (5, .int x5), (7, .int x7)] (by decide) rfl ?_
  refine J.iinc (q := 132) O dX12_elect_129 rfl [(7, .int (x7 + (1 : Int32))), (6, .int (s1 + s0)), (0, .ref (ad G 287)), (1, .int x1), (2, .int x2), (3, .int x3), (4, .int x4), (5, .int x5)] 7 rfl rfl (by decide) rfl ?_
  refine J.goto (q := 98) O dX12_elect_132 (by decide) ?_
  exact J.sub [2, 3, 4, 5, 6, 7, 1, 0] rfl (hr98 _ h)
set_option maxHeartbeats 4000000 in
set_option maxRecDepth 20000 in
theorem j_X12_elect_b203 {X : CX} {G : GX} {K : Int32 → Mem → Prop} (hG : Gd G) (O : Ok X G cX12_elect 8 RX12 2) (hR : RetI X G cX12_elect K) {r65 : Int32 × Int32 × Mem → Prop} (hr65 : ∀ a : Int32 × Int32 × Mem, r65 a → J X G a.2.2 65 [(0, .ref (ad G 287)), (1, .int a.1), (2, .int a.2.1)] []) {r85 : Int32 × Int32 × Int32 × Int32 × Int32 × Mem → Prop} (hr85 : ∀ a : Int32 × Int32 × Int32 × Int32 × Int32 × Mem, r85 a → J X G a.2.2.2.2.2 85 [(0, .ref (ad G 287)), (1, .int a.1), (2, .int a.2.1), (3, .int a.2.2.1), (4, .int a.2.2.2.1), (5, .int a.2.2.2.2.1)] []) {x1 : Int32} {x2 : Int32} {x4 : Int32} {x5 : Int32} {s0 : Int32} {M : Mem} (h : f_X12_elect_b203 r65 r85 K x1 x2 x4 x5 s0 M) : J X G M 203 [(0, .ref (ad G 287)), (1, .int x1), (2, .int x2), (4, .int x4), (5, .int x5)] [.int s0] := by
  unfold f_X12_elect_b203 at h
  refine J.istore_n (q := 204) O dX12_elect_203 rfl [(3, .int s0), (0, .ref (ad G 287)), (1, .int x1), (2, .int x2), (4, .int x4), (5, .int x5)] (by decide) rfl ?_
  refine J.iinc (q := 207) O dX12_elect_204 rfl [(5, .int (x5 + (1 : Int32))), (3, .int s0), (0, .ref (ad G 287)), (1, .int x1), (2, .int x2), (4, .int x4)] 5 rfl rfl (by decide) rfl ?_
  refine J.goto (q := 85) O dX12_elect_207 (by decide) ?_
  exact J.sub [2, 3, 4, 1, 5, 0] rfl (hr85 _ h)
set_option maxHeartbeats 4000000 in
set_option maxRecDepth 20000 in
theorem j_X12_elect_b190 {X : CX} {G : GX} {K : Int32 → Mem → Prop} (hG : Gd G) (O : Ok X G cX12_elect 8 RX12 2) (hR : RetI X G cX12_elect K) {r65 : Int32 × Int32 × Mem → Prop} (hr65 : ∀ a : Int32 × Int32 × Mem, r65 a → J X G a.2.2 65 [(0, .ref (ad G 287)), (1, .int a.1), (2, .int a.2.1)] []) {r85 : Int32 × Int32 × Int32 × Int32 × Int32 × Mem → Prop} (hr85 : ∀ a : Int32 × Int32 × Int32 × Int32 × Int32 × Mem, r85 a → J X G a.2.2.2.2.2 85 [(0, .ref (ad G 287)), (1, .int a.1), (2, .int a.2.1), (3, .int a.2.2.1), (4, .int a.2.2.2.1), (5, .int a.2.2.2.2.1)] []) {x1 : Int32} {x2 : Int32} {x3 : Int32} {x5 : Int32} {x7 : Int32} {s0 : Int32} {M : Mem} (h : f_X12_elect_b190 r65 r85 K x1 x2 x3 x5 x7 s0 M) : J X G M 190 [(0, .ref (ad G 287)), (1, .int x1), (2, .int x2), (3, .int x3), (5, .int x5), (7, .int x7)] [.int s0] := by
  unfold f_X12_elect_b190 at h
  refine J.istore (q := 192) O dX12_elect_190 rfl [(4, .int s0), (0, .ref (ad G 287)), (1, .int x1), (2, .int x2), (3, .int x3), (5, .int x5), (7, .int x7)] (by decide) rfl ?_
  refine J.iload (q := 194) O dX12_elect_192 rfl 6 rfl ?_
  refine J.if_eq (q := 197) (tgt := 202) O dX12_elect_194 rfl (by decide) (fun z8 => ?_) (fun z8 => ?_)
  · replace h := h.1 z8
    refine J.iload_n (q := 203) O dX12_elect_202 rfl 4 rfl ?_
    exact J.sub [1, 2, 3, 0, 5] rfl (j_X12_elect_b203 hG O hR hr65 hr85 h)
  · replace h := h.2 z8
    refine J.iload (q := 199) O dX12_elect_197 rfl 5 rfl ?_
    refine J.goto (q := 203) O dX12_elect_199 (by decide) ?_
    exact J.sub [1, 2, 3, 0, 5] rfl (j_X12_elect_b203 hG O hR hr65 hr85 h)
set_option maxHeartbeats 4000000 in
set_option maxRecDepth 20000 in
theorem j_X12_elect_b176 {X : CX} {G : GX} {K : Int32 → Mem → Prop} (hG : Gd G) (O : Ok X G cX12_elect 8 RX12 2) (hR : RetI X G cX12_elect K) {r65 : Int32 × Int32 × Mem → Prop} (hr65 : ∀ a : Int32 × Int32 × Mem, r65 a → J X G a.2.2 65 [(0, .ref (ad G 287)), (1, .int a.1), (2, .int a.2.1)] []) {r85 : Int32 × Int32 × Int32 × Int32 × Int32 × Mem → Prop} (hr85 : ∀ a : Int32 × Int32 × Int32 × Int32 × Int32 × Mem, r85 a → J X G a.2.2.2.2.2 85 [(0, .ref (ad G 287)), (1, .int a.1), (2, .int a.2.1), (3, .int a.2.2.1), (4, .int a.2.2.2.1), (5, .int a.2.2.2.2.1)] []) {x1 : Int32} {x2 : Int32} {x3 : Int32} {x4 : Int32} {x5 : Int32} {x6 : Int32} {s0 : Int32} {M : Mem} (h : f_X12_elect_b176 r65 r85 K x1 x2 x3 x4 x5 x6 s0 M) : J X G M 176 [(0, .ref (ad G 287)), (1, .int x1), (2, .int x2), (3, .int x3), (4, .int x4), (5, .int x5), (6, .int x6)] [.int s0] := by
  unfold f_X12_elect_b176 at h
  refine J.istore (q := 178) O dX12_elect_176 rfl [(7, .int s0), (0, .ref (ad G 287)), (1, .int x1), (2, .int x2), (3, .int x3), (4, .int x4), (5, .int x5), (6, .int x6)] (by decide) rfl ?_
  refine J.iload (q := 180) O dX12_elect_178 rfl 0 rfl ?_
  refine J.if_eq (q := 183) (tgt := 188) O dX12_elect_180 rfl (by decide) (fun z9 => ?_) (fun z9 => ?_)
  · replace h := h.1 z9
    refine J.iload (q := 190) O dX12_elect_188 rfl 5 rfl ?_
    exact J.sub [1, 2, 3, 4, 6, 0] rfl (j_X12_elect_b190 hG O hR hr65 hr85 h)
  · replace h := h.2 z9
    refine J.iload (q := 185) O dX12_elect_183 rfl 7 rfl ?_
    refine J.goto (q := 190) O dX12_elect_185 (by decide) ?_
    exact J.sub [1, 2, 3, 4, 6, 0] rfl (j_X12_elect_b190 hG O hR hr65 hr85 h)
set_option maxHeartbeats 4000000 in
set_option maxRecDepth 20000 in
theorem j_X12_elect_b171 {X : CX} {G : GX} {K : Int32 → Mem → Prop} (hG : Gd G) (O : Ok X G cX12_elect 8 RX12 2) (hR : RetI X G cX12_elect K) {r65 : Int32 × Int32 × Mem → Prop} (hr65 : ∀ a : Int32 × Int32 × Mem, r65 a → J X G a.2.2 65 [(0, .ref (ad G 287)), (1, .int a.1), (2, .int a.2.1)] []) {r85 : Int32 × Int32 × Int32 × Int32 × Int32 × Mem → Prop} (hr85 : ∀ a : Int32 × Int32 × Int32 × Int32 × Int32 × Mem, r85 a → J X G a.2.2.2.2.2 85 [(0, .ref (ad G 287)), (1, .int a.1), (2, .int a.2.1), (3, .int a.2.2.1), (4, .int a.2.2.2.1), (5, .int a.2.2.2.2.1)] []) {x1 : Int32} {x2 : Int32} {x3 : Int32} {x4 : Int32} {x5 : Int32} {x6 : Int32} {M : Mem} (h : f_X12_elect_b171 r65 r85 K x1 x2 x3 x4 x5 x6 M) : J X G M 171 [(0, .ref (ad G 287)), (1, .int x1), (2, .int x2), (3, .int x3), (4, .int x4), (5, .int x5), (6, .int x6)] [] := by
  unfold f_X12_elect_b171 at h
  refine J.iconst (q := 172) (v := (1 : Int32)) O dX12_elect_171 rfl rfl ?_
  refine J.goto (q := 176) O dX12_elect_172 (by decide) ?_
  exact J.sub [0, 1, 2, 3, 4, 5, 6] rfl (j_X12_elect_b176 hG O hR hr65 hr85 h)
set_option maxHeartbeats 4000000 in
set_option maxRecDepth 20000 in
theorem j_X12_elect_b175 {X : CX} {G : GX} {K : Int32 → Mem → Prop} (hG : Gd G) (O : Ok X G cX12_elect 8 RX12 2) (hR : RetI X G cX12_elect K) {r65 : Int32 × Int32 × Mem → Prop} (hr65 : ∀ a : Int32 × Int32 × Mem, r65 a → J X G a.2.2 65 [(0, .ref (ad G 287)), (1, .int a.1), (2, .int a.2.1)] []) {r85 : Int32 × Int32 × Int32 × Int32 × Int32 × Mem → Prop} (hr85 : ∀ a : Int32 × Int32 × Int32 × Int32 × Int32 × Mem, r85 a → J X G a.2.2.2.2.2 85 [(0, .ref (ad G 287)), (1, .int a.1), (2, .int a.2.1), (3, .int a.2.2.1), (4, .int a.2.2.2.1), (5, .int a.2.2.2.2.1)] []) {x1 : Int32} {x2 : Int32} {x3 : Int32} {x4 : Int32} {x5 : Int32} {x6 : Int32} {M : Mem} (h : f_X12_elect_b175 r65 r85 K x1 x2 x3 x4 x5 x6 M) : J X G M 175 [(0, .ref (ad G 287)), (1, .int x1), (2, .int x2), (3, .int x3), (4, .int x4), (5, .int x5), (6, .int x6)] [] := by
  unfold f_X12_elect_b175 at h
  refine J.iconst (q := 176) (v := (0 : Int32)) O dX12_elect_175 rfl rfl ?_
  exact J.sub [0, 1, 2, 3, 4, 5, 6] rfl (j_X12_elect_b176 hG O hR hr65 hr85 h)
set_option maxHeartbeats 4000000 in
set_option maxRecDepth 20000 in
theorem j_X12_elect_c98 {X : CX} {G : GX} {K : Int32 → Mem → Prop} (hG : Gd G) (O : Ok X G cX12_elect 8 RX12 2) (hR : RetI X G cX12_elect K) {r65 : Int32 × Int32 × Mem → Prop} (hr65 : ∀ a : Int32 × Int32 × Mem, r65 a → J X G a.2.2 65 [(0, .ref (ad G 287)), (1, .int a.1), (2, .int a.2.1)] []) {r85 : Int32 × Int32 × Int32 × Int32 × Int32 × Mem → Prop} (hr85 : ∀ a : Int32 × Int32 × Int32 × Int32 × Int32 × Mem, r85 a → J X G a.2.2.2.2.2 85 [(0, .ref (ad G 287)), (1, .int a.1), (2, .int a.2.1), (3, .int a.2.2.1), (4, .int a.2.2.2.1), (5, .int a.2.2.2.2.1)] []) {a : Int32 × Int32 × Int32 × Int32 × Int32 × Int32 × Int32 × Mem} (h : Lp (fun (r98 : Int32 × Int32 × Int32 × Int32 × Int32 × Int32 × Int32 × Mem → Prop) a => f_X12_elect_c98 r65 r85 K r98 a.1 a.2.1 a.2.2.1 a.2.2.2.1 a.2.2.2.2.1 a.2.2.2.2.2.1 a.2.2.2.2.2.2.1 a.2.2.2.2.2.2.2) a) : J X G a.2.2.2.2.2.2.2 98 [(0, .ref (ad G 287)), (1, .int a.1), (2, .int a.2.1), (3, .int a.2.2.1), (4, .int a.2.2.2.1), (5, .int a.2.2.2.2.1), (6, .int a.2.2.2.2.2.1), (7, .int a.2.2.2.2.2.2.1)] [] := by
  refine Lp.elim (P := fun a => J X G a.2.2.2.2.2.2.2 98 [(0, .ref (ad G 287)), (1, .int a.1), (2, .int a.2.1), (3, .int a.2.2.1), (4, .int a.2.2.2.1), (5, .int a.2.2.2.2.1), (6, .int a.2.2.2.2.2.1), (7, .int a.2.2.2.2.2.2.1)] []) ?_ h
  clear h
  intro r98 hr98 a h
  obtain ⟨x1, x2, x3, x4, x5, x6, x7, M⟩ := a
  unfold f_X12_elect_c98 at h
  (try dsimp only at h ⊢)
  refine J.iload (q := 100) O dX12_elect_98 rfl 7 rfl ?_
  refine J.aload_n (q := 101) O dX12_elect_100 rfl 0 rfl ?_
  refine J.getI (q := 104) (c' := 287) (ci := 12) (k := 48) (M 287 48) rfl O dX12_elect_101 rfl wd_6_120 (by decide) if_287_48 ?_
  refine J.icmp_ge (q := 107) (tgt := 135) O dX12_elect_104 rfl (by decide) (fun z10 => ?_) (fun z10 => ?_)
  · replace h := h.1 z10
    refine J.aload_n (q := 136) O dX12_elect_135 rfl 0 rfl ?_
    refine J.getR (q := 139) (c' := 287) (ci := 12) (k := 47) (r := 322) O dX12_elect_136 rfl wd_6_119 (by decide) if_287_47 ?_
    refine J.iload (q := 141) O dX12_elect_139 rfl 5 rfl ?_
    obtain ⟨hv11, h⟩ := h
    refine J.iald (q := 142) (c' := 322) (j := x5.toNatClampNeg) (M 322 x5.toNatClampNeg) rfl O dX12_elect_141 rfl ar_322 hv11 rfl ?_
    refine J.if_le (q := 145) (tgt := 175) O dX12_elect_142 rfl (by decide) (fun z12 => ?_) (fun z12 => ?_)
    · replace h := h.1 z12
      exact J.sub [0, 1, 2, 3, 4, 5, 6] rfl (j_X12_elect_b175 hG O hR hr65 hr85 h)
    · replace h := h.2 z12
      refine J.iload_n (q := 146) O dX12_elect_145 rfl 3 rfl ?_
      refine J.if_lt (q := 149) (tgt := 171) O dX12_elect_146 rfl (by decide) (fun z13 => ?_) (fun z13 => ?_)
      · replace h := h.1 z13
        exact J.sub [0, 1, 2, 3, 4, 5, 6] rfl (j_X12_elect_b171 hG O hR hr65 hr85 h)
      · replace h := h.2 z13
        refine J.aload_n (q := 150) O dX12_elect_149 rfl 0 rfl ?_
        refine J.getR (q := 153) (c' := 287) (ci := 12) (k := 47) (r := 322) O dX12_elect_150 rfl wd_6_119 (by decide) if_287_47 ?_
        refine J.iload (q := 155) O dX12_elect_153 rfl 5 rfl ?_
        obtain ⟨hv14, h⟩ := h
        refine J.iald (q := 156) (c' := 322) (j := x5.toNatClampNeg) (M 322 x5.toNatClampNeg) rfl O dX12_elect_155 rfl ar_322 hv14 rfl ?_
        refine J.iload (q := 158) O dX12_elect_156 rfl 4 rfl ?_
        refine J.imul (q := 159) O dX12_elect_158 rfl ?_
        refine J.aload_n (q := 160) O dX12_elect_159 rfl 0 rfl ?_
        refine J.getR (q := 163) (c' := 287) (ci := 12) (k := 47) (r := 322) O dX12_elect_160 rfl wd_6_119 (by decide) if_287_47 ?_
        refine J.iload_n (q := 164) O dX12_elect_163 rfl 3 rfl ?_
        obtain ⟨hv15, h⟩ := h
        refine J.iald (q := 165) (c' := 322) (j := x3.toNatClampNeg) (M 322 x3.toNatClampNeg) rfl O dX12_elect_164 rfl ar_322 hv15 rfl ?_
        refine J.iload (q := 167) O dX12_elect_165 rfl 6 rfl ?_
        refine J.imul (q := 168) O dX12_elect_167 rfl ?_
        refine J.icmp_le (q := 171) (tgt := 175) O dX12_elect_168 rfl (by decide) (fun z16 => ?_) (fun z16 => ?_)
        · replace h := h.1 z16
          exact J.sub [0, 1, 2, 3, 4, 5, 6] rfl (j_X12_elect_b175 hG O hR hr65 hr85 h)
        · replace h := h.2 z16
          exact J.sub [0, 1, 2, 3, 4, 5, 6] rfl (j_X12_elect_b171 hG O hR hr65 hr85 h)
  · replace h := h.2 z10
    refine J.iload (q := 109) O dX12_elect_107 rfl 6 rfl ?_
    refine J.aload_n (q := 110) O dX12_elect_109 rfl 0 rfl ?_
    refine J.getR (q := 113) (c' := 287) (ci := 12) (k := 49) (r := 323) O dX12_elect_110 rfl wd_6_121 (by decide) if_287_49 ?_
    refine J.iload (q := 115) O dX12_elect_113 rfl 7 rfl ?_
    obtain ⟨hv17, h⟩ := h
    refine J.iald (q := 116) (c' := 323) (j := x7.toNatClampNeg) (M 323 x7.toNatClampNeg) rfl O dX12_elect_115 rfl ar_323 hv17 rfl ?_
    refine J.iload (q := 118) O dX12_elect_116 rfl 5 rfl ?_
    refine J.icmp_ne (q := 121) (tgt := 125) O dX12_elect_118 rfl (by decide) (fun z18 => ?_) (fun z18 => ?_)
    · replace h := h.1 z18
      refine J.iconst (q := 126) (v := (0 : Int32)) O dX12_elect_125 rfl rfl ?_
      exact J.sub [0, 1, 2, 3, 4, 5, 7] rfl (j_X12_elect_b126 hG O hR hr65 hr85 hr98 h)
    · replace h := h.2 z18
      refine J.iconst (q := 122) (v := (1 : Int32)) O dX12_elect_121 rfl rfl ?_
      refine J.goto (q := 126) O dX12_elect_122 (by decide) ?_
      exact J.sub [0, 1, 2, 3, 4, 5, 7] rfl (j_X12_elect_b126 hG O hR hr65 hr85 hr98 h)
set_option maxHeartbeats 4000000 in
set_option maxRecDepth 20000 in
theorem j_X12_elect_c85 {X : CX} {G : GX} {K : Int32 → Mem → Prop} (hG : Gd G) (O : Ok X G cX12_elect 8 RX12 2) (hR : RetI X G cX12_elect K) {r65 : Int32 × Int32 × Mem → Prop} (hr65 : ∀ a : Int32 × Int32 × Mem, r65 a → J X G a.2.2 65 [(0, .ref (ad G 287)), (1, .int a.1), (2, .int a.2.1)] []) {a : Int32 × Int32 × Int32 × Int32 × Int32 × Mem} (h : Lp (fun (r85 : Int32 × Int32 × Int32 × Int32 × Int32 × Mem → Prop) a => f_X12_elect_c85 r65 K r85 a.1 a.2.1 a.2.2.1 a.2.2.2.1 a.2.2.2.2.1 a.2.2.2.2.2) a) : J X G a.2.2.2.2.2 85 [(0, .ref (ad G 287)), (1, .int a.1), (2, .int a.2.1), (3, .int a.2.2.1), (4, .int a.2.2.2.1), (5, .int a.2.2.2.2.1)] [] := by
  refine Lp.elim (P := fun a => J X G a.2.2.2.2.2 85 [(0, .ref (ad G 287)), (1, .int a.1), (2, .int a.2.1), (3, .int a.2.2.1), (4, .int a.2.2.2.1), (5, .int a.2.2.2.2.1)] []) ?_ h
  clear h
  intro r85 hr85 a h
  obtain ⟨x1, x2, x3, x4, x5, M⟩ := a
  unfold f_X12_elect_c85 at h
  (try dsimp only at h ⊢)
  refine J.iload (q := 87) O dX12_elect_85 rfl 5 rfl ?_
  refine J.bipush (q := 89) (v := (6 : Int32)) O dX12_elect_87 rfl rfl ?_
  refine J.icmp_ge (q := 92) (tgt := 210) O dX12_elect_89 rfl (by decide) (fun z19 => ?_) (fun z19 => ?_)
  · replace h := h.1 z19
    refine J.aload_n (q := 211) O dX12_elect_210 rfl 0 rfl ?_
    refine J.getR (q := 214) (c' := 287) (ci := 12) (k := 49) (r := 323) O dX12_elect_211 rfl wd_6_121 (by decide) if_287_49 ?_
    refine J.aload_n (q := 215) O dX12_elect_214 rfl 0 rfl ?_
    refine J.getI (q := 218) (c' := 287) (ci := 12) (k := 48) (M 287 48) rfl O dX12_elect_215 rfl wd_6_120 (by decide) if_287_48 ?_
    refine J.iload_n (q := 219) O dX12_elect_218 rfl 3 rfl ?_
    obtain ⟨hv20, h⟩ := h
    refine J.iast (q := 220) (c' := 323) (j := (M 287 48).toNatClampNeg) O dX12_elect_219 rfl ar_323 hv20 rfl ?_
    refine J.aload_n (q := 221) O dX12_elect_220 rfl 0 rfl ?_
    refine J.getR (q := 224) (c' := 287) (ci := 12) (k := 50) (r := 324) O dX12_elect_221 rfl wd_6_122 (by decide) if_287_50 ?_
    refine J.aload_n (q := 225) O dX12_elect_224 rfl 0 rfl ?_
    refine J.getI (q := 228) (c' := 287) (ci := 12) (k := 48) (M 287 48) rfl O dX12_elect_225 rfl wd_6_120 (by decide) if_287_48 ?_
    refine J.bipush (q := 230) (v := (-9 : Int32)) O dX12_elect_228 rfl rfl ?_
    obtain ⟨hv21, h⟩ := h
    refine J.iast (q := 231) (c' := 324) (j := (M 287 48).toNatClampNeg) O dX12_elect_230 rfl ar_324 hv21 rfl ?_
    refine J.aload_n (q := 232) O dX12_elect_231 rfl 0 rfl ?_
    refine J.dup (q := 233) O dX12_elect_232 rfl rfl ?_
    refine J.getI (q := 236) (c' := 287) (ci := 12) (k := 48) (M 287 48) rfl O dX12_elect_233 rfl wd_6_120 (by decide) if_287_48 ?_
    refine J.iconst (q := 237) (v := (1 : Int32)) O dX12_elect_236 rfl rfl ?_
    refine J.iadd (q := 238) O dX12_elect_237 rfl ?_
    refine J.putI (q := 241) (c' := 287) (ci := 12) (k := 48) O dX12_elect_238 rfl wd_6_120 (by decide) if_287_48 rfl rfl ?_
    refine J.goto (q := 65) O dX12_elect_241 (by decide) ?_
    exact J.sub [0, 1, 2] rfl (hr65 _ h)
  · replace h := h.2 z19
    refine J.iconst (q := 93) (v := (1 : Int32)) O dX12_elect_92 rfl rfl ?_
    refine J.istore (q := 95) O dX12_elect_93 rfl [(6, .int (1 : Int32)), (0, .ref (ad G 287)), (1, .int x1), (2, .int x2), (3, .int x3), (4, .int x4), (5, .int x5)] (by decide) rfl ?_
    refine J.iconst (q := 96) (v := (0 : Int32)) O dX12_elect_95 rfl rfl ?_
    refine J.istore (q := 98) O dX12_elect_96 rfl [(7, .int (0 : Int32)), (6, .int (1 : Int32)), (0, .ref (ad G 287)), (1, .int x1), (2, .int x2), (3, .int x3), (4, .int x4), (5, .int x5)] (by decide) rfl ?_
    exact J.sub [2, 3, 4, 5, 6, 7, 1, 0] rfl (j_X12_elect_c98 hG O hR hr65 hr85 h)
set_option maxHeartbeats 4000000 in
set_option maxRecDepth 20000 in
theorem j_X12_elect_b244 {X : CX} {G : GX} {K : Int32 → Mem → Prop} (hG : Gd G) (O : Ok X G cX12_elect 8 RX12 2) (hR : RetI X G cX12_elect K) {M : Mem} (h : f_X12_elect_b244 K  M) : J X G M 244 [(0, .ref (ad G 287))] [] := by
  unfold f_X12_elect_b244 at h
  refine J.aload_n (q := 245) O dX12_elect_244 rfl 0 rfl ?_
  refine J.getI (q := 248) (c' := 287) (ci := 12) (k := 48) (M 287 48) rfl O dX12_elect_245 rfl wd_6_120 (by decide) if_287_48 ?_
  exact hR _ _ _ _ dX12_elect_248 h
set_option maxHeartbeats 4000000 in
set_option maxRecDepth 20000 in
theorem j_X12_elect_c65 {X : CX} {G : GX} {K : Int32 → Mem → Prop} (hG : Gd G) (O : Ok X G cX12_elect 8 RX12 2) (hR : RetI X G cX12_elect K) {a : Int32 × Int32 × Mem} (h : Lp (fun (r65 : Int32 × Int32 × Mem → Prop) a => f_X12_elect_c65 K r65 a.1 a.2.1 a.2.2) a) : J X G a.2.2 65 [(0, .ref (ad G 287)), (1, .int a.1), (2, .int a.2.1)] [] := by
  refine Lp.elim (P := fun a => J X G a.2.2 65 [(0, .ref (ad G 287)), (1, .int a.1), (2, .int a.2.1)] []) ?_ h
  clear h
  intro r65 hr65 a h
  obtain ⟨x1, x2, M⟩ := a
  unfold f_X12_elect_c65 at h
  (try dsimp only at h ⊢)
  refine J.iload_n (q := 66) O dX12_elect_65 rfl 2 rfl ?_
  refine J.if_eq (q := 69) (tgt := 244) O dX12_elect_66 rfl (by decide) (fun z22 => ?_) (fun z22 => ?_)
  · replace h := h.1 z22
    exact J.sub [0] rfl (j_X12_elect_b244 hG O hR h)
  · replace h := h.2 z22
    refine J.aload_n (q := 70) O dX12_elect_69 rfl 0 rfl ?_
    refine J.getI (q := 73) (c' := 287) (ci := 12) (k := 48) (M 287 48) rfl O dX12_elect_70 rfl wd_6_120 (by decide) if_287_48 ?_
    refine J.iload_n (q := 74) O dX12_elect_73 rfl 1 rfl ?_
    refine J.icmp_ge (q := 77) (tgt := 244) O dX12_elect_74 rfl (by decide) (fun z23 => ?_) (fun z23 => ?_)
    · replace h := h.1 z23
      exact J.sub [0] rfl (j_X12_elect_b244 hG O hR h)
    · replace h := h.2 z23
      refine J.iconst (q := 78) (v := (-1 : Int32)) O dX12_elect_77 rfl rfl ?_
      refine J.istore_n (q := 79) O dX12_elect_78 rfl [(3, .int (-1 : Int32)), (0, .ref (ad G 287)), (1, .int x1), (2, .int x2)] (by decide) rfl ?_
      refine J.iconst (q := 80) (v := (0 : Int32)) O dX12_elect_79 rfl rfl ?_
      refine J.istore (q := 82) O dX12_elect_80 rfl [(4, .int (0 : Int32)), (3, .int (-1 : Int32)), (0, .ref (ad G 287)), (1, .int x1), (2, .int x2)] (by decide) rfl ?_
      refine J.iconst (q := 83) (v := (0 : Int32)) O dX12_elect_82 rfl rfl ?_
      refine J.istore (q := 85) O dX12_elect_83 rfl [(5, .int (0 : Int32)), (4, .int (0 : Int32)), (3, .int (-1 : Int32)), (0, .ref (ad G 287)), (1, .int x1), (2, .int x2)] (by decide) rfl ?_
      exact J.sub [3, 4, 5, 2, 1, 0] rfl (j_X12_elect_c85 hG O hR hr65 h)
set_option maxHeartbeats 4000000 in
set_option maxRecDepth 20000 in
theorem j_X12_elect_c34 {X : CX} {G : GX} {K : Int32 → Mem → Prop} (hG : Gd G) (O : Ok X G cX12_elect 8 RX12 2) (hR : RetI X G cX12_elect K) {a : Int32 × Int32 × Int32 × Mem} (h : Lp (fun (r34 : Int32 × Int32 × Int32 × Mem → Prop) a => f_X12_elect_c34 K r34 a.1 a.2.1 a.2.2.1 a.2.2.2) a) : J X G a.2.2.2 34 [(0, .ref (ad G 287)), (1, .int a.1), (2, .int a.2.1), (3, .int a.2.2.1)] [] := by
  refine Lp.elim (P := fun a => J X G a.2.2.2 34 [(0, .ref (ad G 287)), (1, .int a.1), (2, .int a.2.1), (3, .int a.2.2.1)] []) ?_ h
  clear h
  intro r34 hr34 a h
  obtain ⟨x1, x2, x3, M⟩ := a
  unfold f_X12_elect_c34 at h
  (try dsimp only at h ⊢)
  refine J.iload_n (q := 35) O dX12_elect_34 rfl 3 rfl ?_
  refine J.bipush (q := 37) (v := (6 : Int32)) O dX12_elect_35 rfl rfl ?_
  refine J.icmp_ge (q := 40) (tgt := 65) O dX12_elect_37 rfl (by decide) (fun z24 => ?_) (fun z24 => ?_)
  · replace h := h.1 z24
    exact J.sub [0, 1, 2] rfl (j_X12_elect_c65 hG O hR h)
  · replace h := h.2 z24
    refine J.iload_n (q := 41) O dX12_elect_40 rfl 2 rfl ?_
    refine J.if_ne (q := 44) (tgt := 53) O dX12_elect_41 rfl (by decide) (fun z25 => ?_) (fun z25 => ?_)
    · replace h := h.1 z25
      exact J.sub [0, 1, 3] rfl (j_X12_elect_b53 hG O hR hr34 h)
    · replace h := h.2 z25
      refine J.aload_n (q := 45) O dX12_elect_44 rfl 0 rfl ?_
      refine J.getR (q := 48) (c' := 287) (ci := 12) (k := 47) (r := 322) O dX12_elect_45 rfl wd_6_119 (by decide) if_287_47 ?_
      refine J.iload_n (q := 49) O dX12_elect_48 rfl 3 rfl ?_
      obtain ⟨hv26, h⟩ := h
      refine J.iald (q := 50) (c' := 322) (j := x3.toNatClampNeg) (M 322 x3.toNatClampNeg) rfl O dX12_elect_49 rfl ar_322 hv26 rfl ?_
      refine J.if_le (q := 53) (tgt := 57) O dX12_elect_50 rfl (by decide) (fun z27 => ?_) (fun z27 => ?_)
      · replace h := h.1 z27
        refine J.iconst (q := 58) (v := (0 : Int32)) O dX12_elect_57 rfl rfl ?_
        exact J.sub [0, 1, 3] rfl (j_X12_elect_b58 hG O hR hr34 h)
      · replace h := h.2 z27
        exact J.sub [0, 1, 3] rfl (j_X12_elect_b53 hG O hR hr34 h)
set_option maxHeartbeats 4000000 in
set_option maxRecDepth 20000 in
theorem c_X12_elect {l : Launch} {G : GX} (hG : Gd G) {a1 : Int32} {M : Mem} {K : Int32 → Mem → Prop} (h : f_X12_elect a1 M K) : CI l G yX12_elect cX12_elect 8 (some .int) 2 [.ref (ad G 287), .int a1] M K := by
  unfold f_X12_elect at h
  refine CI.mk hG (by decide) [(0, .ref (ad G 287)), (1, .int a1)] rfl (Nat.le_of_ble_eq_true rfl) (fun X O hlX hR => ?_)
  subst hlX
  refine J.iload_n (q := 1) O dX12_elect_0 rfl 1 rfl ?_
  refine J.iconst (q := 2) (v := (1 : Int32)) O dX12_elect_1 rfl rfl ?_
  refine J.icmp_ge (q := 5) (tgt := 12) O dX12_elect_2 rfl (by decide) (fun z28 => ?_) (fun z28 => ?_)
  · replace h := h.1 z28
    refine J.iload_n (q := 13) O dX12_elect_12 rfl 1 rfl ?_
    refine J.bipush (q := 15) (v := (9 : Int32)) O dX12_elect_13 rfl rfl ?_
    refine J.icmp_le (q := 18) (tgt := 25) O dX12_elect_15 rfl (by decide) (fun z29 => ?_) (fun z29 => ?_)
    · replace h := h.1 z29
      refine J.aload_n (q := 26) O dX12_elect_25 rfl 0 rfl ?_
      refine J.iconst (q := 27) (v := (0 : Int32)) O dX12_elect_26 rfl rfl ?_
      refine J.putI (q := 30) (c' := 287) (ci := 12) (k := 48) O dX12_elect_27 rfl wd_6_120 (by decide) if_287_48 rfl rfl ?_
      refine J.iconst (q := 31) (v := (0 : Int32)) O dX12_elect_30 rfl rfl ?_
      refine J.istore_n (q := 32) O dX12_elect_31 rfl [(2, .int (0 : Int32)), (0, .ref (ad G 287)), (1, .int a1)] (by decide) rfl ?_
      refine J.iconst (q := 33) (v := (0 : Int32)) O dX12_elect_32 rfl rfl ?_
      refine J.istore_n (q := 34) O dX12_elect_33 rfl [(3, .int (0 : Int32)), (2, .int (0 : Int32)), (0, .ref (ad G 287)), (1, .int a1)] (by decide) rfl ?_
      exact J.sub [2, 3, 1, 0] rfl (j_X12_elect_c34 hG O hR h)
    · replace h := h.2 z29
      refine J.aload_n (q := 19) O dX12_elect_18 rfl 0 rfl ?_
      refine J.bipush (q := 21) (v := (-6 : Int32)) O dX12_elect_19 rfl rfl ?_
      refine J.callVI (q := 24) [.int (-6 : Int32)] [] [.int (-6 : Int32), .ref (ad G 287)] rfl O dX12_elect_21 rfl (c_X12_refuse hG h) wd_7_158 mw_X12_refuse io_287 rfl (by decide) (Nat.le_of_ble_eq_true rfl) (fun v30 M30 h => ?_)
      exact hR _ _ _ _ dX12_elect_24 h
  · replace h := h.2 z28
    refine J.aload_n (q := 6) O dX12_elect_5 rfl 0 rfl ?_
    refine J.bipush (q := 8) (v := (-4 : Int32)) O dX12_elect_6 rfl rfl ?_
    refine J.callVI (q := 11) [.int (-4 : Int32)] [] [.int (-4 : Int32), .ref (ad G 287)] rfl O dX12_elect_8 rfl (c_X12_refuse hG h) wd_7_158 mw_X12_refuse io_287 rfl (by decide) (Nat.le_of_ble_eq_true rfl) (fun v31 M31 h => ?_)
    exact hR _ _ _ _ dX12_elect_11 h
set_option maxHeartbeats 4000000 in
set_option maxRecDepth 20000 in
theorem c_X12_isSeat {l : Launch} {G : GX} (hG : Gd G) {a1 : Int32} {M : Mem} {K : Int32 → Mem → Prop} (h : f_X12_isSeat a1 M K) : CI l G yX12_isSeat cX12_isSeat 2 (some .boolean) 2 [.ref (ad G 287), .int a1] M K := by
  unfold f_X12_isSeat at h
  refine CZ.mk hG (by decide) [(0, .ref (ad G 287)), (1, .int a1)] rfl (Nat.le_of_ble_eq_true rfl) (fun X O hlX hR => ?_)
  subst hlX
  refine J.iload_n (q := 1) O dX12_isSeat_0 rfl 1 rfl ?_
  refine J.iconst (q := 2) (v := (0 : Int32)) O dX12_isSeat_1 rfl rfl ?_
  refine J.aload_n (q := 3) O dX12_isSeat_2 rfl 0 rfl ?_
  refine J.getI (q := 6) (c' := 287) (ci := 12) (k := 48) (M 287 48) rfl O dX12_isSeat_3 rfl wd_6_120 (by decide) if_287_48 ?_
  refine J.iconst (q := 7) (v := (1 : Int32)) O dX12_isSeat_6 rfl rfl ?_
  refine J.isub (q := 8) O dX12_isSeat_7 rfl ?_
  refine J.callSI (q := 11) [.int a1, .int (0 : Int32), .int ((M 287 48) - (1 : Int32))] [] [.int ((M 287 48) - (1 : Int32)), .int (0 : Int32), .int a1] rfl O dX12_isSeat_8 rfl (c_X12_in hG h) wd_7_181 mw_X12_in rfl (by decide) (Nat.le_of_ble_eq_true rfl) (fun v1 M1 h => ?_)
  exact hR _ _ _ _ dX12_isSeat_11 h.1 h.2
set_option maxHeartbeats 4000000 in
set_option maxRecDepth 20000 in
theorem j_X12_seat_b49 {X : CX} {G : GX} {K : Int32 → Mem → Prop} (hG : Gd G) (O : Ok X G cX12_seat 3 RX12 3) (hR : RetI X G cX12_seat K) {s0 : Int32} {M : Mem} (h : f_X12_seat_b49 K s0 M) : J X G M 49 [] [.int s0] := by
  unfold f_X12_seat_b49 at h
  exact hR _ _ _ _ dX12_seat_49 h
set_option maxHeartbeats 4000000 in
set_option maxRecDepth 20000 in
theorem c_X12_seat {l : Launch} {G : GX} (hG : Gd G) {a1 : Int32} {a2 : Int32} {M : Mem} {K : Int32 → Mem → Prop} (h : f_X12_seat a1 a2 M K) : CI l G yX12_seat cX12_seat 3 (some .int) 3 [.ref (ad G 287), .int a1, .int a2] M K := by
  unfold f_X12_seat at h
  refine CI.mk hG (by decide) [(0, .ref (ad G 287)), (1, .int a1), (2, .int a2)] rfl (Nat.le_of_ble_eq_true rfl) (fun X O hlX hR => ?_)
  subst hlX
  refine J.aload_n (q := 1) O dX12_seat_0 rfl 0 rfl ?_
  refine J.iload_n (q := 2) O dX12_seat_1 rfl 1 rfl ?_
  refine J.callVI (q := 5) [.int a1] [] [.int a1, .ref (ad G 287)] rfl O dX12_seat_2 rfl (c_X12_isSeat hG h) wd_8_106 mw_X12_isSeat io_287 rfl (by decide) (Nat.le_of_ble_eq_true rfl) (fun v3 M3 h => ?_)
  refine J.if_ne (q := 8) (tgt := 14) O dX12_seat_5 rfl (by decide) (fun z4 => ?_) (fun z4 => ?_)
  · replace h := h.1 z4
    refine J.iload_n (q := 15) O dX12_seat_14 rfl 2 rfl ?_
    refine J.iconst (q := 16) (v := (0 : Int32)) O dX12_seat_15 rfl rfl ?_
    refine J.iconst (q := 17) (v := (1 : Int32)) O dX12_seat_16 rfl rfl ?_
    refine J.callSI (q := 20) [.int a2, .int (0 : Int32), .int (1 : Int32)] [] [.int (1 : Int32), .int (0 : Int32), .int a2] rfl O dX12_seat_17 rfl (c_X12_in hG h) wd_7_181 mw_X12_in rfl (by decide) (Nat.le_of_ble_eq_true rfl) (fun v5 M5 h => ?_)
    refine J.if_ne (q := 23) (tgt := 30) O dX12_seat_20 rfl (by decide) (fun z6 => ?_) (fun z6 => ?_)
    · replace h := h.1 z6
      refine J.iload_n (q := 31) O dX12_seat_30 rfl 2 rfl ?_
      refine J.if_ne (q := 34) (tgt := 43) O dX12_seat_31 rfl (by decide) (fun z7 => ?_) (fun z7 => ?_)
      · replace h := h.1 z7
        refine J.aload_n (q := 44) O dX12_seat_43 rfl 0 rfl ?_
        refine J.getR (q := 47) (c' := 287) (ci := 12) (k := 50) (r := 324) O dX12_seat_44 rfl wd_6_122 (by decide) if_287_50 ?_
        refine J.iload_n (q := 48) O dX12_seat_47 rfl 1 rfl ?_
        obtain ⟨hv8, h⟩ := h
        refine J.iald (q := 49) (c' := 324) (j := a1.toNatClampNeg) (M5 324 a1.toNatClampNeg) rfl O dX12_seat_48 rfl ar_324 hv8 rfl ?_
        exact J.sub [] rfl (j_X12_seat_b49 hG O hR h)
      · replace h := h.2 z7
        refine J.aload_n (q := 35) O dX12_seat_34 rfl 0 rfl ?_
        refine J.getR (q := 38) (c' := 287) (ci := 12) (k := 49) (r := 323) O dX12_seat_35 rfl wd_6_121 (by decide) if_287_49 ?_
        refine J.iload_n (q := 39) O dX12_seat_38 rfl 1 rfl ?_
        obtain ⟨hv9, h⟩ := h
        refine J.iald (q := 40) (c' := 323) (j := a1.toNatClampNeg) (M5 323 a1.toNatClampNeg) rfl O dX12_seat_39 rfl ar_323 hv9 rfl ?_
        refine J.goto (q := 49) O dX12_seat_40 (by decide) ?_
        exact J.sub [] rfl (j_X12_seat_b49 hG O hR h)
    · replace h := h.2 z6
      refine J.aload_n (q := 24) O dX12_seat_23 rfl 0 rfl ?_
      refine J.bipush (q := 26) (v := (-2 : Int32)) O dX12_seat_24 rfl rfl ?_
      refine J.callVI (q := 29) [.int (-2 : Int32)] [] [.int (-2 : Int32), .ref (ad G 287)] rfl O dX12_seat_26 rfl (c_X12_refuse hG h) wd_7_158 mw_X12_refuse io_287 rfl (by decide) (Nat.le_of_ble_eq_true rfl) (fun v10 M10 h => ?_)
      exact hR _ _ _ _ dX12_seat_29 h
  · replace h := h.2 z4
    refine J.aload_n (q := 9) O dX12_seat_8 rfl 0 rfl ?_
    refine J.iconst (q := 10) (v := (-1 : Int32)) O dX12_seat_9 rfl rfl ?_
    refine J.callVI (q := 13) [.int (-1 : Int32)] [] [.int (-1 : Int32), .ref (ad G 287)] rfl O dX12_seat_10 rfl (c_X12_refuse hG h) wd_7_158 mw_X12_refuse io_287 rfl (by decide) (Nat.le_of_ble_eq_true rfl) (fun v11 M11 h => ?_)
    exact hR _ _ _ _ dX12_seat_13 h
set_option maxHeartbeats 4000000 in
set_option maxRecDepth 20000 in
theorem j_X12_sit_b16 {X : CX} {G : GX} {K : Int32 → Mem → Prop} (hG : Gd G) (O : Ok X G cX12_sit 5 RX12 3) (hR : RetI X G cX12_sit K) {M : Mem} (h : f_X12_sit_b16 K  M) : J X G M 16 [(0, .ref (ad G 287))] [] := by
  unfold f_X12_sit_b16 at h
  refine J.aload_n (q := 17) O dX12_sit_16 rfl 0 rfl ?_
  refine J.iconst (q := 18) (v := (-1 : Int32)) O dX12_sit_17 rfl rfl ?_
  refine J.callVI (q := 21) [.int (-1 : Int32)] [] [.int (-1 : Int32), .ref (ad G 287)] rfl O dX12_sit_18 rfl (c_X12_refuse hG h) wd_7_158 mw_X12_refuse io_287 rfl (by decide) (Nat.le_of_ble_eq_true rfl) (fun v6 M6 h => ?_)
  exact hR _ _ _ _ dX12_sit_21 h
set_option maxHeartbeats 4000000 in
set_option maxRecDepth 20000 in
theorem j_X12_sit_b62 {X : CX} {G : GX} {K : Int32 → Mem → Prop} (hG : Gd G) (O : Ok X G cX12_sit 5 RX12 3) (hR : RetI X G cX12_sit K) {r27 : Int32 × Int32 × Int32 × Int32 × Mem → Prop} (hr27 : ∀ a : Int32 × Int32 × Int32 × Int32 × Mem, r27 a → J X G a.2.2.2.2 27 [(0, .ref (ad G 287)), (1, .int a.1), (2, .int a.2.1), (3, .int a.2.2.1), (4, .int a.2.2.2.1)] []) {x1 : Int32} {x2 : Int32} {x4 : Int32} {s0 : Int32} {M : Mem} (h : f_X12_sit_b62 r27 K x1 x2 x4 s0 M) : J X G M 62 [(0, .ref (ad G 287)), (1, .int x1), (2, .int x2), (4, .int x4)] [.int s0] := by
  unfold f_X12_sit_b62 at h
  refine J.istore_n (q := 63) O dX12_sit_62 rfl [(3, .int s0), (0, .ref (ad G 287)), (1, .int x1), (2, .int x2), (4, .int x4)] (by decide) rfl ?_
  refine J.iinc (q := 66) O dX12_sit_63 rfl [(4, .int (x4 + (1 : Int32))), (3, .int s0), (0, .ref (ad G 287)), (1, .int x1), (2, .int x2)] 4 rfl rfl (by decide) rfl ?_
  refine J.goto (q := 27) O dX12_sit_66 (by decide) ?_
  exact J.sub [2, 3, 4, 1, 0] rfl (hr27 _ h)
set_option maxHeartbeats 4000000 in
set_option maxRecDepth 20000 in
theorem j_X12_sit_b57 {X : CX} {G : GX} {K : Int32 → Mem → Prop} (hG : Gd G) (O : Ok X G cX12_sit 5 RX12 3) (hR : RetI X G cX12_sit K) {r27 : Int32 × Int32 × Int32 × Int32 × Mem → Prop} (hr27 : ∀ a : Int32 × Int32 × Int32 × Int32 × Mem, r27 a → J X G a.2.2.2.2 27 [(0, .ref (ad G 287)), (1, .int a.1), (2, .int a.2.1), (3, .int a.2.2.1), (4, .int a.2.2.2.1)] []) {x1 : Int32} {x2 : Int32} {x4 : Int32} {M : Mem} (h : f_X12_sit_b57 r27 K x1 x2 x4 M) : J X G M 57 [(0, .ref (ad G 287)), (1, .int x1), (2, .int x2), (4, .int x4)] [] := by
  unfold f_X12_sit_b57 at h
  refine J.iconst (q := 58) (v := (1 : Int32)) O dX12_sit_57 rfl rfl ?_
  refine J.goto (q := 62) O dX12_sit_58 (by decide) ?_
  exact J.sub [0, 1, 2, 3] rfl (j_X12_sit_b62 hG O hR hr27 h)
set_option maxHeartbeats 4000000 in
set_option maxRecDepth 20000 in
theorem j_X12_sit_b61 {X : CX} {G : GX} {K : Int32 → Mem → Prop} (hG : Gd G) (O : Ok X G cX12_sit 5 RX12 3) (hR : RetI X G cX12_sit K) {r27 : Int32 × Int32 × Int32 × Int32 × Mem → Prop} (hr27 : ∀ a : Int32 × Int32 × Int32 × Int32 × Mem, r27 a → J X G a.2.2.2.2 27 [(0, .ref (ad G 287)), (1, .int a.1), (2, .int a.2.1), (3, .int a.2.2.1), (4, .int a.2.2.2.1)] []) {x1 : Int32} {x2 : Int32} {x4 : Int32} {M : Mem} (h : f_X12_sit_b61 r27 K x1 x2 x4 M) : J X G M 61 [(0, .ref (ad G 287)), (1, .int x1), (2, .int x2), (4, .int x4)] [] := by
  unfold f_X12_sit_b61 at h
  refine J.iconst (q := 62) (v := (0 : Int32)) O dX12_sit_61 rfl rfl ?_
  exact J.sub [0, 1, 2, 3] rfl (j_X12_sit_b62 hG O hR hr27 h)
set_option maxHeartbeats 4000000 in
set_option maxRecDepth 20000 in
theorem j_X12_sit_b97 {X : CX} {G : GX} {K : Int32 → Mem → Prop} (hG : Gd G) (O : Ok X G cX12_sit 5 RX12 3) (hR : RetI X G cX12_sit K) {M : Mem} (h : f_X12_sit_b97 K  M) : J X G M 97 [(0, .ref (ad G 287))] [] := by
  unfold f_X12_sit_b97 at h
  refine J.aload_n (q := 98) O dX12_sit_97 rfl 0 rfl ?_
  refine J.bipush (q := 100) (v := (-3 : Int32)) O dX12_sit_98 rfl rfl ?_
  refine J.callVI (q := 103) [.int (-3 : Int32)] [] [.int (-3 : Int32), .ref (ad G 287)] rfl O dX12_sit_100 rfl (c_X12_refuse hG h) wd_7_158 mw_X12_refuse io_287 rfl (by decide) (Nat.le_of_ble_eq_true rfl) (fun v7 M7 h => ?_)
  exact hR _ _ _ _ dX12_sit_103 h
set_option maxHeartbeats 4000000 in
set_option maxRecDepth 20000 in
theorem j_X12_sit_c27 {X : CX} {G : GX} {K : Int32 → Mem → Prop} (hG : Gd G) (O : Ok X G cX12_sit 5 RX12 3) (hR : RetI X G cX12_sit K) {a : Int32 × Int32 × Int32 × Int32 × Mem} (h : Lp (fun (r27 : Int32 × Int32 × Int32 × Int32 × Mem → Prop) a => f_X12_sit_c27 K r27 a.1 a.2.1 a.2.2.1 a.2.2.2.1 a.2.2.2.2) a) : J X G a.2.2.2.2 27 [(0, .ref (ad G 287)), (1, .int a.1), (2, .int a.2.1), (3, .int a.2.2.1), (4, .int a.2.2.2.1)] [] := by
  refine Lp.elim (P := fun a => J X G a.2.2.2.2 27 [(0, .ref (ad G 287)), (1, .int a.1), (2, .int a.2.1), (3, .int a.2.2.1), (4, .int a.2.2.2.1)] []) ?_ h
  clear h
  intro r27 hr27 a h
  obtain ⟨x1, x2, x3, x4, M⟩ := a
  unfold f_X12_sit_c27 at h
  (try dsimp only at h ⊢)
  refine J.iload (q := 29) O dX12_sit_27 rfl 4 rfl ?_
  refine J.aload_n (q := 30) O dX12_sit_29 rfl 0 rfl ?_
  refine J.getI (q := 33) (c' := 287) (ci := 12) (k := 48) (M 287 48) rfl O dX12_sit_30 rfl wd_6_120 (by decide) if_287_48 ?_
  refine J.icmp_ge (q := 36) (tgt := 69) O dX12_sit_33 rfl (by decide) (fun z8 => ?_) (fun z8 => ?_)
  · replace h := h.1 z8
    refine J.aload_n (q := 70) O dX12_sit_69 rfl 0 rfl ?_
    refine J.getR (q := 73) (c' := 287) (ci := 12) (k := 8) (r := 294) O dX12_sit_70 rfl wd_6_80 (by decide) if_287_8 ?_
    refine J.iload_n (q := 74) O dX12_sit_73 rfl 2 rfl ?_
    obtain ⟨hv9, h⟩ := h
    refine J.zald (q := 75) (c' := 294) (j := x2.toNatClampNeg) (M 294 x2.toNatClampNeg) rfl O dX12_sit_74 rfl ar_294 hv9 rfl ?_
    refine J.if_ne (q := 78) (tgt := 97) O dX12_sit_75 rfl (by decide) (fun z10 => ?_) (fun z10 => ?_)
    · replace h := h.1 z10
      exact J.sub [0] rfl (j_X12_sit_b97 hG O hR h)
    · replace h := h.2 z10
      refine J.aload_n (q := 79) O dX12_sit_78 rfl 0 rfl ?_
      refine J.getR (q := 82) (c' := 287) (ci := 12) (k := 3) (r := 289) O dX12_sit_79 rfl wd_6_75 (by decide) if_287_3 ?_
      refine J.iload_n (q := 83) O dX12_sit_82 rfl 2 rfl ?_
      obtain ⟨hv11, h⟩ := h
      refine J.iald (q := 84) (c' := 289) (j := x2.toNatClampNeg) (M 289 x2.toNatClampNeg) rfl O dX12_sit_83 rfl ar_289 hv11 rfl ?_
      refine J.aload_n (q := 85) O dX12_sit_84 rfl 0 rfl ?_
      refine J.getR (q := 88) (c' := 287) (ci := 12) (k := 49) (r := 323) O dX12_sit_85 rfl wd_6_121 (by decide) if_287_49 ?_
      refine J.iload_n (q := 89) O dX12_sit_88 rfl 1 rfl ?_
      obtain ⟨hv12, h⟩ := h
      refine J.iald (q := 90) (c' := 323) (j := x1.toNatClampNeg) (M 323 x1.toNatClampNeg) rfl O dX12_sit_89 rfl ar_323 hv12 rfl ?_
      refine J.icmp_ne (q := 93) (tgt := 97) O dX12_sit_90 rfl (by decide) (fun z13 => ?_) (fun z13 => ?_)
      · replace h := h.1 z13
        exact J.sub [0] rfl (j_X12_sit_b97 hG O hR h)
      · replace h := h.2 z13
        refine J.iload_n (q := 94) O dX12_sit_93 rfl 3 rfl ?_
        refine J.if_eq (q := 97) (tgt := 104) O dX12_sit_94 rfl (by decide) (fun z14 => ?_) (fun z14 => ?_)
        · replace h := h.1 z14
          refine J.aload_n (q := 105) O dX12_sit_104 rfl 0 rfl ?_
          refine J.getR (q := 108) (c' := 287) (ci := 12) (k := 50) (r := 324) O dX12_sit_105 rfl wd_6_122 (by decide) if_287_50 ?_
          refine J.iload_n (q := 109) O dX12_sit_108 rfl 1 rfl ?_
          refine J.iload_n (q := 110) O dX12_sit_109 rfl 2 rfl ?_
          obtain ⟨hv15, h⟩ := h
          refine J.iast (q := 111) (c' := 324) (j := x1.toNatClampNeg) O dX12_sit_110 rfl ar_324 hv15 rfl ?_
          refine J.iconst (q := 112) (v := (1 : Int32)) O dX12_sit_111 rfl rfl ?_
          exact hR _ _ _ _ dX12_sit_112 h
        · replace h := h.2 z14
          exact J.sub [0] rfl (j_X12_sit_b97 hG O hR h)
  · replace h := h.2 z8
    refine J.iload_n (q := 37) O dX12_sit_36 rfl 3 rfl ?_
    refine J.if_ne (q := 40) (tgt := 57) O dX12_sit_37 rfl (by decide) (fun z16 => ?_) (fun z16 => ?_)
    · replace h := h.1 z16
      exact J.sub [0, 1, 2, 4] rfl (j_X12_sit_b57 hG O hR hr27 h)
    · replace h := h.2 z16
      refine J.iload (q := 42) O dX12_sit_40 rfl 4 rfl ?_
      refine J.iload_n (q := 43) O dX12_sit_42 rfl 1 rfl ?_
      refine J.icmp_eq (q := 46) (tgt := 61) O dX12_sit_43 rfl (by decide) (fun z17 => ?_) (fun z17 => ?_)
      · replace h := h.1 z17
        exact J.sub [0, 1, 2, 4] rfl (j_X12_sit_b61 hG O hR hr27 h)
      · replace h := h.2 z17
        refine J.aload_n (q := 47) O dX12_sit_46 rfl 0 rfl ?_
        refine J.getR (q := 50) (c' := 287) (ci := 12) (k := 50) (r := 324) O dX12_sit_47 rfl wd_6_122 (by decide) if_287_50 ?_
        refine J.iload (q := 52) O dX12_sit_50 rfl 4 rfl ?_
        obtain ⟨hv18, h⟩ := h
        refine J.iald (q := 53) (c' := 324) (j := x4.toNatClampNeg) (M 324 x4.toNatClampNeg) rfl O dX12_sit_52 rfl ar_324 hv18 rfl ?_
        refine J.iload_n (q := 54) O dX12_sit_53 rfl 2 rfl ?_
        refine J.icmp_ne (q := 57) (tgt := 61) O dX12_sit_54 rfl (by decide) (fun z19 => ?_) (fun z19 => ?_)
        · replace h := h.1 z19
          exact J.sub [0, 1, 2, 4] rfl (j_X12_sit_b61 hG O hR hr27 h)
        · replace h := h.2 z19
          exact J.sub [0, 1, 2, 4] rfl (j_X12_sit_b57 hG O hR hr27 h)
set_option maxHeartbeats 4000000 in
set_option maxRecDepth 20000 in
theorem c_X12_sit {l : Launch} {G : GX} (hG : Gd G) {a1 : Int32} {a2 : Int32} {M : Mem} {K : Int32 → Mem → Prop} (h : f_X12_sit a1 a2 M K) : CI l G yX12_sit cX12_sit 5 (some .int) 3 [.ref (ad G 287), .int a1, .int a2] M K := by
  unfold f_X12_sit at h
  refine CI.mk hG (by decide) [(0, .ref (ad G 287)), (1, .int a1), (2, .int a2)] rfl (Nat.le_of_ble_eq_true rfl) (fun X O hlX hR => ?_)
  subst hlX
  refine J.aload_n (q := 1) O dX12_sit_0 rfl 0 rfl ?_
  refine J.iload_n (q := 2) O dX12_sit_1 rfl 1 rfl ?_
  refine J.callVI (q := 5) [.int a1] [] [.int a1, .ref (ad G 287)] rfl O dX12_sit_2 rfl (c_X12_isSeat hG h) wd_8_106 mw_X12_isSeat io_287 rfl (by decide) (Nat.le_of_ble_eq_true rfl) (fun v20 M20 h => ?_)
  refine J.if_eq (q := 8) (tgt := 16) O dX12_sit_5 rfl (by decide) (fun z21 => ?_) (fun z21 => ?_)
  · replace h := h.1 z21
    exact J.sub [0] rfl (j_X12_sit_b16 hG O hR h)
  · replace h := h.2 z21
    refine J.aload_n (q := 9) O dX12_sit_8 rfl 0 rfl ?_
    refine J.iload_n (q := 10) O dX12_sit_9 rfl 2 rfl ?_
    refine J.callVI (q := 13) [.int a2] [] [.int a2, .ref (ad G 287)] rfl O dX12_sit_10 rfl (c_X12_isPerson hG h) wd_7_188 mw_X12_isPerson io_287 rfl (by decide) (Nat.le_of_ble_eq_true rfl) (fun v22 M22 h => ?_)
    refine J.if_ne (q := 16) (tgt := 22) O dX12_sit_13 rfl (by decide) (fun z23 => ?_) (fun z23 => ?_)
    · replace h := h.1 z23
      refine J.iconst (q := 23) (v := (0 : Int32)) O dX12_sit_22 rfl rfl ?_
      refine J.istore_n (q := 24) O dX12_sit_23 rfl [(3, .int (0 : Int32)), (0, .ref (ad G 287)), (1, .int a1), (2, .int a2)] (by decide) rfl ?_
      refine J.iconst (q := 25) (v := (0 : Int32)) O dX12_sit_24 rfl rfl ?_
      refine J.istore (q := 27) O dX12_sit_25 rfl [(4, .int (0 : Int32)), (3, .int (0 : Int32)), (0, .ref (ad G 287)), (1, .int a1), (2, .int a2)] (by decide) rfl ?_
      exact J.sub [2, 3, 4, 1, 0] rfl (j_X12_sit_c27 hG O hR h)
    · replace h := h.2 z23
      exact J.sub [0] rfl (j_X12_sit_b16 hG O hR h)
set_option maxHeartbeats 4000000 in
set_option maxRecDepth 20000 in
theorem j_X12_allSit_b66 {X : CX} {G : GX} {K : Int32 → Mem → Prop} (hG : Gd G) (O : Ok X G cX12_allSit 4 RX12 1) (hR : RetZ X G cX12_allSit K) {r18 : Int32 × Int32 × Int32 × Mem → Prop} (hr18 : ∀ a : Int32 × Int32 × Int32 × Mem, r18 a → J X G a.2.2.2 18 [(0, .ref (ad G 287)), (1, .int a.1), (2, .int a.2.1), (3, .int a.2.2.1)] []) {x1 : Int32} {x3 : Int32} {s0 : Int32} {M : Mem} (h : f_X12_allSit_b66 r18 K x1 x3 s0 M) : J X G M 66 [(0, .ref (ad G 287)), (1, .int x1), (3, .int x3)] [.int s0] := by
  unfold f_X12_allSit_b66 at h
  refine J.istore_n (q := 67) O dX12_allSit_66 rfl [(2, .int s0), (0, .ref (ad G 287)), (1, .int x1), (3, .int x3)] (by decide) rfl ?_
  refine J.iinc (q := 70) O dX12_allSit_67 rfl [(3, .int (x3 + (1 : Int32))), (2, .int s0), (0, .ref (ad G 287)), (1, .int x1)] 3 rfl rfl (by decide) rfl ?_
  refine J.goto (q := 18) O dX12_allSit_70 (by decide) ?_
  exact J.sub [2, 3, 1, 0] rfl (hr18 _ h)
set_option maxHeartbeats 4000000 in
set_option maxRecDepth 20000 in
theorem j_X12_allSit_b61 {X : CX} {G : GX} {K : Int32 → Mem → Prop} (hG : Gd G) (O : Ok X G cX12_allSit 4 RX12 1) (hR : RetZ X G cX12_allSit K) {r18 : Int32 × Int32 × Int32 × Mem → Prop} (hr18 : ∀ a : Int32 × Int32 × Int32 × Mem, r18 a → J X G a.2.2.2 18 [(0, .ref (ad G 287)), (1, .int a.1), (2, .int a.2.1), (3, .int a.2.2.1)] []) {x1 : Int32} {x3 : Int32} {M : Mem} (h : f_X12_allSit_b61 r18 K x1 x3 M) : J X G M 61 [(0, .ref (ad G 287)), (1, .int x1), (3, .int x3)] [] := by
  unfold f_X12_allSit_b61 at h
  refine J.iconst (q := 62) (v := (1 : Int32)) O dX12_allSit_61 rfl rfl ?_
  refine J.goto (q := 66) O dX12_allSit_62 (by decide) ?_
  exact J.sub [0, 1, 2] rfl (j_X12_allSit_b66 hG O hR hr18 h)
set_option maxHeartbeats 4000000 in
set_option maxRecDepth 20000 in
theorem j_X12_allSit_b65 {X : CX} {G : GX} {K : Int32 → Mem → Prop} (hG : Gd G) (O : Ok X G cX12_allSit 4 RX12 1) (hR : RetZ X G cX12_allSit K) {r18 : Int32 × Int32 × Int32 × Mem → Prop} (hr18 : ∀ a : Int32 × Int32 × Int32 × Mem, r18 a → J X G a.2.2.2 18 [(0, .ref (ad G 287)), (1, .int a.1), (2, .int a.2.1), (3, .int a.2.2.1)] []) {x1 : Int32} {x3 : Int32} {M : Mem} (h : f_X12_allSit_b65 r18 K x1 x3 M) : J X G M 65 [(0, .ref (ad G 287)), (1, .int x1), (3, .int x3)] [] := by
  unfold f_X12_allSit_b65 at h
  refine J.iconst (q := 66) (v := (0 : Int32)) O dX12_allSit_65 rfl rfl ?_
  exact J.sub [0, 1, 2] rfl (j_X12_allSit_b66 hG O hR hr18 h)
set_option maxHeartbeats 4000000 in
set_option maxRecDepth 20000 in
theorem j_X12_allSit_c18 {X : CX} {G : GX} {K : Int32 → Mem → Prop} (hG : Gd G) (O : Ok X G cX12_allSit 4 RX12 1) (hR : RetZ X G cX12_allSit K) {a : Int32 × Int32 × Int32 × Mem} (h : Lp (fun (r18 : Int32 × Int32 × Int32 × Mem → Prop) a => f_X12_allSit_c18 K r18 a.1 a.2.1 a.2.2.1 a.2.2.2) a) : J X G a.2.2.2 18 [(0, .ref (ad G 287)), (1, .int a.1), (2, .int a.2.1), (3, .int a.2.2.1)] [] := by
  refine Lp.elim (P := fun a => J X G a.2.2.2 18 [(0, .ref (ad G 287)), (1, .int a.1), (2, .int a.2.1), (3, .int a.2.2.1)] []) ?_ h
  clear h
  intro r18 hr18 a h
  obtain ⟨x1, x2, x3, M⟩ := a
  unfold f_X12_allSit_c18 at h
  (try dsimp only at h ⊢)
  refine J.iload_n (q := 19) O dX12_allSit_18 rfl 3 rfl ?_
  refine J.aload_n (q := 20) O dX12_allSit_19 rfl 0 rfl ?_
  refine J.getI (q := 23) (c' := 287) (ci := 12) (k := 48) (M 287 48) rfl O dX12_allSit_20 rfl wd_6_120 (by decide) if_287_48 ?_
  refine J.icmp_ge (q := 26) (tgt := 73) O dX12_allSit_23 rfl (by decide) (fun z4 => ?_) (fun z4 => ?_)
  · replace h := h.1 z4
    refine J.iload_n (q := 74) O dX12_allSit_73 rfl 2 rfl ?_
    exact hR _ _ _ _ dX12_allSit_74 h.1 h.2
  · replace h := h.2 z4
    refine J.iload_n (q := 27) O dX12_allSit_26 rfl 2 rfl ?_
    refine J.if_eq (q := 30) (tgt := 65) O dX12_allSit_27 rfl (by decide) (fun z6 => ?_) (fun z6 => ?_)
    · replace h := h.1 z6
      exact J.sub [0, 1, 3] rfl (j_X12_allSit_b65 hG O hR hr18 h)
    · replace h := h.2 z6
      refine J.iload_n (q := 31) O dX12_allSit_30 rfl 1 rfl ?_
      refine J.iload_n (q := 32) O dX12_allSit_31 rfl 3 rfl ?_
      refine J.ishr (q := 33) O dX12_allSit_32 rfl ?_
      refine J.iconst (q := 34) (v := (1 : Int32)) O dX12_allSit_33 rfl rfl ?_
      refine J.iand (q := 35) O dX12_allSit_34 rfl ?_
      refine J.if_eq (q := 38) (tgt := 61) O dX12_allSit_35 rfl (by decide) (fun z7 => ?_) (fun z7 => ?_)
      · replace h := h.1 z7
        exact J.sub [0, 1, 3] rfl (j_X12_allSit_b61 hG O hR hr18 h)
      · replace h := h.2 z7
        refine J.aload_n (q := 39) O dX12_allSit_38 rfl 0 rfl ?_
        refine J.getR (q := 42) (c' := 287) (ci := 12) (k := 50) (r := 324) O dX12_allSit_39 rfl wd_6_122 (by decide) if_287_50 ?_
        refine J.iload_n (q := 43) O dX12_allSit_42 rfl 3 rfl ?_
        obtain ⟨hv8, h⟩ := h
        refine J.iald (q := 44) (c' := 324) (j := x3.toNatClampNeg) (M 324 x3.toNatClampNeg) rfl O dX12_allSit_43 rfl ar_324 hv8 rfl ?_
        refine J.if_lt (q := 47) (tgt := 65) O dX12_allSit_44 rfl (by decide) (fun z9 => ?_) (fun z9 => ?_)
        · replace h := h.1 z9
          exact J.sub [0, 1, 3] rfl (j_X12_allSit_b65 hG O hR hr18 h)
        · replace h := h.2 z9
          refine J.aload_n (q := 48) O dX12_allSit_47 rfl 0 rfl ?_
          refine J.getR (q := 51) (c' := 287) (ci := 12) (k := 8) (r := 294) O dX12_allSit_48 rfl wd_6_80 (by decide) if_287_8 ?_
          refine J.aload_n (q := 52) O dX12_allSit_51 rfl 0 rfl ?_
          refine J.getR (q := 55) (c' := 287) (ci := 12) (k := 50) (r := 324) O dX12_allSit_52 rfl wd_6_122 (by decide) if_287_50 ?_
          refine J.iload_n (q := 56) O dX12_allSit_55 rfl 3 rfl ?_
          obtain ⟨hv10, h⟩ := h
          refine J.iald (q := 57) (c' := 324) (j := x3.toNatClampNeg) (M 324 x3.toNatClampNeg) rfl O dX12_allSit_56 rfl ar_324 hv10 rfl ?_
          obtain ⟨hv11, h⟩ := h
          refine J.zald (q := 58) (c' := 294) (j := (M 324 x3.toNatClampNeg).toNatClampNeg) (M 294 ((M 324 x3.toNatClampNeg).toNatClampNeg)) rfl O dX12_allSit_57 rfl ar_294 hv11 rfl ?_
          refine J.if_ne (q := 61) (tgt := 65) O dX12_allSit_58 rfl (by decide) (fun z12 => ?_) (fun z12 => ?_)
          · replace h := h.1 z12
            exact J.sub [0, 1, 3] rfl (j_X12_allSit_b65 hG O hR hr18 h)
          · replace h := h.2 z12
            exact J.sub [0, 1, 3] rfl (j_X12_allSit_b61 hG O hR hr18 h)
set_option maxHeartbeats 4000000 in
set_option maxRecDepth 20000 in
theorem j_X12_allSit_b15 {X : CX} {G : GX} {K : Int32 → Mem → Prop} (hG : Gd G) (O : Ok X G cX12_allSit 4 RX12 1) (hR : RetZ X G cX12_allSit K) {x1 : Int32} {s0 : Int32} {M : Mem} (h : f_X12_allSit_b15 K x1 s0 M) : J X G M 15 [(0, .ref (ad G 287)), (1, .int x1)] [.int s0] := by
  unfold f_X12_allSit_b15 at h
  refine J.istore_n (q := 16) O dX12_allSit_15 rfl [(2, .int s0), (0, .ref (ad G 287)), (1, .int x1)] (by decide) rfl ?_
  refine J.iconst (q := 17) (v := (0 : Int32)) O dX12_allSit_16 rfl rfl ?_
  refine J.istore_n (q := 18) O dX12_allSit_17 rfl [(3, .int (0 : Int32)), (2, .int s0), (0, .ref (ad G 287)), (1, .int x1)] (by decide) rfl ?_
  exact J.sub [2, 3, 1, 0] rfl (j_X12_allSit_c18 hG O hR h)
set_option maxHeartbeats 4000000 in
set_option maxRecDepth 20000 in
theorem c_X12_allSit {l : Launch} {G : GX} (hG : Gd G) {a1 : Int32} {M : Mem} {K : Int32 → Mem → Prop} (h : f_X12_allSit a1 M K) : CI l G yX12_allSit cX12_allSit 4 (some .boolean) 1 [.ref (ad G 287), .int a1] M K := by
  unfold f_X12_allSit at h
  refine CZ.mk hG (by decide) [(0, .ref (ad G 287)), (1, .int a1)] rfl (Nat.le_of_ble_eq_true rfl) (fun X O hlX hR => ?_)
  subst hlX
  refine J.iload_n (q := 1) O dX12_allSit_0 rfl 1 rfl ?_
  refine J.iconst (q := 2) (v := (1 : Int32)) O dX12_allSit_1 rfl rfl ?_
  refine J.aload_n (q := 3) O dX12_allSit_2 rfl 0 rfl ?_
  refine J.getI (q := 6) (c' := 287) (ci := 12) (k := 48) (M 287 48) rfl O dX12_allSit_3 rfl wd_6_120 (by decide) if_287_48 ?_
  refine J.ishl (q := 7) O dX12_allSit_6 rfl ?_
  refine J.icmp_ge (q := 10) (tgt := 14) O dX12_allSit_7 rfl (by decide) (fun z13 => ?_) (fun z13 => ?_)
  · replace h := h.1 z13
    refine J.iconst (q := 15) (v := (0 : Int32)) O dX12_allSit_14 rfl rfl ?_
    exact J.sub [0, 1] rfl (j_X12_allSit_b15 hG O hR h)
  · replace h := h.2 z13
    refine J.iconst (q := 11) (v := (1 : Int32)) O dX12_allSit_10 rfl rfl ?_
    refine J.goto (q := 15) O dX12_allSit_11 (by decide) ?_
    exact J.sub [0, 1] rfl (j_X12_allSit_b15 hG O hR h)
set_option maxHeartbeats 4000000 in
set_option maxRecDepth 20000 in
theorem j_X12_session_b8 {X : CX} {G : GX} {K : Int32 → Mem → Prop} (hG : Gd G) (O : Ok X G cX12_session 3 RX12 2) (hR : RetI X G cX12_session K) {M : Mem} (h : f_X12_session_b8 K  M) : J X G M 8 [(0, .ref (ad G 287))] [] := by
  unfold f_X12_session_b8 at h
  refine J.aload_n (q := 9) O dX12_session_8 rfl 0 rfl ?_
  refine J.bipush (q := 11) (v := (-4 : Int32)) O dX12_session_9 rfl rfl ?_
  refine J.callVI (q := 14) [.int (-4 : Int32)] [] [.int (-4 : Int32), .ref (ad G 287)] rfl O dX12_session_11 rfl (c_X12_refuse hG h) wd_7_158 mw_X12_refuse io_287 rfl (by decide) (Nat.le_of_ble_eq_true rfl) (fun v6 M6 h => ?_)
  exact hR _ _ _ _ dX12_session_14 h
set_option maxHeartbeats 4000000 in
set_option maxRecDepth 20000 in
theorem j_X12_session_b31 {X : CX} {G : GX} {K : Int32 → Mem → Prop} (hG : Gd G) (O : Ok X G cX12_session 3 RX12 2) (hR : RetI X G cX12_session K) {M : Mem} (h : f_X12_session_b31 K  M) : J X G M 31 [(0, .ref (ad G 287))] [] := by
  unfold f_X12_session_b31 at h
  refine J.aload_n (q := 32) O dX12_session_31 rfl 0 rfl ?_
  refine J.bipush (q := 34) (v := (-3 : Int32)) O dX12_session_32 rfl rfl ?_
  refine J.callVI (q := 37) [.int (-3 : Int32)] [] [.int (-3 : Int32), .ref (ad G 287)] rfl O dX12_session_34 rfl (c_X12_refuse hG h) wd_7_158 mw_X12_refuse io_287 rfl (by decide) (Nat.le_of_ble_eq_true rfl) (fun v7 M7 h => ?_)
  exact hR _ _ _ _ dX12_session_37 h
set_option maxHeartbeats 4000000 in
set_option maxRecDepth 20000 in
theorem j_X12_session_b118 {X : CX} {G : GX} {K : Int32 → Mem → Prop} (hG : Gd G) (O : Ok X G cX12_session 3 RX12 2) (hR : RetI X G cX12_session K) {s0 : Int32} {s1 : Int32} {M : Mem} (h : f_X12_session_b118 K s0 s1 M) : J X G M 118 [(0, .ref (ad G 287))] [.int s0, .int s1, .ref (ad G 328)] := by
  unfold f_X12_session_b118 at h
  obtain ⟨hv8, h⟩ := h
  obtain ⟨hb9, h⟩ := h
  refine J.zast (q := 119) (c' := 328) (j := s1.toNatClampNeg) O dX12_session_118 rfl ar_328 hv8 rfl hb9 ?_
  refine J.aload_n (q := 120) O dX12_session_119 rfl 0 rfl ?_
  refine J.getR (q := 123) (c' := 287) (ci := 12) (k := 56) (r := 329) O dX12_session_120 rfl wd_6_128 (by decide) if_287_56 ?_
  refine J.aload_n (q := 124) O dX12_session_123 rfl 0 rfl ?_
  refine J.getI (q := 127) (c' := 287) (ci := 12) (k := 52) (M 287 52) rfl O dX12_session_124 rfl wd_6_124 (by decide) if_287_52 ?_
  refine J.ldcw (q := 130) O dX12_session_127 rfl wd_8_0 ?_
  obtain ⟨hv10, h⟩ := h
  refine J.iast (q := 131) (c' := 329) (j := (M 287 52).toNatClampNeg) O dX12_session_130 rfl ar_329 hv10 rfl ?_
  refine J.aload_n (q := 132) O dX12_session_131 rfl 0 rfl ?_
  refine J.dup (q := 133) O dX12_session_132 rfl rfl ?_
  refine J.getI (q := 136) (c' := 287) (ci := 12) (k := 52) (M 287 52) rfl O dX12_session_133 rfl wd_6_124 (by decide) if_287_52 ?_
  refine J.iconst (q := 137) (v := (1 : Int32)) O dX12_session_136 rfl rfl ?_
  refine J.iadd (q := 138) O dX12_session_137 rfl ?_
  refine J.putI (q := 141) (c' := 287) (ci := 12) (k := 52) O dX12_session_138 rfl wd_6_124 (by decide) if_287_52 rfl rfl ?_
  refine J.aload_n (q := 142) O dX12_session_141 rfl 0 rfl ?_
  refine J.getI (q := 145) (c' := 287) (ci := 12) (k := 52) ((M 287 52) + (1 : Int32)) rfl O dX12_session_142 rfl wd_6_124 (by decide) if_287_52 ?_
  refine J.iconst (q := 146) (v := (1 : Int32)) O dX12_session_145 rfl rfl ?_
  refine J.isub (q := 147) O dX12_session_146 rfl ?_
  exact hR _ _ _ _ dX12_session_147 h
set_option maxHeartbeats 4000000 in
set_option maxRecDepth 20000 in
theorem j_X12_session_b117 {X : CX} {G : GX} {K : Int32 → Mem → Prop} (hG : Gd G) (O : Ok X G cX12_session 3 RX12 2) (hR : RetI X G cX12_session K) {s0 : Int32} {M : Mem} (h : f_X12_session_b117 K s0 M) : J X G M 117 [(0, .ref (ad G 287))] [.int s0, .ref (ad G 328)] := by
  unfold f_X12_session_b117 at h
  refine J.iconst (q := 118) (v := (0 : Int32)) O dX12_session_117 rfl rfl ?_
  exact J.sub [0] rfl (j_X12_session_b118 hG O hR h)
set_option maxHeartbeats 4000000 in
set_option maxRecDepth 20000 in
theorem c_X12_session {l : Launch} {G : GX} (hG : Gd G) {a1 : Int32} {a2 : Int32} {M : Mem} {K : Int32 → Mem → Prop} (h : f_X12_session a1 a2 M K) : CI l G yX12_session cX12_session 3 (some .int) 2 [.ref (ad G 287), .int a1, .int a2] M K := by
  unfold f_X12_session at h
  refine CI.mk hG (by decide) [(0, .ref (ad G 287)), (1, .int a1), (2, .int a2)] rfl (Nat.le_of_ble_eq_true rfl) (fun X O hlX hR => ?_)
  subst hlX
  refine J.iload_n (q := 1) O dX12_session_0 rfl 1 rfl ?_
  refine J.if_lt (q := 4) (tgt := 8) O dX12_session_1 rfl (by decide) (fun z11 => ?_) (fun z11 => ?_)
  · replace h := h.1 z11
    exact J.sub [0] rfl (j_X12_session_b8 hG O hR h)
  · replace h := h.2 z11
    refine J.iload_n (q := 5) O dX12_session_4 rfl 2 rfl ?_
    refine J.if_ge (q := 8) (tgt := 15) O dX12_session_5 rfl (by decide) (fun z12 => ?_) (fun z12 => ?_)
    · replace h := h.1 z12
      refine J.iload_n (q := 16) O dX12_session_15 rfl 1 rfl ?_
      refine J.aload_n (q := 17) O dX12_session_16 rfl 0 rfl ?_
      refine J.getI (q := 20) (c' := 287) (ci := 12) (k := 0) (M 287 0) rfl O dX12_session_17 rfl wd_6_72 (by decide) if_287_0 ?_
      refine J.icmp_gt (q := 23) (tgt := 31) O dX12_session_20 rfl (by decide) (fun z13 => ?_) (fun z13 => ?_)
      · replace h := h.1 z13
        exact J.sub [0] rfl (j_X12_session_b31 hG O hR h)
      · replace h := h.2 z13
        refine J.aload_n (q := 24) O dX12_session_23 rfl 0 rfl ?_
        refine J.iload_n (q := 25) O dX12_session_24 rfl 2 rfl ?_
        refine J.callVI (q := 28) [.int a2] [] [.int a2, .ref (ad G 287)] rfl O dX12_session_25 rfl (c_X12_allSit hG h) wd_8_118 mw_X12_allSit io_287 rfl (by decide) (Nat.le_of_ble_eq_true rfl) (fun v14 M14 h => ?_)
        refine J.if_ne (q := 31) (tgt := 38) O dX12_session_28 rfl (by decide) (fun z15 => ?_) (fun z15 => ?_)
        · replace h := h.1 z15
          refine J.aload_n (q := 39) O dX12_session_38 rfl 0 rfl ?_
          refine J.getI (q := 42) (c' := 287) (ci := 12) (k := 52) (M14 287 52) rfl O dX12_session_39 rfl wd_6_124 (by decide) if_287_52 ?_
          refine J.bipush (q := 44) (v := (30 : Int32)) O dX12_session_42 rfl rfl ?_
          refine J.icmp_ne (q := 47) (tgt := 54) O dX12_session_44 rfl (by decide) (fun z16 => ?_) (fun z16 => ?_)
          · replace h := h.1 z16
            refine J.aload_n (q := 55) O dX12_session_54 rfl 0 rfl ?_
            refine J.getR (q := 58) (c' := 287) (ci := 12) (k := 53) (r := 326) O dX12_session_55 rfl wd_6_125 (by decide) if_287_53 ?_
            refine J.aload_n (q := 59) O dX12_session_58 rfl 0 rfl ?_
            refine J.getI (q := 62) (c' := 287) (ci := 12) (k := 52) (M14 287 52) rfl O dX12_session_59 rfl wd_6_124 (by decide) if_287_52 ?_
            refine J.aload_n (q := 63) O dX12_session_62 rfl 0 rfl ?_
            refine J.getI (q := 66) (c' := 287) (ci := 12) (k := 0) (M14 287 0) rfl O dX12_session_63 rfl wd_6_72 (by decide) if_287_0 ?_
            obtain ⟨hv17, h⟩ := h
            refine J.iast (q := 67) (c' := 326) (j := (M14 287 52).toNatClampNeg) O dX12_session_66 rfl ar_326 hv17 rfl ?_
            refine J.aload_n (q := 68) O dX12_session_67 rfl 0 rfl ?_
            refine J.getR (q := 71) (c' := 287) (ci := 12) (k := 54) (r := 327) O dX12_session_68 rfl wd_6_126 (by decide) if_287_54 ?_
            refine J.aload_n (q := 72) O dX12_session_71 rfl 0 rfl ?_
            refine J.getI (q := 75) (c' := 287) (ci := 12) (k := 52) (M14 287 52) rfl O dX12_session_72 rfl wd_6_124 (by decide) if_287_52 ?_
            refine J.iload_n (q := 76) O dX12_session_75 rfl 2 rfl ?_
            obtain ⟨hv18, h⟩ := h
            refine J.iast (q := 77) (c' := 327) (j := (M14 287 52).toNatClampNeg) O dX12_session_76 rfl ar_327 hv18 rfl ?_
            refine J.aload_n (q := 78) O dX12_session_77 rfl 0 rfl ?_
            refine J.getR (q := 81) (c' := 287) (ci := 12) (k := 55) (r := 328) O dX12_session_78 rfl wd_6_127 (by decide) if_287_55 ?_
            refine J.aload_n (q := 82) O dX12_session_81 rfl 0 rfl ?_
            refine J.getI (q := 85) (c' := 287) (ci := 12) (k := 52) (M14 287 52) rfl O dX12_session_82 rfl wd_6_124 (by decide) if_287_52 ?_
            refine J.aload_n (q := 86) O dX12_session_85 rfl 0 rfl ?_
            refine J.getI (q := 89) (c' := 287) (ci := 12) (k := 0) (M14 287 0) rfl O dX12_session_86 rfl wd_6_72 (by decide) if_287_0 ?_
            refine J.iload_n (q := 90) O dX12_session_89 rfl 1 rfl ?_
            refine J.isub (q := 91) O dX12_session_90 rfl ?_
            refine J.aload_n (q := 92) O dX12_session_91 rfl 0 rfl ?_
            refine J.getR (q := 95) (c' := 287) (ci := 12) (k := 51) (r := 325) O dX12_session_92 rfl wd_6_123 (by decide) if_287_51 ?_
            refine J.iconst (q := 96) (v := (0 : Int32)) O dX12_session_95 rfl rfl ?_
            refine J.iald (q := 97) (c' := 325) (j := 0) (M14 325 0) rfl O dX12_session_96 rfl ar_325 (vin_lit (by decide)) (by decide) ?_
            refine J.icmp_lt (q := 100) (tgt := 117) O dX12_session_97 rfl (by decide) (fun z19 => ?_) (fun z19 => ?_)
            · replace h := h.1 z19
              exact J.sub [0] rfl (j_X12_session_b117 hG O hR h)
            · replace h := h.2 z19
              refine J.iconst (q := 101) (v := (2 : Int32)) O dX12_session_100 rfl rfl ?_
              refine J.iload_n (q := 102) O dX12_session_101 rfl 2 rfl ?_
              refine J.callSI (q := 105) [.int a2] [.int (2 : Int32), .int (M14 287 52), .ref (ad G 328)] [.int a2, .int (2 : Int32), .int (M14 287 52), .ref (ad G 328)] rfl O dX12_session_102 rfl (c_X12_ones hG h) wd_8_23 mw_X12_ones rfl (by decide) (Nat.le_of_ble_eq_true rfl) (fun v20 M20 h => ?_)
              refine J.imul (q := 106) O dX12_session_105 rfl ?_
              refine J.aload_n (q := 107) O dX12_session_106 rfl 0 rfl ?_
              refine J.getI (q := 110) (c' := 287) (ci := 12) (k := 48) (M20 287 48) rfl O dX12_session_107 rfl wd_6_120 (by decide) if_287_48 ?_
              refine J.icmp_le (q := 113) (tgt := 117) O dX12_session_110 rfl (by decide) (fun z21 => ?_) (fun z21 => ?_)
              · replace h := h.1 z21
                exact J.sub [0] rfl (j_X12_session_b117 hG O hR h)
              · replace h := h.2 z21
                refine J.iconst (q := 114) (v := (1 : Int32)) O dX12_session_113 rfl rfl ?_
                refine J.goto (q := 118) O dX12_session_114 (by decide) ?_
                exact J.sub [0] rfl (j_X12_session_b118 hG O hR h)
          · replace h := h.2 z16
            refine J.aload_n (q := 48) O dX12_session_47 rfl 0 rfl ?_
            refine J.bipush (q := 50) (v := (-6 : Int32)) O dX12_session_48 rfl rfl ?_
            refine J.callVI (q := 53) [.int (-6 : Int32)] [] [.int (-6 : Int32), .ref (ad G 287)] rfl O dX12_session_50 rfl (c_X12_refuse hG h) wd_7_158 mw_X12_refuse io_287 rfl (by decide) (Nat.le_of_ble_eq_true rfl) (fun v22 M22 h => ?_)
            exact hR _ _ _ _ dX12_session_53 h
        · replace h := h.2 z15
          exact J.sub [0] rfl (j_X12_session_b31 hG O hR h)
    · replace h := h.2 z12
      exact J.sub [0] rfl (j_X12_session_b8 hG O hR h)
set_option maxHeartbeats 4000000 in
set_option maxRecDepth 20000 in
theorem j_X12_vote_b70 {X : CX} {G : GX} {K : Int32 → Mem → Prop} (hG : Gd G) (O : Ok X G cX12_vote 6 RX12 4) (hR : RetI X G cX12_vote K) {M : Mem} (h : f_X12_vote_b70 K  M) : J X G M 70 [(0, .ref (ad G 287))] [] := by
  unfold f_X12_vote_b70 at h
  refine J.aload_n (q := 71) O dX12_vote_70 rfl 0 rfl ?_
  refine J.bipush (q := 73) (v := (-3 : Int32)) O dX12_vote_71 rfl rfl ?_
  refine J.callVI (q := 76) [.int (-3 : Int32)] [] [.int (-3 : Int32), .ref (ad G 287)] rfl O dX12_vote_73 rfl (c_X12_refuse hG h) wd_7_158 mw_X12_refuse io_287 rfl (by decide) (Nat.le_of_ble_eq_true rfl) (fun v5 M5 h => ?_)
  exact hR _ _ _ _ dX12_vote_76 h
set_option maxHeartbeats 4000000 in
set_option maxRecDepth 20000 in
theorem j_X12_vote_b122 {X : CX} {G : GX} {K : Int32 → Mem → Prop} (hG : Gd G) (O : Ok X G cX12_vote 6 RX12 4) (hR : RetI X G cX12_vote K) {M : Mem} (h : f_X12_vote_b122 K  M) : J X G M 122 [(0, .ref (ad G 287))] [] := by
  unfold f_X12_vote_b122 at h
  refine J.aload_n (q := 123) O dX12_vote_122 rfl 0 rfl ?_
  refine J.bipush (q := 125) (v := (-3 : Int32)) O dX12_vote_123 rfl rfl ?_
  refine J.callVI (q := 128) [.int (-3 : Int32)] [] [.int (-3 : Int32), .ref (ad G 287)] rfl O dX12_vote_125 rfl (c_X12_refuse hG h) wd_7_158 mw_X12_refuse io_287 rfl (by decide) (Nat.le_of_ble_eq_true rfl) (fun v6 M6 h => ?_)
  exact hR _ _ _ _ dX12_vote_128 h
set_option maxHeartbeats 4000000 in
set_option maxRecDepth 20000 in
theorem j_X12_vote_b166 {X : CX} {G : GX} {K : Int32 → Mem → Prop} (hG : Gd G) (O : Ok X G cX12_vote 6 RX12 4) (hR : RetI X G cX12_vote K) {x1 : Int32} {s0 : Int32} {M : Mem} (h : f_X12_vote_b166 K x1 s0 M) : J X G M 166 [(0, .ref (ad G 287)), (1, .int x1)] [.int s0] := by
  unfold f_X12_vote_b166 at h
  refine J.istore (q := 168) O dX12_vote_166 rfl [(5, .int s0), (0, .ref (ad G 287)), (1, .int x1)] (by decide) rfl ?_
  refine J.aload_n (q := 169) O dX12_vote_168 rfl 1 rfl ?_
  refine J.iload_n (q := 170) O dX12_vote_169 rfl 2 rfl ?_
  refine J.iconst (q := 171) (v := (3 : Int32)) O dX12_vote_170 rfl rfl ?_
  refine J.iload (q := 173) O dX12_vote_171 rfl 0 rfl ?_
  refine J.aload_n (q := 174) O dX12_vote_173 rfl 1 rfl ?_
  refine J.getI (q := 177) (c' := 287) (ci := 12) (k := 52) (M 287 52) rfl O dX12_vote_174 rfl wd_6_124 (by decide) if_287_52 ?_
  refine J.iconst (q := 178) (v := (1 : Int32)) O dX12_vote_177 rfl rfl ?_
  refine J.isub (q := 179) O dX12_vote_178 rfl ?_
  refine J.callVV (q := 182) [.int x1, .int (3 : Int32), .int s0, .int ((M 287 52) - (1 : Int32))] [] [.int ((M 287 52) - (1 : Int32)), .int s0, .int (3 : Int32), .int x1, .ref (ad G 287)] rfl O dX12_vote_179 rfl (c_X12_tell hG h) wd_8_58 mw_X12_tell io_287 rfl (by decide) (Nat.le_of_ble_eq_true rfl) (fun M7 h => ?_)
  refine J.iload (q := 184) O dX12_vote_182 rfl 0 rfl ?_
  exact hR _ _ _ _ dX12_vote_184 h
set_option maxHeartbeats 4000000 in
set_option maxRecDepth 20000 in
theorem c_X12_vote {l : Launch} {G : GX} (hG : Gd G) {a1 : Int32} {a2 : Int32} {a3 : Int32} {M : Mem} {K : Int32 → Mem → Prop} (h : f_X12_vote a1 a2 a3 M K) : CI l G yX12_vote cX12_vote 6 (some .int) 4 [.ref (ad G 287), .int a1, .int a2, .int a3] M K := by
  unfold f_X12_vote at h
  refine CI.mk hG (by decide) [(0, .ref (ad G 287)), (1, .int a1), (2, .int a2), (3, .int a3)] rfl (Nat.le_of_ble_eq_true rfl) (fun X O hlX hR => ?_)
  subst hlX
  refine J.aload_n (q := 1) O dX12_vote_0 rfl 0 rfl ?_
  refine J.iload_n (q := 2) O dX12_vote_1 rfl 1 rfl ?_
  refine J.callVI (q := 5) [.int a1] [] [.int a1, .ref (ad G 287)] rfl O dX12_vote_2 rfl (c_X12_isMatter hG h) wd_8_46 mw_X12_isMatter io_287 rfl (by decide) (Nat.le_of_ble_eq_true rfl) (fun v8 M8 h => ?_)
  refine J.if_ne (q := 8) (tgt := 14) O dX12_vote_5 rfl (by decide) (fun z9 => ?_) (fun z9 => ?_)
  · replace h := h.1 z9
    refine J.aload_n (q := 15) O dX12_vote_14 rfl 0 rfl ?_
    refine J.getI (q := 18) (c' := 287) (ci := 12) (k := 52) (M8 287 52) rfl O dX12_vote_15 rfl wd_6_124 (by decide) if_287_52 ?_
    refine J.if_eq (q := 21) (tgt := 70) O dX12_vote_18 rfl (by decide) (fun z10 => ?_) (fun z10 => ?_)
    · replace h := h.1 z10
      exact J.sub [0] rfl (j_X12_vote_b70 hG O hR h)
    · replace h := h.2 z10
      refine J.aload_n (q := 22) O dX12_vote_21 rfl 0 rfl ?_
      refine J.getR (q := 25) (c' := 287) (ci := 12) (k := 53) (r := 326) O dX12_vote_22 rfl wd_6_125 (by decide) if_287_53 ?_
      refine J.aload_n (q := 26) O dX12_vote_25 rfl 0 rfl ?_
      refine J.getI (q := 29) (c' := 287) (ci := 12) (k := 52) (M8 287 52) rfl O dX12_vote_26 rfl wd_6_124 (by decide) if_287_52 ?_
      refine J.iconst (q := 30) (v := (1 : Int32)) O dX12_vote_29 rfl rfl ?_
      refine J.isub (q := 31) O dX12_vote_30 rfl ?_
      obtain ⟨hv11, h⟩ := h
      refine J.iald (q := 32) (c' := 326) (j := ((M8 287 52) - (1 : Int32)).toNatClampNeg) (M8 326 (((M8 287 52) - (1 : Int32)).toNatClampNeg)) rfl O dX12_vote_31 rfl ar_326 hv11 rfl ?_
      refine J.aload_n (q := 33) O dX12_vote_32 rfl 0 rfl ?_
      refine J.getI (q := 36) (c' := 287) (ci := 12) (k := 0) (M8 287 0) rfl O dX12_vote_33 rfl wd_6_72 (by decide) if_287_0 ?_
      refine J.icmp_ne (q := 39) (tgt := 70) O dX12_vote_36 rfl (by decide) (fun z12 => ?_) (fun z12 => ?_)
      · replace h := h.1 z12
        exact J.sub [0] rfl (j_X12_vote_b70 hG O hR h)
      · replace h := h.2 z12
        refine J.aload_n (q := 40) O dX12_vote_39 rfl 0 rfl ?_
        refine J.getR (q := 43) (c' := 287) (ci := 12) (k := 36) (r := 311) O dX12_vote_40 rfl wd_6_108 (by decide) if_287_36 ?_
        refine J.iload_n (q := 44) O dX12_vote_43 rfl 1 rfl ?_
        obtain ⟨hv13, h⟩ := h
        refine J.iald (q := 45) (c' := 311) (j := a1.toNatClampNeg) (M8 311 a1.toNatClampNeg) rfl O dX12_vote_44 rfl ar_311 hv13 rfl ?_
        refine J.iconst (q := 46) (v := (2 : Int32)) O dX12_vote_45 rfl rfl ?_
        refine J.icmp_lt (q := 49) (tgt := 70) O dX12_vote_46 rfl (by decide) (fun z14 => ?_) (fun z14 => ?_)
        · replace h := h.1 z14
          exact J.sub [0] rfl (j_X12_vote_b70 hG O hR h)
        · replace h := h.2 z14
          refine J.aload_n (q := 50) O dX12_vote_49 rfl 0 rfl ?_
          refine J.iload_n (q := 51) O dX12_vote_50 rfl 1 rfl ?_
          refine J.aload_n (q := 52) O dX12_vote_51 rfl 0 rfl ?_
          refine J.getI (q := 55) (c' := 287) (ci := 12) (k := 0) (M8 287 0) rfl O dX12_vote_52 rfl wd_6_72 (by decide) if_287_0 ?_
          refine J.aload_n (q := 56) O dX12_vote_55 rfl 0 rfl ?_
          refine J.getI (q := 59) (c' := 287) (ci := 12) (k := 0) (M8 287 0) rfl O dX12_vote_56 rfl wd_6_72 (by decide) if_287_0 ?_
          refine J.callVI (q := 62) [.int a1, .int (M8 287 0), .int (M8 287 0)] [] [.int (M8 287 0), .int (M8 287 0), .int a1, .ref (ad G 287)] rfl O dX12_vote_59 rfl (c_X12_stateOf hG h) wd_8_70 mw_X12_stateOf io_287 rfl (by decide) (Nat.le_of_ble_eq_true rfl) (fun v15 M15 h => ?_)
          refine J.iconst (q := 63) (v := (2 : Int32)) O dX12_vote_62 rfl rfl ?_
          refine J.iconst (q := 64) (v := (3 : Int32)) O dX12_vote_63 rfl rfl ?_
          refine J.callSI (q := 67) [.int v15, .int (2 : Int32), .int (3 : Int32)] [] [.int (3 : Int32), .int (2 : Int32), .int v15] rfl O dX12_vote_64 rfl (c_X12_in hG h) wd_7_181 mw_X12_in rfl (by decide) (Nat.le_of_ble_eq_true rfl) (fun v16 M16 h => ?_)
          refine J.if_ne (q := 70) (tgt := 77) O dX12_vote_67 rfl (by decide) (fun z17 => ?_) (fun z17 => ?_)
          · replace h := h.1 z17
            refine J.aload_n (q := 78) O dX12_vote_77 rfl 0 rfl ?_
            refine J.getR (q := 81) (c' := 287) (ci := 12) (k := 54) (r := 327) O dX12_vote_78 rfl wd_6_126 (by decide) if_287_54 ?_
            refine J.aload_n (q := 82) O dX12_vote_81 rfl 0 rfl ?_
            refine J.getI (q := 85) (c' := 287) (ci := 12) (k := 52) (M16 287 52) rfl O dX12_vote_82 rfl wd_6_124 (by decide) if_287_52 ?_
            refine J.iconst (q := 86) (v := (1 : Int32)) O dX12_vote_85 rfl rfl ?_
            refine J.isub (q := 87) O dX12_vote_86 rfl ?_
            obtain ⟨hv18, h⟩ := h
            refine J.iald (q := 88) (c' := 327) (j := ((M16 287 52) - (1 : Int32)).toNatClampNeg) (M16 327 (((M16 287 52) - (1 : Int32)).toNatClampNeg)) rfl O dX12_vote_87 rfl ar_327 hv18 rfl ?_
            refine J.istore (q := 90) O dX12_vote_88 rfl [(4, .int (M16 327 (((M16 287 52) - (1 : Int32)).toNatClampNeg))), (0, .ref (ad G 287)), (1, .int a1), (2, .int a2), (3, .int a3)] (by decide) rfl ?_
            refine J.iload_n (q := 91) O dX12_vote_90 rfl 3 rfl ?_
            refine J.if_lt (q := 94) (tgt := 122) O dX12_vote_91 rfl (by decide) (fun z19 => ?_) (fun z19 => ?_)
            · replace h := h.1 z19
              exact J.sub [1] rfl (j_X12_vote_b122 hG O hR h)
            · replace h := h.2 z19
              refine J.iload_n (q := 95) O dX12_vote_94 rfl 4 rfl ?_
              refine J.if_lt (q := 98) (tgt := 122) O dX12_vote_95 rfl (by decide) (fun z20 => ?_) (fun z20 => ?_)
              · replace h := h.1 z20
                exact J.sub [1] rfl (j_X12_vote_b122 hG O hR h)
              · replace h := h.2 z20
                refine J.iload_n (q := 99) O dX12_vote_98 rfl 3 rfl ?_
                refine J.iload (q := 101) O dX12_vote_99 rfl 0 rfl ?_
                refine J.iconst (q := 102) (v := (-1 : Int32)) O dX12_vote_101 rfl rfl ?_
                refine J.ixor (q := 103) O dX12_vote_102 rfl ?_
                refine J.iand (q := 104) O dX12_vote_103 rfl ?_
                refine J.if_ne (q := 107) (tgt := 122) O dX12_vote_104 rfl (by decide) (fun z21 => ?_) (fun z21 => ?_)
                · replace h := h.1 z21
                  exact J.sub [1] rfl (j_X12_vote_b122 hG O hR h)
                · replace h := h.2 z21
                  refine J.iload_n (q := 108) O dX12_vote_107 rfl 4 rfl ?_
                  refine J.iload (q := 110) O dX12_vote_108 rfl 0 rfl ?_
                  refine J.iconst (q := 111) (v := (-1 : Int32)) O dX12_vote_110 rfl rfl ?_
                  refine J.ixor (q := 112) O dX12_vote_111 rfl ?_
                  refine J.iand (q := 113) O dX12_vote_112 rfl ?_
                  refine J.if_ne (q := 116) (tgt := 122) O dX12_vote_113 rfl (by decide) (fun z22 => ?_) (fun z22 => ?_)
                  · replace h := h.1 z22
                    exact J.sub [1] rfl (j_X12_vote_b122 hG O hR h)
                  · replace h := h.2 z22
                    refine J.iload_n (q := 117) O dX12_vote_116 rfl 3 rfl ?_
                    refine J.iload_n (q := 118) O dX12_vote_117 rfl 4 rfl ?_
                    refine J.iand (q := 119) O dX12_vote_118 rfl ?_
                    refine J.if_eq (q := 122) (tgt := 129) O dX12_vote_119 rfl (by decide) (fun z23 => ?_) (fun z23 => ?_)
                    · replace h := h.1 z23
                      refine J.aload_n (q := 130) O dX12_vote_129 rfl 1 rfl ?_
                      refine J.getR (q := 133) (c' := 287) (ci := 12) (k := 42) (r := 317) O dX12_vote_130 rfl wd_6_114 (by decide) if_287_42 ?_
                      refine J.iload_n (q := 134) O dX12_vote_133 rfl 2 rfl ?_
                      obtain ⟨hv24, h⟩ := h
                      refine J.iald (q := 135) (c' := 317) (j := a1.toNatClampNeg) (M16 317 a1.toNatClampNeg) rfl O dX12_vote_134 rfl ar_317 hv24 rfl ?_
                      refine J.bipush (q := 137) (v := (30 : Int32)) O dX12_vote_135 rfl rfl ?_
                      refine J.icmp_ne (q := 140) (tgt := 147) O dX12_vote_137 rfl (by decide) (fun z25 => ?_) (fun z25 => ?_)
                      · replace h := h.1 z25
                        refine J.iconst (q := 148) (v := (2 : Int32)) O dX12_vote_147 rfl rfl ?_
                        refine J.iload_n (q := 149) O dX12_vote_148 rfl 3 rfl ?_
                        refine J.callSI (q := 152) [.int a2] [.int (2 : Int32)] [.int a2, .int (2 : Int32)] rfl O dX12_vote_149 rfl (c_X12_ones hG h) wd_8_23 mw_X12_ones rfl (by decide) (Nat.le_of_ble_eq_true rfl) (fun v26 M26 h => ?_)
                        refine J.imul (q := 153) O dX12_vote_152 rfl ?_
                        refine J.iload (q := 155) O dX12_vote_153 rfl 0 rfl ?_
                        refine J.callSI (q := 158) [.int (M16 327 (((M16 287 52) - (1 : Int32)).toNatClampNeg))] [.int ((2 : Int32) * v26)] [.int (M16 327 (((M16 287 52) - (1 : Int32)).toNatClampNeg)), .int ((2 : Int32) * v26)] rfl O dX12_vote_155 rfl (c_X12_ones hG h) wd_8_23 mw_X12_ones rfl (by decide) (Nat.le_of_ble_eq_true rfl) (fun v27 M27 h => ?_)
                        refine J.icmp_le (q := 161) (tgt := 165) O dX12_vote_158 rfl (by decide) (fun z28 => ?_) (fun z28 => ?_)
                        · replace h := h.1 z28
                          refine J.iconst (q := 166) (v := (0 : Int32)) O dX12_vote_165 rfl rfl ?_
                          exact J.sub [1, 2] rfl (j_X12_vote_b166 hG O hR h)
                        · replace h := h.2 z28
                          refine J.iconst (q := 162) (v := (1 : Int32)) O dX12_vote_161 rfl rfl ?_
                          refine J.goto (q := 166) O dX12_vote_162 (by decide) ?_
                          exact J.sub [1, 2] rfl (j_X12_vote_b166 hG O hR h)
                      · replace h := h.2 z25
                        refine J.aload_n (q := 141) O dX12_vote_140 rfl 1 rfl ?_
                        refine J.bipush (q := 143) (v := (-6 : Int32)) O dX12_vote_141 rfl rfl ?_
                        refine J.callVI (q := 146) [.int (-6 : Int32)] [] [.int (-6 : Int32), .ref (ad G 287)] rfl O dX12_vote_143 rfl (c_X12_refuse hG h) wd_7_158 mw_X12_refuse io_287 rfl (by decide) (Nat.le_of_ble_eq_true rfl) (fun v29 M29 h => ?_)
                        exact hR _ _ _ _ dX12_vote_146 h
                    · replace h := h.2 z23
                      exact J.sub [1] rfl (j_X12_vote_b122 hG O hR h)
          · replace h := h.2 z17
            exact J.sub [0] rfl (j_X12_vote_b70 hG O hR h)
  · replace h := h.2 z9
    refine J.aload_n (q := 9) O dX12_vote_8 rfl 0 rfl ?_
    refine J.iconst (q := 10) (v := (-1 : Int32)) O dX12_vote_9 rfl rfl ?_
    refine J.callVI (q := 13) [.int (-1 : Int32)] [] [.int (-1 : Int32), .ref (ad G 287)] rfl O dX12_vote_10 rfl (c_X12_refuse hG h) wd_7_158 mw_X12_refuse io_287 rfl (by decide) (Nat.le_of_ble_eq_true rfl) (fun v30 M30 h => ?_)
    exact hR _ _ _ _ dX12_vote_13 h
set_option maxHeartbeats 4000000 in
set_option maxRecDepth 20000 in
theorem c_X12_isSession {l : Launch} {G : GX} (hG : Gd G) {a1 : Int32} {M : Mem} {K : Int32 → Mem → Prop} (h : f_X12_isSession a1 M K) : CI l G yX12_isSession cX12_isSession 2 (some .boolean) 2 [.ref (ad G 287), .int a1] M K := by
  unfold f_X12_isSession at h
  refine CZ.mk hG (by decide) [(0, .ref (ad G 287)), (1, .int a1)] rfl (Nat.le_of_ble_eq_true rfl) (fun X O hlX hR => ?_)
  subst hlX
  refine J.iload_n (q := 1) O dX12_isSession_0 rfl 1 rfl ?_
  refine J.iconst (q := 2) (v := (0 : Int32)) O dX12_isSession_1 rfl rfl ?_
  refine J.aload_n (q := 3) O dX12_isSession_2 rfl 0 rfl ?_
  refine J.getI (q := 6) (c' := 287) (ci := 12) (k := 52) (M 287 52) rfl O dX12_isSession_3 rfl wd_6_124 (by decide) if_287_52 ?_
  refine J.iconst (q := 7) (v := (1 : Int32)) O dX12_isSession_6 rfl rfl ?_
  refine J.isub (q := 8) O dX12_isSession_7 rfl ?_
  refine J.callSI (q := 11) [.int a1, .int (0 : Int32), .int ((M 287 52) - (1 : Int32))] [] [.int ((M 287 52) - (1 : Int32)), .int (0 : Int32), .int a1] rfl O dX12_isSession_8 rfl (c_X12_in hG h) wd_7_181 mw_X12_in rfl (by decide) (Nat.le_of_ble_eq_true rfl) (fun v1 M1 h => ?_)
  exact hR _ _ _ _ dX12_isSession_11 h.1 h.2
set_option maxHeartbeats 4000000 in
set_option maxRecDepth 20000 in
theorem j_X12_sessionOf_b96 {X : CX} {G : GX} {K : Int32 → Mem → Prop} (hG : Gd G) (O : Ok X G cX12_sessionOf 3 RX12 3) (hR : RetI X G cX12_sessionOf K) {s0 : Int32} {M : Mem} (h : f_X12_sessionOf_b96 K s0 M) : J X G M 96 [] [.int s0] := by
  unfold f_X12_sessionOf_b96 at h
  exact hR _ _ _ _ dX12_sessionOf_96 h
set_option maxHeartbeats 4000000 in
set_option maxRecDepth 20000 in
theorem c_X12_sessionOf {l : Launch} {G : GX} (hG : Gd G) {a1 : Int32} {a2 : Int32} {M : Mem} {K : Int32 → Mem → Prop} (h : f_X12_sessionOf a1 a2 M K) : CI l G yX12_sessionOf cX12_sessionOf 3 (some .int) 3 [.ref (ad G 287), .int a1, .int a2] M K := by
  unfold f_X12_sessionOf at h
  refine CI.mk hG (by decide) [(0, .ref (ad G 287)), (1, .int a1), (2, .int a2)] rfl (Nat.le_of_ble_eq_true rfl) (fun X O hlX hR => ?_)
  subst hlX
  refine J.aload_n (q := 1) O dX12_sessionOf_0 rfl 0 rfl ?_
  refine J.iload_n (q := 2) O dX12_sessionOf_1 rfl 1 rfl ?_
  refine J.callVI (q := 5) [.int a1] [] [.int a1, .ref (ad G 287)] rfl O dX12_sessionOf_2 rfl (c_X12_isSession hG h) wd_8_130 mw_X12_isSession io_287 rfl (by decide) (Nat.le_of_ble_eq_true rfl) (fun v5 M5 h => ?_)
  refine J.if_ne (q := 8) (tgt := 14) O dX12_sessionOf_5 rfl (by decide) (fun z6 => ?_) (fun z6 => ?_)
  · replace h := h.1 z6
    refine J.iload_n (q := 15) O dX12_sessionOf_14 rfl 2 rfl ?_
    refine J.iconst (q := 16) (v := (0 : Int32)) O dX12_sessionOf_15 rfl rfl ?_
    refine J.iconst (q := 17) (v := (3 : Int32)) O dX12_sessionOf_16 rfl rfl ?_
    refine J.callSI (q := 20) [.int a2, .int (0 : Int32), .int (3 : Int32)] [] [.int (3 : Int32), .int (0 : Int32), .int a2] rfl O dX12_sessionOf_17 rfl (c_X12_in hG h) wd_7_181 mw_X12_in rfl (by decide) (Nat.le_of_ble_eq_true rfl) (fun v7 M7 h => ?_)
    refine J.if_ne (q := 23) (tgt := 30) O dX12_sessionOf_20 rfl (by decide) (fun z8 => ?_) (fun z8 => ?_)
    · replace h := h.1 z8
      refine J.iload_n (q := 31) O dX12_sessionOf_30 rfl 2 rfl ?_
      refine J.if_ne (q := 34) (tgt := 43) O dX12_sessionOf_31 rfl (by decide) (fun z9 => ?_) (fun z9 => ?_)
      · replace h := h.1 z9
        refine J.iload_n (q := 44) O dX12_sessionOf_43 rfl 2 rfl ?_
        refine J.iconst (q := 45) (v := (1 : Int32)) O dX12_sessionOf_44 rfl rfl ?_
        refine J.icmp_ne (q := 48) (tgt := 57) O dX12_sessionOf_45 rfl (by decide) (fun z10 => ?_) (fun z10 => ?_)
        · replace h := h.1 z10
          refine J.iload_n (q := 58) O dX12_sessionOf_57 rfl 2 rfl ?_
          refine J.iconst (q := 59) (v := (2 : Int32)) O dX12_sessionOf_58 rfl rfl ?_
          refine J.icmp_ne (q := 62) (tgt := 79) O dX12_sessionOf_59 rfl (by decide) (fun z11 => ?_) (fun z11 => ?_)
          · replace h := h.1 z11
            refine J.aload_n (q := 80) O dX12_sessionOf_79 rfl 0 rfl ?_
            refine J.getR (q := 83) (c' := 287) (ci := 12) (k := 56) (r := 329) O dX12_sessionOf_80 rfl wd_6_128 (by decide) if_287_56 ?_
            refine J.iload_n (q := 84) O dX12_sessionOf_83 rfl 1 rfl ?_
            obtain ⟨hv12, h⟩ := h
            refine J.iald (q := 85) (c' := 329) (j := a1.toNatClampNeg) (M7 329 a1.toNatClampNeg) rfl O dX12_sessionOf_84 rfl ar_329 hv12 rfl ?_
            refine J.ldcw (q := 88) O dX12_sessionOf_85 rfl wd_8_0 ?_
            refine J.icmp_ge (q := 91) (tgt := 95) O dX12_sessionOf_88 rfl (by decide) (fun z13 => ?_) (fun z13 => ?_)
            · replace h := h.1 z13
              refine J.iconst (q := 96) (v := (0 : Int32)) O dX12_sessionOf_95 rfl rfl ?_
              exact J.sub [] rfl (j_X12_sessionOf_b96 hG O hR h)
            · replace h := h.2 z13
              refine J.iconst (q := 92) (v := (1 : Int32)) O dX12_sessionOf_91 rfl rfl ?_
              refine J.goto (q := 96) O dX12_sessionOf_92 (by decide) ?_
              exact J.sub [] rfl (j_X12_sessionOf_b96 hG O hR h)
          · replace h := h.2 z11
            refine J.aload_n (q := 63) O dX12_sessionOf_62 rfl 0 rfl ?_
            refine J.getR (q := 66) (c' := 287) (ci := 12) (k := 55) (r := 328) O dX12_sessionOf_63 rfl wd_6_127 (by decide) if_287_55 ?_
            refine J.iload_n (q := 67) O dX12_sessionOf_66 rfl 1 rfl ?_
            obtain ⟨hv14, h⟩ := h
            refine J.zald (q := 68) (c' := 328) (j := a1.toNatClampNeg) (M7 328 a1.toNatClampNeg) rfl O dX12_sessionOf_67 rfl ar_328 hv14 rfl ?_
            refine J.if_eq (q := 71) (tgt := 75) O dX12_sessionOf_68 rfl (by decide) (fun z15 => ?_) (fun z15 => ?_)
            · replace h := h.1 z15
              refine J.iconst (q := 76) (v := (0 : Int32)) O dX12_sessionOf_75 rfl rfl ?_
              refine J.goto (q := 96) O dX12_sessionOf_76 (by decide) ?_
              exact J.sub [] rfl (j_X12_sessionOf_b96 hG O hR h)
            · replace h := h.2 z15
              refine J.iconst (q := 72) (v := (1 : Int32)) O dX12_sessionOf_71 rfl rfl ?_
              refine J.goto (q := 96) O dX12_sessionOf_72 (by decide) ?_
              exact J.sub [] rfl (j_X12_sessionOf_b96 hG O hR h)
        · replace h := h.2 z10
          refine J.aload_n (q := 49) O dX12_sessionOf_48 rfl 0 rfl ?_
          refine J.getR (q := 52) (c' := 287) (ci := 12) (k := 54) (r := 327) O dX12_sessionOf_49 rfl wd_6_126 (by decide) if_287_54 ?_
          refine J.iload_n (q := 53) O dX12_sessionOf_52 rfl 1 rfl ?_
          obtain ⟨hv16, h⟩ := h
          refine J.iald (q := 54) (c' := 327) (j := a1.toNatClampNeg) (M7 327 a1.toNatClampNeg) rfl O dX12_sessionOf_53 rfl ar_327 hv16 rfl ?_
          refine J.goto (q := 96) O dX12_sessionOf_54 (by decide) ?_
          exact J.sub [] rfl (j_X12_sessionOf_b96 hG O hR h)
      · replace h := h.2 z9
        refine J.aload_n (q := 35) O dX12_sessionOf_34 rfl 0 rfl ?_
        refine J.getR (q := 38) (c' := 287) (ci := 12) (k := 53) (r := 326) O dX12_sessionOf_35 rfl wd_6_125 (by decide) if_287_53 ?_
        refine J.iload_n (q := 39) O dX12_sessionOf_38 rfl 1 rfl ?_
        obtain ⟨hv17, h⟩ := h
        refine J.iald (q := 40) (c' := 326) (j := a1.toNatClampNeg) (M7 326 a1.toNatClampNeg) rfl O dX12_sessionOf_39 rfl ar_326 hv17 rfl ?_
        refine J.goto (q := 96) O dX12_sessionOf_40 (by decide) ?_
        exact J.sub [] rfl (j_X12_sessionOf_b96 hG O hR h)
    · replace h := h.2 z8
      refine J.aload_n (q := 24) O dX12_sessionOf_23 rfl 0 rfl ?_
      refine J.bipush (q := 26) (v := (-2 : Int32)) O dX12_sessionOf_24 rfl rfl ?_
      refine J.callVI (q := 29) [.int (-2 : Int32)] [] [.int (-2 : Int32), .ref (ad G 287)] rfl O dX12_sessionOf_26 rfl (c_X12_refuse hG h) wd_7_158 mw_X12_refuse io_287 rfl (by decide) (Nat.le_of_ble_eq_true rfl) (fun v18 M18 h => ?_)
      exact hR _ _ _ _ dX12_sessionOf_29 h
  · replace h := h.2 z6
    refine J.aload_n (q := 9) O dX12_sessionOf_8 rfl 0 rfl ?_
    refine J.iconst (q := 10) (v := (-1 : Int32)) O dX12_sessionOf_9 rfl rfl ?_
    refine J.callVI (q := 13) [.int (-1 : Int32)] [] [.int (-1 : Int32), .ref (ad G 287)] rfl O dX12_sessionOf_10 rfl (c_X12_refuse hG h) wd_7_158 mw_X12_refuse io_287 rfl (by decide) (Nat.le_of_ble_eq_true rfl) (fun v19 M19 h => ?_)
    exact hR _ _ _ _ dX12_sessionOf_13 h
set_option maxHeartbeats 4000000 in
set_option maxRecDepth 20000 in
theorem j_X12_voids_b35 {X : CX} {G : GX} {K : Int32 → Mem → Prop} (hG : Gd G) (O : Ok X G cX12_voids 5 RX12 3) (hR : RetI X G cX12_voids K) {M : Mem} (h : f_X12_voids_b35 K  M) : J X G M 35 [(0, .ref (ad G 287))] [] := by
  unfold f_X12_voids_b35 at h
  refine J.aload_n (q := 36) O dX12_voids_35 rfl 0 rfl ?_
  refine J.bipush (q := 38) (v := (-3 : Int32)) O dX12_voids_36 rfl rfl ?_
  refine J.callVI (q := 41) [.int (-3 : Int32)] [] [.int (-3 : Int32), .ref (ad G 287)] rfl O dX12_voids_38 rfl (c_X12_refuse hG h) wd_7_158 mw_X12_refuse io_287 rfl (by decide) (Nat.le_of_ble_eq_true rfl) (fun v7 M7 h => ?_)
  exact hR _ _ _ _ dX12_voids_41 h
set_option maxHeartbeats 4000000 in
set_option maxRecDepth 20000 in
theorem j_X12_voids_b114 {X : CX} {G : GX} {K : Int32 → Mem → Prop} (hG : Gd G) (O : Ok X G cX12_voids 5 RX12 3) (hR : RetI X G cX12_voids K) {r56 : Int32 × Int32 × Int32 × Mem → Prop} (hr56 : ∀ a : Int32 × Int32 × Int32 × Mem, r56 a → J X G a.2.2.2 56 [(0, .ref (ad G 287)), (1, .int a.1), (2, .int a.2.1), (3, .int a.2.2.1)] []) {r70 : Int32 × Int32 × Int32 × Int32 × Mem → Prop} (hr70 : ∀ a : Int32 × Int32 × Int32 × Int32 × Mem, r70 a → J X G a.2.2.2.2 70 [(0, .ref (ad G 287)), (1, .int a.1), (2, .int a.2.1), (3, .int a.2.2.1), (4, .int a.2.2.2.1)] []) {x1 : Int32} {x3 : Int32} {x4 : Int32} {s0 : Int32} {s1 : Int32} {M : Mem} (h : f_X12_voids_b114 r56 r70 K x1 x3 x4 s0 s1 M) : J X G M 114 [(0, .ref (ad G 287)), (1, .int x1), (3, .int x3), (4, .int x4)] [.int s0, .int s1] := by
  unfold f_X12_voids_b114 at h
  refine J.iadd (q := 115) O dX12_voids_114 rfl ?_
  refine J.istore_n (q := 116) O dX12_voids_115 rfl [(2, .int (s1 + s0)), (0, .ref (ad G 287)), (1, .int x1), (3, .int x3), (4, .int x4)] (by decide) rfl ?_
  refine J.iinc (q := 119) O dX12_voids_116 rfl [(4, .int (x4 + (1 : Int32))), (2, .int (s1 + s0)), (0, .ref (ad G 287)), (1, .int x1), (3, .int x3)] 4 rfl rfl (by decide) rfl ?_
  refine J.goto (q := 70) O dX12_voids_119 (by decide) ?_
  exact J.sub [2, 3, 1, 4, 0] rfl (hr70 _ h)
set_option maxHeartbeats 4000000 in
set_option maxRecDepth 20000 in
theorem j_X12_voids_b113 {X : CX} {G : GX} {K : Int32 → Mem → Prop} (hG : Gd G) (O : Ok X G cX12_voids 5 RX12 3) (hR : RetI X G cX12_voids K) {r56 : Int32 × Int32 × Int32 × Mem → Prop} (hr56 : ∀ a : Int32 × Int32 × Int32 × Mem, r56 a → J X G a.2.2.2 56 [(0, .ref (ad G 287)), (1, .int a.1), (2, .int a.2.1), (3, .int a.2.2.1)] []) {r70 : Int32 × Int32 × Int32 × Int32 × Mem → Prop} (hr70 : ∀ a : Int32 × Int32 × Int32 × Int32 × Mem, r70 a → J X G a.2.2.2.2 70 [(0, .ref (ad G 287)), (1, .int a.1), (2, .int a.2.1), (3, .int a.2.2.1), (4, .int a.2.2.2.1)] []) {x1 : Int32} {x3 : Int32} {x4 : Int32} {s0 : Int32} {M : Mem} (h : f_X12_voids_b113 r56 r70 K x1 x3 x4 s0 M) : J X G M 113 [(0, .ref (ad G 287)), (1, .int x1), (3, .int x3), (4, .int x4)] [.int s0] := by
  unfold f_X12_voids_b113 at h
  refine J.iconst (q := 114) (v := (0 : Int32)) O dX12_voids_113 rfl rfl ?_
  exact J.sub [0, 1, 2, 3] rfl (j_X12_voids_b114 hG O hR hr56 hr70 h)
set_option maxHeartbeats 4000000 in
set_option maxRecDepth 20000 in
theorem j_X12_voids_c70 {X : CX} {G : GX} {K : Int32 → Mem → Prop} (hG : Gd G) (O : Ok X G cX12_voids 5 RX12 3) (hR : RetI X G cX12_voids K) {r56 : Int32 × Int32 × Int32 × Mem → Prop} (hr56 : ∀ a : Int32 × Int32 × Int32 × Mem, r56 a → J X G a.2.2.2 56 [(0, .ref (ad G 287)), (1, .int a.1), (2, .int a.2.1), (3, .int a.2.2.1)] []) {a : Int32 × Int32 × Int32 × Int32 × Mem} (h : Lp (fun (r70 : Int32 × Int32 × Int32 × Int32 × Mem → Prop) a => f_X12_voids_c70 r56 K r70 a.1 a.2.1 a.2.2.1 a.2.2.2.1 a.2.2.2.2) a) : J X G a.2.2.2.2 70 [(0, .ref (ad G 287)), (1, .int a.1), (2, .int a.2.1), (3, .int a.2.2.1), (4, .int a.2.2.2.1)] [] := by
  refine Lp.elim (P := fun a => J X G a.2.2.2.2 70 [(0, .ref (ad G 287)), (1, .int a.1), (2, .int a.2.1), (3, .int a.2.2.1), (4, .int a.2.2.2.1)] []) ?_ h
  clear h
  intro r70 hr70 a h
  obtain ⟨x1, x2, x3, x4, M⟩ := a
  unfold f_X12_voids_c70 at h
  (try dsimp only at h ⊢)
  refine J.iload (q := 72) O dX12_voids_70 rfl 4 rfl ?_
  refine J.bipush (q := 74) (v := (30 : Int32)) O dX12_voids_72 rfl rfl ?_
  refine J.iload_n (q := 75) O dX12_voids_74 rfl 3 rfl ?_
  refine J.imul (q := 76) O dX12_voids_75 rfl ?_
  refine J.aload_n (q := 77) O dX12_voids_76 rfl 0 rfl ?_
  refine J.getR (q := 80) (c' := 287) (ci := 12) (k := 42) (r := 317) O dX12_voids_77 rfl wd_6_114 (by decide) if_287_42 ?_
  refine J.iload_n (q := 81) O dX12_voids_80 rfl 3 rfl ?_
  obtain ⟨hv8, h⟩ := h
  refine J.iald (q := 82) (c' := 317) (j := x3.toNatClampNeg) (M 317 x3.toNatClampNeg) rfl O dX12_voids_81 rfl ar_317 hv8 rfl ?_
  refine J.iadd (q := 83) O dX12_voids_82 rfl ?_
  refine J.icmp_ge (q := 86) (tgt := 122) O dX12_voids_83 rfl (by decide) (fun z9 => ?_) (fun z9 => ?_)
  · replace h := h.1 z9
    refine J.iinc (q := 125) O dX12_voids_122 rfl [(3, .int (x3 + (1 : Int32))), (0, .ref (ad G 287)), (1, .int x1), (2, .int x2), (4, .int x4)] 3 rfl rfl (by decide) rfl ?_
    refine J.goto (q := 56) O dX12_voids_125 (by decide) ?_
    exact J.sub [1, 2, 3, 0] rfl (hr56 _ h)
  · replace h := h.2 z9
    refine J.iload_n (q := 87) O dX12_voids_86 rfl 2 rfl ?_
    refine J.aload_n (q := 88) O dX12_voids_87 rfl 0 rfl ?_
    refine J.getR (q := 91) (c' := 287) (ci := 12) (k := 43) (r := 318) O dX12_voids_88 rfl wd_6_115 (by decide) if_287_43 ?_
    refine J.iload (q := 93) O dX12_voids_91 rfl 4 rfl ?_
    obtain ⟨hv10, h⟩ := h
    refine J.iald (q := 94) (c' := 318) (j := x4.toNatClampNeg) (M 318 x4.toNatClampNeg) rfl O dX12_voids_93 rfl ar_318 hv10 rfl ?_
    refine J.iconst (q := 95) (v := (3 : Int32)) O dX12_voids_94 rfl rfl ?_
    refine J.icmp_ne (q := 98) (tgt := 113) O dX12_voids_95 rfl (by decide) (fun z11 => ?_) (fun z11 => ?_)
    · replace h := h.1 z11
      exact J.sub [0, 1, 3, 4] rfl (j_X12_voids_b113 hG O hR hr56 hr70 h)
    · replace h := h.2 z11
      refine J.aload_n (q := 99) O dX12_voids_98 rfl 0 rfl ?_
      refine J.getR (q := 102) (c' := 287) (ci := 12) (k := 46) (r := 321) O dX12_voids_99 rfl wd_6_118 (by decide) if_287_46 ?_
      refine J.iload (q := 104) O dX12_voids_102 rfl 4 rfl ?_
      obtain ⟨hv12, h⟩ := h
      refine J.iald (q := 105) (c' := 321) (j := x4.toNatClampNeg) (M 321 x4.toNatClampNeg) rfl O dX12_voids_104 rfl ar_321 hv12 rfl ?_
      refine J.iload_n (q := 106) O dX12_voids_105 rfl 1 rfl ?_
      refine J.icmp_ne (q := 109) (tgt := 113) O dX12_voids_106 rfl (by decide) (fun z13 => ?_) (fun z13 => ?_)
      · replace h := h.1 z13
        exact J.sub [0, 1, 3, 4] rfl (j_X12_voids_b113 hG O hR hr56 hr70 h)
      · replace h := h.2 z13
        refine J.iconst (q := 110) (v := (1 : Int32)) O dX12_voids_109 rfl rfl ?_
        refine J.goto (q := 114) O dX12_voids_110 (by decide) ?_
        exact J.sub [0, 1, 3, 4] rfl (j_X12_voids_b114 hG O hR hr56 hr70 h)
set_option maxHeartbeats 4000000 in
set_option maxRecDepth 20000 in
theorem j_X12_voids_c56 {X : CX} {G : GX} {K : Int32 → Mem → Prop} (hG : Gd G) (O : Ok X G cX12_voids 5 RX12 3) (hR : RetI X G cX12_voids K) {a : Int32 × Int32 × Int32 × Mem} (h : Lp (fun (r56 : Int32 × Int32 × Int32 × Mem → Prop) a => f_X12_voids_c56 K r56 a.1 a.2.1 a.2.2.1 a.2.2.2) a) : J X G a.2.2.2 56 [(0, .ref (ad G 287)), (1, .int a.1), (2, .int a.2.1), (3, .int a.2.2.1)] [] := by
  refine Lp.elim (P := fun a => J X G a.2.2.2 56 [(0, .ref (ad G 287)), (1, .int a.1), (2, .int a.2.1), (3, .int a.2.2.1)] []) ?_ h
  clear h
  intro r56 hr56 a h
  obtain ⟨x1, x2, x3, M⟩ := a
  unfold f_X12_voids_c56 at h
  (try dsimp only at h ⊢)
  refine J.iload_n (q := 57) O dX12_voids_56 rfl 3 rfl ?_
  refine J.aload_n (q := 58) O dX12_voids_57 rfl 0 rfl ?_
  refine J.getI (q := 61) (c' := 287) (ci := 12) (k := 32) (M 287 32) rfl O dX12_voids_58 rfl wd_6_104 (by decide) if_287_32 ?_
  refine J.icmp_ge (q := 64) (tgt := 128) O dX12_voids_61 rfl (by decide) (fun z14 => ?_) (fun z14 => ?_)
  · replace h := h.1 z14
    refine J.iload_n (q := 129) O dX12_voids_128 rfl 2 rfl ?_
    exact hR _ _ _ _ dX12_voids_129 h
  · replace h := h.2 z14
    refine J.bipush (q := 66) (v := (30 : Int32)) O dX12_voids_64 rfl rfl ?_
    refine J.iload_n (q := 67) O dX12_voids_66 rfl 3 rfl ?_
    refine J.imul (q := 68) O dX12_voids_67 rfl ?_
    refine J.istore (q := 70) O dX12_voids_68 rfl [(4, .int ((30 : Int32) * x3)), (0, .ref (ad G 287)), (1, .int x1), (2, .int x2), (3, .int x3)] (by decide) rfl ?_
    exact J.sub [1, 2, 3, 4, 0] rfl (j_X12_voids_c70 hG O hR hr56 h)
set_option maxHeartbeats 4000000 in
set_option maxRecDepth 20000 in
theorem c_X12_voids {l : Launch} {G : GX} (hG : Gd G) {a1 : Int32} {M : Mem} {K : Int32 → Mem → Prop} (h : f_X12_voids a1 M K) : CI l G yX12_voids cX12_voids 5 (some .int) 3 [.ref (ad G 287), .int a1] M K := by
  unfold f_X12_voids at h
  refine CI.mk hG (by decide) [(0, .ref (ad G 287)), (1, .int a1)] rfl (Nat.le_of_ble_eq_true rfl) (fun X O hlX hR => ?_)
  subst hlX
  refine J.aload_n (q := 1) O dX12_voids_0 rfl 0 rfl ?_
  refine J.iload_n (q := 2) O dX12_voids_1 rfl 1 rfl ?_
  refine J.callVI (q := 5) [.int a1] [] [.int a1, .ref (ad G 287)] rfl O dX12_voids_2 rfl (c_X12_isSession hG h) wd_8_130 mw_X12_isSession io_287 rfl (by decide) (Nat.le_of_ble_eq_true rfl) (fun v15 M15 h => ?_)
  refine J.if_ne (q := 8) (tgt := 14) O dX12_voids_5 rfl (by decide) (fun z16 => ?_) (fun z16 => ?_)
  · replace h := h.1 z16
    refine J.aload_n (q := 15) O dX12_voids_14 rfl 0 rfl ?_
    refine J.getR (q := 18) (c' := 287) (ci := 12) (k := 55) (r := 328) O dX12_voids_15 rfl wd_6_127 (by decide) if_287_55 ?_
    refine J.iload_n (q := 19) O dX12_voids_18 rfl 1 rfl ?_
    obtain ⟨hv17, h⟩ := h
    refine J.zald (q := 20) (c' := 328) (j := a1.toNatClampNeg) (M15 328 a1.toNatClampNeg) rfl O dX12_voids_19 rfl ar_328 hv17 rfl ?_
    refine J.if_ne (q := 23) (tgt := 35) O dX12_voids_20 rfl (by decide) (fun z18 => ?_) (fun z18 => ?_)
    · replace h := h.1 z18
      exact J.sub [0] rfl (j_X12_voids_b35 hG O hR h)
    · replace h := h.2 z18
      refine J.aload_n (q := 24) O dX12_voids_23 rfl 0 rfl ?_
      refine J.getR (q := 27) (c' := 287) (ci := 12) (k := 56) (r := 329) O dX12_voids_24 rfl wd_6_128 (by decide) if_287_56 ?_
      refine J.iload_n (q := 28) O dX12_voids_27 rfl 1 rfl ?_
      obtain ⟨hv19, h⟩ := h
      refine J.iald (q := 29) (c' := 329) (j := a1.toNatClampNeg) (M15 329 a1.toNatClampNeg) rfl O dX12_voids_28 rfl ar_329 hv19 rfl ?_
      refine J.ldcw (q := 32) O dX12_voids_29 rfl wd_8_0 ?_
      refine J.icmp_ge (q := 35) (tgt := 42) O dX12_voids_32 rfl (by decide) (fun z20 => ?_) (fun z20 => ?_)
      · replace h := h.1 z20
        refine J.aload_n (q := 43) O dX12_voids_42 rfl 0 rfl ?_
        refine J.getR (q := 46) (c' := 287) (ci := 12) (k := 56) (r := 329) O dX12_voids_43 rfl wd_6_128 (by decide) if_287_56 ?_
        refine J.iload_n (q := 47) O dX12_voids_46 rfl 1 rfl ?_
        refine J.aload_n (q := 48) O dX12_voids_47 rfl 0 rfl ?_
        refine J.getI (q := 51) (c' := 287) (ci := 12) (k := 0) (M15 287 0) rfl O dX12_voids_48 rfl wd_6_72 (by decide) if_287_0 ?_
        obtain ⟨hv21, h⟩ := h
        refine J.iast (q := 52) (c' := 329) (j := a1.toNatClampNeg) O dX12_voids_51 rfl ar_329 hv21 rfl ?_
        refine J.iconst (q := 53) (v := (0 : Int32)) O dX12_voids_52 rfl rfl ?_
        refine J.istore_n (q := 54) O dX12_voids_53 rfl [(2, .int (0 : Int32)), (0, .ref (ad G 287)), (1, .int a1)] (by decide) rfl ?_
        refine J.iconst (q := 55) (v := (0 : Int32)) O dX12_voids_54 rfl rfl ?_
        refine J.istore_n (q := 56) O dX12_voids_55 rfl [(3, .int (0 : Int32)), (2, .int (0 : Int32)), (0, .ref (ad G 287)), (1, .int a1)] (by decide) rfl ?_
        exact J.sub [2, 3, 1, 0] rfl (j_X12_voids_c56 hG O hR h)
      · replace h := h.2 z20
        exact J.sub [0] rfl (j_X12_voids_b35 hG O hR h)
  · replace h := h.2 z16
    refine J.aload_n (q := 9) O dX12_voids_8 rfl 0 rfl ?_
    refine J.iconst (q := 10) (v := (-1 : Int32)) O dX12_voids_9 rfl rfl ?_
    refine J.callVI (q := 13) [.int (-1 : Int32)] [] [.int (-1 : Int32), .ref (ad G 287)] rfl O dX12_voids_10 rfl (c_X12_refuse hG h) wd_7_158 mw_X12_refuse io_287 rfl (by decide) (Nat.le_of_ble_eq_true rfl) (fun v22 M22 h => ?_)
    exact hR _ _ _ _ dX12_voids_13 h
set_option maxHeartbeats 4000000 in
set_option maxRecDepth 20000 in
theorem j_X12_set_b80 {X : CX} {G : GX} {K : Int32 → Mem → Prop} (hG : Gd G) (O : Ok X G cX12_set 4 RX12 2) (hR : RetI X G cX12_set K) {x1 : Int32} {x2 : Int32} {s0 : Int32} {s1 : Int32} {M : Mem} (h : f_X12_set_b80 K x1 x2 s0 s1 M) : J X G M 80 [(0, .ref (ad G 287)), (1, .int x1), (2, .int x2)] [.int s0, .int s1] := by
  unfold f_X12_set_b80 at h
  refine J.icmp_le (q := 83) (tgt := 90) O dX12_set_80 rfl (by decide) (fun z3 => ?_) (fun z3 => ?_)
  · replace h := h.1 z3
    refine J.aload_n (q := 91) O dX12_set_90 rfl 0 rfl ?_
    refine J.getR (q := 94) (c' := 287) (ci := 12) (k := 51) (r := 325) O dX12_set_91 rfl wd_6_123 (by decide) if_287_51 ?_
    refine J.iload_n (q := 95) O dX12_set_94 rfl 1 rfl ?_
    obtain ⟨hv4, h⟩ := h
    refine J.iald (q := 96) (c' := 325) (j := x1.toNatClampNeg) (M 325 x1.toNatClampNeg) rfl O dX12_set_95 rfl ar_325 hv4 rfl ?_
    refine J.istore_n (q := 97) O dX12_set_96 rfl [(3, .int (M 325 x1.toNatClampNeg)), (0, .ref (ad G 287)), (1, .int x1), (2, .int x2)] (by decide) rfl ?_
    refine J.aload_n (q := 98) O dX12_set_97 rfl 1 rfl ?_
    refine J.getR (q := 101) (c' := 287) (ci := 12) (k := 51) (r := 325) O dX12_set_98 rfl wd_6_123 (by decide) if_287_51 ?_
    refine J.iload_n (q := 102) O dX12_set_101 rfl 2 rfl ?_
    refine J.iload_n (q := 103) O dX12_set_102 rfl 3 rfl ?_
    obtain ⟨hv5, h⟩ := h
    refine J.iast (q := 104) (c' := 325) (j := x1.toNatClampNeg) O dX12_set_103 rfl ar_325 hv5 rfl ?_
    refine J.aload_n (q := 105) O dX12_set_104 rfl 1 rfl ?_
    refine J.iconst (q := 106) (v := (-1 : Int32)) O dX12_set_105 rfl rfl ?_
    refine J.putI (q := 109) (c' := 287) (ci := 12) (k := 89) O dX12_set_106 rfl wd_6_161 (by decide) if_287_89 rfl rfl ?_
    refine J.iload_n (q := 110) O dX12_set_109 rfl 0 rfl ?_
    exact hR _ _ _ _ dX12_set_110 h
  · replace h := h.2 z3
    refine J.aload_n (q := 84) O dX12_set_83 rfl 0 rfl ?_
    refine J.bipush (q := 86) (v := (-6 : Int32)) O dX12_set_84 rfl rfl ?_
    refine J.callVI (q := 89) [.int (-6 : Int32)] [] [.int (-6 : Int32), .ref (ad G 287)] rfl O dX12_set_86 rfl (c_X12_refuse hG h) wd_7_158 mw_X12_refuse io_287 rfl (by decide) (Nat.le_of_ble_eq_true rfl) (fun v6 M6 h => ?_)
    exact hR _ _ _ _ dX12_set_89 h
set_option maxHeartbeats 4000000 in
set_option maxRecDepth 20000 in
theorem j_X12_set_b27 {X : CX} {G : GX} {K : Int32 → Mem → Prop} (hG : Gd G) (O : Ok X G cX12_set 4 RX12 2) (hR : RetI X G cX12_set K) {x1 : Int32} {x2 : Int32} {s0 : Int32} {s1 : Int32} {M : Mem} (h : f_X12_set_b27 K x1 x2 s0 s1 M) : J X G M 27 [(0, .ref (ad G 287)), (1, .int x1), (2, .int x2)] [.int s0, .int s1] := by
  unfold f_X12_set_b27 at h
  refine J.icmp_ge (q := 30) (tgt := 37) O dX12_set_27 rfl (by decide) (fun z7 => ?_) (fun z7 => ?_)
  · replace h := h.1 z7
    refine J.iload_n (q := 38) O dX12_set_37 rfl 2 rfl ?_
    refine J.iload_n (q := 39) O dX12_set_38 rfl 1 rfl ?_
    refine J.if_ne (q := 42) (tgt := 47) O dX12_set_39 rfl (by decide) (fun z8 => ?_) (fun z8 => ?_)
    · replace h := h.1 z8
      refine J.iload_n (q := 48) O dX12_set_47 rfl 1 rfl ?_
      refine J.iconst (q := 49) (v := (1 : Int32)) O dX12_set_48 rfl rfl ?_
      refine J.icmp_ne (q := 52) (tgt := 58) O dX12_set_49 rfl (by decide) (fun z9 => ?_) (fun z9 => ?_)
      · replace h := h.1 z9
        refine J.iload_n (q := 59) O dX12_set_58 rfl 1 rfl ?_
        refine J.iconst (q := 60) (v := (2 : Int32)) O dX12_set_59 rfl rfl ?_
        refine J.icmp_ne (q := 63) (tgt := 69) O dX12_set_60 rfl (by decide) (fun z10 => ?_) (fun z10 => ?_)
        · replace h := h.1 z10
          refine J.iload_n (q := 70) O dX12_set_69 rfl 1 rfl ?_
          refine J.iconst (q := 71) (v := (3 : Int32)) O dX12_set_70 rfl rfl ?_
          refine J.icmp_ne (q := 74) (tgt := 79) O dX12_set_71 rfl (by decide) (fun z11 => ?_) (fun z11 => ?_)
          · replace h := h.1 z11
            refine J.iconst (q := 80) (v := (4 : Int32)) O dX12_set_79 rfl rfl ?_
            exact J.sub [0, 1, 2] rfl (j_X12_set_b80 hG O hR h)
          · replace h := h.2 z11
            refine J.bipush (q := 76) (v := (9 : Int32)) O dX12_set_74 rfl rfl ?_
            refine J.goto (q := 80) O dX12_set_76 (by decide) ?_
            exact J.sub [0, 1, 2] rfl (j_X12_set_b80 hG O hR h)
        · replace h := h.2 z10
          refine J.sipush (q := 66) (v := (1000 : Int32)) O dX12_set_63 rfl rfl ?_
          refine J.goto (q := 80) O dX12_set_66 (by decide) ?_
          exact J.sub [0, 1, 2] rfl (j_X12_set_b80 hG O hR h)
      · replace h := h.2 z9
        refine J.sipush (q := 55) (v := (200 : Int32)) O dX12_set_52 rfl rfl ?_
        refine J.goto (q := 80) O dX12_set_55 (by decide) ?_
        exact J.sub [0, 1, 2] rfl (j_X12_set_b80 hG O hR h)
    · replace h := h.2 z8
      refine J.bipush (q := 44) (v := (20 : Int32)) O dX12_set_42 rfl rfl ?_
      refine J.goto (q := 80) O dX12_set_44 (by decide) ?_
      exact J.sub [0, 1, 2] rfl (j_X12_set_b80 hG O hR h)
  · replace h := h.2 z7
    refine J.aload_n (q := 31) O dX12_set_30 rfl 0 rfl ?_
    refine J.bipush (q := 33) (v := (-4 : Int32)) O dX12_set_31 rfl rfl ?_
    refine J.callVI (q := 36) [.int (-4 : Int32)] [] [.int (-4 : Int32), .ref (ad G 287)] rfl O dX12_set_33 rfl (c_X12_refuse hG h) wd_7_158 mw_X12_refuse io_287 rfl (by decide) (Nat.le_of_ble_eq_true rfl) (fun v12 M12 h => ?_)
    exact hR _ _ _ _ dX12_set_36 h
set_option maxHeartbeats 4000000 in
set_option maxRecDepth 20000 in
theorem c_X12_set {l : Launch} {G : GX} (hG : Gd G) {a1 : Int32} {a2 : Int32} {M : Mem} {K : Int32 → Mem → Prop} (h : f_X12_set a1 a2 M K) : CI l G yX12_set cX12_set 4 (some .int) 2 [.ref (ad G 287), .int a1, .int a2] M K := by
  unfold f_X12_set at h
  refine CI.mk hG (by decide) [(0, .ref (ad G 287)), (1, .int a1), (2, .int a2)] rfl (Nat.le_of_ble_eq_true rfl) (fun X O hlX hR => ?_)
  subst hlX
  refine J.iload_n (q := 1) O dX12_set_0 rfl 1 rfl ?_
  refine J.iconst (q := 2) (v := (0 : Int32)) O dX12_set_1 rfl rfl ?_
  refine J.iconst (q := 3) (v := (4 : Int32)) O dX12_set_2 rfl rfl ?_
  refine J.callSI (q := 6) [.int a1, .int (0 : Int32), .int (4 : Int32)] [] [.int (4 : Int32), .int (0 : Int32), .int a1] rfl O dX12_set_3 rfl (c_X12_in hG h) wd_7_181 mw_X12_in rfl (by decide) (Nat.le_of_ble_eq_true rfl) (fun v13 M13 h => ?_)
  refine J.if_ne (q := 9) (tgt := 16) O dX12_set_6 rfl (by decide) (fun z14 => ?_) (fun z14 => ?_)
  · replace h := h.1 z14
    refine J.iload_n (q := 17) O dX12_set_16 rfl 2 rfl ?_
    refine J.iload_n (q := 18) O dX12_set_17 rfl 1 rfl ?_
    refine J.iconst (q := 19) (v := (3 : Int32)) O dX12_set_18 rfl rfl ?_
    refine J.icmp_ne (q := 22) (tgt := 26) O dX12_set_19 rfl (by decide) (fun z15 => ?_) (fun z15 => ?_)
    · replace h := h.1 z15
      refine J.iconst (q := 27) (v := (0 : Int32)) O dX12_set_26 rfl rfl ?_
      exact J.sub [0, 1, 2] rfl (j_X12_set_b27 hG O hR h)
    · replace h := h.2 z15
      refine J.iconst (q := 23) (v := (3 : Int32)) O dX12_set_22 rfl rfl ?_
      refine J.goto (q := 27) O dX12_set_23 (by decide) ?_
      exact J.sub [0, 1, 2] rfl (j_X12_set_b27 hG O hR h)
  · replace h := h.2 z14
    refine J.aload_n (q := 10) O dX12_set_9 rfl 0 rfl ?_
    refine J.bipush (q := 12) (v := (-2 : Int32)) O dX12_set_10 rfl rfl ?_
    refine J.callVI (q := 15) [.int (-2 : Int32)] [] [.int (-2 : Int32), .ref (ad G 287)] rfl O dX12_set_12 rfl (c_X12_refuse hG h) wd_7_158 mw_X12_refuse io_287 rfl (by decide) (Nat.le_of_ble_eq_true rfl) (fun v16 M16 h => ?_)
    exact hR _ _ _ _ dX12_set_15 h
set_option maxHeartbeats 4000000 in
set_option maxRecDepth 20000 in
theorem j_X12_agrees_b33 {X : CX} {G : GX} {K : Int32 → Mem → Prop} (hG : Gd G) (O : Ok X G cX12_agrees 4 RX12 4) (hR : RetZ X G cX12_agrees K) {s0 : Int32} {M : Mem} (h : f_X12_agrees_b33 K s0 M) : J X G M 33 [] [.int s0] := by
  unfold f_X12_agrees_b33 at h
  exact hR _ _ _ _ dX12_agrees_33 h.1 h.2
set_option maxHeartbeats 4000000 in
set_option maxRecDepth 20000 in
theorem j_X12_agrees_b28 {X : CX} {G : GX} {K : Int32 → Mem → Prop} (hG : Gd G) (O : Ok X G cX12_agrees 4 RX12 4) (hR : RetZ X G cX12_agrees K) {M : Mem} (h : f_X12_agrees_b28 K  M) : J X G M 28 [] [] := by
  unfold f_X12_agrees_b28 at h
  refine J.iconst (q := 29) (v := (1 : Int32)) O dX12_agrees_28 rfl rfl ?_
  refine J.goto (q := 33) O dX12_agrees_29 (by decide) ?_
  exact J.sub [] rfl (j_X12_agrees_b33 hG O hR h)
set_option maxHeartbeats 4000000 in
set_option maxRecDepth 20000 in
theorem c_X12_agrees {l : Launch} {G : GX} (hG : Gd G) {a1 : Int32} {a2 : Int32} {M : Mem} {K : Int32 → Mem → Prop} (h : f_X12_agrees a1 a2 M K) : CI l G yX12_agrees cX12_agrees 4 (some .boolean) 4 [.ref (ad G 287), .int a1, .int a2] M K := by
  unfold f_X12_agrees at h
  refine CZ.mk hG (by decide) [(0, .ref (ad G 287)), (1, .int a1), (2, .int a2)] rfl (Nat.le_of_ble_eq_true rfl) (fun X O hlX hR => ?_)
  subst hlX
  refine J.aload_n (q := 1) O dX12_agrees_0 rfl 0 rfl ?_
  refine J.iload_n (q := 2) O dX12_agrees_1 rfl 1 rfl ?_
  refine J.iload_n (q := 3) O dX12_agrees_2 rfl 2 rfl ?_
  refine J.aload_n (q := 4) O dX12_agrees_3 rfl 0 rfl ?_
  refine J.getI (q := 7) (c' := 287) (ci := 12) (k := 0) (M 287 0) rfl O dX12_agrees_4 rfl wd_6_72 (by decide) if_287_0 ?_
  refine J.callVI (q := 10) [.int a1, .int a2, .int (M 287 0)] [] [.int (M 287 0), .int a2, .int a1, .ref (ad G 287)] rfl O dX12_agrees_7 rfl (c_X12_stateOf hG h) wd_8_70 mw_X12_stateOf io_287 rfl (by decide) (Nat.le_of_ble_eq_true rfl) (fun v2 M2 h => ?_)
  refine J.istore_n (q := 11) O dX12_agrees_10 rfl [(3, .int v2), (0, .ref (ad G 287)), (1, .int a1), (2, .int a2)] (by decide) rfl ?_
  refine J.iload_n (q := 12) O dX12_agrees_11 rfl 0 rfl ?_
  refine J.iconst (q := 13) (v := (4 : Int32)) O dX12_agrees_12 rfl rfl ?_
  refine J.icmp_eq (q := 16) (tgt := 28) O dX12_agrees_13 rfl (by decide) (fun z3 => ?_) (fun z3 => ?_)
  · replace h := h.1 z3
    exact J.sub [] rfl (j_X12_agrees_b28 hG O hR h)
  · replace h := h.2 z3
    refine J.iload_n (q := 17) O dX12_agrees_16 rfl 0 rfl ?_
    refine J.bipush (q := 19) (v := (6 : Int32)) O dX12_agrees_17 rfl rfl ?_
    refine J.icmp_eq (q := 22) (tgt := 28) O dX12_agrees_19 rfl (by decide) (fun z4 => ?_) (fun z4 => ?_)
    · replace h := h.1 z4
      exact J.sub [] rfl (j_X12_agrees_b28 hG O hR h)
    · replace h := h.2 z4
      refine J.iload_n (q := 23) O dX12_agrees_22 rfl 0 rfl ?_
      refine J.bipush (q := 25) (v := (8 : Int32)) O dX12_agrees_23 rfl rfl ?_
      refine J.icmp_ne (q := 28) (tgt := 32) O dX12_agrees_25 rfl (by decide) (fun z5 => ?_) (fun z5 => ?_)
      · replace h := h.1 z5
        refine J.iconst (q := 33) (v := (0 : Int32)) O dX12_agrees_32 rfl rfl ?_
        exact J.sub [] rfl (j_X12_agrees_b33 hG O hR h)
      · replace h := h.2 z5
        exact J.sub [] rfl (j_X12_agrees_b28 hG O hR h)
set_option maxHeartbeats 4000000 in
set_option maxRecDepth 20000 in
theorem j_X12_agree_b50 {X : CX} {G : GX} {K : Int32 → Mem → Prop} (hG : Gd G) (O : Ok X G cX12_agree 7 RX12 5) (hR : RetI X G cX12_agree K) {r20 : Int32 × Int32 × Int32 × Int32 × Int32 × Int32 × Mem → Prop} (hr20 : ∀ a : Int32 × Int32 × Int32 × Int32 × Int32 × Int32 × Mem, r20 a → J X G a.2.2.2.2.2.2 20 [(0, .ref (ad G 287)), (1, .int a.1), (2, .int a.2.1), (3, .int a.2.2.1), (4, .int a.2.2.2.1), (5, .int a.2.2.2.2.1), (6, .int a.2.2.2.2.2.1)] []) {x1 : Int32} {x2 : Int32} {x3 : Int32} {x4 : Int32} {x6 : Int32} {s0 : Int32} {M : Mem} (h : f_X12_agree_b50 r20 K x1 x2 x3 x4 x6 s0 M) : J X G M 50 [(0, .ref (ad G 287)), (1, .int x1), (2, .int x2), (3, .int x3), (4, .int x4), (6, .int x6)] [.int s0] := by
  unfold f_X12_agree_b50 at h
  refine J.istore (q := 52) O dX12_agree_50 rfl [(5, .int s0), (0, .ref (ad G 287)), (1, .int x1), (2, .int x2), (3, .int x3), (4, .int x4), (6, .int x6)] (by decide) rfl ?_
  refine J.iinc (q := 55) O dX12_agree_52 rfl [(6, .int (x6 + (1 : Int32))), (5, .int s0), (0, .ref (ad G 287)), (1, .int x1), (2, .int x2), (3, .int x3), (4, .int x4)] 6 rfl rfl (by decide) rfl ?_
  refine J.goto (q := 20) O dX12_agree_55 (by decide) ?_
  exact J.sub [2, 3, 4, 5, 6, 1, 0] rfl (hr20 _ h)
set_option maxHeartbeats 4000000 in
set_option maxRecDepth 20000 in
theorem j_X12_agree_b45 {X : CX} {G : GX} {K : Int32 → Mem → Prop} (hG : Gd G) (O : Ok X G cX12_agree 7 RX12 5) (hR : RetI X G cX12_agree K) {r20 : Int32 × Int32 × Int32 × Int32 × Int32 × Int32 × Mem → Prop} (hr20 : ∀ a : Int32 × Int32 × Int32 × Int32 × Int32 × Int32 × Mem, r20 a → J X G a.2.2.2.2.2.2 20 [(0, .ref (ad G 287)), (1, .int a.1), (2, .int a.2.1), (3, .int a.2.2.1), (4, .int a.2.2.2.1), (5, .int a.2.2.2.2.1), (6, .int a.2.2.2.2.2.1)] []) {x1 : Int32} {x2 : Int32} {x3 : Int32} {x4 : Int32} {x6 : Int32} {M : Mem} (h : f_X12_agree_b45 r20 K x1 x2 x3 x4 x6 M) : J X G M 45 [(0, .ref (ad G 287)), (1, .int x1), (2, .int x2), (3, .int x3), (4, .int x4), (6, .int x6)] [] := by
  unfold f_X12_agree_b45 at h
  refine J.iconst (q := 46) (v := (1 : Int32)) O dX12_agree_45 rfl rfl ?_
  refine J.goto (q := 50) O dX12_agree_46 (by decide) ?_
  exact J.sub [0, 1, 2, 3, 4, 5] rfl (j_X12_agree_b50 hG O hR hr20 h)
set_option maxHeartbeats 4000000 in
set_option maxRecDepth 20000 in
theorem j_X12_agree_b85 {X : CX} {G : GX} {K : Int32 → Mem → Prop} (hG : Gd G) (O : Ok X G cX12_agree 7 RX12 5) (hR : RetI X G cX12_agree K) {M : Mem} (h : f_X12_agree_b85 K  M) : J X G M 85 [(0, .ref (ad G 287))] [] := by
  unfold f_X12_agree_b85 at h
  refine J.aload_n (q := 86) O dX12_agree_85 rfl 0 rfl ?_
  refine J.bipush (q := 88) (v := (-3 : Int32)) O dX12_agree_86 rfl rfl ?_
  refine J.callVI (q := 91) [.int (-3 : Int32)] [] [.int (-3 : Int32), .ref (ad G 287)] rfl O dX12_agree_88 rfl (c_X12_refuse hG h) wd_7_158 mw_X12_refuse io_287 rfl (by decide) (Nat.le_of_ble_eq_true rfl) (fun v8 M8 h => ?_)
  exact hR _ _ _ _ dX12_agree_91 h
set_option maxHeartbeats 4000000 in
set_option maxRecDepth 20000 in
theorem j_X12_agree_b116 {X : CX} {G : GX} {K : Int32 → Mem → Prop} (hG : Gd G) (O : Ok X G cX12_agree 7 RX12 5) (hR : RetI X G cX12_agree K) {M : Mem} (h : f_X12_agree_b116 K  M) : J X G M 116 [(0, .ref (ad G 287))] [] := by
  unfold f_X12_agree_b116 at h
  refine J.aload_n (q := 117) O dX12_agree_116 rfl 0 rfl ?_
  refine J.bipush (q := 119) (v := (-4 : Int32)) O dX12_agree_117 rfl rfl ?_
  refine J.callVI (q := 122) [.int (-4 : Int32)] [] [.int (-4 : Int32), .ref (ad G 287)] rfl O dX12_agree_119 rfl (c_X12_refuse hG h) wd_7_158 mw_X12_refuse io_287 rfl (by decide) (Nat.le_of_ble_eq_true rfl) (fun v9 M9 h => ?_)
  exact hR _ _ _ _ dX12_agree_122 h
set_option maxHeartbeats 4000000 in
set_option maxRecDepth 20000 in
theorem j_X12_agree_b154 {X : CX} {G : GX} {K : Int32 → Mem → Prop} (hG : Gd G) (O : Ok X G cX12_agree 7 RX12 5) (hR : RetI X G cX12_agree K) {M : Mem} (h : f_X12_agree_b154 K  M) : J X G M 154 [(0, .ref (ad G 287))] [] := by
  unfold f_X12_agree_b154 at h
  refine J.aload_n (q := 155) O dX12_agree_154 rfl 0 rfl ?_
  refine J.bipush (q := 157) (v := (-6 : Int32)) O dX12_agree_155 rfl rfl ?_
  refine J.callVI (q := 160) [.int (-6 : Int32)] [] [.int (-6 : Int32), .ref (ad G 287)] rfl O dX12_agree_157 rfl (c_X12_refuse hG h) wd_7_158 mw_X12_refuse io_287 rfl (by decide) (Nat.le_of_ble_eq_true rfl) (fun v10 M10 h => ?_)
  exact hR _ _ _ _ dX12_agree_160 h
set_option maxHeartbeats 4000000 in
set_option maxRecDepth 20000 in
theorem j_X12_agree_b213 {X : CX} {G : GX} {K : Int32 → Mem → Prop} (hG : Gd G) (O : Ok X G cX12_agree 7 RX12 5) (hR : RetI X G cX12_agree K) {s0 : Int32} {s1 : Int32} {M : Mem} (h : f_X12_agree_b213 K s0 s1 M) : J X G M 213 [(0, .ref (ad G 287))] [.int s0, .int s1, .ref (ad G 333)] := by
  unfold f_X12_agree_b213 at h
  obtain ⟨hv11, h⟩ := h
  refine J.iast (q := 214) (c' := 333) (j := s1.toNatClampNeg) O dX12_agree_213 rfl ar_333 hv11 rfl ?_
  refine J.aload_n (q := 215) O dX12_agree_214 rfl 0 rfl ?_
  refine J.getR (q := 218) (c' := 287) (ci := 12) (k := 62) (r := 334) O dX12_agree_215 rfl wd_6_134 (by decide) if_287_62 ?_
  refine J.aload_n (q := 219) O dX12_agree_218 rfl 0 rfl ?_
  refine J.getI (q := 222) (c' := 287) (ci := 12) (k := 57) (M 287 57) rfl O dX12_agree_219 rfl wd_6_129 (by decide) if_287_57 ?_
  refine J.aload_n (q := 223) O dX12_agree_222 rfl 0 rfl ?_
  refine J.getI (q := 226) (c' := 287) (ci := 12) (k := 0) (M 287 0) rfl O dX12_agree_223 rfl wd_6_72 (by decide) if_287_0 ?_
  obtain ⟨hv12, h⟩ := h
  refine J.iast (q := 227) (c' := 334) (j := (M 287 57).toNatClampNeg) O dX12_agree_226 rfl ar_334 hv12 rfl ?_
  refine J.aload_n (q := 228) O dX12_agree_227 rfl 0 rfl ?_
  refine J.dup (q := 229) O dX12_agree_228 rfl rfl ?_
  refine J.getI (q := 232) (c' := 287) (ci := 12) (k := 57) (M 287 57) rfl O dX12_agree_229 rfl wd_6_129 (by decide) if_287_57 ?_
  refine J.iconst (q := 233) (v := (1 : Int32)) O dX12_agree_232 rfl rfl ?_
  refine J.iadd (q := 234) O dX12_agree_233 rfl ?_
  refine J.putI (q := 237) (c' := 287) (ci := 12) (k := 57) O dX12_agree_234 rfl wd_6_129 (by decide) if_287_57 rfl rfl ?_
  refine J.aload_n (q := 238) O dX12_agree_237 rfl 0 rfl ?_
  refine J.getI (q := 241) (c' := 287) (ci := 12) (k := 57) ((M 287 57) + (1 : Int32)) rfl O dX12_agree_238 rfl wd_6_129 (by decide) if_287_57 ?_
  refine J.iconst (q := 242) (v := (1 : Int32)) O dX12_agree_241 rfl rfl ?_
  refine J.isub (q := 243) O dX12_agree_242 rfl ?_
  exact hR _ _ _ _ dX12_agree_243 h
set_option maxHeartbeats 4000000 in
set_option maxRecDepth 20000 in
theorem j_X12_agree_b123 {X : CX} {G : GX} {K : Int32 → Mem → Prop} (hG : Gd G) (O : Ok X G cX12_agree 7 RX12 5) (hR : RetI X G cX12_agree K) {x1 : Int32} {x2 : Int32} {x3 : Int32} {x4 : Int32} {M : Mem} (h : f_X12_agree_b123 K x1 x2 x3 x4 M) : J X G M 123 [(0, .ref (ad G 287)), (1, .int x1), (2, .int x2), (3, .int x3), (4, .int x4)] [] := by
  unfold f_X12_agree_b123 at h
  refine J.iload_n (q := 124) O dX12_agree_123 rfl 2 rfl ?_
  refine J.sipush (q := 127) (v := (9999 : Int32)) O dX12_agree_124 rfl rfl ?_
  refine J.icmp_gt (q := 130) (tgt := 154) O dX12_agree_127 rfl (by decide) (fun z13 => ?_) (fun z13 => ?_)
  · replace h := h.1 z13
    exact J.sub [0] rfl (j_X12_agree_b154 hG O hR h)
  · replace h := h.2 z13
    refine J.iload_n (q := 131) O dX12_agree_130 rfl 3 rfl ?_
    refine J.sipush (q := 134) (v := (1000 : Int32)) O dX12_agree_131 rfl rfl ?_
    refine J.icmp_gt (q := 137) (tgt := 154) O dX12_agree_134 rfl (by decide) (fun z14 => ?_) (fun z14 => ?_)
    · replace h := h.1 z14
      exact J.sub [0] rfl (j_X12_agree_b154 hG O hR h)
    · replace h := h.2 z14
      refine J.iload (q := 139) O dX12_agree_137 rfl 4 rfl ?_
      refine J.sipush (q := 142) (v := (1000 : Int32)) O dX12_agree_139 rfl rfl ?_
      refine J.icmp_gt (q := 145) (tgt := 154) O dX12_agree_142 rfl (by decide) (fun z15 => ?_) (fun z15 => ?_)
      · replace h := h.1 z15
        exact J.sub [0] rfl (j_X12_agree_b154 hG O hR h)
      · replace h := h.2 z15
        refine J.aload_n (q := 146) O dX12_agree_145 rfl 0 rfl ?_
        refine J.getI (q := 149) (c' := 287) (ci := 12) (k := 57) (M 287 57) rfl O dX12_agree_146 rfl wd_6_129 (by decide) if_287_57 ?_
        refine J.bipush (q := 151) (v := (30 : Int32)) O dX12_agree_149 rfl rfl ?_
        refine J.icmp_ne (q := 154) (tgt := 161) O dX12_agree_151 rfl (by decide) (fun z16 => ?_) (fun z16 => ?_)
        · replace h := h.1 z16
          refine J.aload_n (q := 162) O dX12_agree_161 rfl 0 rfl ?_
          refine J.getR (q := 165) (c' := 287) (ci := 12) (k := 58) (r := 330) O dX12_agree_162 rfl wd_6_130 (by decide) if_287_58 ?_
          refine J.aload_n (q := 166) O dX12_agree_165 rfl 0 rfl ?_
          refine J.getI (q := 169) (c' := 287) (ci := 12) (k := 57) (M 287 57) rfl O dX12_agree_166 rfl wd_6_129 (by decide) if_287_57 ?_
          refine J.iload_n (q := 170) O dX12_agree_169 rfl 1 rfl ?_
          obtain ⟨hv17, h⟩ := h
          refine J.iast (q := 171) (c' := 330) (j := (M 287 57).toNatClampNeg) O dX12_agree_170 rfl ar_330 hv17 rfl ?_
          refine J.aload_n (q := 172) O dX12_agree_171 rfl 0 rfl ?_
          refine J.getR (q := 175) (c' := 287) (ci := 12) (k := 59) (r := 331) O dX12_agree_172 rfl wd_6_131 (by decide) if_287_59 ?_
          refine J.aload_n (q := 176) O dX12_agree_175 rfl 0 rfl ?_
          refine J.getI (q := 179) (c' := 287) (ci := 12) (k := 57) (M 287 57) rfl O dX12_agree_176 rfl wd_6_129 (by decide) if_287_57 ?_
          refine J.iload_n (q := 180) O dX12_agree_179 rfl 2 rfl ?_
          obtain ⟨hv18, h⟩ := h
          refine J.iast (q := 181) (c' := 331) (j := (M 287 57).toNatClampNeg) O dX12_agree_180 rfl ar_331 hv18 rfl ?_
          refine J.aload_n (q := 182) O dX12_agree_181 rfl 0 rfl ?_
          refine J.getR (q := 185) (c' := 287) (ci := 12) (k := 60) (r := 332) O dX12_agree_182 rfl wd_6_132 (by decide) if_287_60 ?_
          refine J.aload_n (q := 186) O dX12_agree_185 rfl 0 rfl ?_
          refine J.getI (q := 189) (c' := 287) (ci := 12) (k := 57) (M 287 57) rfl O dX12_agree_186 rfl wd_6_129 (by decide) if_287_57 ?_
          refine J.iload_n (q := 190) O dX12_agree_189 rfl 3 rfl ?_
          obtain ⟨hv19, h⟩ := h
          refine J.iast (q := 191) (c' := 332) (j := (M 287 57).toNatClampNeg) O dX12_agree_190 rfl ar_332 hv19 rfl ?_
          refine J.aload_n (q := 192) O dX12_agree_191 rfl 0 rfl ?_
          refine J.getR (q := 195) (c' := 287) (ci := 12) (k := 61) (r := 333) O dX12_agree_192 rfl wd_6_133 (by decide) if_287_61 ?_
          refine J.aload_n (q := 196) O dX12_agree_195 rfl 0 rfl ?_
          refine J.getI (q := 199) (c' := 287) (ci := 12) (k := 57) (M 287 57) rfl O dX12_agree_196 rfl wd_6_129 (by decide) if_287_57 ?_
          refine J.iload (q := 201) O dX12_agree_199 rfl 4 rfl ?_
          refine J.iconst (q := 202) (v := (-1 : Int32)) O dX12_agree_201 rfl rfl ?_
          refine J.icmp_ne (q := 205) (tgt := 211) O dX12_agree_202 rfl (by decide) (fun z20 => ?_) (fun z20 => ?_)
          · replace h := h.1 z20
            refine J.iload (q := 213) O dX12_agree_211 rfl 4 rfl ?_
            exact J.sub [0] rfl (j_X12_agree_b213 hG O hR h)
          · replace h := h.2 z20
            refine J.ldcw (q := 208) O dX12_agree_205 rfl wd_8_0 ?_
            refine J.goto (q := 213) O dX12_agree_208 (by decide) ?_
            exact J.sub [0] rfl (j_X12_agree_b213 hG O hR h)
        · replace h := h.2 z16
          exact J.sub [0] rfl (j_X12_agree_b154 hG O hR h)
set_option maxHeartbeats 4000000 in
set_option maxRecDepth 20000 in
theorem j_X12_agree_c20 {X : CX} {G : GX} {K : Int32 → Mem → Prop} (hG : Gd G) (O : Ok X G cX12_agree 7 RX12 5) (hR : RetI X G cX12_agree K) {a : Int32 × Int32 × Int32 × Int32 × Int32 × Int32 × Mem} (h : Lp (fun (r20 : Int32 × Int32 × Int32 × Int32 × Int32 × Int32 × Mem → Prop) a => f_X12_agree_c20 K r20 a.1 a.2.1 a.2.2.1 a.2.2.2.1 a.2.2.2.2.1 a.2.2.2.2.2.1 a.2.2.2.2.2.2) a) : J X G a.2.2.2.2.2.2 20 [(0, .ref (ad G 287)), (1, .int a.1), (2, .int a.2.1), (3, .int a.2.2.1), (4, .int a.2.2.2.1), (5, .int a.2.2.2.2.1), (6, .int a.2.2.2.2.2.1)] [] := by
  refine Lp.elim (P := fun a => J X G a.2.2.2.2.2.2 20 [(0, .ref (ad G 287)), (1, .int a.1), (2, .int a.2.1), (3, .int a.2.2.1), (4, .int a.2.2.2.1), (5, .int a.2.2.2.2.1), (6, .int a.2.2.2.2.2.1)] []) ?_ h
  clear h
  intro r20 hr20 a h
  obtain ⟨x1, x2, x3, x4, x5, x6, M⟩ := a
  unfold f_X12_agree_c20 at h
  (try dsimp only at h ⊢)
  refine J.iload (q := 22) O dX12_agree_20 rfl 6 rfl ?_
  refine J.aload_n (q := 23) O dX12_agree_22 rfl 0 rfl ?_
  refine J.getI (q := 26) (c' := 287) (ci := 12) (k := 57) (M 287 57) rfl O dX12_agree_23 rfl wd_6_129 (by decide) if_287_57 ?_
  refine J.icmp_ge (q := 29) (tgt := 58) O dX12_agree_26 rfl (by decide) (fun z21 => ?_) (fun z21 => ?_)
  · replace h := h.1 z21
    refine J.aload_n (q := 59) O dX12_agree_58 rfl 0 rfl ?_
    refine J.getR (q := 62) (c' := 287) (ci := 12) (k := 36) (r := 311) O dX12_agree_59 rfl wd_6_108 (by decide) if_287_36 ?_
    refine J.iload_n (q := 63) O dX12_agree_62 rfl 1 rfl ?_
    obtain ⟨hv22, h⟩ := h
    refine J.iald (q := 64) (c' := 311) (j := x1.toNatClampNeg) (M 311 x1.toNatClampNeg) rfl O dX12_agree_63 rfl ar_311 hv22 rfl ?_
    refine J.iconst (q := 65) (v := (3 : Int32)) O dX12_agree_64 rfl rfl ?_
    refine J.icmp_ne (q := 68) (tgt := 85) O dX12_agree_65 rfl (by decide) (fun z23 => ?_) (fun z23 => ?_)
    · replace h := h.1 z23
      exact J.sub [0] rfl (j_X12_agree_b85 hG O hR h)
    · replace h := h.2 z23
      refine J.aload_n (q := 69) O dX12_agree_68 rfl 0 rfl ?_
      refine J.iload_n (q := 70) O dX12_agree_69 rfl 1 rfl ?_
      refine J.aload_n (q := 71) O dX12_agree_70 rfl 0 rfl ?_
      refine J.getI (q := 74) (c' := 287) (ci := 12) (k := 0) (M 287 0) rfl O dX12_agree_71 rfl wd_6_72 (by decide) if_287_0 ?_
      refine J.callVI (q := 77) [.int x1, .int (M 287 0)] [] [.int (M 287 0), .int x1, .ref (ad G 287)] rfl O dX12_agree_74 rfl (c_X12_agrees hG h) wd_8_146 mw_X12_agrees io_287 rfl (by decide) (Nat.le_of_ble_eq_true rfl) (fun v24 M24 h => ?_)
      refine J.if_eq (q := 80) (tgt := 85) O dX12_agree_77 rfl (by decide) (fun z25 => ?_) (fun z25 => ?_)
      · replace h := h.1 z25
        exact J.sub [0] rfl (j_X12_agree_b85 hG O hR h)
      · replace h := h.2 z25
        refine J.iload (q := 82) O dX12_agree_80 rfl 5 rfl ?_
        refine J.if_eq (q := 85) (tgt := 92) O dX12_agree_82 rfl (by decide) (fun z26 => ?_) (fun z26 => ?_)
        · replace h := h.1 z26
          refine J.iload_n (q := 93) O dX12_agree_92 rfl 2 rfl ?_
          refine J.if_lt (q := 96) (tgt := 116) O dX12_agree_93 rfl (by decide) (fun z27 => ?_) (fun z27 => ?_)
          · replace h := h.1 z27
            exact J.sub [0] rfl (j_X12_agree_b116 hG O hR h)
          · replace h := h.2 z27
            refine J.iload_n (q := 97) O dX12_agree_96 rfl 3 rfl ?_
            refine J.aload_n (q := 98) O dX12_agree_97 rfl 0 rfl ?_
            refine J.getI (q := 101) (c' := 287) (ci := 12) (k := 0) (M24 287 0) rfl O dX12_agree_98 rfl wd_6_72 (by decide) if_287_0 ?_
            refine J.icmp_lt (q := 104) (tgt := 116) O dX12_agree_101 rfl (by decide) (fun z28 => ?_) (fun z28 => ?_)
            · replace h := h.1 z28
              exact J.sub [0] rfl (j_X12_agree_b116 hG O hR h)
            · replace h := h.2 z28
              refine J.iload (q := 106) O dX12_agree_104 rfl 4 rfl ?_
              refine J.iconst (q := 107) (v := (-1 : Int32)) O dX12_agree_106 rfl rfl ?_
              refine J.icmp_eq (q := 110) (tgt := 123) O dX12_agree_107 rfl (by decide) (fun z29 => ?_) (fun z29 => ?_)
              · replace h := h.1 z29
                exact J.sub [0, 1, 2, 3, 4] rfl (j_X12_agree_b123 hG O hR h)
              · replace h := h.2 z29
                refine J.iload (q := 112) O dX12_agree_110 rfl 4 rfl ?_
                refine J.iload_n (q := 113) O dX12_agree_112 rfl 3 rfl ?_
                refine J.icmp_ge (q := 116) (tgt := 123) O dX12_agree_113 rfl (by decide) (fun z30 => ?_) (fun z30 => ?_)
                · replace h := h.1 z30
                  exact J.sub [0, 1, 2, 3, 4] rfl (j_X12_agree_b123 hG O hR h)
                · replace h := h.2 z30
                  exact J.sub [0] rfl (j_X12_agree_b116 hG O hR h)
        · replace h := h.2 z26
          exact J.sub [0] rfl (j_X12_agree_b85 hG O hR h)
  · replace h := h.2 z21
    refine J.iload (q := 31) O dX12_agree_29 rfl 5 rfl ?_
    refine J.if_ne (q := 34) (tgt := 45) O dX12_agree_31 rfl (by decide) (fun z31 => ?_) (fun z31 => ?_)
    · replace h := h.1 z31
      exact J.sub [0, 1, 2, 3, 4, 6] rfl (j_X12_agree_b45 hG O hR hr20 h)
    · replace h := h.2 z31
      refine J.aload_n (q := 35) O dX12_agree_34 rfl 0 rfl ?_
      refine J.getR (q := 38) (c' := 287) (ci := 12) (k := 58) (r := 330) O dX12_agree_35 rfl wd_6_130 (by decide) if_287_58 ?_
      refine J.iload (q := 40) O dX12_agree_38 rfl 6 rfl ?_
      obtain ⟨hv32, h⟩ := h
      refine J.iald (q := 41) (c' := 330) (j := x6.toNatClampNeg) (M 330 x6.toNatClampNeg) rfl O dX12_agree_40 rfl ar_330 hv32 rfl ?_
      refine J.iload_n (q := 42) O dX12_agree_41 rfl 1 rfl ?_
      refine J.icmp_ne (q := 45) (tgt := 49) O dX12_agree_42 rfl (by decide) (fun z33 => ?_) (fun z33 => ?_)
      · replace h := h.1 z33
        refine J.iconst (q := 50) (v := (0 : Int32)) O dX12_agree_49 rfl rfl ?_
        exact J.sub [0, 1, 2, 3, 4, 6] rfl (j_X12_agree_b50 hG O hR hr20 h)
      · replace h := h.2 z33
        exact J.sub [0, 1, 2, 3, 4, 6] rfl (j_X12_agree_b45 hG O hR hr20 h)
set_option maxHeartbeats 4000000 in
set_option maxRecDepth 20000 in
theorem c_X12_agree {l : Launch} {G : GX} (hG : Gd G) {a1 : Int32} {a2 : Int32} {a3 : Int32} {a4 : Int32} {M : Mem} {K : Int32 → Mem → Prop} (h : f_X12_agree a1 a2 a3 a4 M K) : CI l G yX12_agree cX12_agree 7 (some .int) 5 [.ref (ad G 287), .int a1, .int a2, .int a3, .int a4] M K := by
  unfold f_X12_agree at h
  refine CI.mk hG (by decide) [(0, .ref (ad G 287)), (1, .int a1), (2, .int a2), (3, .int a3), (4, .int a4)] rfl (Nat.le_of_ble_eq_true rfl) (fun X O hlX hR => ?_)
  subst hlX
  refine J.aload_n (q := 1) O dX12_agree_0 rfl 0 rfl ?_
  refine J.iload_n (q := 2) O dX12_agree_1 rfl 1 rfl ?_
  refine J.callVI (q := 5) [.int a1] [] [.int a1, .ref (ad G 287)] rfl O dX12_agree_2 rfl (c_X12_isMatter hG h) wd_8_46 mw_X12_isMatter io_287 rfl (by decide) (Nat.le_of_ble_eq_true rfl) (fun v34 M34 h => ?_)
  refine J.if_ne (q := 8) (tgt := 14) O dX12_agree_5 rfl (by decide) (fun z35 => ?_) (fun z35 => ?_)
  · replace h := h.1 z35
    refine J.iconst (q := 15) (v := (0 : Int32)) O dX12_agree_14 rfl rfl ?_
    refine J.istore (q := 17) O dX12_agree_15 rfl [(5, .int (0 : Int32)), (0, .ref (ad G 287)), (1, .int a1), (2, .int a2), (3, .int a3), (4, .int a4)] (by decide) rfl ?_
    refine J.iconst (q := 18) (v := (0 : Int32)) O dX12_agree_17 rfl rfl ?_
    refine J.istore (q := 20) O dX12_agree_18 rfl [(6, .int (0 : Int32)), (5, .int (0 : Int32)), (0, .ref (ad G 287)), (1, .int a1), (2, .int a2), (3, .int a3), (4, .int a4)] (by decide) rfl ?_
    exact J.sub [2, 3, 4, 5, 6, 1, 0] rfl (j_X12_agree_c20 hG O hR h)
  · replace h := h.2 z35
    refine J.aload_n (q := 9) O dX12_agree_8 rfl 0 rfl ?_
    refine J.iconst (q := 10) (v := (-1 : Int32)) O dX12_agree_9 rfl rfl ?_
    refine J.callVI (q := 13) [.int (-1 : Int32)] [] [.int (-1 : Int32), .ref (ad G 287)] rfl O dX12_agree_10 rfl (c_X12_refuse hG h) wd_7_158 mw_X12_refuse io_287 rfl (by decide) (Nat.le_of_ble_eq_true rfl) (fun v36 M36 h => ?_)
    exact hR _ _ _ _ dX12_agree_13 h
set_option maxHeartbeats 4000000 in
set_option maxRecDepth 20000 in
theorem c_X12_holdsNow {l : Launch} {G : GX} (hG : Gd G) {a1 : Int32} {M : Mem} {K : Int32 → Mem → Prop} (h : f_X12_holdsNow a1 M K) : CI l G yX12_holdsNow cX12_holdsNow 2 (some .boolean) 5 [.ref (ad G 287), .int a1] M K := by
  unfold f_X12_holdsNow at h
  refine CZ.mk hG (by decide) [(0, .ref (ad G 287)), (1, .int a1)] rfl (Nat.le_of_ble_eq_true rfl) (fun X O hlX hR => ?_)
  subst hlX
  refine J.aload_n (q := 1) O dX12_holdsNow_0 rfl 0 rfl ?_
  refine J.aload_n (q := 2) O dX12_holdsNow_1 rfl 0 rfl ?_
  refine J.getR (q := 5) (c' := 287) (ci := 12) (k := 58) (r := 330) O dX12_holdsNow_2 rfl wd_6_130 (by decide) if_287_58 ?_
  refine J.iload_n (q := 6) O dX12_holdsNow_5 rfl 1 rfl ?_
  obtain ⟨hv3, h⟩ := h
  refine J.iald (q := 7) (c' := 330) (j := a1.toNatClampNeg) (M 330 a1.toNatClampNeg) rfl O dX12_holdsNow_6 rfl ar_330 hv3 rfl ?_
  refine J.aload_n (q := 8) O dX12_holdsNow_7 rfl 0 rfl ?_
  refine J.getR (q := 11) (c' := 287) (ci := 12) (k := 62) (r := 334) O dX12_holdsNow_8 rfl wd_6_134 (by decide) if_287_62 ?_
  refine J.iload_n (q := 12) O dX12_holdsNow_11 rfl 1 rfl ?_
  obtain ⟨hv4, h⟩ := h
  refine J.iald (q := 13) (c' := 334) (j := a1.toNatClampNeg) (M 334 a1.toNatClampNeg) rfl O dX12_holdsNow_12 rfl ar_334 hv4 rfl ?_
  refine J.callVI (q := 16) [.int (M 330 a1.toNatClampNeg), .int (M 334 a1.toNatClampNeg)] [] [.int (M 334 a1.toNatClampNeg), .int (M 330 a1.toNatClampNeg), .ref (ad G 287)] rfl O dX12_holdsNow_13 rfl (c_X12_agrees hG h) wd_8_146 mw_X12_agrees io_287 rfl (by decide) (Nat.le_of_ble_eq_true rfl) (fun v5 M5 h => ?_)
  exact hR _ _ _ _ dX12_holdsNow_16 h.1 h.2
set_option maxHeartbeats 4000000 in
set_option maxRecDepth 20000 in
theorem c_X12_isAgreement {l : Launch} {G : GX} (hG : Gd G) {a1 : Int32} {M : Mem} {K : Int32 → Mem → Prop} (h : f_X12_isAgreement a1 M K) : CI l G yX12_isAgreement cX12_isAgreement 2 (some .boolean) 2 [.ref (ad G 287), .int a1] M K := by
  unfold f_X12_isAgreement at h
  refine CZ.mk hG (by decide) [(0, .ref (ad G 287)), (1, .int a1)] rfl (Nat.le_of_ble_eq_true rfl) (fun X O hlX hR => ?_)
  subst hlX
  refine J.iload_n (q := 1) O dX12_isAgreement_0 rfl 1 rfl ?_
  refine J.iconst (q := 2) (v := (0 : Int32)) O dX12_isAgreement_1 rfl rfl ?_
  refine J.aload_n (q := 3) O dX12_isAgreement_2 rfl 0 rfl ?_
  refine J.getI (q := 6) (c' := 287) (ci := 12) (k := 57) (M 287 57) rfl O dX12_isAgreement_3 rfl wd_6_129 (by decide) if_287_57 ?_
  refine J.iconst (q := 7) (v := (1 : Int32)) O dX12_isAgreement_6 rfl rfl ?_
  refine J.isub (q := 8) O dX12_isAgreement_7 rfl ?_
  refine J.callSI (q := 11) [.int a1, .int (0 : Int32), .int ((M 287 57) - (1 : Int32))] [] [.int ((M 287 57) - (1 : Int32)), .int (0 : Int32), .int a1] rfl O dX12_isAgreement_8 rfl (c_X12_in hG h) wd_7_181 mw_X12_in rfl (by decide) (Nat.le_of_ble_eq_true rfl) (fun v1 M1 h => ?_)
  exact hR _ _ _ _ dX12_isAgreement_11 h.1 h.2
set_option maxHeartbeats 4000000 in
set_option maxRecDepth 20000 in
theorem j_X12_cancel_b82 {X : CX} {G : GX} {K : Int32 → Mem → Prop} (hG : Gd G) (O : Ok X G cX12_cancel 2 RX12 3) (hR : RetI X G cX12_cancel K) {x1 : Int32} {s0 : Int32} {s1 : Int32} {M : Mem} (h : f_X12_cancel_b82 K x1 s0 s1 M) : J X G M 82 [(0, .ref (ad G 287)), (1, .int x1)] [.int s0, .int s1, .ref (ad G 333)] := by
  unfold f_X12_cancel_b82 at h
  obtain ⟨hv7, h⟩ := h
  refine J.iast (q := 83) (c' := 333) (j := s1.toNatClampNeg) O dX12_cancel_82 rfl ar_333 hv7 rfl ?_
  refine J.aload_n (q := 84) O dX12_cancel_83 rfl 0 rfl ?_
  refine J.getR (q := 87) (c' := 287) (ci := 12) (k := 61) (r := 333) O dX12_cancel_84 rfl wd_6_133 (by decide) if_287_61 ?_
  refine J.iload_n (q := 88) O dX12_cancel_87 rfl 1 rfl ?_
  obtain ⟨hv8, h⟩ := h
  refine J.iald (q := 89) (c' := 333) (j := x1.toNatClampNeg) ((mset M 333 s1.toNatClampNeg s0) 333 x1.toNatClampNeg) rfl O dX12_cancel_88 rfl ar_333 hv8 rfl ?_
  exact hR _ _ _ _ dX12_cancel_89 h
set_option maxHeartbeats 4000000 in
set_option maxRecDepth 20000 in
theorem c_X12_cancel {l : Launch} {G : GX} (hG : Gd G) {a1 : Int32} {M : Mem} {K : Int32 → Mem → Prop} (h : f_X12_cancel a1 M K) : CI l G yX12_cancel cX12_cancel 2 (some .int) 3 [.ref (ad G 287), .int a1] M K := by
  unfold f_X12_cancel at h
  refine CI.mk hG (by decide) [(0, .ref (ad G 287)), (1, .int a1)] rfl (Nat.le_of_ble_eq_true rfl) (fun X O hlX hR => ?_)
  subst hlX
  refine J.aload_n (q := 1) O dX12_cancel_0 rfl 0 rfl ?_
  refine J.iload_n (q := 2) O dX12_cancel_1 rfl 1 rfl ?_
  refine J.callVI (q := 5) [.int a1] [] [.int a1, .ref (ad G 287)] rfl O dX12_cancel_2 rfl (c_X12_isAgreement hG h) wd_8_154 mw_X12_isAgreement io_287 rfl (by decide) (Nat.le_of_ble_eq_true rfl) (fun v9 M9 h => ?_)
  refine J.if_ne (q := 8) (tgt := 14) O dX12_cancel_5 rfl (by decide) (fun z10 => ?_) (fun z10 => ?_)
  · replace h := h.1 z10
    refine J.aload_n (q := 15) O dX12_cancel_14 rfl 0 rfl ?_
    refine J.getR (q := 18) (c' := 287) (ci := 12) (k := 63) (r := 335) O dX12_cancel_15 rfl wd_6_135 (by decide) if_287_63 ?_
    refine J.iload_n (q := 19) O dX12_cancel_18 rfl 1 rfl ?_
    obtain ⟨hv11, h⟩ := h
    refine J.zald (q := 20) (c' := 335) (j := a1.toNatClampNeg) (M9 335 a1.toNatClampNeg) rfl O dX12_cancel_19 rfl ar_335 hv11 rfl ?_
    refine J.if_eq (q := 23) (tgt := 30) O dX12_cancel_20 rfl (by decide) (fun z12 => ?_) (fun z12 => ?_)
    · replace h := h.1 z12
      refine J.aload_n (q := 31) O dX12_cancel_30 rfl 0 rfl ?_
      refine J.getR (q := 34) (c' := 287) (ci := 12) (k := 63) (r := 335) O dX12_cancel_31 rfl wd_6_135 (by decide) if_287_63 ?_
      refine J.iload_n (q := 35) O dX12_cancel_34 rfl 1 rfl ?_
      refine J.iconst (q := 36) (v := (1 : Int32)) O dX12_cancel_35 rfl rfl ?_
      obtain ⟨hv13, h⟩ := h
      refine J.zast (q := 37) (c' := 335) (j := a1.toNatClampNeg) O dX12_cancel_36 rfl ar_335 hv13 rfl (Or.inr rfl) ?_
      refine J.aload_n (q := 38) O dX12_cancel_37 rfl 0 rfl ?_
      refine J.getR (q := 41) (c' := 287) (ci := 12) (k := 61) (r := 333) O dX12_cancel_38 rfl wd_6_133 (by decide) if_287_61 ?_
      refine J.iload_n (q := 42) O dX12_cancel_41 rfl 1 rfl ?_
      refine J.aload_n (q := 43) O dX12_cancel_42 rfl 0 rfl ?_
      refine J.getR (q := 46) (c' := 287) (ci := 12) (k := 61) (r := 333) O dX12_cancel_43 rfl wd_6_133 (by decide) if_287_61 ?_
      refine J.iload_n (q := 47) O dX12_cancel_46 rfl 1 rfl ?_
      obtain ⟨hv14, h⟩ := h
      refine J.iald (q := 48) (c' := 333) (j := a1.toNatClampNeg) (M9 333 a1.toNatClampNeg) rfl O dX12_cancel_47 rfl ar_333 hv14 rfl ?_
      refine J.aload_n (q := 49) O dX12_cancel_48 rfl 0 rfl ?_
      refine J.getI (q := 52) (c' := 287) (ci := 12) (k := 0) (M9 287 0) rfl O dX12_cancel_49 rfl wd_6_72 (by decide) if_287_0 ?_
      refine J.aload_n (q := 53) O dX12_cancel_52 rfl 0 rfl ?_
      refine J.getR (q := 56) (c' := 287) (ci := 12) (k := 51) (r := 325) O dX12_cancel_53 rfl wd_6_123 (by decide) if_287_51 ?_
      refine J.iconst (q := 57) (v := (1 : Int32)) O dX12_cancel_56 rfl rfl ?_
      refine J.iald (q := 58) (c' := 325) (j := 1) (M9 325 1) rfl O dX12_cancel_57 rfl ar_325 (vin_lit (by decide)) (by decide) ?_
      refine J.iadd (q := 59) O dX12_cancel_58 rfl ?_
      refine J.icmp_ge (q := 62) (tgt := 71) O dX12_cancel_59 rfl (by decide) (fun z15 => ?_) (fun z15 => ?_)
      · replace h := h.1 z15
        refine J.aload_n (q := 72) O dX12_cancel_71 rfl 0 rfl ?_
        refine J.getI (q := 75) (c' := 287) (ci := 12) (k := 0) (M9 287 0) rfl O dX12_cancel_72 rfl wd_6_72 (by decide) if_287_0 ?_
        refine J.aload_n (q := 76) O dX12_cancel_75 rfl 0 rfl ?_
        refine J.getR (q := 79) (c' := 287) (ci := 12) (k := 51) (r := 325) O dX12_cancel_76 rfl wd_6_123 (by decide) if_287_51 ?_
        refine J.iconst (q := 80) (v := (1 : Int32)) O dX12_cancel_79 rfl rfl ?_
        refine J.iald (q := 81) (c' := 325) (j := 1) (M9 325 1) rfl O dX12_cancel_80 rfl ar_325 (vin_lit (by decide)) (by decide) ?_
        refine J.iadd (q := 82) O dX12_cancel_81 rfl ?_
        exact J.sub [0, 1] rfl (j_X12_cancel_b82 hG O hR h)
      · replace h := h.2 z15
        refine J.aload_n (q := 63) O dX12_cancel_62 rfl 0 rfl ?_
        refine J.getR (q := 66) (c' := 287) (ci := 12) (k := 61) (r := 333) O dX12_cancel_63 rfl wd_6_133 (by decide) if_287_61 ?_
        refine J.iload_n (q := 67) O dX12_cancel_66 rfl 1 rfl ?_
        obtain ⟨hv16, h⟩ := h
        refine J.iald (q := 68) (c' := 333) (j := a1.toNatClampNeg) (M9 333 a1.toNatClampNeg) rfl O dX12_cancel_67 rfl ar_333 hv16 rfl ?_
        refine J.goto (q := 82) O dX12_cancel_68 (by decide) ?_
        exact J.sub [0, 1] rfl (j_X12_cancel_b82 hG O hR h)
    · replace h := h.2 z12
      refine J.aload_n (q := 24) O dX12_cancel_23 rfl 0 rfl ?_
      refine J.bipush (q := 26) (v := (-3 : Int32)) O dX12_cancel_24 rfl rfl ?_
      refine J.callVI (q := 29) [.int (-3 : Int32)] [] [.int (-3 : Int32), .ref (ad G 287)] rfl O dX12_cancel_26 rfl (c_X12_refuse hG h) wd_7_158 mw_X12_refuse io_287 rfl (by decide) (Nat.le_of_ble_eq_true rfl) (fun v17 M17 h => ?_)
      exact hR _ _ _ _ dX12_cancel_29 h
  · replace h := h.2 z10
    refine J.aload_n (q := 9) O dX12_cancel_8 rfl 0 rfl ?_
    refine J.iconst (q := 10) (v := (-1 : Int32)) O dX12_cancel_9 rfl rfl ?_
    refine J.callVI (q := 13) [.int (-1 : Int32)] [] [.int (-1 : Int32), .ref (ad G 287)] rfl O dX12_cancel_10 rfl (c_X12_refuse hG h) wd_7_158 mw_X12_refuse io_287 rfl (by decide) (Nat.le_of_ble_eq_true rfl) (fun v18 M18 h => ?_)
    exact hR _ _ _ _ dX12_cancel_13 h
set_option maxHeartbeats 4000000 in
set_option maxRecDepth 20000 in
theorem j_X12_agreementOf_b98 {X : CX} {G : GX} {K : Int32 → Mem → Prop} (hG : Gd G) (O : Ok X G cX12_agreementOf 3 RX12 6) (hR : RetI X G cX12_agreementOf K) {s0 : Int32} {M : Mem} (h : f_X12_agreementOf_b98 K s0 M) : J X G M 98 [] [.int s0] := by
  unfold f_X12_agreementOf_b98 at h
  exact hR _ _ _ _ dX12_agreementOf_98 h
set_option maxHeartbeats 4000000 in
set_option maxRecDepth 20000 in
theorem c_X12_agreementOf {l : Launch} {G : GX} (hG : Gd G) {a1 : Int32} {a2 : Int32} {M : Mem} {K : Int32 → Mem → Prop} (h : f_X12_agreementOf a1 a2 M K) : CI l G yX12_agreementOf cX12_agreementOf 3 (some .int) 6 [.ref (ad G 287), .int a1, .int a2] M K := by
  unfold f_X12_agreementOf at h
  refine CI.mk hG (by decide) [(0, .ref (ad G 287)), (1, .int a1), (2, .int a2)] rfl (Nat.le_of_ble_eq_true rfl) (fun X O hlX hR => ?_)
  subst hlX
  refine J.aload_n (q := 1) O dX12_agreementOf_0 rfl 0 rfl ?_
  refine J.iload_n (q := 2) O dX12_agreementOf_1 rfl 1 rfl ?_
  refine J.callVI (q := 5) [.int a1] [] [.int a1, .ref (ad G 287)] rfl O dX12_agreementOf_2 rfl (c_X12_isAgreement hG h) wd_8_154 mw_X12_isAgreement io_287 rfl (by decide) (Nat.le_of_ble_eq_true rfl) (fun v5 M5 h => ?_)
  refine J.if_ne (q := 8) (tgt := 14) O dX12_agreementOf_5 rfl (by decide) (fun z6 => ?_) (fun z6 => ?_)
  · replace h := h.1 z6
    refine J.iload_n (q := 15) O dX12_agreementOf_14 rfl 2 rfl ?_
    refine J.iconst (q := 16) (v := (0 : Int32)) O dX12_agreementOf_15 rfl rfl ?_
    refine J.iconst (q := 17) (v := (4 : Int32)) O dX12_agreementOf_16 rfl rfl ?_
    refine J.callSI (q := 20) [.int a2, .int (0 : Int32), .int (4 : Int32)] [] [.int (4 : Int32), .int (0 : Int32), .int a2] rfl O dX12_agreementOf_17 rfl (c_X12_in hG h) wd_7_181 mw_X12_in rfl (by decide) (Nat.le_of_ble_eq_true rfl) (fun v7 M7 h => ?_)
    refine J.if_ne (q := 23) (tgt := 30) O dX12_agreementOf_20 rfl (by decide) (fun z8 => ?_) (fun z8 => ?_)
    · replace h := h.1 z8
      refine J.iload_n (q := 31) O dX12_agreementOf_30 rfl 2 rfl ?_
      refine J.if_ne (q := 34) (tgt := 43) O dX12_agreementOf_31 rfl (by decide) (fun z9 => ?_) (fun z9 => ?_)
      · replace h := h.1 z9
        refine J.iload_n (q := 44) O dX12_agreementOf_43 rfl 2 rfl ?_
        refine J.iconst (q := 45) (v := (1 : Int32)) O dX12_agreementOf_44 rfl rfl ?_
        refine J.icmp_ne (q := 48) (tgt := 57) O dX12_agreementOf_45 rfl (by decide) (fun z10 => ?_) (fun z10 => ?_)
        · replace h := h.1 z10
          refine J.iload_n (q := 58) O dX12_agreementOf_57 rfl 2 rfl ?_
          refine J.iconst (q := 59) (v := (2 : Int32)) O dX12_agreementOf_58 rfl rfl ?_
          refine J.icmp_ne (q := 62) (tgt := 71) O dX12_agreementOf_59 rfl (by decide) (fun z11 => ?_) (fun z11 => ?_)
          · replace h := h.1 z11
            refine J.iload_n (q := 72) O dX12_agreementOf_71 rfl 2 rfl ?_
            refine J.iconst (q := 73) (v := (3 : Int32)) O dX12_agreementOf_72 rfl rfl ?_
            refine J.icmp_ne (q := 76) (tgt := 85) O dX12_agreementOf_73 rfl (by decide) (fun z12 => ?_) (fun z12 => ?_)
            · replace h := h.1 z12
              refine J.aload_n (q := 86) O dX12_agreementOf_85 rfl 0 rfl ?_
              refine J.iload_n (q := 87) O dX12_agreementOf_86 rfl 1 rfl ?_
              refine J.callVI (q := 90) [.int a1] [] [.int a1, .ref (ad G 287)] rfl O dX12_agreementOf_87 rfl (c_X12_holdsNow hG h) wd_8_162 mw_X12_holdsNow io_287 rfl (by decide) (Nat.le_of_ble_eq_true rfl) (fun v13 M13 h => ?_)
              refine J.if_eq (q := 93) (tgt := 97) O dX12_agreementOf_90 rfl (by decide) (fun z14 => ?_) (fun z14 => ?_)
              · replace h := h.1 z14
                refine J.iconst (q := 98) (v := (0 : Int32)) O dX12_agreementOf_97 rfl rfl ?_
                exact J.sub [] rfl (j_X12_agreementOf_b98 hG O hR h)
              · replace h := h.2 z14
                refine J.iconst (q := 94) (v := (1 : Int32)) O dX12_agreementOf_93 rfl rfl ?_
                refine J.goto (q := 98) O dX12_agreementOf_94 (by decide) ?_
                exact J.sub [] rfl (j_X12_agreementOf_b98 hG O hR h)
            · replace h := h.2 z12
              refine J.aload_n (q := 77) O dX12_agreementOf_76 rfl 0 rfl ?_
              refine J.getR (q := 80) (c' := 287) (ci := 12) (k := 61) (r := 333) O dX12_agreementOf_77 rfl wd_6_133 (by decide) if_287_61 ?_
              refine J.iload_n (q := 81) O dX12_agreementOf_80 rfl 1 rfl ?_
              obtain ⟨hv15, h⟩ := h
              refine J.iald (q := 82) (c' := 333) (j := a1.toNatClampNeg) (M7 333 a1.toNatClampNeg) rfl O dX12_agreementOf_81 rfl ar_333 hv15 rfl ?_
              refine J.goto (q := 98) O dX12_agreementOf_82 (by decide) ?_
              exact J.sub [] rfl (j_X12_agreementOf_b98 hG O hR h)
          · replace h := h.2 z11
            refine J.aload_n (q := 63) O dX12_agreementOf_62 rfl 0 rfl ?_
            refine J.getR (q := 66) (c' := 287) (ci := 12) (k := 60) (r := 332) O dX12_agreementOf_63 rfl wd_6_132 (by decide) if_287_60 ?_
            refine J.iload_n (q := 67) O dX12_agreementOf_66 rfl 1 rfl ?_
            obtain ⟨hv16, h⟩ := h
            refine J.iald (q := 68) (c' := 332) (j := a1.toNatClampNeg) (M7 332 a1.toNatClampNeg) rfl O dX12_agreementOf_67 rfl ar_332 hv16 rfl ?_
            refine J.goto (q := 98) O dX12_agreementOf_68 (by decide) ?_
            exact J.sub [] rfl (j_X12_agreementOf_b98 hG O hR h)
        · replace h := h.2 z10
          refine J.aload_n (q := 49) O dX12_agreementOf_48 rfl 0 rfl ?_
          refine J.getR (q := 52) (c' := 287) (ci := 12) (k := 59) (r := 331) O dX12_agreementOf_49 rfl wd_6_131 (by decide) if_287_59 ?_
          refine J.iload_n (q := 53) O dX12_agreementOf_52 rfl 1 rfl ?_
          obtain ⟨hv17, h⟩ := h
          refine J.iald (q := 54) (c' := 331) (j := a1.toNatClampNeg) (M7 331 a1.toNatClampNeg) rfl O dX12_agreementOf_53 rfl ar_331 hv17 rfl ?_
          refine J.goto (q := 98) O dX12_agreementOf_54 (by decide) ?_
          exact J.sub [] rfl (j_X12_agreementOf_b98 hG O hR h)
      · replace h := h.2 z9
        refine J.aload_n (q := 35) O dX12_agreementOf_34 rfl 0 rfl ?_
        refine J.getR (q := 38) (c' := 287) (ci := 12) (k := 58) (r := 330) O dX12_agreementOf_35 rfl wd_6_130 (by decide) if_287_58 ?_
        refine J.iload_n (q := 39) O dX12_agreementOf_38 rfl 1 rfl ?_
        obtain ⟨hv18, h⟩ := h
        refine J.iald (q := 40) (c' := 330) (j := a1.toNatClampNeg) (M7 330 a1.toNatClampNeg) rfl O dX12_agreementOf_39 rfl ar_330 hv18 rfl ?_
        refine J.goto (q := 98) O dX12_agreementOf_40 (by decide) ?_
        exact J.sub [] rfl (j_X12_agreementOf_b98 hG O hR h)
    · replace h := h.2 z8
      refine J.aload_n (q := 24) O dX12_agreementOf_23 rfl 0 rfl ?_
      refine J.bipush (q := 26) (v := (-2 : Int32)) O dX12_agreementOf_24 rfl rfl ?_
      refine J.callVI (q := 29) [.int (-2 : Int32)] [] [.int (-2 : Int32), .ref (ad G 287)] rfl O dX12_agreementOf_26 rfl (c_X12_refuse hG h) wd_7_158 mw_X12_refuse io_287 rfl (by decide) (Nat.le_of_ble_eq_true rfl) (fun v19 M19 h => ?_)
      exact hR _ _ _ _ dX12_agreementOf_29 h
  · replace h := h.2 z6
    refine J.aload_n (q := 9) O dX12_agreementOf_8 rfl 0 rfl ?_
    refine J.iconst (q := 10) (v := (-1 : Int32)) O dX12_agreementOf_9 rfl rfl ?_
    refine J.callVI (q := 13) [.int (-1 : Int32)] [] [.int (-1 : Int32), .ref (ad G 287)] rfl O dX12_agreementOf_10 rfl (c_X12_refuse hG h) wd_7_158 mw_X12_refuse io_287 rfl (by decide) (Nat.le_of_ble_eq_true rfl) (fun v20 M20 h => ?_)
    exact hR _ _ _ _ dX12_agreementOf_13 h
set_option maxHeartbeats 4000000 in
set_option maxRecDepth 20000 in
theorem j_X12_contract_b16 {X : CX} {G : GX} {K : Int32 → Mem → Prop} (hG : Gd G) (O : Ok X G cX12_contract 5 RX12 3) (hR : RetI X G cX12_contract K) {M : Mem} (h : f_X12_contract_b16 K  M) : J X G M 16 [(0, .ref (ad G 287))] [] := by
  unfold f_X12_contract_b16 at h
  refine J.aload_n (q := 17) O dX12_contract_16 rfl 0 rfl ?_
  refine J.bipush (q := 19) (v := (-2 : Int32)) O dX12_contract_17 rfl rfl ?_
  refine J.callVI (q := 22) [.int (-2 : Int32)] [] [.int (-2 : Int32), .ref (ad G 287)] rfl O dX12_contract_19 rfl (c_X12_refuseFar hG h) wd_8_170 mw_X12_refuseFar io_287 rfl (by decide) (Nat.le_of_ble_eq_true rfl) (fun v4 M4 h => ?_)
  exact hR _ _ _ _ dX12_contract_22 h
set_option maxHeartbeats 4000000 in
set_option maxRecDepth 20000 in
theorem c_X12_contract {l : Launch} {G : GX} (hG : Gd G) {a1 : Int32} {a2 : Int32} {a3 : Int32} {M : Mem} {K : Int32 → Mem → Prop} (h : f_X12_contract a1 a2 a3 M K) : CI l G yX12_contract cX12_contract 5 (some .int) 3 [.ref (ad G 287), .int a1, .int a2, .int a3] M K := by
  unfold f_X12_contract at h
  refine CI.mk hG (by decide) [(0, .ref (ad G 287)), (1, .int a1), (2, .int a2), (3, .int a3)] rfl (Nat.le_of_ble_eq_true rfl) (fun X O hlX hR => ?_)
  subst hlX
  refine J.iload_n (q := 1) O dX12_contract_0 rfl 1 rfl ?_
  refine J.callSI (q := 4) [.int a1] [] [.int a1] rfl O dX12_contract_1 rfl (c_X12_isWhat hG h) wd_8_9 mw_X12_isWhat rfl (by decide) (Nat.le_of_ble_eq_true rfl) (fun v5 M5 h => ?_)
  refine J.if_eq (q := 7) (tgt := 16) O dX12_contract_4 rfl (by decide) (fun z6 => ?_) (fun z6 => ?_)
  · replace h := h.1 z6
    exact J.sub [0] rfl (j_X12_contract_b16 hG O hR h)
  · replace h := h.2 z6
    refine J.iload_n (q := 8) O dX12_contract_7 rfl 3 rfl ?_
    refine J.iconst (q := 9) (v := (0 : Int32)) O dX12_contract_8 rfl rfl ?_
    refine J.iconst (q := 10) (v := (2 : Int32)) O dX12_contract_9 rfl rfl ?_
    refine J.callSI (q := 13) [.int a3, .int (0 : Int32), .int (2 : Int32)] [] [.int (2 : Int32), .int (0 : Int32), .int a3] rfl O dX12_contract_10 rfl (c_X12_in hG h) wd_7_181 mw_X12_in rfl (by decide) (Nat.le_of_ble_eq_true rfl) (fun v7 M7 h => ?_)
    refine J.if_ne (q := 16) (tgt := 23) O dX12_contract_13 rfl (by decide) (fun z8 => ?_) (fun z8 => ?_)
    · replace h := h.1 z8
      refine J.iload_n (q := 24) O dX12_contract_23 rfl 2 rfl ?_
      refine J.iconst (q := 25) (v := (-1 : Int32)) O dX12_contract_24 rfl rfl ?_
      refine J.icmp_ge (q := 28) (tgt := 35) O dX12_contract_25 rfl (by decide) (fun z9 => ?_) (fun z9 => ?_)
      · replace h := h.1 z9
        refine J.iload_n (q := 36) O dX12_contract_35 rfl 2 rfl ?_
        refine J.sipush (q := 39) (v := (9999 : Int32)) O dX12_contract_36 rfl rfl ?_
        refine J.icmp_le (q := 42) (tgt := 49) O dX12_contract_39 rfl (by decide) (fun z10 => ?_) (fun z10 => ?_)
        · replace h := h.1 z10
          refine J.aload_n (q := 50) O dX12_contract_49 rfl 0 rfl ?_
          refine J.getR (q := 53) (c' := 287) (ci := 12) (k := 64) (r := 336) O dX12_contract_50 rfl wd_6_136 (by decide) if_287_64 ?_
          refine J.iload_n (q := 54) O dX12_contract_53 rfl 1 rfl ?_
          obtain ⟨hv11, h⟩ := h
          refine J.iald (q := 55) (c' := 336) (j := a1.toNatClampNeg) (M7 336 a1.toNatClampNeg) rfl O dX12_contract_54 rfl ar_336 hv11 rfl ?_
          refine J.istore (q := 57) O dX12_contract_55 rfl [(4, .int (M7 336 a1.toNatClampNeg)), (0, .ref (ad G 287)), (1, .int a1), (2, .int a2), (3, .int a3)] (by decide) rfl ?_
          refine J.aload_n (q := 58) O dX12_contract_57 rfl 1 rfl ?_
          refine J.getR (q := 61) (c' := 287) (ci := 12) (k := 64) (r := 336) O dX12_contract_58 rfl wd_6_136 (by decide) if_287_64 ?_
          refine J.iload_n (q := 62) O dX12_contract_61 rfl 2 rfl ?_
          refine J.iload_n (q := 63) O dX12_contract_62 rfl 3 rfl ?_
          obtain ⟨hv12, h⟩ := h
          refine J.iast (q := 64) (c' := 336) (j := a1.toNatClampNeg) O dX12_contract_63 rfl ar_336 hv12 rfl ?_
          refine J.aload_n (q := 65) O dX12_contract_64 rfl 1 rfl ?_
          refine J.getR (q := 68) (c' := 287) (ci := 12) (k := 65) (r := 337) O dX12_contract_65 rfl wd_6_137 (by decide) if_287_65 ?_
          refine J.iload_n (q := 69) O dX12_contract_68 rfl 2 rfl ?_
          refine J.iload_n (q := 70) O dX12_contract_69 rfl 4 rfl ?_
          obtain ⟨hv13, h⟩ := h
          refine J.iast (q := 71) (c' := 337) (j := a1.toNatClampNeg) O dX12_contract_70 rfl ar_337 hv13 rfl ?_
          refine J.iload (q := 73) O dX12_contract_71 rfl 0 rfl ?_
          exact hR _ _ _ _ dX12_contract_73 h
        · replace h := h.2 z10
          refine J.aload_n (q := 43) O dX12_contract_42 rfl 0 rfl ?_
          refine J.bipush (q := 45) (v := (-6 : Int32)) O dX12_contract_43 rfl rfl ?_
          refine J.callVI (q := 48) [.int (-6 : Int32)] [] [.int (-6 : Int32), .ref (ad G 287)] rfl O dX12_contract_45 rfl (c_X12_refuseFar hG h) wd_8_170 mw_X12_refuseFar io_287 rfl (by decide) (Nat.le_of_ble_eq_true rfl) (fun v14 M14 h => ?_)
          exact hR _ _ _ _ dX12_contract_48 h
      · replace h := h.2 z9
        refine J.aload_n (q := 29) O dX12_contract_28 rfl 0 rfl ?_
        refine J.bipush (q := 31) (v := (-4 : Int32)) O dX12_contract_29 rfl rfl ?_
        refine J.callVI (q := 34) [.int (-4 : Int32)] [] [.int (-4 : Int32), .ref (ad G 287)] rfl O dX12_contract_31 rfl (c_X12_refuseFar hG h) wd_8_170 mw_X12_refuseFar io_287 rfl (by decide) (Nat.le_of_ble_eq_true rfl) (fun v15 M15 h => ?_)
        exact hR _ _ _ _ dX12_contract_34 h
    · replace h := h.2 z8
      exact J.sub [0] rfl (j_X12_contract_b16 hG O hR h)
set_option maxHeartbeats 4000000 in
set_option maxRecDepth 20000 in
theorem j_X12_after_b38 {X : CX} {G : GX} {K : Int32 → Mem → Prop} (hG : Gd G) (O : Ok X G cX12_after 4 RX12 3) (hR : RetI X G cX12_after K) {s0 : Int32} {M : Mem} (h : f_X12_after_b38 K s0 M) : J X G M 38 [] [.int s0] := by
  unfold f_X12_after_b38 at h
  exact hR _ _ _ _ dX12_after_38 h
set_option maxHeartbeats 4000000 in
set_option maxRecDepth 20000 in
theorem c_X12_after {l : Launch} {G : GX} (hG : Gd G) {a1 : Int32} {a2 : Int32} {M : Mem} {K : Int32 → Mem → Prop} (h : f_X12_after a1 a2 M K) : CI l G yX12_after cX12_after 4 (some .int) 3 [.ref (ad G 287), .int a1, .int a2] M K := by
  unfold f_X12_after at h
  refine CI.mk hG (by decide) [(0, .ref (ad G 287)), (1, .int a1), (2, .int a2)] rfl (Nat.le_of_ble_eq_true rfl) (fun X O hlX hR => ?_)
  subst hlX
  refine J.iload_n (q := 1) O dX12_after_0 rfl 1 rfl ?_
  refine J.callSI (q := 4) [.int a1] [] [.int a1] rfl O dX12_after_1 rfl (c_X12_isWhat hG h) wd_8_9 mw_X12_isWhat rfl (by decide) (Nat.le_of_ble_eq_true rfl) (fun v4 M4 h => ?_)
  refine J.if_ne (q := 7) (tgt := 14) O dX12_after_4 rfl (by decide) (fun z5 => ?_) (fun z5 => ?_)
  · replace h := h.1 z5
    refine J.aload_n (q := 15) O dX12_after_14 rfl 0 rfl ?_
    refine J.getR (q := 18) (c' := 287) (ci := 12) (k := 66) (r := 338) O dX12_after_15 rfl wd_6_138 (by decide) if_287_66 ?_
    refine J.iload_n (q := 19) O dX12_after_18 rfl 1 rfl ?_
    obtain ⟨hv6, h⟩ := h
    refine J.zald (q := 20) (c' := 338) (j := a1.toNatClampNeg) (M4 338 a1.toNatClampNeg) rfl O dX12_after_19 rfl ar_338 hv6 rfl ?_
    refine J.istore_n (q := 21) O dX12_after_20 rfl [(3, .int (M4 338 a1.toNatClampNeg)), (0, .ref (ad G 287)), (1, .int a1), (2, .int a2)] (by decide) rfl ?_
    refine J.aload_n (q := 22) O dX12_after_21 rfl 1 rfl ?_
    refine J.getR (q := 25) (c' := 287) (ci := 12) (k := 66) (r := 338) O dX12_after_22 rfl wd_6_138 (by decide) if_287_66 ?_
    refine J.iload_n (q := 26) O dX12_after_25 rfl 2 rfl ?_
    refine J.iload_n (q := 27) O dX12_after_26 rfl 3 rfl ?_
    obtain ⟨hv7, h⟩ := h
    obtain ⟨hb8, h⟩ := h
    refine J.zast (q := 28) (c' := 338) (j := a1.toNatClampNeg) O dX12_after_27 rfl ar_338 hv7 rfl hb8 ?_
    refine J.iload_n (q := 29) O dX12_after_28 rfl 0 rfl ?_
    refine J.iload_n (q := 30) O dX12_after_29 rfl 3 rfl ?_
    refine J.icmp_ne (q := 33) (tgt := 37) O dX12_after_30 rfl (by decide) (fun z9 => ?_) (fun z9 => ?_)
    · replace h := h.1 z9
      refine J.iconst (q := 38) (v := (1 : Int32)) O dX12_after_37 rfl rfl ?_
      exact J.sub [] rfl (j_X12_after_b38 hG O hR h)
    · replace h := h.2 z9
      refine J.iconst (q := 34) (v := (0 : Int32)) O dX12_after_33 rfl rfl ?_
      refine J.goto (q := 38) O dX12_after_34 (by decide) ?_
      exact J.sub [] rfl (j_X12_after_b38 hG O hR h)
  · replace h := h.2 z5
    refine J.aload_n (q := 8) O dX12_after_7 rfl 0 rfl ?_
    refine J.bipush (q := 10) (v := (-2 : Int32)) O dX12_after_8 rfl rfl ?_
    refine J.callVI (q := 13) [.int (-2 : Int32)] [] [.int (-2 : Int32), .ref (ad G 287)] rfl O dX12_after_10 rfl (c_X12_refuse hG h) wd_7_158 mw_X12_refuse io_287 rfl (by decide) (Nat.le_of_ble_eq_true rfl) (fun v10 M10 h => ?_)
    exact hR _ _ _ _ dX12_after_13 h
set_option maxHeartbeats 4000000 in
set_option maxRecDepth 20000 in
theorem j_X12_agreementFor_b198 {X : CX} {G : GX} {K : Int32 → Mem → Prop} (hG : Gd G) (O : Ok X G cX12_agreementFor 10 RX12 6) (hR : RetI X G cX12_agreementFor K) {r9 : Int32 × Int32 × Int32 × Int32 × Int32 × Int32 × Mem → Prop} (hr9 : ∀ a : Int32 × Int32 × Int32 × Int32 × Int32 × Int32 × Mem, r9 a → J X G a.2.2.2.2.2.2 9 [(0, .ref (ad G 287)), (1, .int a.1), (2, .int a.2.1), (3, .int a.2.2.1), (4, .int a.2.2.2.1), (5, .int a.2.2.2.2.1), (6, .int a.2.2.2.2.2.1)] []) {x1 : Int32} {x2 : Int32} {x3 : Int32} {x4 : Int32} {x5 : Int32} {x6 : Int32} {M : Mem} (h : f_X12_agreementFor_b198 r9 K x1 x2 x3 x4 x5 x6 M) : J X G M 198 [(0, .ref (ad G 287)), (1, .int x1), (2, .int x2), (3, .int x3), (4, .int x4), (5, .int x5), (6, .int x6)] [] := by
  unfold f_X12_agreementFor_b198 at h
  refine J.iinc (q := 201) O dX12_agreementFor_198 rfl [(6, .int (x6 + (1 : Int32))), (0, .ref (ad G 287)), (1, .int x1), (2, .int x2), (3, .int x3), (4, .int x4), (5, .int x5)] 6 rfl rfl (by decide) rfl ?_
  refine J.goto (q := 9) O dX12_agreementFor_201 (by decide) ?_
  exact J.sub [1, 2, 3, 4, 5, 6, 0] rfl (hr9 _ h)
set_option maxHeartbeats 4000000 in
set_option maxRecDepth 20000 in
theorem j_X12_agreementFor_b196 {X : CX} {G : GX} {K : Int32 → Mem → Prop} (hG : Gd G) (O : Ok X G cX12_agreementFor 10 RX12 6) (hR : RetI X G cX12_agreementFor K) {r9 : Int32 × Int32 × Int32 × Int32 × Int32 × Int32 × Mem → Prop} (hr9 : ∀ a : Int32 × Int32 × Int32 × Int32 × Int32 × Int32 × Mem, r9 a → J X G a.2.2.2.2.2.2 9 [(0, .ref (ad G 287)), (1, .int a.1), (2, .int a.2.1), (3, .int a.2.2.1), (4, .int a.2.2.2.1), (5, .int a.2.2.2.2.1), (6, .int a.2.2.2.2.2.1)] []) {x1 : Int32} {x2 : Int32} {x3 : Int32} {x4 : Int32} {x6 : Int32} {s0 : Int32} {M : Mem} (h : f_X12_agreementFor_b196 r9 K x1 x2 x3 x4 x6 s0 M) : J X G M 196 [(0, .ref (ad G 287)), (1, .int x1), (2, .int x2), (3, .int x3), (4, .int x4), (6, .int x6)] [.int s0] := by
  unfold f_X12_agreementFor_b196 at h
  refine J.istore (q := 198) O dX12_agreementFor_196 rfl [(5, .int s0), (0, .ref (ad G 287)), (1, .int x1), (2, .int x2), (3, .int x3), (4, .int x4), (6, .int x6)] (by decide) rfl ?_
  exact J.sub [1, 2, 3, 4, 5, 0, 6] rfl (j_X12_agreementFor_b198 hG O hR hr9 h)
set_option maxHeartbeats 4000000 in
set_option maxRecDepth 20000 in
theorem j_X12_agreementFor_b189 {X : CX} {G : GX} {K : Int32 → Mem → Prop} (hG : Gd G) (O : Ok X G cX12_agreementFor 10 RX12 6) (hR : RetI X G cX12_agreementFor K) {r9 : Int32 × Int32 × Int32 × Int32 × Int32 × Int32 × Mem → Prop} (hr9 : ∀ a : Int32 × Int32 × Int32 × Int32 × Int32 × Int32 × Mem, r9 a → J X G a.2.2.2.2.2.2 9 [(0, .ref (ad G 287)), (1, .int a.1), (2, .int a.2.1), (3, .int a.2.2.1), (4, .int a.2.2.2.1), (5, .int a.2.2.2.2.1), (6, .int a.2.2.2.2.2.1)] []) {x1 : Int32} {x2 : Int32} {x3 : Int32} {x4 : Int32} {x6 : Int32} {M : Mem} (h : f_X12_agreementFor_b189 r9 K x1 x2 x3 x4 x6 M) : J X G M 189 [(0, .ref (ad G 287)), (1, .int x1), (2, .int x2), (3, .int x3), (4, .int x4), (6, .int x6)] [] := by
  unfold f_X12_agreementFor_b189 at h
  refine J.iload (q := 191) O dX12_agreementFor_189 rfl 5 rfl ?_
  refine J.goto (q := 196) O dX12_agreementFor_191 (by decide) ?_
  exact J.sub [0, 1, 2, 3, 4, 5] rfl (j_X12_agreementFor_b196 hG O hR hr9 h)
set_option maxHeartbeats 4000000 in
set_option maxRecDepth 20000 in
theorem j_X12_agreementFor_b194 {X : CX} {G : GX} {K : Int32 → Mem → Prop} (hG : Gd G) (O : Ok X G cX12_agreementFor 10 RX12 6) (hR : RetI X G cX12_agreementFor K) {r9 : Int32 × Int32 × Int32 × Int32 × Int32 × Int32 × Mem → Prop} (hr9 : ∀ a : Int32 × Int32 × Int32 × Int32 × Int32 × Int32 × Mem, r9 a → J X G a.2.2.2.2.2.2 9 [(0, .ref (ad G 287)), (1, .int a.1), (2, .int a.2.1), (3, .int a.2.2.1), (4, .int a.2.2.2.1), (5, .int a.2.2.2.2.1), (6, .int a.2.2.2.2.2.1)] []) {x1 : Int32} {x2 : Int32} {x3 : Int32} {x4 : Int32} {x5 : Int32} {x6 : Int32} {M : Mem} (h : f_X12_agreementFor_b194 r9 K x1 x2 x3 x4 x5 x6 M) : J X G M 194 [(0, .ref (ad G 287)), (1, .int x1), (2, .int x2), (3, .int x3), (4, .int x4), (5, .int x5), (6, .int x6)] [] := by
  unfold f_X12_agreementFor_b194 at h
  refine J.iload (q := 196) O dX12_agreementFor_194 rfl 5 rfl ?_
  exact J.sub [0, 1, 2, 3, 4, 6] rfl (j_X12_agreementFor_b196 hG O hR hr9 h)
set_option maxHeartbeats 4000000 in
set_option maxRecDepth 20000 in
theorem j_X12_agreementFor_b160 {X : CX} {G : GX} {K : Int32 → Mem → Prop} (hG : Gd G) (O : Ok X G cX12_agreementFor 10 RX12 6) (hR : RetI X G cX12_agreementFor K) {r9 : Int32 × Int32 × Int32 × Int32 × Int32 × Int32 × Mem → Prop} (hr9 : ∀ a : Int32 × Int32 × Int32 × Int32 × Int32 × Int32 × Mem, r9 a → J X G a.2.2.2.2.2.2 9 [(0, .ref (ad G 287)), (1, .int a.1), (2, .int a.2.1), (3, .int a.2.2.1), (4, .int a.2.2.2.1), (5, .int a.2.2.2.2.1), (6, .int a.2.2.2.2.2.1)] []) {x1 : Int32} {x2 : Int32} {x3 : Int32} {x4 : Int32} {x5 : Int32} {x6 : Int32} {s0 : Int32} {M : Mem} (h : f_X12_agreementFor_b160 r9 K x1 x2 x3 x4 x5 x6 s0 M) : J X G M 160 [(0, .ref (ad G 287)), (1, .int x1), (2, .int x2), (3, .int x3), (4, .int x4), (5, .int x5), (6, .int x6)] [.int s0] := by
  unfold f_X12_agreementFor_b160 at h
  refine J.istore (q := 162) O dX12_agreementFor_160 rfl [(9, .int s0), (0, .ref (ad G 287)), (1, .int x1), (2, .int x2), (3, .int x3), (4, .int x4), (5, .int x5), (6, .int x6)] (by decide) rfl ?_
  refine J.iload (q := 164) O dX12_agreementFor_162 rfl 0 rfl ?_
  refine J.if_eq (q := 167) (tgt := 194) O dX12_agreementFor_164 rfl (by decide) (fun z14 => ?_) (fun z14 => ?_)
  · replace h := h.1 z14
    exact J.sub [1, 2, 3, 4, 5, 6, 7] rfl (j_X12_agreementFor_b194 hG O hR hr9 h)
  · replace h := h.2 z14
    refine J.iload (q := 169) O dX12_agreementFor_167 rfl 6 rfl ?_
    refine J.if_lt (q := 172) (tgt := 189) O dX12_agreementFor_169 rfl (by decide) (fun z15 => ?_) (fun z15 => ?_)
    · replace h := h.1 z15
      exact J.sub [1, 2, 3, 4, 5, 7] rfl (j_X12_agreementFor_b189 hG O hR hr9 h)
    · replace h := h.2 z15
      refine J.aload_n (q := 173) O dX12_agreementFor_172 rfl 1 rfl ?_
      refine J.getR (q := 176) (c' := 287) (ci := 12) (k := 61) (r := 333) O dX12_agreementFor_173 rfl wd_6_133 (by decide) if_287_61 ?_
      refine J.iload (q := 178) O dX12_agreementFor_176 rfl 7 rfl ?_
      obtain ⟨hv16, h⟩ := h
      refine J.iald (q := 179) (c' := 333) (j := x6.toNatClampNeg) (M 333 x6.toNatClampNeg) rfl O dX12_agreementFor_178 rfl ar_333 hv16 rfl ?_
      refine J.aload_n (q := 180) O dX12_agreementFor_179 rfl 1 rfl ?_
      refine J.getR (q := 183) (c' := 287) (ci := 12) (k := 61) (r := 333) O dX12_agreementFor_180 rfl wd_6_133 (by decide) if_287_61 ?_
      refine J.iload (q := 185) O dX12_agreementFor_183 rfl 6 rfl ?_
      obtain ⟨hv17, h⟩ := h
      refine J.iald (q := 186) (c' := 333) (j := x5.toNatClampNeg) (M 333 x5.toNatClampNeg) rfl O dX12_agreementFor_185 rfl ar_333 hv17 rfl ?_
      refine J.icmp_lt (q := 189) (tgt := 194) O dX12_agreementFor_186 rfl (by decide) (fun z18 => ?_) (fun z18 => ?_)
      · replace h := h.1 z18
        exact J.sub [1, 2, 3, 4, 5, 6, 7] rfl (j_X12_agreementFor_b194 hG O hR hr9 h)
      · replace h := h.2 z18
        exact J.sub [1, 2, 3, 4, 5, 7] rfl (j_X12_agreementFor_b189 hG O hR hr9 h)
set_option maxHeartbeats 4000000 in
set_option maxRecDepth 20000 in
theorem j_X12_agreementFor_b159 {X : CX} {G : GX} {K : Int32 → Mem → Prop} (hG : Gd G) (O : Ok X G cX12_agreementFor 10 RX12 6) (hR : RetI X G cX12_agreementFor K) {r9 : Int32 × Int32 × Int32 × Int32 × Int32 × Int32 × Mem → Prop} (hr9 : ∀ a : Int32 × Int32 × Int32 × Int32 × Int32 × Int32 × Mem, r9 a → J X G a.2.2.2.2.2.2 9 [(0, .ref (ad G 287)), (1, .int a.1), (2, .int a.2.1), (3, .int a.2.2.1), (4, .int a.2.2.2.1), (5, .int a.2.2.2.2.1), (6, .int a.2.2.2.2.2.1)] []) {x1 : Int32} {x2 : Int32} {x3 : Int32} {x4 : Int32} {x5 : Int32} {x6 : Int32} {M : Mem} (h : f_X12_agreementFor_b159 r9 K x1 x2 x3 x4 x5 x6 M) : J X G M 159 [(0, .ref (ad G 287)), (1, .int x1), (2, .int x2), (3, .int x3), (4, .int x4), (5, .int x5), (6, .int x6)] [] := by
  unfold f_X12_agreementFor_b159 at h
  refine J.iconst (q := 160) (v := (0 : Int32)) O dX12_agreementFor_159 rfl rfl ?_
  exact J.sub [0, 1, 2, 3, 4, 5, 6] rfl (j_X12_agreementFor_b160 hG O hR hr9 h)
set_option maxHeartbeats 4000000 in
set_option maxRecDepth 20000 in
theorem j_X12_agreementFor_b125 {X : CX} {G : GX} {K : Int32 → Mem → Prop} (hG : Gd G) (O : Ok X G cX12_agreementFor 10 RX12 6) (hR : RetI X G cX12_agreementFor K) {r9 : Int32 × Int32 × Int32 × Int32 × Int32 × Int32 × Mem → Prop} (hr9 : ∀ a : Int32 × Int32 × Int32 × Int32 × Int32 × Int32 × Mem, r9 a → J X G a.2.2.2.2.2.2 9 [(0, .ref (ad G 287)), (1, .int a.1), (2, .int a.2.1), (3, .int a.2.2.1), (4, .int a.2.2.2.1), (5, .int a.2.2.2.2.1), (6, .int a.2.2.2.2.2.1)] []) {x1 : Int32} {x2 : Int32} {x3 : Int32} {x5 : Int32} {x6 : Int32} {s0 : Int32} {M : Mem} (h : f_X12_agreementFor_b125 r9 K x1 x2 x3 x5 x6 s0 M) : J X G M 125 [(0, .ref (ad G 287)), (1, .int x1), (2, .int x2), (3, .int x3), (5, .int x5), (6, .int x6)] [.int s0] := by
  unfold f_X12_agreementFor_b125 at h
  refine J.istore (q := 127) O dX12_agreementFor_125 rfl [(4, .int s0), (0, .ref (ad G 287)), (1, .int x1), (2, .int x2), (3, .int x3), (5, .int x5), (6, .int x6)] (by decide) rfl ?_
  refine J.aload_n (q := 128) O dX12_agreementFor_127 rfl 1 rfl ?_
  refine J.getR (q := 131) (c' := 287) (ci := 12) (k := 60) (r := 332) O dX12_agreementFor_128 rfl wd_6_132 (by decide) if_287_60 ?_
  refine J.iload (q := 133) O dX12_agreementFor_131 rfl 6 rfl ?_
  obtain ⟨hv19, h⟩ := h
  refine J.iald (q := 134) (c' := 332) (j := x6.toNatClampNeg) (M 332 x6.toNatClampNeg) rfl O dX12_agreementFor_133 rfl ar_332 hv19 rfl ?_
  refine J.aload_n (q := 135) O dX12_agreementFor_134 rfl 1 rfl ?_
  refine J.getR (q := 138) (c' := 287) (ci := 12) (k := 61) (r := 333) O dX12_agreementFor_135 rfl wd_6_133 (by decide) if_287_61 ?_
  refine J.iload (q := 140) O dX12_agreementFor_138 rfl 6 rfl ?_
  obtain ⟨hv20, h⟩ := h
  refine J.iald (q := 141) (c' := 333) (j := x6.toNatClampNeg) (M 333 x6.toNatClampNeg) rfl O dX12_agreementFor_140 rfl ar_333 hv20 rfl ?_
  refine J.icmp_gt (q := 144) (tgt := 159) O dX12_agreementFor_141 rfl (by decide) (fun z21 => ?_) (fun z21 => ?_)
  · replace h := h.1 z21
    exact J.sub [1, 2, 3, 4, 0, 5, 6] rfl (j_X12_agreementFor_b159 hG O hR hr9 h)
  · replace h := h.2 z21
    refine J.aload_n (q := 145) O dX12_agreementFor_144 rfl 1 rfl ?_
    refine J.getR (q := 148) (c' := 287) (ci := 12) (k := 61) (r := 333) O dX12_agreementFor_145 rfl wd_6_133 (by decide) if_287_61 ?_
    refine J.iload (q := 150) O dX12_agreementFor_148 rfl 6 rfl ?_
    obtain ⟨hv22, h⟩ := h
    refine J.iald (q := 151) (c' := 333) (j := x6.toNatClampNeg) (M 333 x6.toNatClampNeg) rfl O dX12_agreementFor_150 rfl ar_333 hv22 rfl ?_
    refine J.iload_n (q := 152) O dX12_agreementFor_151 rfl 4 rfl ?_
    refine J.icmp_ge (q := 155) (tgt := 159) O dX12_agreementFor_152 rfl (by decide) (fun z23 => ?_) (fun z23 => ?_)
    · replace h := h.1 z23
      exact J.sub [1, 2, 3, 4, 0, 5, 6] rfl (j_X12_agreementFor_b159 hG O hR hr9 h)
    · replace h := h.2 z23
      refine J.iconst (q := 156) (v := (1 : Int32)) O dX12_agreementFor_155 rfl rfl ?_
      refine J.goto (q := 160) O dX12_agreementFor_156 (by decide) ?_
      exact J.sub [1, 2, 3, 4, 0, 5, 6] rfl (j_X12_agreementFor_b160 hG O hR hr9 h)
set_option maxHeartbeats 4000000 in
set_option maxRecDepth 20000 in
theorem j_X12_agreementFor_b118 {X : CX} {G : GX} {K : Int32 → Mem → Prop} (hG : Gd G) (O : Ok X G cX12_agreementFor 10 RX12 6) (hR : RetI X G cX12_agreementFor K) {r9 : Int32 × Int32 × Int32 × Int32 × Int32 × Int32 × Mem → Prop} (hr9 : ∀ a : Int32 × Int32 × Int32 × Int32 × Int32 × Int32 × Mem, r9 a → J X G a.2.2.2.2.2.2 9 [(0, .ref (ad G 287)), (1, .int a.1), (2, .int a.2.1), (3, .int a.2.2.1), (4, .int a.2.2.2.1), (5, .int a.2.2.2.2.1), (6, .int a.2.2.2.2.2.1)] []) {x1 : Int32} {x2 : Int32} {x3 : Int32} {x5 : Int32} {x6 : Int32} {M : Mem} (h : f_X12_agreementFor_b118 r9 K x1 x2 x3 x5 x6 M) : J X G M 118 [(0, .ref (ad G 287)), (1, .int x1), (2, .int x2), (3, .int x3), (5, .int x5), (6, .int x6)] [] := by
  unfold f_X12_agreementFor_b118 at h
  refine J.iload (q := 120) O dX12_agreementFor_118 rfl 5 rfl ?_
  refine J.goto (q := 125) O dX12_agreementFor_120 (by decide) ?_
  exact J.sub [0, 1, 2, 3, 4, 5] rfl (j_X12_agreementFor_b125 hG O hR hr9 h)
set_option maxHeartbeats 4000000 in
set_option maxRecDepth 20000 in
theorem j_X12_agreementFor_b123 {X : CX} {G : GX} {K : Int32 → Mem → Prop} (hG : Gd G) (O : Ok X G cX12_agreementFor 10 RX12 6) (hR : RetI X G cX12_agreementFor K) {r9 : Int32 × Int32 × Int32 × Int32 × Int32 × Int32 × Mem → Prop} (hr9 : ∀ a : Int32 × Int32 × Int32 × Int32 × Int32 × Int32 × Mem, r9 a → J X G a.2.2.2.2.2.2 9 [(0, .ref (ad G 287)), (1, .int a.1), (2, .int a.2.1), (3, .int a.2.2.1), (4, .int a.2.2.2.1), (5, .int a.2.2.2.2.1), (6, .int a.2.2.2.2.2.1)] []) {x1 : Int32} {x2 : Int32} {x3 : Int32} {x4 : Int32} {x5 : Int32} {x6 : Int32} {M : Mem} (h : f_X12_agreementFor_b123 r9 K x1 x2 x3 x4 x5 x6 M) : J X G M 123 [(0, .ref (ad G 287)), (1, .int x1), (2, .int x2), (3, .int x3), (4, .int x4), (5, .int x5), (6, .int x6)] [] := by
  unfold f_X12_agreementFor_b123 at h
  refine J.iload (q := 125) O dX12_agreementFor_123 rfl 4 rfl ?_
  exact J.sub [0, 1, 2, 3, 5, 6] rfl (j_X12_agreementFor_b125 hG O hR hr9 h)
set_option maxHeartbeats 4000000 in
set_option maxRecDepth 20000 in
theorem j_X12_agreementFor_b89 {X : CX} {G : GX} {K : Int32 → Mem → Prop} (hG : Gd G) (O : Ok X G cX12_agreementFor 10 RX12 6) (hR : RetI X G cX12_agreementFor K) {r9 : Int32 × Int32 × Int32 × Int32 × Int32 × Int32 × Mem → Prop} (hr9 : ∀ a : Int32 × Int32 × Int32 × Int32 × Int32 × Int32 × Mem, r9 a → J X G a.2.2.2.2.2.2 9 [(0, .ref (ad G 287)), (1, .int a.1), (2, .int a.2.1), (3, .int a.2.2.1), (4, .int a.2.2.2.1), (5, .int a.2.2.2.2.1), (6, .int a.2.2.2.2.2.1)] []) {x1 : Int32} {x2 : Int32} {x3 : Int32} {x4 : Int32} {x5 : Int32} {x6 : Int32} {s0 : Int32} {M : Mem} (h : f_X12_agreementFor_b89 r9 K x1 x2 x3 x4 x5 x6 s0 M) : J X G M 89 [(0, .ref (ad G 287)), (1, .int x1), (2, .int x2), (3, .int x3), (4, .int x4), (5, .int x5), (6, .int x6)] [.int s0] := by
  unfold f_X12_agreementFor_b89 at h
  refine J.istore (q := 91) O dX12_agreementFor_89 rfl [(8, .int s0), (0, .ref (ad G 287)), (1, .int x1), (2, .int x2), (3, .int x3), (4, .int x4), (5, .int x5), (6, .int x6)] (by decide) rfl ?_
  refine J.iload (q := 93) O dX12_agreementFor_91 rfl 0 rfl ?_
  refine J.if_eq (q := 96) (tgt := 123) O dX12_agreementFor_93 rfl (by decide) (fun z24 => ?_) (fun z24 => ?_)
  · replace h := h.1 z24
    exact J.sub [1, 2, 3, 4, 5, 6, 7] rfl (j_X12_agreementFor_b123 hG O hR hr9 h)
  · replace h := h.2 z24
    refine J.iload (q := 98) O dX12_agreementFor_96 rfl 5 rfl ?_
    refine J.if_lt (q := 101) (tgt := 118) O dX12_agreementFor_98 rfl (by decide) (fun z25 => ?_) (fun z25 => ?_)
    · replace h := h.1 z25
      exact J.sub [1, 2, 3, 4, 6, 7] rfl (j_X12_agreementFor_b118 hG O hR hr9 h)
    · replace h := h.2 z25
      refine J.aload_n (q := 102) O dX12_agreementFor_101 rfl 1 rfl ?_
      refine J.getR (q := 105) (c' := 287) (ci := 12) (k := 60) (r := 332) O dX12_agreementFor_102 rfl wd_6_132 (by decide) if_287_60 ?_
      refine J.iload (q := 107) O dX12_agreementFor_105 rfl 7 rfl ?_
      obtain ⟨hv26, h⟩ := h
      refine J.iald (q := 108) (c' := 332) (j := x6.toNatClampNeg) (M 332 x6.toNatClampNeg) rfl O dX12_agreementFor_107 rfl ar_332 hv26 rfl ?_
      refine J.aload_n (q := 109) O dX12_agreementFor_108 rfl 1 rfl ?_
      refine J.getR (q := 112) (c' := 287) (ci := 12) (k := 60) (r := 332) O dX12_agreementFor_109 rfl wd_6_132 (by decide) if_287_60 ?_
      refine J.iload (q := 114) O dX12_agreementFor_112 rfl 5 rfl ?_
      obtain ⟨hv27, h⟩ := h
      refine J.iald (q := 115) (c' := 332) (j := x4.toNatClampNeg) (M 332 x4.toNatClampNeg) rfl O dX12_agreementFor_114 rfl ar_332 hv27 rfl ?_
      refine J.icmp_lt (q := 118) (tgt := 123) O dX12_agreementFor_115 rfl (by decide) (fun z28 => ?_) (fun z28 => ?_)
      · replace h := h.1 z28
        exact J.sub [1, 2, 3, 4, 5, 6, 7] rfl (j_X12_agreementFor_b123 hG O hR hr9 h)
      · replace h := h.2 z28
        exact J.sub [1, 2, 3, 4, 6, 7] rfl (j_X12_agreementFor_b118 hG O hR hr9 h)
set_option maxHeartbeats 4000000 in
set_option maxRecDepth 20000 in
theorem j_X12_agreementFor_b88 {X : CX} {G : GX} {K : Int32 → Mem → Prop} (hG : Gd G) (O : Ok X G cX12_agreementFor 10 RX12 6) (hR : RetI X G cX12_agreementFor K) {r9 : Int32 × Int32 × Int32 × Int32 × Int32 × Int32 × Mem → Prop} (hr9 : ∀ a : Int32 × Int32 × Int32 × Int32 × Int32 × Int32 × Mem, r9 a → J X G a.2.2.2.2.2.2 9 [(0, .ref (ad G 287)), (1, .int a.1), (2, .int a.2.1), (3, .int a.2.2.1), (4, .int a.2.2.2.1), (5, .int a.2.2.2.2.1), (6, .int a.2.2.2.2.2.1)] []) {x1 : Int32} {x2 : Int32} {x3 : Int32} {x4 : Int32} {x5 : Int32} {x6 : Int32} {M : Mem} (h : f_X12_agreementFor_b88 r9 K x1 x2 x3 x4 x5 x6 M) : J X G M 88 [(0, .ref (ad G 287)), (1, .int x1), (2, .int x2), (3, .int x3), (4, .int x4), (5, .int x5), (6, .int x6)] [] := by
  unfold f_X12_agreementFor_b88 at h
  refine J.iconst (q := 89) (v := (0 : Int32)) O dX12_agreementFor_88 rfl rfl ?_
  exact J.sub [0, 1, 2, 3, 4, 5, 6] rfl (j_X12_agreementFor_b89 hG O hR hr9 h)
set_option maxHeartbeats 4000000 in
set_option maxRecDepth 20000 in
theorem j_X12_agreementFor_b229 {X : CX} {G : GX} {K : Int32 → Mem → Prop} (hG : Gd G) (O : Ok X G cX12_agreementFor 10 RX12 6) (hR : RetI X G cX12_agreementFor K) {s0 : Int32} {M : Mem} (h : f_X12_agreementFor_b229 K s0 M) : J X G M 229 [] [.int s0] := by
  unfold f_X12_agreementFor_b229 at h
  exact hR _ _ _ _ dX12_agreementFor_229 h
set_option maxHeartbeats 4000000 in
set_option maxRecDepth 20000 in
theorem j_X12_agreementFor_c9 {X : CX} {G : GX} {K : Int32 → Mem → Prop} (hG : Gd G) (O : Ok X G cX12_agreementFor 10 RX12 6) (hR : RetI X G cX12_agreementFor K) {a : Int32 × Int32 × Int32 × Int32 × Int32 × Int32 × Mem} (h : Lp (fun (r9 : Int32 × Int32 × Int32 × Int32 × Int32 × Int32 × Mem → Prop) a => f_X12_agreementFor_c9 K r9 a.1 a.2.1 a.2.2.1 a.2.2.2.1 a.2.2.2.2.1 a.2.2.2.2.2.1 a.2.2.2.2.2.2) a) : J X G a.2.2.2.2.2.2 9 [(0, .ref (ad G 287)), (1, .int a.1), (2, .int a.2.1), (3, .int a.2.2.1), (4, .int a.2.2.2.1), (5, .int a.2.2.2.2.1), (6, .int a.2.2.2.2.2.1)] [] := by
  refine Lp.elim (P := fun a => J X G a.2.2.2.2.2.2 9 [(0, .ref (ad G 287)), (1, .int a.1), (2, .int a.2.1), (3, .int a.2.2.1), (4, .int a.2.2.2.1), (5, .int a.2.2.2.2.1), (6, .int a.2.2.2.2.2.1)] []) ?_ h
  clear h
  intro r9 hr9 a h
  obtain ⟨x1, x2, x3, x4, x5, x6, M⟩ := a
  unfold f_X12_agreementFor_c9 at h
  (try dsimp only at h ⊢)
  refine J.iload (q := 11) O dX12_agreementFor_9 rfl 6 rfl ?_
  refine J.aload_n (q := 12) O dX12_agreementFor_11 rfl 0 rfl ?_
  refine J.getI (q := 15) (c' := 287) (ci := 12) (k := 57) (M 287 57) rfl O dX12_agreementFor_12 rfl wd_6_129 (by decide) if_287_57 ?_
  refine J.icmp_ge (q := 18) (tgt := 204) O dX12_agreementFor_15 rfl (by decide) (fun z29 => ?_) (fun z29 => ?_)
  · replace h := h.1 z29
    refine J.iload (q := 206) O dX12_agreementFor_204 rfl 4 rfl ?_
    refine J.if_lt (q := 209) (tgt := 214) O dX12_agreementFor_206 rfl (by decide) (fun z30 => ?_) (fun z30 => ?_)
    · replace h := h.1 z30
      refine J.aload_n (q := 215) O dX12_agreementFor_214 rfl 0 rfl ?_
      refine J.getR (q := 218) (c' := 287) (ci := 12) (k := 66) (r := 338) O dX12_agreementFor_215 rfl wd_6_138 (by decide) if_287_66 ?_
      refine J.iload_n (q := 219) O dX12_agreementFor_218 rfl 2 rfl ?_
      obtain ⟨hv31, h⟩ := h
      refine J.zald (q := 220) (c' := 338) (j := x2.toNatClampNeg) (M 338 x2.toNatClampNeg) rfl O dX12_agreementFor_219 rfl ar_338 hv31 rfl ?_
      refine J.if_eq (q := 223) (tgt := 228) O dX12_agreementFor_220 rfl (by decide) (fun z32 => ?_) (fun z32 => ?_)
      · replace h := h.1 z32
        refine J.iconst (q := 229) (v := (-1 : Int32)) O dX12_agreementFor_228 rfl rfl ?_
        exact J.sub [] rfl (j_X12_agreementFor_b229 hG O hR h)
      · replace h := h.2 z32
        refine J.iload (q := 225) O dX12_agreementFor_223 rfl 5 rfl ?_
        refine J.goto (q := 229) O dX12_agreementFor_225 (by decide) ?_
        exact J.sub [] rfl (j_X12_agreementFor_b229 hG O hR h)
    · replace h := h.2 z30
      refine J.iload (q := 211) O dX12_agreementFor_209 rfl 4 rfl ?_
      refine J.goto (q := 229) O dX12_agreementFor_211 (by decide) ?_
      exact J.sub [] rfl (j_X12_agreementFor_b229 hG O hR h)
  · replace h := h.2 z29
    refine J.aload_n (q := 19) O dX12_agreementFor_18 rfl 0 rfl ?_
    refine J.getR (q := 22) (c' := 287) (ci := 12) (k := 58) (r := 330) O dX12_agreementFor_19 rfl wd_6_130 (by decide) if_287_58 ?_
    refine J.iload (q := 24) O dX12_agreementFor_22 rfl 6 rfl ?_
    obtain ⟨hv33, h⟩ := h
    refine J.iald (q := 25) (c' := 330) (j := x6.toNatClampNeg) (M 330 x6.toNatClampNeg) rfl O dX12_agreementFor_24 rfl ar_330 hv33 rfl ?_
    refine J.istore (q := 27) O dX12_agreementFor_25 rfl [(7, .int (M 330 x6.toNatClampNeg)), (0, .ref (ad G 287)), (1, .int x1), (2, .int x2), (3, .int x3), (4, .int x4), (5, .int x5), (6, .int x6)] (by decide) rfl ?_
    refine J.aload_n (q := 28) O dX12_agreementFor_27 rfl 1 rfl ?_
    refine J.getR (q := 31) (c' := 287) (ci := 12) (k := 33) (r := 308) O dX12_agreementFor_28 rfl wd_6_105 (by decide) if_287_33 ?_
    refine J.iload (q := 33) O dX12_agreementFor_31 rfl 0 rfl ?_
    obtain ⟨hv34, h⟩ := h
    refine J.iald (q := 34) (c' := 308) (j := (M 330 x6.toNatClampNeg).toNatClampNeg) (M 308 ((M 330 x6.toNatClampNeg).toNatClampNeg)) rfl O dX12_agreementFor_33 rfl ar_308 hv34 rfl ?_
    refine J.iload_n (q := 35) O dX12_agreementFor_34 rfl 3 rfl ?_
    refine J.icmp_ne (q := 38) (tgt := 198) O dX12_agreementFor_35 rfl (by decide) (fun z35 => ?_) (fun z35 => ?_)
    · replace h := h.1 z35
      exact J.sub [1, 2, 3, 4, 5, 6, 7] rfl (j_X12_agreementFor_b198 hG O hR hr9 h)
    · replace h := h.2 z35
      refine J.aload_n (q := 39) O dX12_agreementFor_38 rfl 1 rfl ?_
      refine J.getR (q := 42) (c' := 287) (ci := 12) (k := 34) (r := 309) O dX12_agreementFor_39 rfl wd_6_106 (by decide) if_287_34 ?_
      refine J.iload (q := 44) O dX12_agreementFor_42 rfl 0 rfl ?_
      obtain ⟨hv36, h⟩ := h
      refine J.iald (q := 45) (c' := 309) (j := (M 330 x6.toNatClampNeg).toNatClampNeg) (M 309 ((M 330 x6.toNatClampNeg).toNatClampNeg)) rfl O dX12_agreementFor_44 rfl ar_309 hv36 rfl ?_
      refine J.iload_n (q := 46) O dX12_agreementFor_45 rfl 2 rfl ?_
      refine J.ishr (q := 47) O dX12_agreementFor_46 rfl ?_
      refine J.iconst (q := 48) (v := (1 : Int32)) O dX12_agreementFor_47 rfl rfl ?_
      refine J.iand (q := 49) O dX12_agreementFor_48 rfl ?_
      refine J.iconst (q := 50) (v := (1 : Int32)) O dX12_agreementFor_49 rfl rfl ?_
      refine J.icmp_ne (q := 53) (tgt := 198) O dX12_agreementFor_50 rfl (by decide) (fun z37 => ?_) (fun z37 => ?_)
      · replace h := h.1 z37
        exact J.sub [1, 2, 3, 4, 5, 6, 7] rfl (j_X12_agreementFor_b198 hG O hR hr9 h)
      · replace h := h.2 z37
        refine J.aload_n (q := 54) O dX12_agreementFor_53 rfl 1 rfl ?_
        refine J.iload (q := 56) O dX12_agreementFor_54 rfl 7 rfl ?_
        refine J.callVI (q := 59) [.int x6] [] [.int x6, .ref (ad G 287)] rfl O dX12_agreementFor_56 rfl (c_X12_holdsNow hG h) wd_8_162 mw_X12_holdsNow io_287 rfl (by decide) (Nat.le_of_ble_eq_true rfl) (fun v38 M38 h => ?_)
        refine J.if_eq (q := 62) (tgt := 198) O dX12_agreementFor_59 rfl (by decide) (fun z39 => ?_) (fun z39 => ?_)
        · replace h := h.1 z39
          exact J.sub [1, 2, 3, 4, 5, 6, 7] rfl (j_X12_agreementFor_b198 hG O hR hr9 h)
        · replace h := h.2 z39
          refine J.aload_n (q := 63) O dX12_agreementFor_62 rfl 1 rfl ?_
          refine J.getR (q := 66) (c' := 287) (ci := 12) (k := 60) (r := 332) O dX12_agreementFor_63 rfl wd_6_132 (by decide) if_287_60 ?_
          refine J.iload (q := 68) O dX12_agreementFor_66 rfl 7 rfl ?_
          obtain ⟨hv40, h⟩ := h
          refine J.iald (q := 69) (c' := 332) (j := x6.toNatClampNeg) (M38 332 x6.toNatClampNeg) rfl O dX12_agreementFor_68 rfl ar_332 hv40 rfl ?_
          refine J.iload_n (q := 70) O dX12_agreementFor_69 rfl 4 rfl ?_
          refine J.icmp_gt (q := 73) (tgt := 88) O dX12_agreementFor_70 rfl (by decide) (fun z41 => ?_) (fun z41 => ?_)
          · replace h := h.1 z41
            exact J.sub [1, 2, 3, 4, 5, 6, 7] rfl (j_X12_agreementFor_b88 hG O hR hr9 h)
          · replace h := h.2 z41
            refine J.iload_n (q := 74) O dX12_agreementFor_73 rfl 4 rfl ?_
            refine J.aload_n (q := 75) O dX12_agreementFor_74 rfl 1 rfl ?_
            refine J.getR (q := 78) (c' := 287) (ci := 12) (k := 61) (r := 333) O dX12_agreementFor_75 rfl wd_6_133 (by decide) if_287_61 ?_
            refine J.iload (q := 80) O dX12_agreementFor_78 rfl 7 rfl ?_
            obtain ⟨hv42, h⟩ := h
            refine J.iald (q := 81) (c' := 333) (j := x6.toNatClampNeg) (M38 333 x6.toNatClampNeg) rfl O dX12_agreementFor_80 rfl ar_333 hv42 rfl ?_
            refine J.icmp_gt (q := 84) (tgt := 88) O dX12_agreementFor_81 rfl (by decide) (fun z43 => ?_) (fun z43 => ?_)
            · replace h := h.1 z43
              exact J.sub [1, 2, 3, 4, 5, 6, 7] rfl (j_X12_agreementFor_b88 hG O hR hr9 h)
            · replace h := h.2 z43
              refine J.iconst (q := 85) (v := (1 : Int32)) O dX12_agreementFor_84 rfl rfl ?_
              refine J.goto (q := 89) O dX12_agreementFor_85 (by decide) ?_
              exact J.sub [1, 2, 3, 4, 5, 6, 7] rfl (j_X12_agreementFor_b89 hG O hR hr9 h)
set_option maxHeartbeats 4000000 in
set_option maxRecDepth 20000 in
theorem c_X12_agreementFor {l : Launch} {G : GX} (hG : Gd G) {a1 : Int32} {a2 : Int32} {a3 : Int32} {M : Mem} {K : Int32 → Mem → Prop} (h : f_X12_agreementFor a1 a2 a3 M K) : CI l G yX12_agreementFor cX12_agreementFor 10 (some .int) 6 [.ref (ad G 287), .int a1, .int a2, .int a3] M K := by
  unfold f_X12_agreementFor at h
  refine CI.mk hG (by decide) [(0, .ref (ad G 287)), (1, .int a1), (2, .int a2), (3, .int a3)] rfl (Nat.le_of_ble_eq_true rfl) (fun X O hlX hR => ?_)
  subst hlX
  refine J.iconst (q := 1) (v := (-1 : Int32)) O dX12_agreementFor_0 rfl rfl ?_
  refine J.istore (q := 3) O dX12_agreementFor_1 rfl [(4, .int (-1 : Int32)), (0, .ref (ad G 287)), (1, .int a1), (2, .int a2), (3, .int a3)] (by decide) rfl ?_
  refine J.iconst (q := 4) (v := (-1 : Int32)) O dX12_agreementFor_3 rfl rfl ?_
  refine J.istore (q := 6) O dX12_agreementFor_4 rfl [(5, .int (-1 : Int32)), (4, .int (-1 : Int32)), (0, .ref (ad G 287)), (1, .int a1), (2, .int a2), (3, .int a3)] (by decide) rfl ?_
  refine J.iconst (q := 7) (v := (0 : Int32)) O dX12_agreementFor_6 rfl rfl ?_
  refine J.istore (q := 9) O dX12_agreementFor_7 rfl [(6, .int (0 : Int32)), (5, .int (-1 : Int32)), (4, .int (-1 : Int32)), (0, .ref (ad G 287)), (1, .int a1), (2, .int a2), (3, .int a3)] (by decide) rfl ?_
  exact J.sub [3, 4, 5, 6, 2, 1, 0] rfl (j_X12_agreementFor_c9 hG O hR h)
set_option maxHeartbeats 4000000 in
set_option maxRecDepth 20000 in
theorem j_X12_worth_b30 {X : CX} {G : GX} {K : Int32 → Mem → Prop} (hG : Gd G) (O : Ok X G cX12_worth 7 RX12 7) (hR : RetI X G cX12_worth K) {M : Mem} (h : f_X12_worth_b30 K  M) : J X G M 30 [(0, .ref (ad G 287))] [] := by
  unfold f_X12_worth_b30 at h
  refine J.aload_n (q := 31) O dX12_worth_30 rfl 0 rfl ?_
  refine J.bipush (q := 33) (v := (-2 : Int32)) O dX12_worth_31 rfl rfl ?_
  refine J.callVI (q := 36) [.int (-2 : Int32)] [] [.int (-2 : Int32), .ref (ad G 287)] rfl O dX12_worth_33 rfl (c_X12_refuse hG h) wd_7_158 mw_X12_refuse io_287 rfl (by decide) (Nat.le_of_ble_eq_true rfl) (fun v7 M7 h => ?_)
  exact hR _ _ _ _ dX12_worth_36 h
set_option maxHeartbeats 4000000 in
set_option maxRecDepth 20000 in
theorem j_X12_worth_b89 {X : CX} {G : GX} {K : Int32 → Mem → Prop} (hG : Gd G) (O : Ok X G cX12_worth 7 RX12 7) (hR : RetI X G cX12_worth K) {s0 : Int32} {M : Mem} (h : f_X12_worth_b89 K s0 M) : J X G M 89 [] [.int s0] := by
  unfold f_X12_worth_b89 at h
  exact hR _ _ _ _ dX12_worth_89 h
set_option maxHeartbeats 4000000 in
set_option maxRecDepth 20000 in
theorem j_X12_worth_b120 {X : CX} {G : GX} {K : Int32 → Mem → Prop} (hG : Gd G) (O : Ok X G cX12_worth 7 RX12 7) (hR : RetI X G cX12_worth K) {s0 : Int32} {M : Mem} (h : f_X12_worth_b120 K s0 M) : J X G M 120 [] [.int s0] := by
  unfold f_X12_worth_b120 at h
  exact hR _ _ _ _ dX12_worth_120 h
set_option maxHeartbeats 4000000 in
set_option maxRecDepth 20000 in
theorem j_X12_worth_b135 {X : CX} {G : GX} {K : Int32 → Mem → Prop} (hG : Gd G) (O : Ok X G cX12_worth 7 RX12 7) (hR : RetI X G cX12_worth K) {x6 : Int32} {M : Mem} (h : f_X12_worth_b135 K x6 M) : J X G M 135 [(6, .int x6)] [] := by
  unfold f_X12_worth_b135 at h
  refine J.iload (q := 137) O dX12_worth_135 rfl 0 rfl ?_
  exact hR _ _ _ _ dX12_worth_137 h
set_option maxHeartbeats 4000000 in
set_option maxRecDepth 20000 in
theorem j_X12_worth_b172 {X : CX} {G : GX} {K : Int32 → Mem → Prop} (hG : Gd G) (O : Ok X G cX12_worth 7 RX12 7) (hR : RetI X G cX12_worth K) {s0 : Int32} {M : Mem} (h : f_X12_worth_b172 K s0 M) : J X G M 172 [] [.int s0] := by
  unfold f_X12_worth_b172 at h
  exact hR _ _ _ _ dX12_worth_172 h
set_option maxHeartbeats 4000000 in
set_option maxRecDepth 20000 in
theorem j_X12_worth_b160 {X : CX} {G : GX} {K : Int32 → Mem → Prop} (hG : Gd G) (O : Ok X G cX12_worth 7 RX12 7) (hR : RetI X G cX12_worth K) {x5 : Int32} {M : Mem} (h : f_X12_worth_b160 K x5 M) : J X G M 160 [(0, .ref (ad G 287)), (5, .int x5)] [] := by
  unfold f_X12_worth_b160 at h
  refine J.aload_n (q := 161) O dX12_worth_160 rfl 0 rfl ?_
  refine J.getR (q := 164) (c' := 287) (ci := 12) (k := 59) (r := 331) O dX12_worth_161 rfl wd_6_131 (by decide) if_287_59 ?_
  refine J.iload (q := 166) O dX12_worth_164 rfl 1 rfl ?_
  obtain ⟨hv8, h⟩ := h
  refine J.iald (q := 167) (c' := 331) (j := x5.toNatClampNeg) (M 331 x5.toNatClampNeg) rfl O dX12_worth_166 rfl ar_331 hv8 rfl ?_
  refine J.goto (q := 172) O dX12_worth_167 (by decide) ?_
  exact J.sub [] rfl (j_X12_worth_b172 hG O hR h)
set_option maxHeartbeats 4000000 in
set_option maxRecDepth 20000 in
theorem c_X12_worth {l : Launch} {G : GX} (hG : Gd G) {a1 : Int32} {a2 : Int32} {a3 : Int32} {a4 : Int32} {M : Mem} {K : Int32 → Mem → Prop} (h : f_X12_worth a1 a2 a3 a4 M K) : CI l G yX12_worth cX12_worth 7 (some .int) 7 [.ref (ad G 287), .int a1, .int a2, .int a3, .int a4] M K := by
  unfold f_X12_worth at h
  refine CI.mk hG (by decide) [(0, .ref (ad G 287)), (1, .int a1), (2, .int a2), (3, .int a3), (4, .int a4)] rfl (Nat.le_of_ble_eq_true rfl) (fun X O hlX hR => ?_)
  subst hlX
  refine J.iload_n (q := 1) O dX12_worth_0 rfl 1 rfl ?_
  refine J.callSI (q := 4) [.int a1] [] [.int a1] rfl O dX12_worth_1 rfl (c_X12_isShop hG h) wd_7_178 mw_X12_isShop rfl (by decide) (Nat.le_of_ble_eq_true rfl) (fun v9 M9 h => ?_)
  refine J.if_ne (q := 7) (tgt := 13) O dX12_worth_4 rfl (by decide) (fun z10 => ?_) (fun z10 => ?_)
  · replace h := h.1 z10
    refine J.iload_n (q := 14) O dX12_worth_13 rfl 2 rfl ?_
    refine J.callSI (q := 17) [.int a2] [] [.int a2] rfl O dX12_worth_14 rfl (c_X12_isWhat hG h) wd_8_9 mw_X12_isWhat rfl (by decide) (Nat.le_of_ble_eq_true rfl) (fun v11 M11 h => ?_)
    refine J.if_eq (q := 20) (tgt := 30) O dX12_worth_17 rfl (by decide) (fun z12 => ?_) (fun z12 => ?_)
    · replace h := h.1 z12
      exact J.sub [0] rfl (j_X12_worth_b30 hG O hR h)
    · replace h := h.2 z12
      refine J.iload (q := 22) O dX12_worth_20 rfl 4 rfl ?_
      refine J.iconst (q := 23) (v := (0 : Int32)) O dX12_worth_22 rfl rfl ?_
      refine J.iconst (q := 24) (v := (1 : Int32)) O dX12_worth_23 rfl rfl ?_
      refine J.callSI (q := 27) [.int a4, .int (0 : Int32), .int (1 : Int32)] [] [.int (1 : Int32), .int (0 : Int32), .int a4] rfl O dX12_worth_24 rfl (c_X12_in hG h) wd_7_181 mw_X12_in rfl (by decide) (Nat.le_of_ble_eq_true rfl) (fun v13 M13 h => ?_)
      refine J.if_ne (q := 30) (tgt := 37) O dX12_worth_27 rfl (by decide) (fun z14 => ?_) (fun z14 => ?_)
      · replace h := h.1 z14
        refine J.iload_n (q := 38) O dX12_worth_37 rfl 3 rfl ?_
        refine J.if_ge (q := 41) (tgt := 48) O dX12_worth_38 rfl (by decide) (fun z15 => ?_) (fun z15 => ?_)
        · replace h := h.1 z15
          refine J.iload_n (q := 49) O dX12_worth_48 rfl 3 rfl ?_
          refine J.sipush (q := 52) (v := (1000 : Int32)) O dX12_worth_49 rfl rfl ?_
          refine J.icmp_le (q := 55) (tgt := 62) O dX12_worth_52 rfl (by decide) (fun z16 => ?_) (fun z16 => ?_)
          · replace h := h.1 z16
            refine J.aload_n (q := 63) O dX12_worth_62 rfl 0 rfl ?_
            refine J.iload_n (q := 64) O dX12_worth_63 rfl 1 rfl ?_
            refine J.iload_n (q := 65) O dX12_worth_64 rfl 2 rfl ?_
            refine J.iload_n (q := 66) O dX12_worth_65 rfl 3 rfl ?_
            refine J.callVI (q := 69) [.int a1, .int a2, .int a3] [] [.int a3, .int a2, .int a1, .ref (ad G 287)] rfl O dX12_worth_66 rfl (c_X12_agreementFor hG h) wd_8_183 mw_X12_agreementFor io_287 rfl (by decide) (Nat.le_of_ble_eq_true rfl) (fun v17 M17 h => ?_)
            refine J.istore (q := 71) O dX12_worth_69 rfl [(5, .int v17), (0, .ref (ad G 287)), (1, .int a1), (2, .int a2), (3, .int a3), (4, .int a4)] (by decide) rfl ?_
            refine J.iload (q := 73) O dX12_worth_71 rfl 5 rfl ?_
            refine J.iconst (q := 74) (v := (1 : Int32)) O dX12_worth_73 rfl rfl ?_
            refine J.icmp_ne (q := 77) (tgt := 90) O dX12_worth_74 rfl (by decide) (fun z18 => ?_) (fun z18 => ?_)
            · replace h := h.1 z18
              refine J.aload_n (q := 91) O dX12_worth_90 rfl 1 rfl ?_
              refine J.getR (q := 94) (c' := 287) (ci := 12) (k := 64) (r := 336) O dX12_worth_91 rfl wd_6_136 (by decide) if_287_64 ?_
              refine J.iload_n (q := 95) O dX12_worth_94 rfl 3 rfl ?_
              obtain ⟨hv19, h⟩ := h
              refine J.iald (q := 96) (c' := 336) (j := a2.toNatClampNeg) (M17 336 a2.toNatClampNeg) rfl O dX12_worth_95 rfl ar_336 hv19 rfl ?_
              refine J.istore (q := 98) O dX12_worth_96 rfl [(6, .int (M17 336 a2.toNatClampNeg)), (5, .int v17), (0, .ref (ad G 287)), (1, .int a1), (2, .int a2), (3, .int a3), (4, .int a4)] (by decide) rfl ?_
              refine J.iload (q := 100) O dX12_worth_98 rfl 0 rfl ?_
              refine J.if_ge (q := 103) (tgt := 121) O dX12_worth_100 rfl (by decide) (fun z20 => ?_) (fun z20 => ?_)
              · replace h := h.1 z20
                refine J.iload (q := 123) O dX12_worth_121 rfl 1 rfl ?_
                refine J.if_lt (q := 126) (tgt := 135) O dX12_worth_123 rfl (by decide) (fun z21 => ?_) (fun z21 => ?_)
                · replace h := h.1 z21
                  exact J.sub [0] rfl (j_X12_worth_b135 hG O hR h)
                · replace h := h.2 z21
                  refine J.aload_n (q := 127) O dX12_worth_126 rfl 2 rfl ?_
                  refine J.getR (q := 130) (c' := 287) (ci := 12) (k := 65) (r := 337) O dX12_worth_127 rfl wd_6_137 (by decide) if_287_65 ?_
                  refine J.iload_n (q := 131) O dX12_worth_130 rfl 4 rfl ?_
                  obtain ⟨hv22, h⟩ := h
                  refine J.iald (q := 132) (c' := 337) (j := a2.toNatClampNeg) (M17 337 a2.toNatClampNeg) rfl O dX12_worth_131 rfl ar_337 hv22 rfl ?_
                  refine J.if_ne (q := 135) (tgt := 138) O dX12_worth_132 rfl (by decide) (fun z23 => ?_) (fun z23 => ?_)
                  · replace h := h.1 z23
                    refine J.aload_n (q := 139) O dX12_worth_138 rfl 2 rfl ?_
                    refine J.getR (q := 142) (c' := 287) (ci := 12) (k := 65) (r := 337) O dX12_worth_139 rfl wd_6_137 (by decide) if_287_65 ?_
                    refine J.iload_n (q := 143) O dX12_worth_142 rfl 4 rfl ?_
                    obtain ⟨hv24, h⟩ := h
                    refine J.iald (q := 144) (c' := 337) (j := a2.toNatClampNeg) (M17 337 a2.toNatClampNeg) rfl O dX12_worth_143 rfl ar_337 hv24 rfl ?_
                    refine J.iconst (q := 145) (v := (2 : Int32)) O dX12_worth_144 rfl rfl ?_
                    refine J.icmp_eq (q := 148) (tgt := 160) O dX12_worth_145 rfl (by decide) (fun z25 => ?_) (fun z25 => ?_)
                    · replace h := h.1 z25
                      exact J.sub [2, 1] rfl (j_X12_worth_b160 hG O hR h)
                    · replace h := h.2 z25
                      refine J.aload_n (q := 149) O dX12_worth_148 rfl 2 rfl ?_
                      refine J.getR (q := 152) (c' := 287) (ci := 12) (k := 59) (r := 331) O dX12_worth_149 rfl wd_6_131 (by decide) if_287_59 ?_
                      refine J.iload (q := 154) O dX12_worth_152 rfl 1 rfl ?_
                      obtain ⟨hv26, h⟩ := h
                      refine J.iald (q := 155) (c' := 331) (j := v17.toNatClampNeg) (M17 331 v17.toNatClampNeg) rfl O dX12_worth_154 rfl ar_331 hv26 rfl ?_
                      refine J.iload (q := 157) O dX12_worth_155 rfl 0 rfl ?_
                      refine J.icmp_le (q := 160) (tgt := 170) O dX12_worth_157 rfl (by decide) (fun z27 => ?_) (fun z27 => ?_)
                      · replace h := h.1 z27
                        refine J.iload (q := 172) O dX12_worth_170 rfl 0 rfl ?_
                        exact J.sub [] rfl (j_X12_worth_b172 hG O hR h)
                      · replace h := h.2 z27
                        exact J.sub [2, 1] rfl (j_X12_worth_b160 hG O hR h)
                  · replace h := h.2 z23
                    exact J.sub [0] rfl (j_X12_worth_b135 hG O hR h)
              · replace h := h.2 z20
                refine J.iload (q := 105) O dX12_worth_103 rfl 1 rfl ?_
                refine J.if_ge (q := 108) (tgt := 113) O dX12_worth_105 rfl (by decide) (fun z28 => ?_) (fun z28 => ?_)
                · replace h := h.1 z28
                  refine J.aload_n (q := 114) O dX12_worth_113 rfl 2 rfl ?_
                  refine J.getR (q := 117) (c' := 287) (ci := 12) (k := 59) (r := 331) O dX12_worth_114 rfl wd_6_131 (by decide) if_287_59 ?_
                  refine J.iload (q := 119) O dX12_worth_117 rfl 1 rfl ?_
                  obtain ⟨hv29, h⟩ := h
                  refine J.iald (q := 120) (c' := 331) (j := v17.toNatClampNeg) (M17 331 v17.toNatClampNeg) rfl O dX12_worth_119 rfl ar_331 hv29 rfl ?_
                  exact J.sub [] rfl (j_X12_worth_b120 hG O hR h)
                · replace h := h.2 z28
                  refine J.bipush (q := 110) (v := (-9 : Int32)) O dX12_worth_108 rfl rfl ?_
                  refine J.goto (q := 120) O dX12_worth_110 (by decide) ?_
                  exact J.sub [] rfl (j_X12_worth_b120 hG O hR h)
            · replace h := h.2 z18
              refine J.iload (q := 79) O dX12_worth_77 rfl 0 rfl ?_
              refine J.if_ge (q := 82) (tgt := 87) O dX12_worth_79 rfl (by decide) (fun z30 => ?_) (fun z30 => ?_)
              · replace h := h.1 z30
                refine J.iload (q := 89) O dX12_worth_87 rfl 0 rfl ?_
                exact J.sub [] rfl (j_X12_worth_b89 hG O hR h)
              · replace h := h.2 z30
                refine J.bipush (q := 84) (v := (-9 : Int32)) O dX12_worth_82 rfl rfl ?_
                refine J.goto (q := 89) O dX12_worth_84 (by decide) ?_
                exact J.sub [] rfl (j_X12_worth_b89 hG O hR h)
          · replace h := h.2 z16
            refine J.aload_n (q := 56) O dX12_worth_55 rfl 0 rfl ?_
            refine J.bipush (q := 58) (v := (-6 : Int32)) O dX12_worth_56 rfl rfl ?_
            refine J.callVI (q := 61) [.int (-6 : Int32)] [] [.int (-6 : Int32), .ref (ad G 287)] rfl O dX12_worth_58 rfl (c_X12_refuse hG h) wd_7_158 mw_X12_refuse io_287 rfl (by decide) (Nat.le_of_ble_eq_true rfl) (fun v31 M31 h => ?_)
            exact hR _ _ _ _ dX12_worth_61 h
        · replace h := h.2 z15
          refine J.aload_n (q := 42) O dX12_worth_41 rfl 0 rfl ?_
          refine J.bipush (q := 44) (v := (-4 : Int32)) O dX12_worth_42 rfl rfl ?_
          refine J.callVI (q := 47) [.int (-4 : Int32)] [] [.int (-4 : Int32), .ref (ad G 287)] rfl O dX12_worth_44 rfl (c_X12_refuse hG h) wd_7_158 mw_X12_refuse io_287 rfl (by decide) (Nat.le_of_ble_eq_true rfl) (fun v32 M32 h => ?_)
          exact hR _ _ _ _ dX12_worth_47 h
      · replace h := h.2 z14
        exact J.sub [0] rfl (j_X12_worth_b30 hG O hR h)
  · replace h := h.2 z10
    refine J.aload_n (q := 8) O dX12_worth_7 rfl 0 rfl ?_
    refine J.iconst (q := 9) (v := (-1 : Int32)) O dX12_worth_8 rfl rfl ?_
    refine J.callVI (q := 12) [.int (-1 : Int32)] [] [.int (-1 : Int32), .ref (ad G 287)] rfl O dX12_worth_9 rfl (c_X12_refuse hG h) wd_7_158 mw_X12_refuse io_287 rfl (by decide) (Nat.le_of_ble_eq_true rfl) (fun v33 M33 h => ?_)
    exact hR _ _ _ _ dX12_worth_12 h
set_option maxHeartbeats 4000000 in
set_option maxRecDepth 20000 in
theorem j_X12_board_b52 {X : CX} {G : GX} {K : Int32 → Mem → Prop} (hG : Gd G) (O : Ok X G cX12_board 7 RX12 4) (hR : RetI X G cX12_board K) {M : Mem} (h : f_X12_board_b52 K  M) : J X G M 52 [(0, .ref (ad G 287))] [] := by
  unfold f_X12_board_b52 at h
  refine J.aload_n (q := 53) O dX12_board_52 rfl 0 rfl ?_
  refine J.bipush (q := 55) (v := (-3 : Int32)) O dX12_board_53 rfl rfl ?_
  refine J.callVI (q := 58) [.int (-3 : Int32)] [] [.int (-3 : Int32), .ref (ad G 287)] rfl O dX12_board_55 rfl (c_X12_refuse hG h) wd_7_158 mw_X12_refuse io_287 rfl (by decide) (Nat.le_of_ble_eq_true rfl) (fun v3 M3 h => ?_)
  exact hR _ _ _ _ dX12_board_58 h
set_option maxHeartbeats 4000000 in
set_option maxRecDepth 20000 in
theorem j_X12_board_b67 {X : CX} {G : GX} {K : Int32 → Mem → Prop} (hG : Gd G) (O : Ok X G cX12_board 7 RX12 4) (hR : RetI X G cX12_board K) {M : Mem} (h : f_X12_board_b67 K  M) : J X G M 67 [(0, .ref (ad G 287))] [] := by
  unfold f_X12_board_b67 at h
  refine J.aload_n (q := 68) O dX12_board_67 rfl 0 rfl ?_
  refine J.bipush (q := 70) (v := (-4 : Int32)) O dX12_board_68 rfl rfl ?_
  refine J.callVI (q := 73) [.int (-4 : Int32)] [] [.int (-4 : Int32), .ref (ad G 287)] rfl O dX12_board_70 rfl (c_X12_refuse hG h) wd_7_158 mw_X12_refuse io_287 rfl (by decide) (Nat.le_of_ble_eq_true rfl) (fun v4 M4 h => ?_)
  exact hR _ _ _ _ dX12_board_73 h
set_option maxHeartbeats 4000000 in
set_option maxRecDepth 20000 in
theorem j_X12_board_b95 {X : CX} {G : GX} {K : Int32 → Mem → Prop} (hG : Gd G) (O : Ok X G cX12_board 7 RX12 4) (hR : RetI X G cX12_board K) {M : Mem} (h : f_X12_board_b95 K  M) : J X G M 95 [(0, .ref (ad G 287))] [] := by
  unfold f_X12_board_b95 at h
  refine J.aload_n (q := 96) O dX12_board_95 rfl 0 rfl ?_
  refine J.bipush (q := 98) (v := (-6 : Int32)) O dX12_board_96 rfl rfl ?_
  refine J.callVI (q := 101) [.int (-6 : Int32)] [] [.int (-6 : Int32), .ref (ad G 287)] rfl O dX12_board_98 rfl (c_X12_refuse hG h) wd_7_158 mw_X12_refuse io_287 rfl (by decide) (Nat.le_of_ble_eq_true rfl) (fun v5 M5 h => ?_)
  exact hR _ _ _ _ dX12_board_101 h
set_option maxHeartbeats 4000000 in
set_option maxRecDepth 20000 in
theorem j_X12_board_b125 {X : CX} {G : GX} {K : Int32 → Mem → Prop} (hG : Gd G) (O : Ok X G cX12_board 7 RX12 4) (hR : RetI X G cX12_board K) {x1 : Int32} {s0 : Int32} {M : Mem} (h : f_X12_board_b125 K x1 s0 M) : J X G M 125 [(0, .ref (ad G 287)), (1, .int x1)] [.int s0] := by
  unfold f_X12_board_b125 at h
  refine J.istore (q := 127) O dX12_board_125 rfl [(6, .int s0), (0, .ref (ad G 287)), (1, .int x1)] (by decide) rfl ?_
  refine J.aload_n (q := 128) O dX12_board_127 rfl 1 rfl ?_
  refine J.iload_n (q := 129) O dX12_board_128 rfl 2 rfl ?_
  refine J.iconst (q := 130) (v := (4 : Int32)) O dX12_board_129 rfl rfl ?_
  refine J.iload (q := 132) O dX12_board_130 rfl 0 rfl ?_
  refine J.iconst (q := 133) (v := (0 : Int32)) O dX12_board_132 rfl rfl ?_
  refine J.callVV (q := 136) [.int x1, .int (4 : Int32), .int s0, .int (0 : Int32)] [] [.int (0 : Int32), .int s0, .int (4 : Int32), .int x1, .ref (ad G 287)] rfl O dX12_board_133 rfl (c_X12_tell hG h) wd_8_58 mw_X12_tell io_287 rfl (by decide) (Nat.le_of_ble_eq_true rfl) (fun M6 h => ?_)
  refine J.iload (q := 138) O dX12_board_136 rfl 0 rfl ?_
  exact hR _ _ _ _ dX12_board_138 h
set_option maxHeartbeats 4000000 in
set_option maxRecDepth 20000 in
theorem j_X12_board_b115 {X : CX} {G : GX} {K : Int32 → Mem → Prop} (hG : Gd G) (O : Ok X G cX12_board 7 RX12 4) (hR : RetI X G cX12_board K) {x1 : Int32} {s0 : Int32} {s1 : Int32} {M : Mem} (h : f_X12_board_b115 K x1 s0 s1 M) : J X G M 115 [(0, .ref (ad G 287)), (1, .int x1)] [.int s0, .int s1] := by
  unfold f_X12_board_b115 at h
  refine J.iadd (q := 116) O dX12_board_115 rfl ?_
  refine J.iconst (q := 117) (v := (3 : Int32)) O dX12_board_116 rfl rfl ?_
  refine J.icmp_lt (q := 120) (tgt := 124) O dX12_board_117 rfl (by decide) (fun z7 => ?_) (fun z7 => ?_)
  · replace h := h.1 z7
    refine J.iconst (q := 125) (v := (0 : Int32)) O dX12_board_124 rfl rfl ?_
    exact J.sub [0, 1] rfl (j_X12_board_b125 hG O hR h)
  · replace h := h.2 z7
    refine J.iconst (q := 121) (v := (1 : Int32)) O dX12_board_120 rfl rfl ?_
    refine J.goto (q := 125) O dX12_board_121 (by decide) ?_
    exact J.sub [0, 1] rfl (j_X12_board_b125 hG O hR h)
set_option maxHeartbeats 4000000 in
set_option maxRecDepth 20000 in
theorem j_X12_board_b59 {X : CX} {G : GX} {K : Int32 → Mem → Prop} (hG : Gd G) (O : Ok X G cX12_board 7 RX12 4) (hR : RetI X G cX12_board K) {x1 : Int32} {x2 : Int32} {x3 : Int32} {x4 : Int32} {M : Mem} (h : f_X12_board_b59 K x1 x2 x3 x4 M) : J X G M 59 [(0, .ref (ad G 287)), (1, .int x1), (2, .int x2), (3, .int x3), (4, .int x4)] [] := by
  unfold f_X12_board_b59 at h
  refine J.iload_n (q := 60) O dX12_board_59 rfl 2 rfl ?_
  refine J.if_lt (q := 63) (tgt := 67) O dX12_board_60 rfl (by decide) (fun z8 => ?_) (fun z8 => ?_)
  · replace h := h.1 z8
    exact J.sub [0] rfl (j_X12_board_b67 hG O hR h)
  · replace h := h.2 z8
    refine J.iload_n (q := 64) O dX12_board_63 rfl 3 rfl ?_
    refine J.if_ge (q := 67) (tgt := 74) O dX12_board_64 rfl (by decide) (fun z9 => ?_) (fun z9 => ?_)
    · replace h := h.1 z9
      refine J.iload_n (q := 75) O dX12_board_74 rfl 2 rfl ?_
      refine J.iconst (q := 76) (v := (2 : Int32)) O dX12_board_75 rfl rfl ?_
      refine J.icmp_gt (q := 79) (tgt := 95) O dX12_board_76 rfl (by decide) (fun z10 => ?_) (fun z10 => ?_)
      · replace h := h.1 z10
        exact J.sub [0] rfl (j_X12_board_b95 hG O hR h)
      · replace h := h.2 z10
        refine J.iload_n (q := 80) O dX12_board_79 rfl 3 rfl ?_
        refine J.iconst (q := 81) (v := (2 : Int32)) O dX12_board_80 rfl rfl ?_
        refine J.icmp_gt (q := 84) (tgt := 95) O dX12_board_81 rfl (by decide) (fun z11 => ?_) (fun z11 => ?_)
        · replace h := h.1 z11
          exact J.sub [0] rfl (j_X12_board_b95 hG O hR h)
        · replace h := h.2 z11
          refine J.aload_n (q := 85) O dX12_board_84 rfl 0 rfl ?_
          refine J.getR (q := 88) (c' := 287) (ci := 12) (k := 42) (r := 317) O dX12_board_85 rfl wd_6_114 (by decide) if_287_42 ?_
          refine J.iload_n (q := 89) O dX12_board_88 rfl 1 rfl ?_
          obtain ⟨hv12, h⟩ := h
          refine J.iald (q := 90) (c' := 317) (j := x1.toNatClampNeg) (M 317 x1.toNatClampNeg) rfl O dX12_board_89 rfl ar_317 hv12 rfl ?_
          refine J.bipush (q := 92) (v := (30 : Int32)) O dX12_board_90 rfl rfl ?_
          refine J.icmp_ne (q := 95) (tgt := 102) O dX12_board_92 rfl (by decide) (fun z13 => ?_) (fun z13 => ?_)
          · replace h := h.1 z13
            refine J.iload_n (q := 103) O dX12_board_102 rfl 2 rfl ?_
            refine J.iload_n (q := 104) O dX12_board_103 rfl 3 rfl ?_
            refine J.iadd (q := 105) O dX12_board_104 rfl ?_
            refine J.iload (q := 107) O dX12_board_105 rfl 4 rfl ?_
            refine J.if_eq (q := 110) (tgt := 114) O dX12_board_107 rfl (by decide) (fun z14 => ?_) (fun z14 => ?_)
            · replace h := h.1 z14
              refine J.iconst (q := 115) (v := (0 : Int32)) O dX12_board_114 rfl rfl ?_
              exact J.sub [0, 1] rfl (j_X12_board_b115 hG O hR h)
            · replace h := h.2 z14
              refine J.iconst (q := 111) (v := (1 : Int32)) O dX12_board_110 rfl rfl ?_
              refine J.goto (q := 115) O dX12_board_111 (by decide) ?_
              exact J.sub [0, 1] rfl (j_X12_board_b115 hG O hR h)
          · replace h := h.2 z13
            exact J.sub [0] rfl (j_X12_board_b95 hG O hR h)
    · replace h := h.2 z9
      exact J.sub [0] rfl (j_X12_board_b67 hG O hR h)
set_option maxHeartbeats 4000000 in
set_option maxRecDepth 20000 in
theorem c_X12_board {l : Launch} {G : GX} (hG : Gd G) {a1 : Int32} {a2 : Int32} {a3 : Int32} {a4 : Int32} {M : Mem} {K : Int32 → Mem → Prop} (h : f_X12_board a1 a2 a3 a4 M K) : CI l G yX12_board cX12_board 7 (some .int) 4 [.ref (ad G 287), .int a1, .int a2, .int a3, .int a4] M K := by
  unfold f_X12_board at h
  refine CI.mk hG (by decide) [(0, .ref (ad G 287)), (1, .int a1), (2, .int a2), (3, .int a3), (4, .int a4)] rfl (Nat.le_of_ble_eq_true rfl) (fun X O hlX hR => ?_)
  subst hlX
  refine J.aload_n (q := 1) O dX12_board_0 rfl 0 rfl ?_
  refine J.iload_n (q := 2) O dX12_board_1 rfl 1 rfl ?_
  refine J.callVI (q := 5) [.int a1] [] [.int a1, .ref (ad G 287)] rfl O dX12_board_2 rfl (c_X12_isMatter hG h) wd_8_46 mw_X12_isMatter io_287 rfl (by decide) (Nat.le_of_ble_eq_true rfl) (fun v15 M15 h => ?_)
  refine J.if_ne (q := 8) (tgt := 14) O dX12_board_5 rfl (by decide) (fun z16 => ?_) (fun z16 => ?_)
  · replace h := h.1 z16
    refine J.aload_n (q := 15) O dX12_board_14 rfl 0 rfl ?_
    refine J.iload_n (q := 16) O dX12_board_15 rfl 1 rfl ?_
    refine J.aload_n (q := 17) O dX12_board_16 rfl 0 rfl ?_
    refine J.getI (q := 20) (c' := 287) (ci := 12) (k := 0) (M15 287 0) rfl O dX12_board_17 rfl wd_6_72 (by decide) if_287_0 ?_
    refine J.aload_n (q := 21) O dX12_board_20 rfl 0 rfl ?_
    refine J.getI (q := 24) (c' := 287) (ci := 12) (k := 0) (M15 287 0) rfl O dX12_board_21 rfl wd_6_72 (by decide) if_287_0 ?_
    refine J.callVI (q := 27) [.int a1, .int (M15 287 0), .int (M15 287 0)] [] [.int (M15 287 0), .int (M15 287 0), .int a1, .ref (ad G 287)] rfl O dX12_board_24 rfl (c_X12_stateOf hG h) wd_8_70 mw_X12_stateOf io_287 rfl (by decide) (Nat.le_of_ble_eq_true rfl) (fun v17 M17 h => ?_)
    refine J.istore (q := 29) O dX12_board_27 rfl [(5, .int v17), (0, .ref (ad G 287)), (1, .int a1), (2, .int a2), (3, .int a3), (4, .int a4)] (by decide) rfl ?_
    refine J.aload_n (q := 30) O dX12_board_29 rfl 1 rfl ?_
    refine J.getR (q := 33) (c' := 287) (ci := 12) (k := 36) (r := 311) O dX12_board_30 rfl wd_6_108 (by decide) if_287_36 ?_
    refine J.iload_n (q := 34) O dX12_board_33 rfl 2 rfl ?_
    obtain ⟨hv18, h⟩ := h
    refine J.iald (q := 35) (c' := 311) (j := a1.toNatClampNeg) (M17 311 a1.toNatClampNeg) rfl O dX12_board_34 rfl ar_311 hv18 rfl ?_
    refine J.iconst (q := 36) (v := (3 : Int32)) O dX12_board_35 rfl rfl ?_
    refine J.icmp_lt (q := 39) (tgt := 52) O dX12_board_36 rfl (by decide) (fun z19 => ?_) (fun z19 => ?_)
    · replace h := h.1 z19
      exact J.sub [1] rfl (j_X12_board_b52 hG O hR h)
    · replace h := h.2 z19
      refine J.iload (q := 41) O dX12_board_39 rfl 0 rfl ?_
      refine J.iconst (q := 42) (v := (5 : Int32)) O dX12_board_41 rfl rfl ?_
      refine J.icmp_eq (q := 45) (tgt := 59) O dX12_board_42 rfl (by decide) (fun z20 => ?_) (fun z20 => ?_)
      · replace h := h.1 z20
        exact J.sub [1, 2, 3, 4, 5] rfl (j_X12_board_b59 hG O hR h)
      · replace h := h.2 z20
        refine J.iload (q := 47) O dX12_board_45 rfl 0 rfl ?_
        refine J.bipush (q := 49) (v := (7 : Int32)) O dX12_board_47 rfl rfl ?_
        refine J.icmp_eq (q := 52) (tgt := 59) O dX12_board_49 rfl (by decide) (fun z21 => ?_) (fun z21 => ?_)
        · replace h := h.1 z21
          exact J.sub [1, 2, 3, 4, 5] rfl (j_X12_board_b59 hG O hR h)
        · replace h := h.2 z21
          exact J.sub [1] rfl (j_X12_board_b52 hG O hR h)
  · replace h := h.2 z16
    refine J.aload_n (q := 9) O dX12_board_8 rfl 0 rfl ?_
    refine J.iconst (q := 10) (v := (-1 : Int32)) O dX12_board_9 rfl rfl ?_
    refine J.callVI (q := 13) [.int (-1 : Int32)] [] [.int (-1 : Int32), .ref (ad G 287)] rfl O dX12_board_10 rfl (c_X12_refuse hG h) wd_7_158 mw_X12_refuse io_287 rfl (by decide) (Nat.le_of_ble_eq_true rfl) (fun v22 M22 h => ?_)
    exact hR _ _ _ _ dX12_board_13 h
set_option maxHeartbeats 4000000 in
set_option maxRecDepth 20000 in
theorem c_X12_court {l : Launch} {G : GX} (hG : Gd G) {a1 : Int32} {M : Mem} {K : Int32 → Mem → Prop} (h : f_X12_court a1 M K) : CI l G yX12_court cX12_court 2 (some .int) 3 [.ref (ad G 287), .int a1] M K := by
  unfold f_X12_court at h
  refine CI.mk hG (by decide) [(0, .ref (ad G 287)), (1, .int a1)] rfl (Nat.le_of_ble_eq_true rfl) (fun X O hlX hR => ?_)
  subst hlX
  refine J.aload_n (q := 1) O dX12_court_0 rfl 0 rfl ?_
  refine J.iload_n (q := 2) O dX12_court_1 rfl 1 rfl ?_
  refine J.callVI (q := 5) [.int a1] [] [.int a1, .ref (ad G 287)] rfl O dX12_court_2 rfl (c_X12_isMatter hG h) wd_8_46 mw_X12_isMatter io_287 rfl (by decide) (Nat.le_of_ble_eq_true rfl) (fun v2 M2 h => ?_)
  refine J.if_ne (q := 8) (tgt := 14) O dX12_court_5 rfl (by decide) (fun z3 => ?_) (fun z3 => ?_)
  · replace h := h.1 z3
    refine J.aload_n (q := 15) O dX12_court_14 rfl 0 rfl ?_
    refine J.iload_n (q := 16) O dX12_court_15 rfl 1 rfl ?_
    refine J.aload_n (q := 17) O dX12_court_16 rfl 0 rfl ?_
    refine J.getI (q := 20) (c' := 287) (ci := 12) (k := 0) (M2 287 0) rfl O dX12_court_17 rfl wd_6_72 (by decide) if_287_0 ?_
    refine J.aload_n (q := 21) O dX12_court_20 rfl 0 rfl ?_
    refine J.getI (q := 24) (c' := 287) (ci := 12) (k := 0) (M2 287 0) rfl O dX12_court_21 rfl wd_6_72 (by decide) if_287_0 ?_
    refine J.callVI (q := 27) [.int a1, .int (M2 287 0), .int (M2 287 0)] [] [.int (M2 287 0), .int (M2 287 0), .int a1, .ref (ad G 287)] rfl O dX12_court_24 rfl (c_X12_ruling hG h) wd_8_74 mw_X12_ruling io_287 rfl (by decide) (Nat.le_of_ble_eq_true rfl) (fun v4 M4 h => ?_)
    refine J.if_ge (q := 30) (tgt := 37) O dX12_court_27 rfl (by decide) (fun z5 => ?_) (fun z5 => ?_)
    · replace h := h.1 z5
      refine J.aload_n (q := 38) O dX12_court_37 rfl 0 rfl ?_
      refine J.getR (q := 41) (c' := 287) (ci := 12) (k := 42) (r := 317) O dX12_court_38 rfl wd_6_114 (by decide) if_287_42 ?_
      refine J.iload_n (q := 42) O dX12_court_41 rfl 1 rfl ?_
      obtain ⟨hv6, h⟩ := h
      refine J.iald (q := 43) (c' := 317) (j := a1.toNatClampNeg) (M4 317 a1.toNatClampNeg) rfl O dX12_court_42 rfl ar_317 hv6 rfl ?_
      refine J.bipush (q := 45) (v := (30 : Int32)) O dX12_court_43 rfl rfl ?_
      refine J.icmp_ne (q := 48) (tgt := 55) O dX12_court_45 rfl (by decide) (fun z7 => ?_) (fun z7 => ?_)
      · replace h := h.1 z7
        refine J.aload_n (q := 56) O dX12_court_55 rfl 0 rfl ?_
        refine J.iload_n (q := 57) O dX12_court_56 rfl 1 rfl ?_
        refine J.iconst (q := 58) (v := (5 : Int32)) O dX12_court_57 rfl rfl ?_
        refine J.iconst (q := 59) (v := (-1 : Int32)) O dX12_court_58 rfl rfl ?_
        refine J.iconst (q := 60) (v := (0 : Int32)) O dX12_court_59 rfl rfl ?_
        refine J.callVV (q := 63) [.int a1, .int (5 : Int32), .int (-1 : Int32), .int (0 : Int32)] [] [.int (0 : Int32), .int (-1 : Int32), .int (5 : Int32), .int a1, .ref (ad G 287)] rfl O dX12_court_60 rfl (c_X12_tell hG h) wd_8_58 mw_X12_tell io_287 rfl (by decide) (Nat.le_of_ble_eq_true rfl) (fun M8 h => ?_)
        refine J.iconst (q := 64) (v := (1 : Int32)) O dX12_court_63 rfl rfl ?_
        exact hR _ _ _ _ dX12_court_64 h
      · replace h := h.2 z7
        refine J.aload_n (q := 49) O dX12_court_48 rfl 0 rfl ?_
        refine J.bipush (q := 51) (v := (-6 : Int32)) O dX12_court_49 rfl rfl ?_
        refine J.callVI (q := 54) [.int (-6 : Int32)] [] [.int (-6 : Int32), .ref (ad G 287)] rfl O dX12_court_51 rfl (c_X12_refuse hG h) wd_7_158 mw_X12_refuse io_287 rfl (by decide) (Nat.le_of_ble_eq_true rfl) (fun v9 M9 h => ?_)
        exact hR _ _ _ _ dX12_court_54 h
    · replace h := h.2 z5
      refine J.aload_n (q := 31) O dX12_court_30 rfl 0 rfl ?_
      refine J.bipush (q := 33) (v := (-3 : Int32)) O dX12_court_31 rfl rfl ?_
      refine J.callVI (q := 36) [.int (-3 : Int32)] [] [.int (-3 : Int32), .ref (ad G 287)] rfl O dX12_court_33 rfl (c_X12_refuse hG h) wd_7_158 mw_X12_refuse io_287 rfl (by decide) (Nat.le_of_ble_eq_true rfl) (fun v10 M10 h => ?_)
      exact hR _ _ _ _ dX12_court_36 h
  · replace h := h.2 z3
    refine J.aload_n (q := 9) O dX12_court_8 rfl 0 rfl ?_
    refine J.iconst (q := 10) (v := (-1 : Int32)) O dX12_court_9 rfl rfl ?_
    refine J.callVI (q := 13) [.int (-1 : Int32)] [] [.int (-1 : Int32), .ref (ad G 287)] rfl O dX12_court_10 rfl (c_X12_refuse hG h) wd_7_158 mw_X12_refuse io_287 rfl (by decide) (Nat.le_of_ble_eq_true rfl) (fun v11 M11 h => ?_)
    exact hR _ _ _ _ dX12_court_13 h
set_option maxHeartbeats 4000000 in
set_option maxRecDepth 20000 in
theorem j_X12_deed_b168 {X : CX} {G : GX} {K : Int32 → Mem → Prop} (hG : Gd G) (O : Ok X G cX12_deed 6 RX12 7) (hR : RetI X G cX12_deed K) {s0 : Int32} {s1 : Int32} {M : Mem} (h : f_X12_deed_b168 K s0 s1 M) : J X G M 168 [(0, .ref (ad G 287))] [.int s0, .int s1, .ref (ad G 343)] := by
  unfold f_X12_deed_b168 at h
  obtain ⟨hv7, h⟩ := h
  refine J.iast (q := 169) (c' := 343) (j := s1.toNatClampNeg) O dX12_deed_168 rfl ar_343 hv7 rfl ?_
  refine J.aload_n (q := 170) O dX12_deed_169 rfl 0 rfl ?_
  refine J.dup (q := 171) O dX12_deed_170 rfl rfl ?_
  refine J.getI (q := 174) (c' := 287) (ci := 12) (k := 67) (M 287 67) rfl O dX12_deed_171 rfl wd_6_139 (by decide) if_287_67 ?_
  refine J.iconst (q := 175) (v := (1 : Int32)) O dX12_deed_174 rfl rfl ?_
  refine J.iadd (q := 176) O dX12_deed_175 rfl ?_
  refine J.putI (q := 179) (c' := 287) (ci := 12) (k := 67) O dX12_deed_176 rfl wd_6_139 (by decide) if_287_67 rfl rfl ?_
  refine J.aload_n (q := 180) O dX12_deed_179 rfl 0 rfl ?_
  refine J.getI (q := 183) (c' := 287) (ci := 12) (k := 67) ((M 287 67) + (1 : Int32)) rfl O dX12_deed_180 rfl wd_6_139 (by decide) if_287_67 ?_
  refine J.iconst (q := 184) (v := (1 : Int32)) O dX12_deed_183 rfl rfl ?_
  refine J.isub (q := 185) O dX12_deed_184 rfl ?_
  exact hR _ _ _ _ dX12_deed_185 h
set_option maxHeartbeats 4000000 in
set_option maxRecDepth 20000 in
theorem j_X12_deed_b54 {X : CX} {G : GX} {K : Int32 → Mem → Prop} (hG : Gd G) (O : Ok X G cX12_deed 6 RX12 7) (hR : RetI X G cX12_deed K) {x1 : Int32} {x2 : Int32} {x3 : Int32} {x4 : Int32} {M : Mem} (h : f_X12_deed_b54 K x1 x2 x3 x4 M) : J X G M 54 [(0, .ref (ad G 287)), (1, .int x1), (2, .int x2), (3, .int x3), (4, .int x4)] [] := by
  unfold f_X12_deed_b54 at h
  refine J.iload_n (q := 55) O dX12_deed_54 rfl 3 rfl ?_
  refine J.iload (q := 57) O dX12_deed_55 rfl 4 rfl ?_
  refine J.callSI (q := 60) [.int x3, .int x4] [] [.int x4, .int x3] rfl O dX12_deed_57 rfl (c_X12_wrongSums hG h) wd_8_12 mw_X12_wrongSums rfl (by decide) (Nat.le_of_ble_eq_true rfl) (fun v8 M8 h => ?_)
  refine J.if_ge (q := 63) (tgt := 74) O dX12_deed_60 rfl (by decide) (fun z9 => ?_) (fun z9 => ?_)
  · replace h := h.1 z9
    refine J.aload_n (q := 75) O dX12_deed_74 rfl 0 rfl ?_
    refine J.getI (q := 78) (c' := 287) (ci := 12) (k := 67) (M8 287 67) rfl O dX12_deed_75 rfl wd_6_139 (by decide) if_287_67 ?_
    refine J.bipush (q := 80) (v := (60 : Int32)) O dX12_deed_78 rfl rfl ?_
    refine J.icmp_ne (q := 83) (tgt := 90) O dX12_deed_80 rfl (by decide) (fun z10 => ?_) (fun z10 => ?_)
    · replace h := h.1 z10
      refine J.aload_n (q := 91) O dX12_deed_90 rfl 0 rfl ?_
      refine J.iload_n (q := 92) O dX12_deed_91 rfl 2 rfl ?_
      refine J.iload_n (q := 93) O dX12_deed_92 rfl 3 rfl ?_
      refine J.iload (q := 95) O dX12_deed_93 rfl 4 rfl ?_
      refine J.iconst (q := 96) (v := (0 : Int32)) O dX12_deed_95 rfl rfl ?_
      refine J.callVI (q := 99) [.int x2, .int x3, .int x4, .int (0 : Int32)] [] [.int (0 : Int32), .int x4, .int x3, .int x2, .ref (ad G 287)] rfl O dX12_deed_96 rfl (c_X12_givingAct hG h) wd_8_15 mw_X12_givingAct io_287 rfl (by decide) (Nat.le_of_ble_eq_true rfl) (fun v11 M11 h => ?_)
      refine J.istore (q := 101) O dX12_deed_99 rfl [(5, .int v11), (0, .ref (ad G 287)), (1, .int x1), (2, .int x2), (3, .int x3), (4, .int x4)] (by decide) rfl ?_
      refine J.aload_n (q := 102) O dX12_deed_101 rfl 1 rfl ?_
      refine J.getR (q := 105) (c' := 287) (ci := 12) (k := 68) (r := 339) O dX12_deed_102 rfl wd_6_140 (by decide) if_287_68 ?_
      refine J.aload_n (q := 106) O dX12_deed_105 rfl 1 rfl ?_
      refine J.getI (q := 109) (c' := 287) (ci := 12) (k := 67) (M11 287 67) rfl O dX12_deed_106 rfl wd_6_139 (by decide) if_287_67 ?_
      refine J.iload_n (q := 110) O dX12_deed_109 rfl 2 rfl ?_
      obtain ⟨hv12, h⟩ := h
      refine J.iast (q := 111) (c' := 339) (j := (M11 287 67).toNatClampNeg) O dX12_deed_110 rfl ar_339 hv12 rfl ?_
      refine J.aload_n (q := 112) O dX12_deed_111 rfl 1 rfl ?_
      refine J.getR (q := 115) (c' := 287) (ci := 12) (k := 69) (r := 340) O dX12_deed_112 rfl wd_6_141 (by decide) if_287_69 ?_
      refine J.aload_n (q := 116) O dX12_deed_115 rfl 1 rfl ?_
      refine J.getI (q := 119) (c' := 287) (ci := 12) (k := 67) (M11 287 67) rfl O dX12_deed_116 rfl wd_6_139 (by decide) if_287_67 ?_
      refine J.aload_n (q := 120) O dX12_deed_119 rfl 1 rfl ?_
      refine J.getI (q := 123) (c' := 287) (ci := 12) (k := 0) (M11 287 0) rfl O dX12_deed_120 rfl wd_6_72 (by decide) if_287_0 ?_
      obtain ⟨hv13, h⟩ := h
      refine J.iast (q := 124) (c' := 340) (j := (M11 287 67).toNatClampNeg) O dX12_deed_123 rfl ar_340 hv13 rfl ?_
      refine J.aload_n (q := 125) O dX12_deed_124 rfl 1 rfl ?_
      refine J.getR (q := 128) (c' := 287) (ci := 12) (k := 70) (r := 341) O dX12_deed_125 rfl wd_6_142 (by decide) if_287_70 ?_
      refine J.aload_n (q := 129) O dX12_deed_128 rfl 1 rfl ?_
      refine J.getI (q := 132) (c' := 287) (ci := 12) (k := 67) (M11 287 67) rfl O dX12_deed_129 rfl wd_6_139 (by decide) if_287_67 ?_
      refine J.iload_n (q := 133) O dX12_deed_132 rfl 4 rfl ?_
      obtain ⟨hv14, h⟩ := h
      refine J.iast (q := 134) (c' := 341) (j := (M11 287 67).toNatClampNeg) O dX12_deed_133 rfl ar_341 hv14 rfl ?_
      refine J.aload_n (q := 135) O dX12_deed_134 rfl 1 rfl ?_
      refine J.getR (q := 138) (c' := 287) (ci := 12) (k := 71) (r := 342) O dX12_deed_135 rfl wd_6_143 (by decide) if_287_71 ?_
      refine J.aload_n (q := 139) O dX12_deed_138 rfl 1 rfl ?_
      refine J.getI (q := 142) (c' := 287) (ci := 12) (k := 67) (M11 287 67) rfl O dX12_deed_139 rfl wd_6_139 (by decide) if_287_67 ?_
      refine J.iload (q := 144) O dX12_deed_142 rfl 5 rfl ?_
      obtain ⟨hv15, h⟩ := h
      refine J.iast (q := 145) (c' := 342) (j := (M11 287 67).toNatClampNeg) O dX12_deed_144 rfl ar_342 hv15 rfl ?_
      refine J.aload_n (q := 146) O dX12_deed_145 rfl 1 rfl ?_
      refine J.getR (q := 149) (c' := 287) (ci := 12) (k := 72) (r := 343) O dX12_deed_146 rfl wd_6_144 (by decide) if_287_72 ?_
      refine J.aload_n (q := 150) O dX12_deed_149 rfl 1 rfl ?_
      refine J.getI (q := 153) (c' := 287) (ci := 12) (k := 67) (M11 287 67) rfl O dX12_deed_150 rfl wd_6_139 (by decide) if_287_67 ?_
      refine J.iload (q := 155) O dX12_deed_153 rfl 0 rfl ?_
      refine J.if_ge (q := 158) (tgt := 162) O dX12_deed_155 rfl (by decide) (fun z16 => ?_) (fun z16 => ?_)
      · replace h := h.1 z16
        refine J.aload_n (q := 163) O dX12_deed_162 rfl 1 rfl ?_
        refine J.iload (q := 165) O dX12_deed_163 rfl 0 rfl ?_
        refine J.callVI (q := 168) [.int v11] [.int (M11 287 67), .ref (ad G 343)] [.int v11, .ref (ad G 287), .int (M11 287 67), .ref (ad G 343)] rfl O dX12_deed_165 rfl (c_X12_kindIn hG h) wd_8_26 mw_X12_kindIn io_287 rfl (by decide) (Nat.le_of_ble_eq_true rfl) (fun v17 M17 h => ?_)
        exact J.sub [1] rfl (j_X12_deed_b168 hG O hR h)
      · replace h := h.2 z16
        refine J.iconst (q := 159) (v := (0 : Int32)) O dX12_deed_158 rfl rfl ?_
        refine J.goto (q := 168) O dX12_deed_159 (by decide) ?_
        exact J.sub [1] rfl (j_X12_deed_b168 hG O hR h)
    · replace h := h.2 z10
      refine J.aload_n (q := 84) O dX12_deed_83 rfl 0 rfl ?_
      refine J.bipush (q := 86) (v := (-6 : Int32)) O dX12_deed_84 rfl rfl ?_
      refine J.callVI (q := 89) [.int (-6 : Int32)] [] [.int (-6 : Int32), .ref (ad G 287)] rfl O dX12_deed_86 rfl (c_X12_refuse hG h) wd_7_158 mw_X12_refuse io_287 rfl (by decide) (Nat.le_of_ble_eq_true rfl) (fun v18 M18 h => ?_)
      exact hR _ _ _ _ dX12_deed_89 h
  · replace h := h.2 z9
    refine J.aload_n (q := 64) O dX12_deed_63 rfl 0 rfl ?_
    refine J.iload_n (q := 65) O dX12_deed_64 rfl 3 rfl ?_
    refine J.iload (q := 67) O dX12_deed_65 rfl 4 rfl ?_
    refine J.callSI (q := 70) [.int x3, .int x4] [.ref (ad G 287)] [.int x4, .int x3, .ref (ad G 287)] rfl O dX12_deed_67 rfl (c_X12_wrongSums hG h) wd_8_12 mw_X12_wrongSums rfl (by decide) (Nat.le_of_ble_eq_true rfl) (fun v19 M19 h => ?_)
    refine J.callVI (q := 73) [.int v19] [] [.int v19, .ref (ad G 287)] rfl O dX12_deed_70 rfl (c_X12_refuse hG h) wd_7_158 mw_X12_refuse io_287 rfl (by decide) (Nat.le_of_ble_eq_true rfl) (fun v20 M20 h => ?_)
    exact hR _ _ _ _ dX12_deed_73 h
set_option maxHeartbeats 4000000 in
set_option maxRecDepth 20000 in
theorem j_X12_deed_b19 {X : CX} {G : GX} {K : Int32 → Mem → Prop} (hG : Gd G) (O : Ok X G cX12_deed 6 RX12 7) (hR : RetI X G cX12_deed K) {x1 : Int32} {x2 : Int32} {x3 : Int32} {x4 : Int32} {M : Mem} (h : f_X12_deed_b19 K x1 x2 x3 x4 M) : J X G M 19 [(0, .ref (ad G 287)), (1, .int x1), (2, .int x2), (3, .int x3), (4, .int x4)] [] := by
  unfold f_X12_deed_b19 at h
  refine J.iload_n (q := 20) O dX12_deed_19 rfl 2 rfl ?_
  refine J.callSI (q := 23) [.int x2] [] [.int x2] rfl O dX12_deed_20 rfl (c_X12_isWhat hG h) wd_8_9 mw_X12_isWhat rfl (by decide) (Nat.le_of_ble_eq_true rfl) (fun v21 M21 h => ?_)
  refine J.if_ne (q := 26) (tgt := 33) O dX12_deed_23 rfl (by decide) (fun z22 => ?_) (fun z22 => ?_)
  · replace h := h.1 z22
    refine J.iload_n (q := 34) O dX12_deed_33 rfl 1 rfl ?_
    refine J.if_lt (q := 37) (tgt := 54) O dX12_deed_34 rfl (by decide) (fun z23 => ?_) (fun z23 => ?_)
    · replace h := h.1 z23
      exact J.sub [0, 1, 2, 3, 4] rfl (j_X12_deed_b54 hG O hR h)
    · replace h := h.2 z23
      refine J.aload_n (q := 38) O dX12_deed_37 rfl 0 rfl ?_
      refine J.getR (q := 41) (c' := 287) (ci := 12) (k := 33) (r := 308) O dX12_deed_38 rfl wd_6_105 (by decide) if_287_33 ?_
      refine J.iload_n (q := 42) O dX12_deed_41 rfl 1 rfl ?_
      obtain ⟨hv24, h⟩ := h
      refine J.iald (q := 43) (c' := 308) (j := x1.toNatClampNeg) (M21 308 x1.toNatClampNeg) rfl O dX12_deed_42 rfl ar_308 hv24 rfl ?_
      refine J.iload_n (q := 44) O dX12_deed_43 rfl 2 rfl ?_
      refine J.icmp_eq (q := 47) (tgt := 54) O dX12_deed_44 rfl (by decide) (fun z25 => ?_) (fun z25 => ?_)
      · replace h := h.1 z25
        exact J.sub [0, 1, 2, 3, 4] rfl (j_X12_deed_b54 hG O hR h)
      · replace h := h.2 z25
        refine J.aload_n (q := 48) O dX12_deed_47 rfl 0 rfl ?_
        refine J.bipush (q := 50) (v := (-3 : Int32)) O dX12_deed_48 rfl rfl ?_
        refine J.callVI (q := 53) [.int (-3 : Int32)] [] [.int (-3 : Int32), .ref (ad G 287)] rfl O dX12_deed_50 rfl (c_X12_refuse hG h) wd_7_158 mw_X12_refuse io_287 rfl (by decide) (Nat.le_of_ble_eq_true rfl) (fun v26 M26 h => ?_)
        exact hR _ _ _ _ dX12_deed_53 h
  · replace h := h.2 z22
    refine J.aload_n (q := 27) O dX12_deed_26 rfl 0 rfl ?_
    refine J.bipush (q := 29) (v := (-2 : Int32)) O dX12_deed_27 rfl rfl ?_
    refine J.callVI (q := 32) [.int (-2 : Int32)] [] [.int (-2 : Int32), .ref (ad G 287)] rfl O dX12_deed_29 rfl (c_X12_refuse hG h) wd_7_158 mw_X12_refuse io_287 rfl (by decide) (Nat.le_of_ble_eq_true rfl) (fun v27 M27 h => ?_)
    exact hR _ _ _ _ dX12_deed_32 h
set_option maxHeartbeats 4000000 in
set_option maxRecDepth 20000 in
theorem c_X12_deed {l : Launch} {G : GX} (hG : Gd G) {a1 : Int32} {a2 : Int32} {a3 : Int32} {a4 : Int32} {M : Mem} {K : Int32 → Mem → Prop} (h : f_X12_deed a1 a2 a3 a4 M K) : CI l G yX12_deed cX12_deed 6 (some .int) 7 [.ref (ad G 287), .int a1, .int a2, .int a3, .int a4] M K := by
  unfold f_X12_deed at h
  refine CI.mk hG (by decide) [(0, .ref (ad G 287)), (1, .int a1), (2, .int a2), (3, .int a3), (4, .int a4)] rfl (Nat.le_of_ble_eq_true rfl) (fun X O hlX hR => ?_)
  subst hlX
  refine J.iload_n (q := 1) O dX12_deed_0 rfl 1 rfl ?_
  refine J.iconst (q := 2) (v := (-1 : Int32)) O dX12_deed_1 rfl rfl ?_
  refine J.icmp_eq (q := 5) (tgt := 19) O dX12_deed_2 rfl (by decide) (fun z28 => ?_) (fun z28 => ?_)
  · replace h := h.1 z28
    exact J.sub [0, 1, 2, 3, 4] rfl (j_X12_deed_b19 hG O hR h)
  · replace h := h.2 z28
    refine J.aload_n (q := 6) O dX12_deed_5 rfl 0 rfl ?_
    refine J.iload_n (q := 7) O dX12_deed_6 rfl 1 rfl ?_
    refine J.callVI (q := 10) [.int a1] [] [.int a1, .ref (ad G 287)] rfl O dX12_deed_7 rfl (c_X12_isMatter hG h) wd_8_46 mw_X12_isMatter io_287 rfl (by decide) (Nat.le_of_ble_eq_true rfl) (fun v29 M29 h => ?_)
    refine J.if_ne (q := 13) (tgt := 19) O dX12_deed_10 rfl (by decide) (fun z30 => ?_) (fun z30 => ?_)
    · replace h := h.1 z30
      exact J.sub [0, 1, 2, 3, 4] rfl (j_X12_deed_b19 hG O hR h)
    · replace h := h.2 z30
      refine J.aload_n (q := 14) O dX12_deed_13 rfl 0 rfl ?_
      refine J.iconst (q := 15) (v := (-1 : Int32)) O dX12_deed_14 rfl rfl ?_
      refine J.callVI (q := 18) [.int (-1 : Int32)] [] [.int (-1 : Int32), .ref (ad G 287)] rfl O dX12_deed_15 rfl (c_X12_refuse hG h) wd_7_158 mw_X12_refuse io_287 rfl (by decide) (Nat.le_of_ble_eq_true rfl) (fun v31 M31 h => ?_)
      exact hR _ _ _ _ dX12_deed_18 h
set_option maxHeartbeats 4000000 in
set_option maxRecDepth 20000 in
theorem j_X12_voidSince_b31 {X : CX} {G : GX} {K : Int32 → Mem → Prop} (hG : Gd G) (O : Ok X G cX12_voidSince 5 RX12 5) (hR : RetI X G cX12_voidSince K) {s0 : Int32} {M : Mem} (h : f_X12_voidSince_b31 K s0 M) : J X G M 31 [] [.int s0] := by
  unfold f_X12_voidSince_b31 at h
  exact hR _ _ _ _ dX12_voidSince_31 h
set_option maxHeartbeats 4000000 in
set_option maxRecDepth 20000 in
theorem j_X12_voidSince_b65 {X : CX} {G : GX} {K : Int32 → Mem → Prop} (hG : Gd G) (O : Ok X G cX12_voidSince 5 RX12 5) (hR : RetI X G cX12_voidSince K) {x1 : Int32} {M : Mem} (h : f_X12_voidSince_b65 K x1 M) : J X G M 65 [(0, .ref (ad G 287)), (1, .int x1)] [] := by
  unfold f_X12_voidSince_b65 at h
  refine J.aload_n (q := 66) O dX12_voidSince_65 rfl 0 rfl ?_
  refine J.getR (q := 69) (c' := 287) (ci := 12) (k := 69) (r := 340) O dX12_voidSince_66 rfl wd_6_141 (by decide) if_287_69 ?_
  refine J.iload_n (q := 70) O dX12_voidSince_69 rfl 1 rfl ?_
  obtain ⟨hv12, h⟩ := h
  refine J.iald (q := 71) (c' := 340) (j := x1.toNatClampNeg) (M 340 x1.toNatClampNeg) rfl O dX12_voidSince_70 rfl ar_340 hv12 rfl ?_
  exact hR _ _ _ _ dX12_voidSince_71 h
set_option maxHeartbeats 4000000 in
set_option maxRecDepth 20000 in
theorem j_X12_voidSince_c104 {X : CX} {G : GX} {K : Int32 → Mem → Prop} (hG : Gd G) (O : Ok X G cX12_voidSince 5 RX12 5) (hR : RetI X G cX12_voidSince K) {a : Int32 × Int32 × Int32 × Mem} (h : Lp (fun (r104 : Int32 × Int32 × Int32 × Mem → Prop) a => f_X12_voidSince_c104 K r104 a.1 a.2.1 a.2.2.1 a.2.2.2) a) : J X G a.2.2.2 104 [(0, .ref (ad G 287)), (2, .int a.1), (3, .int a.2.1), (4, .int a.2.2.1)] [] := by
  refine Lp.elim (P := fun a => J X G a.2.2.2 104 [(0, .ref (ad G 287)), (2, .int a.1), (3, .int a.2.1), (4, .int a.2.2.1)] []) ?_ h
  clear h
  intro r104 hr104 a h
  obtain ⟨x2, x3, x4, M⟩ := a
  unfold f_X12_voidSince_c104 at h
  (try dsimp only at h ⊢)
  refine J.iload (q := 106) O dX12_voidSince_104 rfl 3 rfl ?_
  refine J.iload_n (q := 107) O dX12_voidSince_106 rfl 2 rfl ?_
  refine J.icmp_gt (q := 110) (tgt := 129) O dX12_voidSince_107 rfl (by decide) (fun z13 => ?_) (fun z13 => ?_)
  · replace h := h.1 z13
    refine J.bipush (q := 131) (v := (-9 : Int32)) O dX12_voidSince_129 rfl rfl ?_
    exact hR _ _ _ _ dX12_voidSince_131 h
  · replace h := h.2 z13
    refine J.aload_n (q := 111) O dX12_voidSince_110 rfl 0 rfl ?_
    refine J.iload_n (q := 112) O dX12_voidSince_111 rfl 1 rfl ?_
    refine J.iload (q := 114) O dX12_voidSince_112 rfl 3 rfl ?_
    refine J.callVI (q := 117) [.int x2, .int x4] [] [.int x4, .int x2, .ref (ad G 287)] rfl O dX12_voidSince_114 rfl (c_X12_lets hG h) wd_8_90 mw_X12_lets io_287 rfl (by decide) (Nat.le_of_ble_eq_true rfl) (fun v14 M14 h => ?_)
    refine J.if_ne (q := 120) (tgt := 123) O dX12_voidSince_117 rfl (by decide) (fun z15 => ?_) (fun z15 => ?_)
    · replace h := h.1 z15
      refine J.iinc (q := 126) O dX12_voidSince_123 rfl [(4, .int (x4 + (1 : Int32))), (0, .ref (ad G 287)), (2, .int x2), (3, .int x3)] 3 rfl rfl (by decide) rfl ?_
      refine J.goto (q := 104) O dX12_voidSince_126 (by decide) ?_
      exact J.sub [1, 2, 3, 0] rfl (hr104 _ h)
    · replace h := h.2 z15
      refine J.iload (q := 122) O dX12_voidSince_120 rfl 3 rfl ?_
      exact hR _ _ _ _ dX12_voidSince_122 h
set_option maxHeartbeats 4000000 in
set_option maxRecDepth 20000 in
theorem j_X12_voidSince_b95 {X : CX} {G : GX} {K : Int32 → Mem → Prop} (hG : Gd G) (O : Ok X G cX12_voidSince 5 RX12 5) (hR : RetI X G cX12_voidSince K) {x1 : Int32} {x2 : Int32} {s0 : Int32} {M : Mem} (h : f_X12_voidSince_b95 K x1 x2 s0 M) : J X G M 95 [(0, .ref (ad G 287)), (1, .int x1), (2, .int x2)] [.int s0] := by
  unfold f_X12_voidSince_b95 at h
  refine J.istore_n (q := 96) O dX12_voidSince_95 rfl [(3, .int s0), (0, .ref (ad G 287)), (1, .int x1), (2, .int x2)] (by decide) rfl ?_
  refine J.aload_n (q := 97) O dX12_voidSince_96 rfl 1 rfl ?_
  refine J.getR (q := 100) (c' := 287) (ci := 12) (k := 69) (r := 340) O dX12_voidSince_97 rfl wd_6_141 (by decide) if_287_69 ?_
  refine J.iload_n (q := 101) O dX12_voidSince_100 rfl 2 rfl ?_
  obtain ⟨hv16, h⟩ := h
  refine J.iald (q := 102) (c' := 340) (j := x1.toNatClampNeg) (M 340 x1.toNatClampNeg) rfl O dX12_voidSince_101 rfl ar_340 hv16 rfl ?_
  refine J.istore (q := 104) O dX12_voidSince_102 rfl [(4, .int (M 340 x1.toNatClampNeg)), (3, .int s0), (0, .ref (ad G 287)), (1, .int x1), (2, .int x2)] (by decide) rfl ?_
  exact J.sub [2, 4, 1, 0] rfl (j_X12_voidSince_c104 hG O hR h)
set_option maxHeartbeats 4000000 in
set_option maxRecDepth 20000 in
theorem c_X12_voidSince {l : Launch} {G : GX} (hG : Gd G) {a1 : Int32} {M : Mem} {K : Int32 → Mem → Prop} (h : f_X12_voidSince a1 M K) : CI l G yX12_voidSince cX12_voidSince 5 (some .int) 5 [.ref (ad G 287), .int a1] M K := by
  unfold f_X12_voidSince at h
  refine CI.mk hG (by decide) [(0, .ref (ad G 287)), (1, .int a1)] rfl (Nat.le_of_ble_eq_true rfl) (fun X O hlX hR => ?_)
  subst hlX
  refine J.aload_n (q := 1) O dX12_voidSince_0 rfl 0 rfl ?_
  refine J.getR (q := 4) (c' := 287) (ci := 12) (k := 68) (r := 339) O dX12_voidSince_1 rfl wd_6_140 (by decide) if_287_68 ?_
  refine J.iload_n (q := 5) O dX12_voidSince_4 rfl 1 rfl ?_
  obtain ⟨hv17, h⟩ := h
  refine J.iald (q := 6) (c' := 339) (j := a1.toNatClampNeg) (M 339 a1.toNatClampNeg) rfl O dX12_voidSince_5 rfl ar_339 hv17 rfl ?_
  refine J.istore_n (q := 7) O dX12_voidSince_6 rfl [(2, .int (M 339 a1.toNatClampNeg)), (0, .ref (ad G 287)), (1, .int a1)] (by decide) rfl ?_
  refine J.iload_n (q := 8) O dX12_voidSince_7 rfl 0 rfl ?_
  refine J.if_ge (q := 11) (tgt := 32) O dX12_voidSince_8 rfl (by decide) (fun z18 => ?_) (fun z18 => ?_)
  · replace h := h.1 z18
    refine J.aload_n (q := 33) O dX12_voidSince_32 rfl 1 rfl ?_
    refine J.getR (q := 36) (c' := 287) (ci := 12) (k := 70) (r := 341) O dX12_voidSince_33 rfl wd_6_142 (by decide) if_287_70 ?_
    refine J.iload_n (q := 37) O dX12_voidSince_36 rfl 2 rfl ?_
    obtain ⟨hv19, h⟩ := h
    refine J.iald (q := 38) (c' := 341) (j := a1.toNatClampNeg) (M 341 a1.toNatClampNeg) rfl O dX12_voidSince_37 rfl ar_341 hv19 rfl ?_
    refine J.aload_n (q := 39) O dX12_voidSince_38 rfl 1 rfl ?_
    refine J.getR (q := 42) (c' := 287) (ci := 12) (k := 34) (r := 309) O dX12_voidSince_39 rfl wd_6_106 (by decide) if_287_34 ?_
    refine J.iload_n (q := 43) O dX12_voidSince_42 rfl 0 rfl ?_
    obtain ⟨hv20, h⟩ := h
    refine J.iald (q := 44) (c' := 309) (j := (M 339 a1.toNatClampNeg).toNatClampNeg) (M 309 ((M 339 a1.toNatClampNeg).toNatClampNeg)) rfl O dX12_voidSince_43 rfl ar_309 hv20 rfl ?_
    refine J.iconst (q := 45) (v := (-1 : Int32)) O dX12_voidSince_44 rfl rfl ?_
    refine J.ixor (q := 46) O dX12_voidSince_45 rfl ?_
    refine J.iand (q := 47) O dX12_voidSince_46 rfl ?_
    refine J.if_ne (q := 50) (tgt := 65) O dX12_voidSince_47 rfl (by decide) (fun z21 => ?_) (fun z21 => ?_)
    · replace h := h.1 z21
      exact J.sub [1, 2] rfl (j_X12_voidSince_b65 hG O hR h)
    · replace h := h.2 z21
      refine J.aload_n (q := 51) O dX12_voidSince_50 rfl 1 rfl ?_
      refine J.getR (q := 54) (c' := 287) (ci := 12) (k := 71) (r := 342) O dX12_voidSince_51 rfl wd_6_143 (by decide) if_287_71 ?_
      refine J.iload_n (q := 55) O dX12_voidSince_54 rfl 2 rfl ?_
      obtain ⟨hv22, h⟩ := h
      refine J.iald (q := 56) (c' := 342) (j := a1.toNatClampNeg) (M 342 a1.toNatClampNeg) rfl O dX12_voidSince_55 rfl ar_342 hv22 rfl ?_
      refine J.aload_n (q := 57) O dX12_voidSince_56 rfl 1 rfl ?_
      refine J.getR (q := 60) (c' := 287) (ci := 12) (k := 35) (r := 310) O dX12_voidSince_57 rfl wd_6_107 (by decide) if_287_35 ?_
      refine J.iload_n (q := 61) O dX12_voidSince_60 rfl 0 rfl ?_
      obtain ⟨hv23, h⟩ := h
      refine J.iald (q := 62) (c' := 310) (j := (M 339 a1.toNatClampNeg).toNatClampNeg) (M 310 ((M 339 a1.toNatClampNeg).toNatClampNeg)) rfl O dX12_voidSince_61 rfl ar_310 hv23 rfl ?_
      refine J.icmp_le (q := 65) (tgt := 72) O dX12_voidSince_62 rfl (by decide) (fun z24 => ?_) (fun z24 => ?_)
      · replace h := h.1 z24
        refine J.aload_n (q := 73) O dX12_voidSince_72 rfl 1 rfl ?_
        refine J.getR (q := 76) (c' := 287) (ci := 12) (k := 36) (r := 311) O dX12_voidSince_73 rfl wd_6_108 (by decide) if_287_36 ?_
        refine J.iload_n (q := 77) O dX12_voidSince_76 rfl 0 rfl ?_
        obtain ⟨hv25, h⟩ := h
        refine J.iald (q := 78) (c' := 311) (j := (M 339 a1.toNatClampNeg).toNatClampNeg) (M 311 ((M 339 a1.toNatClampNeg).toNatClampNeg)) rfl O dX12_voidSince_77 rfl ar_311 hv25 rfl ?_
        refine J.iconst (q := 79) (v := (4 : Int32)) O dX12_voidSince_78 rfl rfl ?_
        refine J.icmp_ne (q := 82) (tgt := 89) O dX12_voidSince_79 rfl (by decide) (fun z26 => ?_) (fun z26 => ?_)
        · replace h := h.1 z26
          refine J.aload_n (q := 90) O dX12_voidSince_89 rfl 1 rfl ?_
          refine J.getR (q := 93) (c' := 287) (ci := 12) (k := 69) (r := 340) O dX12_voidSince_90 rfl wd_6_141 (by decide) if_287_69 ?_
          refine J.iload_n (q := 94) O dX12_voidSince_93 rfl 2 rfl ?_
          obtain ⟨hv27, h⟩ := h
          refine J.iald (q := 95) (c' := 340) (j := a1.toNatClampNeg) (M 340 a1.toNatClampNeg) rfl O dX12_voidSince_94 rfl ar_340 hv27 rfl ?_
          exact J.sub [1, 2, 0] rfl (j_X12_voidSince_b95 hG O hR h)
        · replace h := h.2 z26
          refine J.aload_n (q := 83) O dX12_voidSince_82 rfl 1 rfl ?_
          refine J.getI (q := 86) (c' := 287) (ci := 12) (k := 0) (M 287 0) rfl O dX12_voidSince_83 rfl wd_6_72 (by decide) if_287_0 ?_
          refine J.goto (q := 95) O dX12_voidSince_86 (by decide) ?_
          exact J.sub [1, 2, 0] rfl (j_X12_voidSince_b95 hG O hR h)
      · replace h := h.2 z24
        exact J.sub [1, 2] rfl (j_X12_voidSince_b65 hG O hR h)
  · replace h := h.2 z18
    refine J.aload_n (q := 12) O dX12_voidSince_11 rfl 1 rfl ?_
    refine J.getR (q := 15) (c' := 287) (ci := 12) (k := 72) (r := 343) O dX12_voidSince_12 rfl wd_6_144 (by decide) if_287_72 ?_
    refine J.iload_n (q := 16) O dX12_voidSince_15 rfl 2 rfl ?_
    obtain ⟨hv28, h⟩ := h
    refine J.iald (q := 17) (c' := 343) (j := a1.toNatClampNeg) (M 343 a1.toNatClampNeg) rfl O dX12_voidSince_16 rfl ar_343 hv28 rfl ?_
    refine J.if_le (q := 20) (tgt := 29) O dX12_voidSince_17 rfl (by decide) (fun z29 => ?_) (fun z29 => ?_)
    · replace h := h.1 z29
      refine J.bipush (q := 31) (v := (-9 : Int32)) O dX12_voidSince_29 rfl rfl ?_
      exact J.sub [] rfl (j_X12_voidSince_b31 hG O hR h)
    · replace h := h.2 z29
      refine J.aload_n (q := 21) O dX12_voidSince_20 rfl 1 rfl ?_
      refine J.getR (q := 24) (c' := 287) (ci := 12) (k := 69) (r := 340) O dX12_voidSince_21 rfl wd_6_141 (by decide) if_287_69 ?_
      refine J.iload_n (q := 25) O dX12_voidSince_24 rfl 2 rfl ?_
      obtain ⟨hv30, h⟩ := h
      refine J.iald (q := 26) (c' := 340) (j := a1.toNatClampNeg) (M 340 a1.toNatClampNeg) rfl O dX12_voidSince_25 rfl ar_340 hv30 rfl ?_
      refine J.goto (q := 31) O dX12_voidSince_26 (by decide) ?_
      exact J.sub [] rfl (j_X12_voidSince_b31 hG O hR h)
set_option maxHeartbeats 4000000 in
set_option maxRecDepth 20000 in
theorem j_X12_hung_b48 {X : CX} {G : GX} {K : Int32 → Mem → Prop} (hG : Gd G) (O : Ok X G cX12_hung 5 RX12 1) (hR : RetI X G cX12_hung K) {r5 : Int32 × Int32 × Int32 × Int32 × Mem → Prop} (hr5 : ∀ a : Int32 × Int32 × Int32 × Int32 × Mem, r5 a → J X G a.2.2.2.2 5 [(0, .ref (ad G 287)), (1, .int a.1), (2, .int a.2.1), (3, .int a.2.2.1), (4, .int a.2.2.2.1)] []) {x1 : Int32} {x2 : Int32} {x4 : Int32} {s0 : Int32} {s1 : Int32} {M : Mem} (h : f_X12_hung_b48 r5 K x1 x2 x4 s0 s1 M) : J X G M 48 [(0, .ref (ad G 287)), (1, .int x1), (2, .int x2), (4, .int x4)] [.int s0, .int s1] := by
  unfold f_X12_hung_b48 at h
  refine J.iadd (q := 49) O dX12_hung_48 rfl ?_
  refine J.istore_n (q := 50) O dX12_hung_49 rfl [(3, .int (s1 + s0)), (0, .ref (ad G 287)), (1, .int x1), (2, .int x2), (4, .int x4)] (by decide) rfl ?_
  refine J.iinc (q := 53) O dX12_hung_50 rfl [(4, .int (x4 + (1 : Int32))), (3, .int (s1 + s0)), (0, .ref (ad G 287)), (1, .int x1), (2, .int x2)] 4 rfl rfl (by decide) rfl ?_
  refine J.goto (q := 5) O dX12_hung_53 (by decide) ?_
  exact J.sub [2, 3, 4, 1, 0] rfl (hr5 _ h)
set_option maxHeartbeats 4000000 in
set_option maxRecDepth 20000 in
theorem j_X12_hung_b47 {X : CX} {G : GX} {K : Int32 → Mem → Prop} (hG : Gd G) (O : Ok X G cX12_hung 5 RX12 1) (hR : RetI X G cX12_hung K) {r5 : Int32 × Int32 × Int32 × Int32 × Mem → Prop} (hr5 : ∀ a : Int32 × Int32 × Int32 × Int32 × Mem, r5 a → J X G a.2.2.2.2 5 [(0, .ref (ad G 287)), (1, .int a.1), (2, .int a.2.1), (3, .int a.2.2.1), (4, .int a.2.2.2.1)] []) {x1 : Int32} {x2 : Int32} {x4 : Int32} {s0 : Int32} {M : Mem} (h : f_X12_hung_b47 r5 K x1 x2 x4 s0 M) : J X G M 47 [(0, .ref (ad G 287)), (1, .int x1), (2, .int x2), (4, .int x4)] [.int s0] := by
  unfold f_X12_hung_b47 at h
  refine J.iconst (q := 48) (v := (0 : Int32)) O dX12_hung_47 rfl rfl ?_
  exact J.sub [0, 1, 2, 3] rfl (j_X12_hung_b48 hG O hR hr5 h)
set_option maxHeartbeats 4000000 in
set_option maxRecDepth 20000 in
theorem j_X12_hung_c5 {X : CX} {G : GX} {K : Int32 → Mem → Prop} (hG : Gd G) (O : Ok X G cX12_hung 5 RX12 1) (hR : RetI X G cX12_hung K) {a : Int32 × Int32 × Int32 × Int32 × Mem} (h : Lp (fun (r5 : Int32 × Int32 × Int32 × Int32 × Mem → Prop) a => f_X12_hung_c5 K r5 a.1 a.2.1 a.2.2.1 a.2.2.2.1 a.2.2.2.2) a) : J X G a.2.2.2.2 5 [(0, .ref (ad G 287)), (1, .int a.1), (2, .int a.2.1), (3, .int a.2.2.1), (4, .int a.2.2.2.1)] [] := by
  refine Lp.elim (P := fun a => J X G a.2.2.2.2 5 [(0, .ref (ad G 287)), (1, .int a.1), (2, .int a.2.1), (3, .int a.2.2.1), (4, .int a.2.2.2.1)] []) ?_ h
  clear h
  intro r5 hr5 a h
  obtain ⟨x1, x2, x3, x4, M⟩ := a
  unfold f_X12_hung_c5 at h
  (try dsimp only at h ⊢)
  refine J.iload (q := 7) O dX12_hung_5 rfl 4 rfl ?_
  refine J.aload_n (q := 8) O dX12_hung_7 rfl 0 rfl ?_
  refine J.getI (q := 11) (c' := 287) (ci := 12) (k := 73) (M 287 73) rfl O dX12_hung_8 rfl wd_6_145 (by decide) if_287_73 ?_
  refine J.icmp_ge (q := 14) (tgt := 56) O dX12_hung_11 rfl (by decide) (fun z4 => ?_) (fun z4 => ?_)
  · replace h := h.1 z4
    refine J.iload_n (q := 57) O dX12_hung_56 rfl 3 rfl ?_
    exact hR _ _ _ _ dX12_hung_57 h
  · replace h := h.2 z4
    refine J.iload_n (q := 15) O dX12_hung_14 rfl 3 rfl ?_
    refine J.aload_n (q := 16) O dX12_hung_15 rfl 0 rfl ?_
    refine J.getR (q := 19) (c' := 287) (ci := 12) (k := 74) (r := 344) O dX12_hung_16 rfl wd_6_146 (by decide) if_287_74 ?_
    refine J.iload (q := 21) O dX12_hung_19 rfl 4 rfl ?_
    obtain ⟨hv5, h⟩ := h
    refine J.iald (q := 22) (c' := 344) (j := x4.toNatClampNeg) (M 344 x4.toNatClampNeg) rfl O dX12_hung_21 rfl ar_344 hv5 rfl ?_
    refine J.iload_n (q := 23) O dX12_hung_22 rfl 1 rfl ?_
    refine J.icmp_ne (q := 26) (tgt := 47) O dX12_hung_23 rfl (by decide) (fun z6 => ?_) (fun z6 => ?_)
    · replace h := h.1 z6
      exact J.sub [0, 1, 2, 4] rfl (j_X12_hung_b47 hG O hR hr5 h)
    · replace h := h.2 z6
      refine J.aload_n (q := 27) O dX12_hung_26 rfl 0 rfl ?_
      refine J.getR (q := 30) (c' := 287) (ci := 12) (k := 75) (r := 345) O dX12_hung_27 rfl wd_6_147 (by decide) if_287_75 ?_
      refine J.iload (q := 32) O dX12_hung_30 rfl 4 rfl ?_
      obtain ⟨hv7, h⟩ := h
      refine J.iald (q := 33) (c' := 345) (j := x4.toNatClampNeg) (M 345 x4.toNatClampNeg) rfl O dX12_hung_32 rfl ar_345 hv7 rfl ?_
      refine J.iload_n (q := 34) O dX12_hung_33 rfl 2 rfl ?_
      refine J.icmp_lt (q := 37) (tgt := 47) O dX12_hung_34 rfl (by decide) (fun z8 => ?_) (fun z8 => ?_)
      · replace h := h.1 z8
        exact J.sub [0, 1, 2, 4] rfl (j_X12_hung_b47 hG O hR hr5 h)
      · replace h := h.2 z8
        refine J.aload_n (q := 38) O dX12_hung_37 rfl 0 rfl ?_
        refine J.getR (q := 41) (c' := 287) (ci := 12) (k := 76) (r := 346) O dX12_hung_38 rfl wd_6_148 (by decide) if_287_76 ?_
        refine J.iload (q := 43) O dX12_hung_41 rfl 4 rfl ?_
        obtain ⟨hv9, h⟩ := h
        refine J.iald (q := 44) (c' := 346) (j := x4.toNatClampNeg) (M 346 x4.toNatClampNeg) rfl O dX12_hung_43 rfl ar_346 hv9 rfl ?_
        refine J.goto (q := 48) O dX12_hung_44 (by decide) ?_
        exact J.sub [0, 1, 2, 4] rfl (j_X12_hung_b48 hG O hR hr5 h)
set_option maxHeartbeats 4000000 in
set_option maxRecDepth 20000 in
theorem c_X12_hung {l : Launch} {G : GX} (hG : Gd G) {a1 : Int32} {a2 : Int32} {M : Mem} {K : Int32 → Mem → Prop} (h : f_X12_hung a1 a2 M K) : CI l G yX12_hung cX12_hung 5 (some .int) 1 [.ref (ad G 287), .int a1, .int a2] M K := by
  unfold f_X12_hung at h
  refine CI.mk hG (by decide) [(0, .ref (ad G 287)), (1, .int a1), (2, .int a2)] rfl (Nat.le_of_ble_eq_true rfl) (fun X O hlX hR => ?_)
  subst hlX
  refine J.iconst (q := 1) (v := (0 : Int32)) O dX12_hung_0 rfl rfl ?_
  refine J.istore_n (q := 2) O dX12_hung_1 rfl [(3, .int (0 : Int32)), (0, .ref (ad G 287)), (1, .int a1), (2, .int a2)] (by decide) rfl ?_
  refine J.iconst (q := 3) (v := (0 : Int32)) O dX12_hung_2 rfl rfl ?_
  refine J.istore (q := 5) O dX12_hung_3 rfl [(4, .int (0 : Int32)), (3, .int (0 : Int32)), (0, .ref (ad G 287)), (1, .int a1), (2, .int a2)] (by decide) rfl ?_
  exact J.sub [2, 3, 4, 1, 0] rfl (j_X12_hung_c5 hG O hR h)
set_option maxHeartbeats 4000000 in
set_option maxRecDepth 20000 in
theorem c_X12_isDeed {l : Launch} {G : GX} (hG : Gd G) {a1 : Int32} {M : Mem} {K : Int32 → Mem → Prop} (h : f_X12_isDeed a1 M K) : CI l G yX12_isDeed cX12_isDeed 2 (some .boolean) 2 [.ref (ad G 287), .int a1] M K := by
  unfold f_X12_isDeed at h
  refine CZ.mk hG (by decide) [(0, .ref (ad G 287)), (1, .int a1)] rfl (Nat.le_of_ble_eq_true rfl) (fun X O hlX hR => ?_)
  subst hlX
  refine J.iload_n (q := 1) O dX12_isDeed_0 rfl 1 rfl ?_
  refine J.iconst (q := 2) (v := (0 : Int32)) O dX12_isDeed_1 rfl rfl ?_
  refine J.aload_n (q := 3) O dX12_isDeed_2 rfl 0 rfl ?_
  refine J.getI (q := 6) (c' := 287) (ci := 12) (k := 67) (M 287 67) rfl O dX12_isDeed_3 rfl wd_6_139 (by decide) if_287_67 ?_
  refine J.iconst (q := 7) (v := (1 : Int32)) O dX12_isDeed_6 rfl rfl ?_
  refine J.isub (q := 8) O dX12_isDeed_7 rfl ?_
  refine J.callSI (q := 11) [.int a1, .int (0 : Int32), .int ((M 287 67) - (1 : Int32))] [] [.int ((M 287 67) - (1 : Int32)), .int (0 : Int32), .int a1] rfl O dX12_isDeed_8 rfl (c_X12_in hG h) wd_7_181 mw_X12_in rfl (by decide) (Nat.le_of_ble_eq_true rfl) (fun v1 M1 h => ?_)
  exact hR _ _ _ _ dX12_isDeed_11 h.1 h.2
set_option maxHeartbeats 4000000 in
set_option maxRecDepth 20000 in
theorem j_X12_deedOf_b100 {X : CX} {G : GX} {K : Int32 → Mem → Prop} (hG : Gd G) (O : Ok X G cX12_deedOf 4 RX12 6) (hR : RetI X G cX12_deedOf K) {s0 : Int32} {M : Mem} (h : f_X12_deedOf_b100 K s0 M) : J X G M 100 [] [.int s0] := by
  unfold f_X12_deedOf_b100 at h
  exact hR _ _ _ _ dX12_deedOf_100 h
set_option maxHeartbeats 4000000 in
set_option maxRecDepth 20000 in
theorem c_X12_deedOf {l : Launch} {G : GX} (hG : Gd G) {a1 : Int32} {a2 : Int32} {M : Mem} {K : Int32 → Mem → Prop} (h : f_X12_deedOf a1 a2 M K) : CI l G yX12_deedOf cX12_deedOf 4 (some .int) 6 [.ref (ad G 287), .int a1, .int a2] M K := by
  unfold f_X12_deedOf at h
  refine CI.mk hG (by decide) [(0, .ref (ad G 287)), (1, .int a1), (2, .int a2)] rfl (Nat.le_of_ble_eq_true rfl) (fun X O hlX hR => ?_)
  subst hlX
  refine J.aload_n (q := 1) O dX12_deedOf_0 rfl 0 rfl ?_
  refine J.iload_n (q := 2) O dX12_deedOf_1 rfl 1 rfl ?_
  refine J.callVI (q := 5) [.int a1] [] [.int a1, .ref (ad G 287)] rfl O dX12_deedOf_2 rfl (c_X12_isDeed hG h) wd_8_203 mw_X12_isDeed io_287 rfl (by decide) (Nat.le_of_ble_eq_true rfl) (fun v3 M3 h => ?_)
  refine J.if_ne (q := 8) (tgt := 14) O dX12_deedOf_5 rfl (by decide) (fun z4 => ?_) (fun z4 => ?_)
  · replace h := h.1 z4
    refine J.iload_n (q := 15) O dX12_deedOf_14 rfl 2 rfl ?_
    refine J.iconst (q := 16) (v := (0 : Int32)) O dX12_deedOf_15 rfl rfl ?_
    refine J.iconst (q := 17) (v := (4 : Int32)) O dX12_deedOf_16 rfl rfl ?_
    refine J.callSI (q := 20) [.int a2, .int (0 : Int32), .int (4 : Int32)] [] [.int (4 : Int32), .int (0 : Int32), .int a2] rfl O dX12_deedOf_17 rfl (c_X12_in hG h) wd_7_181 mw_X12_in rfl (by decide) (Nat.le_of_ble_eq_true rfl) (fun v5 M5 h => ?_)
    refine J.if_ne (q := 23) (tgt := 30) O dX12_deedOf_20 rfl (by decide) (fun z6 => ?_) (fun z6 => ?_)
    · replace h := h.1 z6
      refine J.aload_n (q := 31) O dX12_deedOf_30 rfl 0 rfl ?_
      refine J.iload_n (q := 32) O dX12_deedOf_31 rfl 1 rfl ?_
      refine J.callVI (q := 35) [.int a1] [] [.int a1, .ref (ad G 287)] rfl O dX12_deedOf_32 rfl (c_X12_voidSince hG h) wd_8_207 mw_X12_voidSince io_287 rfl (by decide) (Nat.le_of_ble_eq_true rfl) (fun v7 M7 h => ?_)
      refine J.istore_n (q := 36) O dX12_deedOf_35 rfl [(3, .int v7), (0, .ref (ad G 287)), (1, .int a1), (2, .int a2)] (by decide) rfl ?_
      refine J.iload_n (q := 37) O dX12_deedOf_36 rfl 3 rfl ?_
      refine J.if_ne (q := 40) (tgt := 49) O dX12_deedOf_37 rfl (by decide) (fun z8 => ?_) (fun z8 => ?_)
      · replace h := h.1 z8
        refine J.iload_n (q := 50) O dX12_deedOf_49 rfl 3 rfl ?_
        refine J.iconst (q := 51) (v := (1 : Int32)) O dX12_deedOf_50 rfl rfl ?_
        refine J.icmp_ne (q := 54) (tgt := 63) O dX12_deedOf_51 rfl (by decide) (fun z9 => ?_) (fun z9 => ?_)
        · replace h := h.1 z9
          refine J.iload_n (q := 64) O dX12_deedOf_63 rfl 3 rfl ?_
          refine J.iconst (q := 65) (v := (2 : Int32)) O dX12_deedOf_64 rfl rfl ?_
          refine J.icmp_ne (q := 68) (tgt := 72) O dX12_deedOf_65 rfl (by decide) (fun z10 => ?_) (fun z10 => ?_)
          · replace h := h.1 z10
            refine J.iload_n (q := 73) O dX12_deedOf_72 rfl 3 rfl ?_
            refine J.iconst (q := 74) (v := (3 : Int32)) O dX12_deedOf_73 rfl rfl ?_
            refine J.icmp_ne (q := 77) (tgt := 86) O dX12_deedOf_74 rfl (by decide) (fun z11 => ?_) (fun z11 => ?_)
            · replace h := h.1 z11
              refine J.iload_n (q := 87) O dX12_deedOf_86 rfl 0 rfl ?_
              refine J.if_ge (q := 90) (tgt := 94) O dX12_deedOf_87 rfl (by decide) (fun z12 => ?_) (fun z12 => ?_)
              · replace h := h.1 z12
                refine J.aload_n (q := 95) O dX12_deedOf_94 rfl 1 rfl ?_
                refine J.iload_n (q := 96) O dX12_deedOf_95 rfl 2 rfl ?_
                refine J.iload_n (q := 97) O dX12_deedOf_96 rfl 0 rfl ?_
                refine J.callVI (q := 100) [.int a1, .int v7] [] [.int v7, .int a1, .ref (ad G 287)] rfl O dX12_deedOf_97 rfl (c_X12_hung hG h) wd_8_211 mw_X12_hung io_287 rfl (by decide) (Nat.le_of_ble_eq_true rfl) (fun v13 M13 h => ?_)
                exact J.sub [] rfl (j_X12_deedOf_b100 hG O hR h)
              · replace h := h.2 z12
                refine J.iconst (q := 91) (v := (0 : Int32)) O dX12_deedOf_90 rfl rfl ?_
                refine J.goto (q := 100) O dX12_deedOf_91 (by decide) ?_
                exact J.sub [] rfl (j_X12_deedOf_b100 hG O hR h)
            · replace h := h.2 z11
              refine J.aload_n (q := 78) O dX12_deedOf_77 rfl 1 rfl ?_
              refine J.iload_n (q := 79) O dX12_deedOf_78 rfl 2 rfl ?_
              refine J.iconst (q := 80) (v := (0 : Int32)) O dX12_deedOf_79 rfl rfl ?_
              refine J.callVI (q := 83) [.int a1, .int (0 : Int32)] [] [.int (0 : Int32), .int a1, .ref (ad G 287)] rfl O dX12_deedOf_80 rfl (c_X12_hung hG h) wd_8_211 mw_X12_hung io_287 rfl (by decide) (Nat.le_of_ble_eq_true rfl) (fun v14 M14 h => ?_)
              refine J.goto (q := 100) O dX12_deedOf_83 (by decide) ?_
              exact J.sub [] rfl (j_X12_deedOf_b100 hG O hR h)
          · replace h := h.2 z10
            refine J.iload_n (q := 69) O dX12_deedOf_68 rfl 0 rfl ?_
            refine J.goto (q := 100) O dX12_deedOf_69 (by decide) ?_
            exact J.sub [] rfl (j_X12_deedOf_b100 hG O hR h)
        · replace h := h.2 z9
          refine J.aload_n (q := 55) O dX12_deedOf_54 rfl 1 rfl ?_
          refine J.getR (q := 58) (c' := 287) (ci := 12) (k := 69) (r := 340) O dX12_deedOf_55 rfl wd_6_141 (by decide) if_287_69 ?_
          refine J.iload_n (q := 59) O dX12_deedOf_58 rfl 2 rfl ?_
          obtain ⟨hv15, h⟩ := h
          refine J.iald (q := 60) (c' := 340) (j := a1.toNatClampNeg) (M7 340 a1.toNatClampNeg) rfl O dX12_deedOf_59 rfl ar_340 hv15 rfl ?_
          refine J.goto (q := 100) O dX12_deedOf_60 (by decide) ?_
          exact J.sub [] rfl (j_X12_deedOf_b100 hG O hR h)
      · replace h := h.2 z8
        refine J.aload_n (q := 41) O dX12_deedOf_40 rfl 1 rfl ?_
        refine J.getR (q := 44) (c' := 287) (ci := 12) (k := 68) (r := 339) O dX12_deedOf_41 rfl wd_6_140 (by decide) if_287_68 ?_
        refine J.iload_n (q := 45) O dX12_deedOf_44 rfl 2 rfl ?_
        obtain ⟨hv16, h⟩ := h
        refine J.iald (q := 46) (c' := 339) (j := a1.toNatClampNeg) (M7 339 a1.toNatClampNeg) rfl O dX12_deedOf_45 rfl ar_339 hv16 rfl ?_
        refine J.goto (q := 100) O dX12_deedOf_46 (by decide) ?_
        exact J.sub [] rfl (j_X12_deedOf_b100 hG O hR h)
    · replace h := h.2 z6
      refine J.aload_n (q := 24) O dX12_deedOf_23 rfl 0 rfl ?_
      refine J.bipush (q := 26) (v := (-2 : Int32)) O dX12_deedOf_24 rfl rfl ?_
      refine J.callVI (q := 29) [.int (-2 : Int32)] [] [.int (-2 : Int32), .ref (ad G 287)] rfl O dX12_deedOf_26 rfl (c_X12_refuseFar hG h) wd_8_170 mw_X12_refuseFar io_287 rfl (by decide) (Nat.le_of_ble_eq_true rfl) (fun v17 M17 h => ?_)
      exact hR _ _ _ _ dX12_deedOf_29 h
  · replace h := h.2 z4
    refine J.aload_n (q := 9) O dX12_deedOf_8 rfl 0 rfl ?_
    refine J.iconst (q := 10) (v := (-1 : Int32)) O dX12_deedOf_9 rfl rfl ?_
    refine J.callVI (q := 13) [.int (-1 : Int32)] [] [.int (-1 : Int32), .ref (ad G 287)] rfl O dX12_deedOf_10 rfl (c_X12_refuseFar hG h) wd_8_170 mw_X12_refuseFar io_287 rfl (by decide) (Nat.le_of_ble_eq_true rfl) (fun v18 M18 h => ?_)
    exact hR _ _ _ _ dX12_deedOf_13 h
set_option maxHeartbeats 4000000 in
set_option maxRecDepth 20000 in
theorem j_X12_hang_b42 {X : CX} {G : GX} {K : Int32 → Mem → Prop} (hG : Gd G) (O : Ok X G cX12_hang 5 RX12 3) (hR : RetI X G cX12_hang K) {M : Mem} (h : f_X12_hang_b42 K  M) : J X G M 42 [(0, .ref (ad G 287))] [] := by
  unfold f_X12_hang_b42 at h
  refine J.aload_n (q := 43) O dX12_hang_42 rfl 0 rfl ?_
  refine J.bipush (q := 45) (v := (-6 : Int32)) O dX12_hang_43 rfl rfl ?_
  refine J.callVI (q := 48) [.int (-6 : Int32)] [] [.int (-6 : Int32), .ref (ad G 287)] rfl O dX12_hang_45 rfl (c_X12_refuse hG h) wd_7_158 mw_X12_refuse io_287 rfl (by decide) (Nat.le_of_ble_eq_true rfl) (fun v5 M5 h => ?_)
  exact hR _ _ _ _ dX12_hang_48 h
set_option maxHeartbeats 4000000 in
set_option maxRecDepth 20000 in
theorem j_X12_hang_b123 {X : CX} {G : GX} {K : Int32 → Mem → Prop} (hG : Gd G) (O : Ok X G cX12_hang 5 RX12 3) (hR : RetI X G cX12_hang K) {r97 : Int32 × Int32 × Int32 × Mem → Prop} (hr97 : ∀ a : Int32 × Int32 × Int32 × Mem, r97 a → J X G a.2.2.2 97 [(0, .ref (ad G 287)), (1, .int a.1), (3, .int a.2.1), (4, .int a.2.2.1)] []) {x1 : Int32} {x4 : Int32} {s0 : Int32} {s1 : Int32} {M : Mem} (h : f_X12_hang_b123 r97 K x1 x4 s0 s1 M) : J X G M 123 [(0, .ref (ad G 287)), (1, .int x1), (4, .int x4)] [.int s0, .int s1] := by
  unfold f_X12_hang_b123 at h
  refine J.iadd (q := 124) O dX12_hang_123 rfl ?_
  refine J.istore_n (q := 125) O dX12_hang_124 rfl [(3, .int (s1 + s0)), (0, .ref (ad G 287)), (1, .int x1), (4, .int x4)] (by decide) rfl ?_
  refine J.iinc (q := 128) O dX12_hang_125 rfl [(4, .int (x4 + (1 : Int32))), (3, .int (s1 + s0)), (0, .ref (ad G 287)), (1, .int x1)] 3 rfl rfl (by decide) rfl ?_
  refine J.goto (q := 97) O dX12_hang_128 (by decide) ?_
  exact J.sub [2, 3, 1, 0] rfl (hr97 _ h)
set_option maxHeartbeats 4000000 in
set_option maxRecDepth 20000 in
theorem j_X12_hang_c97 {X : CX} {G : GX} {K : Int32 → Mem → Prop} (hG : Gd G) (O : Ok X G cX12_hang 5 RX12 3) (hR : RetI X G cX12_hang K) {a : Int32 × Int32 × Int32 × Mem} (h : Lp (fun (r97 : Int32 × Int32 × Int32 × Mem → Prop) a => f_X12_hang_c97 K r97 a.1 a.2.1 a.2.2.1 a.2.2.2) a) : J X G a.2.2.2 97 [(0, .ref (ad G 287)), (1, .int a.1), (3, .int a.2.1), (4, .int a.2.2.1)] [] := by
  refine Lp.elim (P := fun a => J X G a.2.2.2 97 [(0, .ref (ad G 287)), (1, .int a.1), (3, .int a.2.1), (4, .int a.2.2.1)] []) ?_ h
  clear h
  intro r97 hr97 a h
  obtain ⟨x1, x3, x4, M⟩ := a
  unfold f_X12_hang_c97 at h
  (try dsimp only at h ⊢)
  refine J.iload (q := 99) O dX12_hang_97 rfl 3 rfl ?_
  refine J.aload_n (q := 100) O dX12_hang_99 rfl 0 rfl ?_
  refine J.getI (q := 103) (c' := 287) (ci := 12) (k := 73) (M 287 73) rfl O dX12_hang_100 rfl wd_6_145 (by decide) if_287_73 ?_
  refine J.icmp_ge (q := 106) (tgt := 131) O dX12_hang_103 rfl (by decide) (fun z6 => ?_) (fun z6 => ?_)
  · replace h := h.1 z6
    refine J.iload_n (q := 132) O dX12_hang_131 rfl 2 rfl ?_
    exact hR _ _ _ _ dX12_hang_132 h
  · replace h := h.2 z6
    refine J.iload_n (q := 107) O dX12_hang_106 rfl 2 rfl ?_
    refine J.aload_n (q := 108) O dX12_hang_107 rfl 0 rfl ?_
    refine J.getR (q := 111) (c' := 287) (ci := 12) (k := 74) (r := 344) O dX12_hang_108 rfl wd_6_146 (by decide) if_287_74 ?_
    refine J.iload (q := 113) O dX12_hang_111 rfl 3 rfl ?_
    obtain ⟨hv7, h⟩ := h
    refine J.iald (q := 114) (c' := 344) (j := x4.toNatClampNeg) (M 344 x4.toNatClampNeg) rfl O dX12_hang_113 rfl ar_344 hv7 rfl ?_
    refine J.iload_n (q := 115) O dX12_hang_114 rfl 1 rfl ?_
    refine J.icmp_ne (q := 118) (tgt := 122) O dX12_hang_115 rfl (by decide) (fun z8 => ?_) (fun z8 => ?_)
    · replace h := h.1 z8
      refine J.iconst (q := 123) (v := (0 : Int32)) O dX12_hang_122 rfl rfl ?_
      exact J.sub [0, 1, 3] rfl (j_X12_hang_b123 hG O hR hr97 h)
    · replace h := h.2 z8
      refine J.iconst (q := 119) (v := (1 : Int32)) O dX12_hang_118 rfl rfl ?_
      refine J.goto (q := 123) O dX12_hang_119 (by decide) ?_
      exact J.sub [0, 1, 3] rfl (j_X12_hang_b123 hG O hR hr97 h)
set_option maxHeartbeats 4000000 in
set_option maxRecDepth 20000 in
theorem c_X12_hang {l : Launch} {G : GX} (hG : Gd G) {a1 : Int32} {a2 : Int32} {M : Mem} {K : Int32 → Mem → Prop} (h : f_X12_hang a1 a2 M K) : CI l G yX12_hang cX12_hang 5 (some .int) 3 [.ref (ad G 287), .int a1, .int a2] M K := by
  unfold f_X12_hang at h
  refine CI.mk hG (by decide) [(0, .ref (ad G 287)), (1, .int a1), (2, .int a2)] rfl (Nat.le_of_ble_eq_true rfl) (fun X O hlX hR => ?_)
  subst hlX
  refine J.aload_n (q := 1) O dX12_hang_0 rfl 0 rfl ?_
  refine J.iload_n (q := 2) O dX12_hang_1 rfl 1 rfl ?_
  refine J.callVI (q := 5) [.int a1] [] [.int a1, .ref (ad G 287)] rfl O dX12_hang_2 rfl (c_X12_isDeed hG h) wd_8_203 mw_X12_isDeed io_287 rfl (by decide) (Nat.le_of_ble_eq_true rfl) (fun v9 M9 h => ?_)
  refine J.if_ne (q := 8) (tgt := 14) O dX12_hang_5 rfl (by decide) (fun z10 => ?_) (fun z10 => ?_)
  · replace h := h.1 z10
    refine J.iload_n (q := 15) O dX12_hang_14 rfl 2 rfl ?_
    refine J.iconst (q := 16) (v := (1 : Int32)) O dX12_hang_15 rfl rfl ?_
    refine J.icmp_ge (q := 19) (tgt := 26) O dX12_hang_16 rfl (by decide) (fun z11 => ?_) (fun z11 => ?_)
    · replace h := h.1 z11
      refine J.iload_n (q := 27) O dX12_hang_26 rfl 2 rfl ?_
      refine J.sipush (q := 30) (v := (9999 : Int32)) O dX12_hang_27 rfl rfl ?_
      refine J.icmp_gt (q := 33) (tgt := 42) O dX12_hang_30 rfl (by decide) (fun z12 => ?_) (fun z12 => ?_)
      · replace h := h.1 z12
        exact J.sub [0] rfl (j_X12_hang_b42 hG O hR h)
      · replace h := h.2 z12
        refine J.aload_n (q := 34) O dX12_hang_33 rfl 0 rfl ?_
        refine J.getI (q := 37) (c' := 287) (ci := 12) (k := 73) (M9 287 73) rfl O dX12_hang_34 rfl wd_6_145 (by decide) if_287_73 ?_
        refine J.bipush (q := 39) (v := (100 : Int32)) O dX12_hang_37 rfl rfl ?_
        refine J.icmp_ne (q := 42) (tgt := 49) O dX12_hang_39 rfl (by decide) (fun z13 => ?_) (fun z13 => ?_)
        · replace h := h.1 z13
          refine J.aload_n (q := 50) O dX12_hang_49 rfl 0 rfl ?_
          refine J.getR (q := 53) (c' := 287) (ci := 12) (k := 74) (r := 344) O dX12_hang_50 rfl wd_6_146 (by decide) if_287_74 ?_
          refine J.aload_n (q := 54) O dX12_hang_53 rfl 0 rfl ?_
          refine J.getI (q := 57) (c' := 287) (ci := 12) (k := 73) (M9 287 73) rfl O dX12_hang_54 rfl wd_6_145 (by decide) if_287_73 ?_
          refine J.iload_n (q := 58) O dX12_hang_57 rfl 1 rfl ?_
          obtain ⟨hv14, h⟩ := h
          refine J.iast (q := 59) (c' := 344) (j := (M9 287 73).toNatClampNeg) O dX12_hang_58 rfl ar_344 hv14 rfl ?_
          refine J.aload_n (q := 60) O dX12_hang_59 rfl 0 rfl ?_
          refine J.getR (q := 63) (c' := 287) (ci := 12) (k := 75) (r := 345) O dX12_hang_60 rfl wd_6_147 (by decide) if_287_75 ?_
          refine J.aload_n (q := 64) O dX12_hang_63 rfl 0 rfl ?_
          refine J.getI (q := 67) (c' := 287) (ci := 12) (k := 73) (M9 287 73) rfl O dX12_hang_64 rfl wd_6_145 (by decide) if_287_73 ?_
          refine J.aload_n (q := 68) O dX12_hang_67 rfl 0 rfl ?_
          refine J.getI (q := 71) (c' := 287) (ci := 12) (k := 0) (M9 287 0) rfl O dX12_hang_68 rfl wd_6_72 (by decide) if_287_0 ?_
          obtain ⟨hv15, h⟩ := h
          refine J.iast (q := 72) (c' := 345) (j := (M9 287 73).toNatClampNeg) O dX12_hang_71 rfl ar_345 hv15 rfl ?_
          refine J.aload_n (q := 73) O dX12_hang_72 rfl 0 rfl ?_
          refine J.getR (q := 76) (c' := 287) (ci := 12) (k := 76) (r := 346) O dX12_hang_73 rfl wd_6_148 (by decide) if_287_76 ?_
          refine J.aload_n (q := 77) O dX12_hang_76 rfl 0 rfl ?_
          refine J.getI (q := 80) (c' := 287) (ci := 12) (k := 73) (M9 287 73) rfl O dX12_hang_77 rfl wd_6_145 (by decide) if_287_73 ?_
          refine J.iload_n (q := 81) O dX12_hang_80 rfl 2 rfl ?_
          obtain ⟨hv16, h⟩ := h
          refine J.iast (q := 82) (c' := 346) (j := (M9 287 73).toNatClampNeg) O dX12_hang_81 rfl ar_346 hv16 rfl ?_
          refine J.aload_n (q := 83) O dX12_hang_82 rfl 0 rfl ?_
          refine J.dup (q := 84) O dX12_hang_83 rfl rfl ?_
          refine J.getI (q := 87) (c' := 287) (ci := 12) (k := 73) (M9 287 73) rfl O dX12_hang_84 rfl wd_6_145 (by decide) if_287_73 ?_
          refine J.iconst (q := 88) (v := (1 : Int32)) O dX12_hang_87 rfl rfl ?_
          refine J.iadd (q := 89) O dX12_hang_88 rfl ?_
          refine J.putI (q := 92) (c' := 287) (ci := 12) (k := 73) O dX12_hang_89 rfl wd_6_145 (by decide) if_287_73 rfl rfl ?_
          refine J.iconst (q := 93) (v := (0 : Int32)) O dX12_hang_92 rfl rfl ?_
          refine J.istore_n (q := 94) O dX12_hang_93 rfl [(3, .int (0 : Int32)), (0, .ref (ad G 287)), (1, .int a1), (2, .int a2)] (by decide) rfl ?_
          refine J.iconst (q := 95) (v := (0 : Int32)) O dX12_hang_94 rfl rfl ?_
          refine J.istore (q := 97) O dX12_hang_95 rfl [(4, .int (0 : Int32)), (3, .int (0 : Int32)), (0, .ref (ad G 287)), (1, .int a1), (2, .int a2)] (by decide) rfl ?_
          exact J.sub [2, 3, 1, 0] rfl (j_X12_hang_c97 hG O hR h)
        · replace h := h.2 z13
          exact J.sub [0] rfl (j_X12_hang_b42 hG O hR h)
    · replace h := h.2 z11
      refine J.aload_n (q := 20) O dX12_hang_19 rfl 0 rfl ?_
      refine J.bipush (q := 22) (v := (-4 : Int32)) O dX12_hang_20 rfl rfl ?_
      refine J.callVI (q := 25) [.int (-4 : Int32)] [] [.int (-4 : Int32), .ref (ad G 287)] rfl O dX12_hang_22 rfl (c_X12_refuse hG h) wd_7_158 mw_X12_refuse io_287 rfl (by decide) (Nat.le_of_ble_eq_true rfl) (fun v17 M17 h => ?_)
      exact hR _ _ _ _ dX12_hang_25 h
  · replace h := h.2 z10
    refine J.aload_n (q := 9) O dX12_hang_8 rfl 0 rfl ?_
    refine J.iconst (q := 10) (v := (-1 : Int32)) O dX12_hang_9 rfl rfl ?_
    refine J.callVI (q := 13) [.int (-1 : Int32)] [] [.int (-1 : Int32), .ref (ad G 287)] rfl O dX12_hang_10 rfl (c_X12_refuse hG h) wd_7_158 mw_X12_refuse io_287 rfl (by decide) (Nat.le_of_ble_eq_true rfl) (fun v18 M18 h => ?_)
    exact hR _ _ _ _ dX12_hang_13 h
