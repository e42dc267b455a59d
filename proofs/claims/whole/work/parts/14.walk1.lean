set_option maxHeartbeats 4000000 in
set_option maxRecDepth 20000 in
theorem j_X11_state_b22 {X : CX} {G : GX} {K : Int32 → Mem → Prop} (hG : Gd G) (O : Ok X G cX11_state 4 RX11 4) (hR : RetI X G cX11_state K) {M : Mem} (h : f_X11_state_b22 K  M) : J X G M 22 [(0, .ref (ad G 0))] [] := by
  unfold f_X11_state_b22 at h
  refine J.aload_n (q := 23) O dX11_state_22 rfl 0 rfl ?_
  refine J.bipush (q := 25) (v := (-4 : Int32)) O dX11_state_23 rfl rfl ?_
  refine J.callVI (q := 28) [.int (-4 : Int32)] [] [.int (-4 : Int32), .ref (ad G 0)] rfl O dX11_state_25 rfl (c_X11_refuse hG h) wd_3_55 mw_X11_refuse io_0 rfl (by decide) (Nat.le_of_ble_eq_true rfl) (fun v3 M3 h => ?_)
  exact hR _ _ _ _ dX11_state_28 h
set_option maxHeartbeats 4000000 in
set_option maxRecDepth 20000 in
theorem j_X11_state_b58 {X : CX} {G : GX} {K : Int32 → Mem → Prop} (hG : Gd G) (O : Ok X G cX11_state 4 RX11 4) (hR : RetI X G cX11_state K) {M : Mem} (h : f_X11_state_b58 K  M) : J X G M 58 [(0, .ref (ad G 0))] [] := by
  unfold f_X11_state_b58 at h
  refine J.aload_n (q := 59) O dX11_state_58 rfl 0 rfl ?_
  refine J.bipush (q := 61) (v := (-3 : Int32)) O dX11_state_59 rfl rfl ?_
  refine J.callVI (q := 64) [.int (-3 : Int32)] [] [.int (-3 : Int32), .ref (ad G 0)] rfl O dX11_state_61 rfl (c_X11_refuse hG h) wd_3_55 mw_X11_refuse io_0 rfl (by decide) (Nat.le_of_ble_eq_true rfl) (fun v4 M4 h => ?_)
  exact hR _ _ _ _ dX11_state_64 h
set_option maxHeartbeats 4000000 in
set_option maxRecDepth 20000 in
theorem c_X11_state {l : Launch} {G : GX} (hG : Gd G) {a1 : Int32} {a2 : Int32} {a3 : Int32} {M : Mem} {K : Int32 → Mem → Prop} (h : f_X11_state a1 a2 a3 M K) : CI l G yX11_state cX11_state 4 (some .int) 4 [.ref (ad G 0), .int a1, .int a2, .int a3] M K := by
  unfold f_X11_state at h
  refine CI.mk hG (by decide) [(0, .ref (ad G 0)), (1, .int a1), (2, .int a2), (3, .int a3)] rfl (Nat.le_of_ble_eq_true rfl) (fun X O hlX hR => ?_)
  subst hlX
  refine J.aload_n (q := 1) O dX11_state_0 rfl 0 rfl ?_
  refine J.iload_n (q := 2) O dX11_state_1 rfl 1 rfl ?_
  refine J.callVI (q := 5) [.int a1] [] [.int a1, .ref (ad G 0)] rfl O dX11_state_2 rfl (c_X11_isMatter hG h) wd_4_31 mw_X11_isMatter io_0 rfl (by decide) (Nat.le_of_ble_eq_true rfl) (fun v5 M5 h => ?_)
  refine J.if_ne (q := 8) (tgt := 14) O dX11_state_5 rfl (by decide) (fun z6 => ?_) (fun z6 => ?_)
  · replace h := h.1 z6
    refine J.iload_n (q := 15) O dX11_state_14 rfl 2 rfl ?_
    refine J.if_lt (q := 18) (tgt := 22) O dX11_state_15 rfl (by decide) (fun z7 => ?_) (fun z7 => ?_)
    · replace h := h.1 z7
      exact J.sub [0] rfl (j_X11_state_b22 hG O hR h)
    · replace h := h.2 z7
      refine J.iload_n (q := 19) O dX11_state_18 rfl 3 rfl ?_
      refine J.if_ge (q := 22) (tgt := 29) O dX11_state_19 rfl (by decide) (fun z8 => ?_) (fun z8 => ?_)
      · replace h := h.1 z8
        refine J.iload_n (q := 30) O dX11_state_29 rfl 2 rfl ?_
        refine J.aload_n (q := 31) O dX11_state_30 rfl 0 rfl ?_
        refine J.getR (q := 34) (c' := 0) (ci := 11) (k := 4) (r := 61) O dX11_state_31 rfl wd_3_6 (by decide) if_0_4 ?_
        refine J.iload_n (q := 35) O dX11_state_34 rfl 1 rfl ?_
        obtain ⟨hv9, h⟩ := h
        refine J.aald (q := 36) (t := 0) (c' := 61) (b := 127) (d := 4) O dX11_state_35 rfl ar_61 hv9 ?_
        refine J.getI (q := 39) (c' := (127 + 4 * a1.toNatClampNeg)) (ci := 5) (k := 6) (M5 (127 + 4 * a1.toNatClampNeg) 6) rfl O dX11_state_36 rfl wd_2_200 (by decide) (isMat_F (isMat_of hv9) rfl) ?_
        refine J.icmp_lt (q := 42) (tgt := 58) O dX11_state_39 rfl (by decide) (fun z10 => ?_) (fun z10 => ?_)
        · replace h := h.1 z10
          exact J.sub [0] rfl (j_X11_state_b58 hG O hR h)
        · replace h := h.2 z10
          refine J.iload_n (q := 43) O dX11_state_42 rfl 2 rfl ?_
          refine J.iload_n (q := 44) O dX11_state_43 rfl 3 rfl ?_
          refine J.icmp_gt (q := 47) (tgt := 58) O dX11_state_44 rfl (by decide) (fun z11 => ?_) (fun z11 => ?_)
          · replace h := h.1 z11
            exact J.sub [0] rfl (j_X11_state_b58 hG O hR h)
          · replace h := h.2 z11
            refine J.iload_n (q := 48) O dX11_state_47 rfl 3 rfl ?_
            refine J.aload_n (q := 49) O dX11_state_48 rfl 0 rfl ?_
            refine J.getR (q := 52) (c' := 0) (ci := 11) (k := 0) (r := 1) O dX11_state_49 rfl wd_3_2 (by decide) if_0_0 ?_
            refine J.getI (q := 55) (c' := 1) (ci := 3) (k := 0) (M5 1 0) rfl O dX11_state_52 rfl wd_1_31 (by decide) if_1_0 ?_
            refine J.icmp_le (q := 58) (tgt := 65) O dX11_state_55 rfl (by decide) (fun z12 => ?_) (fun z12 => ?_)
            · replace h := h.1 z12
              refine J.aload_n (q := 66) O dX11_state_65 rfl 0 rfl ?_
              refine J.getR (q := 69) (c' := 0) (ci := 11) (k := 4) (r := 61) O dX11_state_66 rfl wd_3_6 (by decide) if_0_4 ?_
              refine J.iload_n (q := 70) O dX11_state_69 rfl 1 rfl ?_
              obtain ⟨hv13, h⟩ := h
              refine J.aald (q := 71) (t := 0) (c' := 61) (b := 127) (d := 4) O dX11_state_70 rfl ar_61 hv13 ?_
              refine J.iload_n (q := 72) O dX11_state_71 rfl 2 rfl ?_
              refine J.iload_n (q := 73) O dX11_state_72 rfl 3 rfl ?_
              refine J.callVI (q := 76) [.int a2, .int a3] [] [.int a3, .int a2, .ref (ad G (127 + 4 * a1.toNatClampNeg))] rfl O dX11_state_73 rfl (c_X5_stateOn hG h) wd_4_59 mw_X5_stateOn (isMat_O (isMat_of hv13)) rfl (by decide) (Nat.le_of_ble_eq_true rfl) (fun v14 M14 h => ?_)
              exact hR _ _ _ _ dX11_state_76 h
            · replace h := h.2 z12
              exact J.sub [0] rfl (j_X11_state_b58 hG O hR h)
      · replace h := h.2 z8
        exact J.sub [0] rfl (j_X11_state_b22 hG O hR h)
  · replace h := h.2 z6
    refine J.aload_n (q := 9) O dX11_state_8 rfl 0 rfl ?_
    refine J.iconst (q := 10) (v := (-1 : Int32)) O dX11_state_9 rfl rfl ?_
    refine J.callVI (q := 13) [.int (-1 : Int32)] [] [.int (-1 : Int32), .ref (ad G 0)] rfl O dX11_state_10 rfl (c_X11_refuse hG h) wd_3_55 mw_X11_refuse io_0 rfl (by decide) (Nat.le_of_ble_eq_true rfl) (fun v15 M15 h => ?_)
    exact hR _ _ _ _ dX11_state_13 h
set_option maxHeartbeats 4000000 in
set_option maxRecDepth 20000 in
theorem j_X5_lets_b45 {t : Nat} {X : CX} {G : GX} {K : Int32 → Mem → Prop} (hG : Gd G) (O : Ok X G cX5_lets 2 RX5 1) (hR : RetZ X G cX5_lets K) (ht : isMat t) {s0 : Int32} {M : Mem} (h : f_X5_lets_b45 t K s0 M) : J X G M 45 [] [.int s0] := by
  unfold f_X5_lets_b45 at h
  exact hR _ _ _ _ dX5_lets_45 h.1 h.2
set_option maxHeartbeats 4000000 in
set_option maxRecDepth 20000 in
theorem j_X5_lets_b57 {t : Nat} {X : CX} {G : GX} {K : Int32 → Mem → Prop} (hG : Gd G) (O : Ok X G cX5_lets 2 RX5 1) (hR : RetZ X G cX5_lets K) (ht : isMat t) {s0 : Int32} {M : Mem} (h : f_X5_lets_b57 t K s0 M) : J X G M 57 [] [.int s0] := by
  unfold f_X5_lets_b57 at h
  exact hR _ _ _ _ dX5_lets_57 h.1 h.2
set_option maxHeartbeats 4000000 in
set_option maxRecDepth 20000 in
theorem j_X5_lets_b79 {t : Nat} {X : CX} {G : GX} {K : Int32 → Mem → Prop} (hG : Gd G) (O : Ok X G cX5_lets 2 RX5 1) (hR : RetZ X G cX5_lets K) (ht : isMat t) {s0 : Int32} {M : Mem} (h : f_X5_lets_b79 t K s0 M) : J X G M 79 [] [.int s0] := by
  unfold f_X5_lets_b79 at h
  exact hR _ _ _ _ dX5_lets_79 h.1 h.2
set_option maxHeartbeats 4000000 in
set_option maxRecDepth 20000 in
theorem j_X5_lets_b74 {t : Nat} {X : CX} {G : GX} {K : Int32 → Mem → Prop} (hG : Gd G) (O : Ok X G cX5_lets 2 RX5 1) (hR : RetZ X G cX5_lets K) (ht : isMat t) {M : Mem} (h : f_X5_lets_b74 t K  M) : J X G M 74 [] [] := by
  unfold f_X5_lets_b74 at h
  refine J.iconst (q := 75) (v := (1 : Int32)) O dX5_lets_74 rfl rfl ?_
  refine J.goto (q := 79) O dX5_lets_75 (by decide) ?_
  exact J.sub [] rfl (j_X5_lets_b79 hG O hR ht h)
set_option maxHeartbeats 4000000 in
set_option maxRecDepth 20000 in
theorem j_X5_lets_b102 {t : Nat} {X : CX} {G : GX} {K : Int32 → Mem → Prop} (hG : Gd G) (O : Ok X G cX5_lets 2 RX5 1) (hR : RetZ X G cX5_lets K) (ht : isMat t) {s0 : Int32} {M : Mem} (h : f_X5_lets_b102 t K s0 M) : J X G M 102 [] [.int s0] := by
  unfold f_X5_lets_b102 at h
  exact hR _ _ _ _ dX5_lets_102 h.1 h.2
set_option maxHeartbeats 4000000 in
set_option maxRecDepth 20000 in
theorem j_X5_lets_b97 {t : Nat} {X : CX} {G : GX} {K : Int32 → Mem → Prop} (hG : Gd G) (O : Ok X G cX5_lets 2 RX5 1) (hR : RetZ X G cX5_lets K) (ht : isMat t) {M : Mem} (h : f_X5_lets_b97 t K  M) : J X G M 97 [] [] := by
  unfold f_X5_lets_b97 at h
  refine J.iconst (q := 98) (v := (1 : Int32)) O dX5_lets_97 rfl rfl ?_
  refine J.goto (q := 102) O dX5_lets_98 (by decide) ?_
  exact J.sub [] rfl (j_X5_lets_b102 hG O hR ht h)
set_option maxHeartbeats 4000000 in
set_option maxRecDepth 20000 in
theorem j_X5_lets_b135 {t : Nat} {X : CX} {G : GX} {K : Int32 → Mem → Prop} (hG : Gd G) (O : Ok X G cX5_lets 2 RX5 1) (hR : RetZ X G cX5_lets K) (ht : isMat t) {s0 : Int32} {M : Mem} (h : f_X5_lets_b135 t K s0 M) : J X G M 135 [] [.int s0] := by
  unfold f_X5_lets_b135 at h
  exact hR _ _ _ _ dX5_lets_135 h.1 h.2
set_option maxHeartbeats 4000000 in
set_option maxRecDepth 20000 in
theorem j_X5_lets_b130 {t : Nat} {X : CX} {G : GX} {K : Int32 → Mem → Prop} (hG : Gd G) (O : Ok X G cX5_lets 2 RX5 1) (hR : RetZ X G cX5_lets K) (ht : isMat t) {M : Mem} (h : f_X5_lets_b130 t K  M) : J X G M 130 [] [] := by
  unfold f_X5_lets_b130 at h
  refine J.iconst (q := 131) (v := (1 : Int32)) O dX5_lets_130 rfl rfl ?_
  refine J.goto (q := 135) O dX5_lets_131 (by decide) ?_
  exact J.sub [] rfl (j_X5_lets_b135 hG O hR ht h)
set_option maxHeartbeats 4000000 in
set_option maxRecDepth 20000 in
theorem c_X5_lets {l : Launch} {G : GX} (hG : Gd G) {t : Nat} {a1 : Int32} {M : Mem} {K : Int32 → Mem → Prop} (h : f_X5_lets t a1 M K) : CI l G yX5_lets cX5_lets 2 (some .boolean) 1 [.ref (ad G t), .int a1] M K := by
  unfold f_X5_lets at h
  obtain ⟨ht, h⟩ := h
  refine CZ.mk hG (by decide) [(0, .ref (ad G t)), (1, .int a1)] rfl (Nat.le_of_ble_eq_true rfl) (fun X O hlX hR => ?_)
  subst hlX
  refine J.aload_n (q := 1) O dX5_lets_0 rfl 0 rfl ?_
  refine J.getI (q := 4) (c' := t) (ci := 5) (k := 7) (M t 7) rfl O dX5_lets_1 rfl wd_2_201 (by decide) (isMat_F ht rfl) ?_
  rcases tsw_cov (M t 7) (0) 3 (by decide) with z11 | ⟨j, hj, z11⟩
  · replace h := h.1 (by omega)
    refine J.tswOut (q := 103) O dX5_lets_4 (by omega) (by decide) ?_
    refine J.iload_n (q := 104) O dX5_lets_103 rfl 1 rfl ?_
    refine J.iconst (q := 105) (v := (2 : Int32)) O dX5_lets_104 rfl rfl ?_
    refine J.icmp_eq (q := 108) (tgt := 130) O dX5_lets_105 rfl (by decide) (fun z6 => ?_) (fun z6 => ?_)
    · replace h := h.1 z6
      exact J.sub [] rfl (j_X5_lets_b130 hG O hR ht h)
    · replace h := h.2 z6
      refine J.iload_n (q := 109) O dX5_lets_108 rfl 1 rfl ?_
      refine J.iconst (q := 110) (v := (3 : Int32)) O dX5_lets_109 rfl rfl ?_
      refine J.icmp_eq (q := 113) (tgt := 130) O dX5_lets_110 rfl (by decide) (fun z7 => ?_) (fun z7 => ?_)
      · replace h := h.1 z7
        exact J.sub [] rfl (j_X5_lets_b130 hG O hR ht h)
      · replace h := h.2 z7
        refine J.iload_n (q := 114) O dX5_lets_113 rfl 1 rfl ?_
        refine J.iconst (q := 115) (v := (4 : Int32)) O dX5_lets_114 rfl rfl ?_
        refine J.icmp_eq (q := 118) (tgt := 130) O dX5_lets_115 rfl (by decide) (fun z8 => ?_) (fun z8 => ?_)
        · replace h := h.1 z8
          exact J.sub [] rfl (j_X5_lets_b130 hG O hR ht h)
        · replace h := h.2 z8
          refine J.iload_n (q := 119) O dX5_lets_118 rfl 1 rfl ?_
          refine J.bipush (q := 121) (v := (6 : Int32)) O dX5_lets_119 rfl rfl ?_
          refine J.icmp_eq (q := 124) (tgt := 130) O dX5_lets_121 rfl (by decide) (fun z9 => ?_) (fun z9 => ?_)
          · replace h := h.1 z9
            exact J.sub [] rfl (j_X5_lets_b130 hG O hR ht h)
          · replace h := h.2 z9
            refine J.iload_n (q := 125) O dX5_lets_124 rfl 1 rfl ?_
            refine J.bipush (q := 127) (v := (8 : Int32)) O dX5_lets_125 rfl rfl ?_
            refine J.icmp_ne (q := 130) (tgt := 134) O dX5_lets_127 rfl (by decide) (fun z10 => ?_) (fun z10 => ?_)
            · replace h := h.1 z10
              refine J.iconst (q := 135) (v := (0 : Int32)) O dX5_lets_134 rfl rfl ?_
              exact J.sub [] rfl (j_X5_lets_b135 hG O hR ht h)
            · replace h := h.2 z10
              exact J.sub [] rfl (j_X5_lets_b130 hG O hR ht h)
  · match j, hj, z11 with
    | 0, _, z11 =>
      have z11 : (M t 7) = (0 : Int32) := z11.trans (by decide)
      replace h := h.2.1 z11
      refine J.tswIn (q := 36) O dX5_lets_4 (0 : Int32) z11 (by decide) (by decide) rfl (by decide) ?_
      refine J.iload_n (q := 37) O dX5_lets_36 rfl 1 rfl ?_
      refine J.if_ne (q := 40) (tgt := 44) O dX5_lets_37 rfl (by decide) (fun z12 => ?_) (fun z12 => ?_)
      · replace h := h.1 z12
        refine J.iconst (q := 45) (v := (0 : Int32)) O dX5_lets_44 rfl rfl ?_
        exact J.sub [] rfl (j_X5_lets_b45 hG O hR ht h)
      · replace h := h.2 z12
        refine J.iconst (q := 41) (v := (1 : Int32)) O dX5_lets_40 rfl rfl ?_
        refine J.goto (q := 45) O dX5_lets_41 (by decide) ?_
        exact J.sub [] rfl (j_X5_lets_b45 hG O hR ht h)
    | 1, _, z11 =>
      have z11 : (M t 7) = (1 : Int32) := z11.trans (by decide)
      replace h := h.2.2.1 z11
      refine J.tswIn (q := 46) O dX5_lets_4 (1 : Int32) z11 (by decide) (by decide) rfl (by decide) ?_
      refine J.iload_n (q := 47) O dX5_lets_46 rfl 1 rfl ?_
      refine J.bipush (q := 49) (v := (6 : Int32)) O dX5_lets_47 rfl rfl ?_
      refine J.icmp_ne (q := 52) (tgt := 56) O dX5_lets_49 rfl (by decide) (fun z13 => ?_) (fun z13 => ?_)
      · replace h := h.1 z13
        refine J.iconst (q := 57) (v := (0 : Int32)) O dX5_lets_56 rfl rfl ?_
        exact J.sub [] rfl (j_X5_lets_b57 hG O hR ht h)
      · replace h := h.2 z13
        refine J.iconst (q := 53) (v := (1 : Int32)) O dX5_lets_52 rfl rfl ?_
        refine J.goto (q := 57) O dX5_lets_53 (by decide) ?_
        exact J.sub [] rfl (j_X5_lets_b57 hG O hR ht h)
    | 2, _, z11 =>
      have z11 : (M t 7) = (2 : Int32) := z11.trans (by decide)
      replace h := h.2.2.2.1 z11
      refine J.tswIn (q := 58) O dX5_lets_4 (2 : Int32) z11 (by decide) (by decide) rfl (by decide) ?_
      refine J.iload_n (q := 59) O dX5_lets_58 rfl 1 rfl ?_
      refine J.iconst (q := 60) (v := (4 : Int32)) O dX5_lets_59 rfl rfl ?_
      refine J.icmp_eq (q := 63) (tgt := 74) O dX5_lets_60 rfl (by decide) (fun z14 => ?_) (fun z14 => ?_)
      · replace h := h.1 z14
        exact J.sub [] rfl (j_X5_lets_b74 hG O hR ht h)
      · replace h := h.2 z14
        refine J.iload_n (q := 64) O dX5_lets_63 rfl 1 rfl ?_
        refine J.iconst (q := 65) (v := (5 : Int32)) O dX5_lets_64 rfl rfl ?_
        refine J.icmp_eq (q := 68) (tgt := 74) O dX5_lets_65 rfl (by decide) (fun z15 => ?_) (fun z15 => ?_)
        · replace h := h.1 z15
          exact J.sub [] rfl (j_X5_lets_b74 hG O hR ht h)
        · replace h := h.2 z15
          refine J.iload_n (q := 69) O dX5_lets_68 rfl 1 rfl ?_
          refine J.bipush (q := 71) (v := (6 : Int32)) O dX5_lets_69 rfl rfl ?_
          refine J.icmp_ne (q := 74) (tgt := 78) O dX5_lets_71 rfl (by decide) (fun z16 => ?_) (fun z16 => ?_)
          · replace h := h.1 z16
            refine J.iconst (q := 79) (v := (0 : Int32)) O dX5_lets_78 rfl rfl ?_
            exact J.sub [] rfl (j_X5_lets_b79 hG O hR ht h)
          · replace h := h.2 z16
            exact J.sub [] rfl (j_X5_lets_b74 hG O hR ht h)
    | 3, _, z11 =>
      have z11 : (M t 7) = (3 : Int32) := z11.trans (by decide)
      replace h := h.2.2.2.2 z11
      refine J.tswIn (q := 80) O dX5_lets_4 (3 : Int32) z11 (by decide) (by decide) rfl (by decide) ?_
      refine J.iload_n (q := 81) O dX5_lets_80 rfl 1 rfl ?_
      refine J.iconst (q := 82) (v := (4 : Int32)) O dX5_lets_81 rfl rfl ?_
      refine J.icmp_eq (q := 85) (tgt := 97) O dX5_lets_82 rfl (by decide) (fun z17 => ?_) (fun z17 => ?_)
      · replace h := h.1 z17
        exact J.sub [] rfl (j_X5_lets_b97 hG O hR ht h)
      · replace h := h.2 z17
        refine J.iload_n (q := 86) O dX5_lets_85 rfl 1 rfl ?_
        refine J.bipush (q := 88) (v := (6 : Int32)) O dX5_lets_86 rfl rfl ?_
        refine J.icmp_eq (q := 91) (tgt := 97) O dX5_lets_88 rfl (by decide) (fun z18 => ?_) (fun z18 => ?_)
        · replace h := h.1 z18
          exact J.sub [] rfl (j_X5_lets_b97 hG O hR ht h)
        · replace h := h.2 z18
          refine J.iload_n (q := 92) O dX5_lets_91 rfl 1 rfl ?_
          refine J.bipush (q := 94) (v := (8 : Int32)) O dX5_lets_92 rfl rfl ?_
          refine J.icmp_ne (q := 97) (tgt := 101) O dX5_lets_94 rfl (by decide) (fun z19 => ?_) (fun z19 => ?_)
          · replace h := h.1 z19
            refine J.iconst (q := 102) (v := (0 : Int32)) O dX5_lets_101 rfl rfl ?_
            exact J.sub [] rfl (j_X5_lets_b102 hG O hR ht h)
          · replace h := h.2 z19
            exact J.sub [] rfl (j_X5_lets_b97 hG O hR ht h)
    | j + 4, hj, _ => exact absurd hj (by omega)
set_option maxHeartbeats 4000000 in
set_option maxRecDepth 20000 in
theorem c_X5_letsOn {l : Launch} {G : GX} (hG : Gd G) {t : Nat} {a1 : Int32} {M : Mem} {K : Int32 → Mem → Prop} (h : f_X5_letsOn t a1 M K) : CI l G yX5_letsOn cX5_letsOn 2 (some .boolean) 4 [.ref (ad G t), .int a1] M K := by
  unfold f_X5_letsOn at h
  obtain ⟨ht, h⟩ := h
  refine CZ.mk hG (by decide) [(0, .ref (ad G t)), (1, .int a1)] rfl (Nat.le_of_ble_eq_true rfl) (fun X O hlX hR => ?_)
  subst hlX
  refine J.aload_n (q := 1) O dX5_letsOn_0 rfl 0 rfl ?_
  refine J.aload_n (q := 2) O dX5_letsOn_1 rfl 0 rfl ?_
  refine J.iload_n (q := 3) O dX5_letsOn_2 rfl 1 rfl ?_
  refine J.aload_n (q := 4) O dX5_letsOn_3 rfl 0 rfl ?_
  refine J.getR (q := 7) (c' := t) (ci := 5) (k := 0) (r := 1) O dX5_letsOn_4 rfl wd_2_189 (by decide) (isMat_F ht rfl) ?_
  refine J.getI (q := 10) (c' := 1) (ci := 3) (k := 0) (M 1 0) rfl O dX5_letsOn_7 rfl wd_1_32 (by decide) if_1_0 ?_
  refine J.callVI (q := 13) [.int a1, .int (M 1 0)] [.ref (ad G t)] [.int (M 1 0), .int a1, .ref (ad G t), .ref (ad G t)] rfl O dX5_letsOn_10 rfl (c_X5_stateOn hG h) wd_4_94 mw_X5_stateOn (isMat_O ht) rfl (by decide) (Nat.le_of_ble_eq_true rfl) (fun v1 M1 h => ?_)
  refine J.callVI (q := 16) [.int v1] [] [.int v1, .ref (ad G t)] rfl O dX5_letsOn_13 rfl (c_X5_lets hG h) wd_4_95 mw_X5_lets (isMat_O ht) rfl (by decide) (Nat.le_of_ble_eq_true rfl) (fun v2 M2 h => ?_)
  exact hR _ _ _ _ dX5_letsOn_16 h.1 h.2
set_option maxHeartbeats 4000000 in
set_option maxRecDepth 20000 in
theorem j_X11_matterOf_b108 {X : CX} {G : GX} {K : Int32 → Mem → Prop} (hG : Gd G) (O : Ok X G cX11_matterOf 4 RX11 5) (hR : RetI X G cX11_matterOf K) {s0 : Int32} {M : Mem} (h : f_X11_matterOf_b108 K s0 M) : J X G M 108 [] [.int s0] := by
  unfold f_X11_matterOf_b108 at h
  exact hR _ _ _ _ dX11_matterOf_108 h
set_option maxHeartbeats 4000000 in
set_option maxRecDepth 20000 in
theorem c_X11_matterOf {l : Launch} {G : GX} (hG : Gd G) {a1 : Int32} {a2 : Int32} {M : Mem} {K : Int32 → Mem → Prop} (h : f_X11_matterOf a1 a2 M K) : CI l G yX11_matterOf cX11_matterOf 4 (some .int) 5 [.ref (ad G 0), .int a1, .int a2] M K := by
  unfold f_X11_matterOf at h
  refine CI.mk hG (by decide) [(0, .ref (ad G 0)), (1, .int a1), (2, .int a2)] rfl (Nat.le_of_ble_eq_true rfl) (fun X O hlX hR => ?_)
  subst hlX
  refine J.aload_n (q := 1) O dX11_matterOf_0 rfl 0 rfl ?_
  refine J.iload_n (q := 2) O dX11_matterOf_1 rfl 1 rfl ?_
  refine J.callVI (q := 5) [.int a1] [] [.int a1, .ref (ad G 0)] rfl O dX11_matterOf_2 rfl (c_X11_isMatter hG h) wd_4_31 mw_X11_isMatter io_0 rfl (by decide) (Nat.le_of_ble_eq_true rfl) (fun v2 M2 h => ?_)
  refine J.if_ne (q := 8) (tgt := 14) O dX11_matterOf_5 rfl (by decide) (fun z3 => ?_) (fun z3 => ?_)
  · replace h := h.1 z3
    refine J.aload_n (q := 15) O dX11_matterOf_14 rfl 0 rfl ?_
    refine J.getR (q := 18) (c' := 0) (ci := 11) (k := 4) (r := 61) O dX11_matterOf_15 rfl wd_3_6 (by decide) if_0_4 ?_
    refine J.iload_n (q := 19) O dX11_matterOf_18 rfl 1 rfl ?_
    obtain ⟨hv4, h⟩ := h
    refine J.aald (q := 20) (t := 0) (c' := 61) (b := 127) (d := 4) O dX11_matterOf_19 rfl ar_61 hv4 ?_
    refine J.astore_n (q := 21) O dX11_matterOf_20 rfl [(3, .ref (ad G (127 + 4 * a1.toNatClampNeg))), (0, .ref (ad G 0)), (1, .int a1), (2, .int a2)] (by decide) rfl ?_
    refine J.iload_n (q := 22) O dX11_matterOf_21 rfl 3 rfl ?_
    rcases tsw_cov a2 (0) 5 (by decide) with z6 | ⟨j, hj, z6⟩
    · replace h := h.1 (by omega)
      refine J.tswOut (q := 119) O dX11_matterOf_22 (by omega) (by decide) ?_
      refine J.aload_n (q := 120) O dX11_matterOf_119 rfl 1 rfl ?_
      refine J.bipush (q := 122) (v := (-2 : Int32)) O dX11_matterOf_120 rfl rfl ?_
      refine J.callVI (q := 125) [.int (-2 : Int32)] [] [.int (-2 : Int32), .ref (ad G 0)] rfl O dX11_matterOf_122 rfl (c_X11_refuse hG h) wd_3_55 mw_X11_refuse io_0 rfl (by decide) (Nat.le_of_ble_eq_true rfl) (fun v5 M5 h => ?_)
      exact hR _ _ _ _ dX11_matterOf_125 h
    · match j, hj, z6 with
      | 0, _, z6 =>
        have z6 : a2 = (0 : Int32) := z6.trans (by decide)
        replace h := h.2.1 z6
        refine J.tswIn (q := 60) O dX11_matterOf_22 (0 : Int32) z6 (by decide) (by decide) rfl (by decide) ?_
        refine J.aload_n (q := 61) O dX11_matterOf_60 rfl 0 rfl ?_
        refine J.getI (q := 64) (c' := (127 + 4 * a1.toNatClampNeg)) (ci := 5) (k := 7) (M2 (127 + 4 * a1.toNatClampNeg) 7) rfl O dX11_matterOf_61 rfl wd_2_202 (by decide) (isMat_F (isMat_of hv4) rfl) ?_
        exact hR _ _ _ _ dX11_matterOf_64 h
      | 1, _, z6 =>
        have z6 : a2 = (1 : Int32) := z6.trans (by decide)
        replace h := h.2.2.1 z6
        refine J.tswIn (q := 65) O dX11_matterOf_22 (1 : Int32) z6 (by decide) (by decide) rfl (by decide) ?_
        refine J.aload_n (q := 66) O dX11_matterOf_65 rfl 0 rfl ?_
        refine J.getI (q := 69) (c' := (127 + 4 * a1.toNatClampNeg)) (ci := 5) (k := 6) (M2 (127 + 4 * a1.toNatClampNeg) 6) rfl O dX11_matterOf_66 rfl wd_2_200 (by decide) (isMat_F (isMat_of hv4) rfl) ?_
        exact hR _ _ _ _ dX11_matterOf_69 h
      | 2, _, z6 =>
        have z6 : a2 = (2 : Int32) := z6.trans (by decide)
        replace h := h.2.2.2.1 z6
        refine J.tswIn (q := 70) O dX11_matterOf_22 (2 : Int32) z6 (by decide) (by decide) rfl (by decide) ?_
        refine J.aload_n (q := 71) O dX11_matterOf_70 rfl 0 rfl ?_
        refine J.aload_n (q := 72) O dX11_matterOf_71 rfl 1 rfl ?_
        refine J.getR (q := 75) (c' := 0) (ci := 11) (k := 0) (r := 1) O dX11_matterOf_72 rfl wd_3_2 (by decide) if_0_0 ?_
        refine J.getI (q := 78) (c' := 1) (ci := 3) (k := 0) (M2 1 0) rfl O dX11_matterOf_75 rfl wd_1_31 (by decide) if_1_0 ?_
        refine J.aload_n (q := 79) O dX11_matterOf_78 rfl 1 rfl ?_
        refine J.getR (q := 82) (c' := 0) (ci := 11) (k := 0) (r := 1) O dX11_matterOf_79 rfl wd_3_2 (by decide) if_0_0 ?_
        refine J.getI (q := 85) (c' := 1) (ci := 3) (k := 0) (M2 1 0) rfl O dX11_matterOf_82 rfl wd_1_31 (by decide) if_1_0 ?_
        refine J.callVI (q := 88) [.int (M2 1 0), .int (M2 1 0)] [] [.int (M2 1 0), .int (M2 1 0), .ref (ad G (127 + 4 * a1.toNatClampNeg))] rfl O dX11_matterOf_85 rfl (c_X5_wholeSince hG h) wd_4_89 mw_X5_wholeSince (isMat_O (isMat_of hv4)) rfl (by decide) (Nat.le_of_ble_eq_true rfl) (fun v7 M7 h => ?_)
        exact hR _ _ _ _ dX11_matterOf_88 h
      | 3, _, z6 =>
        have z6 : a2 = (3 : Int32) := z6.trans (by decide)
        replace h := h.2.2.2.2.1 z6
        refine J.tswIn (q := 89) O dX11_matterOf_22 (3 : Int32) z6 (by decide) (by decide) rfl (by decide) ?_
        refine J.aload_n (q := 90) O dX11_matterOf_89 rfl 0 rfl ?_
        refine J.aload_n (q := 91) O dX11_matterOf_90 rfl 1 rfl ?_
        refine J.getR (q := 94) (c' := 0) (ci := 11) (k := 0) (r := 1) O dX11_matterOf_91 rfl wd_3_2 (by decide) if_0_0 ?_
        refine J.getI (q := 97) (c' := 1) (ci := 3) (k := 0) (M2 1 0) rfl O dX11_matterOf_94 rfl wd_1_31 (by decide) if_1_0 ?_
        refine J.callVI (q := 100) [.int (M2 1 0)] [] [.int (M2 1 0), .ref (ad G (127 + 4 * a1.toNatClampNeg))] rfl O dX11_matterOf_97 rfl (c_X5_letsOn hG h) wd_4_90 mw_X5_letsOn (isMat_O (isMat_of hv4)) rfl (by decide) (Nat.le_of_ble_eq_true rfl) (fun v8 M8 h => ?_)
        refine J.if_eq (q := 103) (tgt := 107) O dX11_matterOf_100 rfl (by decide) (fun z9 => ?_) (fun z9 => ?_)
        · replace h := h.1 z9
          refine J.iconst (q := 108) (v := (0 : Int32)) O dX11_matterOf_107 rfl rfl ?_
          exact J.sub [] rfl (j_X11_matterOf_b108 hG O hR h)
        · replace h := h.2 z9
          refine J.iconst (q := 104) (v := (1 : Int32)) O dX11_matterOf_103 rfl rfl ?_
          refine J.goto (q := 108) O dX11_matterOf_104 (by decide) ?_
          exact J.sub [] rfl (j_X11_matterOf_b108 hG O hR h)
      | 4, _, z6 =>
        have z6 : a2 = (4 : Int32) := z6.trans (by decide)
        replace h := h.2.2.2.2.2.1 z6
        refine J.tswIn (q := 109) O dX11_matterOf_22 (4 : Int32) z6 (by decide) (by decide) rfl (by decide) ?_
        refine J.aload_n (q := 110) O dX11_matterOf_109 rfl 0 rfl ?_
        refine J.getI (q := 113) (c' := (127 + 4 * a1.toNatClampNeg)) (ci := 5) (k := 11) (M2 (127 + 4 * a1.toNatClampNeg) 11) rfl O dX11_matterOf_110 rfl wd_2_207 (by decide) (isMat_F (isMat_of hv4) rfl) ?_
        exact hR _ _ _ _ dX11_matterOf_113 h
      | 5, _, z6 =>
        have z6 : a2 = (5 : Int32) := z6.trans (by decide)
        replace h := h.2.2.2.2.2.2 z6
        refine J.tswIn (q := 114) O dX11_matterOf_22 (5 : Int32) z6 (by decide) (by decide) rfl (by decide) ?_
        refine J.aload_n (q := 115) O dX11_matterOf_114 rfl 0 rfl ?_
        refine J.getI (q := 118) (c' := (127 + 4 * a1.toNatClampNeg)) (ci := 5) (k := 5) (M2 (127 + 4 * a1.toNatClampNeg) 5) rfl O dX11_matterOf_115 rfl wd_2_198 (by decide) (isMat_F (isMat_of hv4) rfl) ?_
        exact hR _ _ _ _ dX11_matterOf_118 h
      | j + 6, hj, _ => exact absurd hj (by omega)
  · replace h := h.2 z3
    refine J.aload_n (q := 9) O dX11_matterOf_8 rfl 0 rfl ?_
    refine J.iconst (q := 10) (v := (-1 : Int32)) O dX11_matterOf_9 rfl rfl ?_
    refine J.callVI (q := 13) [.int (-1 : Int32)] [] [.int (-1 : Int32), .ref (ad G 0)] rfl O dX11_matterOf_10 rfl (c_X11_refuse hG h) wd_3_55 mw_X11_refuse io_0 rfl (by decide) (Nat.le_of_ble_eq_true rfl) (fun v10 M10 h => ?_)
    exact hR _ _ _ _ dX11_matterOf_13 h
set_option maxHeartbeats 4000000 in
set_option maxRecDepth 20000 in
theorem c_X11_votes {l : Launch} {G : GX} (hG : Gd G) {a1 : Int32} {a2 : Int32} {M : Mem} {K : Int32 → Mem → Prop} (h : f_X11_votes a1 a2 M K) : CI l G yX11_votes cX11_votes 5 (some .int) 2 [.ref (ad G 0), .int a1, .int a2] M K := by
  unfold f_X11_votes at h
  refine CI.mk hG (by decide) [(0, .ref (ad G 0)), (1, .int a1), (2, .int a2)] rfl (Nat.le_of_ble_eq_true rfl) (fun X O hlX hR => ?_)
  subst hlX
  refine J.iload_n (q := 1) O dX11_votes_0 rfl 1 rfl ?_
  refine J.callSI (q := 4) [.int a1] [] [.int a1] rfl O dX11_votes_1 rfl (c_X11_isShop hG h) wd_3_88 mw_X11_isShop rfl (by decide) (Nat.le_of_ble_eq_true rfl) (fun v3 M3 h => ?_)
  refine J.if_ne (q := 7) (tgt := 13) O dX11_votes_4 rfl (by decide) (fun z4 => ?_) (fun z4 => ?_)
  · replace h := h.1 z4
    refine J.iload_n (q := 14) O dX11_votes_13 rfl 2 rfl ?_
    refine J.iconst (q := 15) (v := (0 : Int32)) O dX11_votes_14 rfl rfl ?_
    refine J.sipush (q := 18) (v := (999 : Int32)) O dX11_votes_15 rfl rfl ?_
    refine J.callSI (q := 21) [.int a2, .int (0 : Int32), .int (999 : Int32)] [] [.int (999 : Int32), .int (0 : Int32), .int a2] rfl O dX11_votes_18 rfl (c_X11_outside hG h) wd_3_63 mw_X11_outside rfl (by decide) (Nat.le_of_ble_eq_true rfl) (fun v5 M5 h => ?_)
    refine J.istore_n (q := 22) O dX11_votes_21 rfl [(3, .int v5), (0, .ref (ad G 0)), (1, .int a1), (2, .int a2)] (by decide) rfl ?_
    refine J.iload_n (q := 23) O dX11_votes_22 rfl 0 rfl ?_
    refine J.if_eq (q := 26) (tgt := 32) O dX11_votes_23 rfl (by decide) (fun z6 => ?_) (fun z6 => ?_)
    · replace h := h.1 z6
      refine J.aload_n (q := 33) O dX11_votes_32 rfl 1 rfl ?_
      refine J.getR (q := 36) (c' := 0) (ci := 11) (k := 3) (r := 51) O dX11_votes_33 rfl wd_3_5 (by decide) if_0_3 ?_
      refine J.getR (q := 39) (c' := 51) (ci := 2) (k := 0) (r := 52) O dX11_votes_36 rfl wd_1_171 (by decide) if_51_0 ?_
      refine J.iload_n (q := 40) O dX11_votes_39 rfl 2 rfl ?_
      obtain ⟨hv7, h⟩ := h
      refine J.iald (q := 41) (c' := 52) (j := a1.toNatClampNeg) (M5 52 a1.toNatClampNeg) rfl O dX11_votes_40 rfl ar_52 hv7 rfl ?_
      refine J.istore (q := 43) O dX11_votes_41 rfl [(4, .int (M5 52 a1.toNatClampNeg)), (3, .int v5), (0, .ref (ad G 0)), (1, .int a1), (2, .int a2)] (by decide) rfl ?_
      refine J.aload_n (q := 44) O dX11_votes_43 rfl 2 rfl ?_
      refine J.getR (q := 47) (c' := 0) (ci := 11) (k := 3) (r := 51) O dX11_votes_44 rfl wd_3_5 (by decide) if_0_3 ?_
      refine J.getR (q := 50) (c' := 51) (ci := 2) (k := 0) (r := 52) O dX11_votes_47 rfl wd_1_171 (by decide) if_51_0 ?_
      refine J.iload_n (q := 51) O dX11_votes_50 rfl 3 rfl ?_
      refine J.iload_n (q := 52) O dX11_votes_51 rfl 4 rfl ?_
      obtain ⟨hv8, h⟩ := h
      refine J.iast (q := 53) (c' := 52) (j := a1.toNatClampNeg) O dX11_votes_52 rfl ar_52 hv8 rfl ?_
      refine J.iload (q := 55) O dX11_votes_53 rfl 0 rfl ?_
      exact hR _ _ _ _ dX11_votes_55 h
    · replace h := h.2 z6
      refine J.aload_n (q := 27) O dX11_votes_26 rfl 1 rfl ?_
      refine J.iload_n (q := 28) O dX11_votes_27 rfl 0 rfl ?_
      refine J.callVI (q := 31) [.int v5] [] [.int v5, .ref (ad G 0)] rfl O dX11_votes_28 rfl (c_X11_refuse hG h) wd_3_55 mw_X11_refuse io_0 rfl (by decide) (Nat.le_of_ble_eq_true rfl) (fun v9 M9 h => ?_)
      exact hR _ _ _ _ dX11_votes_31 h
  · replace h := h.2 z4
    refine J.aload_n (q := 8) O dX11_votes_7 rfl 0 rfl ?_
    refine J.iconst (q := 9) (v := (-1 : Int32)) O dX11_votes_8 rfl rfl ?_
    refine J.callVI (q := 12) [.int (-1 : Int32)] [] [.int (-1 : Int32), .ref (ad G 0)] rfl O dX11_votes_9 rfl (c_X11_refuse hG h) wd_3_55 mw_X11_refuse io_0 rfl (by decide) (Nat.le_of_ble_eq_true rfl) (fun v10 M10 h => ?_)
    exact hR _ _ _ _ dX11_votes_12 h
set_option maxHeartbeats 4000000 in
set_option maxRecDepth 20000 in
theorem j_X2_nextWinner_b59 {X : CX} {G : GX} {K : Int32 → Mem → Prop} (hG : Gd G) (O : Ok X G cX2_nextWinner 3 RX2 1) (hR : RetI X G cX2_nextWinner K) {r5 : Int32 × Int32 × Mem → Prop} (hr5 : ∀ a : Int32 × Int32 × Mem, r5 a → J X G a.2.2 5 [(0, .ref (ad G 51)), (1, .int a.1), (2, .int a.2.1)] []) {x1 : Int32} {x2 : Int32} {M : Mem} (h : f_X2_nextWinner_b59 r5 K x1 x2 M) : J X G M 59 [(0, .ref (ad G 51)), (1, .int x1), (2, .int x2)] [] := by
  unfold f_X2_nextWinner_b59 at h
  refine J.iinc (q := 62) O dX2_nextWinner_59 rfl [(2, .int (x2 + (1 : Int32))), (0, .ref (ad G 51)), (1, .int x1)] 2 rfl rfl (by decide) rfl ?_
  refine J.goto (q := 5) O dX2_nextWinner_62 (by decide) ?_
  exact J.sub [1, 2, 0] rfl (hr5 _ h)
set_option maxHeartbeats 4000000 in
set_option maxRecDepth 20000 in
theorem j_X2_nextWinner_b57 {X : CX} {G : GX} {K : Int32 → Mem → Prop} (hG : Gd G) (O : Ok X G cX2_nextWinner 3 RX2 1) (hR : RetI X G cX2_nextWinner K) {r5 : Int32 × Int32 × Mem → Prop} (hr5 : ∀ a : Int32 × Int32 × Mem, r5 a → J X G a.2.2 5 [(0, .ref (ad G 51)), (1, .int a.1), (2, .int a.2.1)] []) {x2 : Int32} {M : Mem} (h : f_X2_nextWinner_b57 r5 K x2 M) : J X G M 57 [(0, .ref (ad G 51)), (2, .int x2)] [] := by
  unfold f_X2_nextWinner_b57 at h
  refine J.iload_n (q := 58) O dX2_nextWinner_57 rfl 1 rfl ?_
  refine J.istore_n (q := 59) O dX2_nextWinner_58 rfl [(1, .int x2), (0, .ref (ad G 51)), (2, .int x2)] (by decide) rfl ?_
  exact J.sub [1, 0, 2] rfl (j_X2_nextWinner_b59 hG O hR hr5 h)
set_option maxHeartbeats 4000000 in
set_option maxRecDepth 20000 in
theorem j_X2_nextWinner_c5 {X : CX} {G : GX} {K : Int32 → Mem → Prop} (hG : Gd G) (O : Ok X G cX2_nextWinner 3 RX2 1) (hR : RetI X G cX2_nextWinner K) {a : Int32 × Int32 × Mem} (h : Lp (fun (r5 : Int32 × Int32 × Mem → Prop) a => f_X2_nextWinner_c5 K r5 a.1 a.2.1 a.2.2) a) : J X G a.2.2 5 [(0, .ref (ad G 51)), (1, .int a.1), (2, .int a.2.1)] [] := by
  refine Lp.elim (P := fun a => J X G a.2.2 5 [(0, .ref (ad G 51)), (1, .int a.1), (2, .int a.2.1)] []) ?_ h
  clear h
  intro r5 hr5 a h
  obtain ⟨x1, x2, M⟩ := a
  unfold f_X2_nextWinner_c5 at h
  (try dsimp only at h ⊢)
  refine J.iload_n (q := 6) O dX2_nextWinner_5 rfl 2 rfl ?_
  refine J.bipush (q := 8) (v := (6 : Int32)) O dX2_nextWinner_6 rfl rfl ?_
  refine J.icmp_ge (q := 11) (tgt := 65) O dX2_nextWinner_8 rfl (by decide) (fun z6 => ?_) (fun z6 => ?_)
  · replace h := h.1 z6
    refine J.iload_n (q := 66) O dX2_nextWinner_65 rfl 1 rfl ?_
    exact hR _ _ _ _ dX2_nextWinner_66 h
  · replace h := h.2 z6
    refine J.aload_n (q := 12) O dX2_nextWinner_11 rfl 0 rfl ?_
    refine J.getR (q := 15) (c' := 51) (ci := 2) (k := 0) (r := 52) O dX2_nextWinner_12 rfl wd_1_170 (by decide) if_51_0 ?_
    refine J.iload_n (q := 16) O dX2_nextWinner_15 rfl 2 rfl ?_
    obtain ⟨hv7, h⟩ := h
    refine J.iald (q := 17) (c' := 52) (j := x2.toNatClampNeg) (M 52 x2.toNatClampNeg) rfl O dX2_nextWinner_16 rfl ar_52 hv7 rfl ?_
    refine J.if_le (q := 20) (tgt := 59) O dX2_nextWinner_17 rfl (by decide) (fun z8 => ?_) (fun z8 => ?_)
    · replace h := h.1 z8
      exact J.sub [0, 1, 2] rfl (j_X2_nextWinner_b59 hG O hR hr5 h)
    · replace h := h.2 z8
      refine J.iload_n (q := 21) O dX2_nextWinner_20 rfl 1 rfl ?_
      refine J.if_lt (q := 24) (tgt := 57) O dX2_nextWinner_21 rfl (by decide) (fun z9 => ?_) (fun z9 => ?_)
      · replace h := h.1 z9
        exact J.sub [0, 2] rfl (j_X2_nextWinner_b57 hG O hR hr5 h)
      · replace h := h.2 z9
        refine J.aload_n (q := 25) O dX2_nextWinner_24 rfl 0 rfl ?_
        refine J.getR (q := 28) (c' := 51) (ci := 2) (k := 0) (r := 52) O dX2_nextWinner_25 rfl wd_1_170 (by decide) if_51_0 ?_
        refine J.iload_n (q := 29) O dX2_nextWinner_28 rfl 2 rfl ?_
        obtain ⟨hv10, h⟩ := h
        refine J.iald (q := 30) (c' := 52) (j := x2.toNatClampNeg) (M 52 x2.toNatClampNeg) rfl O dX2_nextWinner_29 rfl ar_52 hv10 rfl ?_
        refine J.aload_n (q := 31) O dX2_nextWinner_30 rfl 0 rfl ?_
        refine J.getR (q := 34) (c' := 51) (ci := 2) (k := 4) (r := 55) O dX2_nextWinner_31 rfl wd_1_178 (by decide) if_51_4 ?_
        refine J.iload_n (q := 35) O dX2_nextWinner_34 rfl 1 rfl ?_
        obtain ⟨hv11, h⟩ := h
        refine J.iald (q := 36) (c' := 55) (j := x1.toNatClampNeg) (M 55 x1.toNatClampNeg) rfl O dX2_nextWinner_35 rfl ar_55 hv11 rfl ?_
        refine J.iconst (q := 37) (v := (1 : Int32)) O dX2_nextWinner_36 rfl rfl ?_
        refine J.iadd (q := 38) O dX2_nextWinner_37 rfl ?_
        refine J.imul (q := 39) O dX2_nextWinner_38 rfl ?_
        refine J.aload_n (q := 40) O dX2_nextWinner_39 rfl 0 rfl ?_
        refine J.getR (q := 43) (c' := 51) (ci := 2) (k := 0) (r := 52) O dX2_nextWinner_40 rfl wd_1_170 (by decide) if_51_0 ?_
        refine J.iload_n (q := 44) O dX2_nextWinner_43 rfl 1 rfl ?_
        obtain ⟨hv12, h⟩ := h
        refine J.iald (q := 45) (c' := 52) (j := x1.toNatClampNeg) (M 52 x1.toNatClampNeg) rfl O dX2_nextWinner_44 rfl ar_52 hv12 rfl ?_
        refine J.aload_n (q := 46) O dX2_nextWinner_45 rfl 0 rfl ?_
        refine J.getR (q := 49) (c' := 51) (ci := 2) (k := 4) (r := 55) O dX2_nextWinner_46 rfl wd_1_178 (by decide) if_51_4 ?_
        refine J.iload_n (q := 50) O dX2_nextWinner_49 rfl 2 rfl ?_
        obtain ⟨hv13, h⟩ := h
        refine J.iald (q := 51) (c' := 55) (j := x2.toNatClampNeg) (M 55 x2.toNatClampNeg) rfl O dX2_nextWinner_50 rfl ar_55 hv13 rfl ?_
        refine J.iconst (q := 52) (v := (1 : Int32)) O dX2_nextWinner_51 rfl rfl ?_
        refine J.iadd (q := 53) O dX2_nextWinner_52 rfl ?_
        refine J.imul (q := 54) O dX2_nextWinner_53 rfl ?_
        refine J.icmp_le (q := 57) (tgt := 59) O dX2_nextWinner_54 rfl (by decide) (fun z14 => ?_) (fun z14 => ?_)
        · replace h := h.1 z14
          exact J.sub [0, 1, 2] rfl (j_X2_nextWinner_b59 hG O hR hr5 h)
        · replace h := h.2 z14
          exact J.sub [0, 2] rfl (j_X2_nextWinner_b57 hG O hR hr5 h)
set_option maxHeartbeats 4000000 in
set_option maxRecDepth 20000 in
theorem c_X2_nextWinner {l : Launch} {G : GX} (hG : Gd G) {M : Mem} {K : Int32 → Mem → Prop} (h : f_X2_nextWinner  M K) : CI l G yX2_nextWinner cX2_nextWinner 3 (some .int) 1 [.ref (ad G 51)] M K := by
  unfold f_X2_nextWinner at h
  refine CI.mk hG (by decide) [(0, .ref (ad G 51))] rfl (Nat.le_of_ble_eq_true rfl) (fun X O hlX hR => ?_)
  subst hlX
  refine J.bipush (q := 2) (v := (-9 : Int32)) O dX2_nextWinner_0 rfl rfl ?_
  refine J.istore_n (q := 3) O dX2_nextWinner_2 rfl [(1, .int (-9 : Int32)), (0, .ref (ad G 51))] (by decide) rfl ?_
  refine J.iconst (q := 4) (v := (0 : Int32)) O dX2_nextWinner_3 rfl rfl ?_
  refine J.istore_n (q := 5) O dX2_nextWinner_4 rfl [(2, .int (0 : Int32)), (1, .int (-9 : Int32)), (0, .ref (ad G 51))] (by decide) rfl ?_
  exact J.sub [2, 1, 0] rfl (j_X2_nextWinner_c5 hG O hR h)
set_option maxHeartbeats 4000000 in
set_option maxRecDepth 20000 in
theorem j_X2_fillSeats_b91 {X : CX} {G : GX} {K : Int32 → Mem → Prop} (hG : Gd G) (O : Ok X G cX2_fillSeats 4 RX2 2) (hR : RetI X G cX2_fillSeats K) {M : Mem} (h : f_X2_fillSeats_b91 K  M) : J X G M 91 [(0, .ref (ad G 51))] [] := by
  unfold f_X2_fillSeats_b91 at h
  refine J.aload_n (q := 92) O dX2_fillSeats_91 rfl 0 rfl ?_
  refine J.getI (q := 95) (c' := 51) (ci := 2) (k := 1) (M 51 1) rfl O dX2_fillSeats_92 rfl wd_1_172 (by decide) if_51_1 ?_
  exact hR _ _ _ _ dX2_fillSeats_95 h
set_option maxHeartbeats 4000000 in
set_option maxRecDepth 20000 in
theorem j_X2_fillSeats_c28 {X : CX} {G : GX} {K : Int32 → Mem → Prop} (hG : Gd G) (O : Ok X G cX2_fillSeats 4 RX2 2) (hR : RetI X G cX2_fillSeats K) {a : Int32 × Int32 × Mem} (h : Lp (fun (r28 : Int32 × Int32 × Mem → Prop) a => f_X2_fillSeats_c28 K r28 a.1 a.2.1 a.2.2) a) : J X G a.2.2 28 [(0, .ref (ad G 51)), (1, .int a.1), (2, .int a.2.1)] [] := by
  refine Lp.elim (P := fun a => J X G a.2.2 28 [(0, .ref (ad G 51)), (1, .int a.1), (2, .int a.2.1)] []) ?_ h
  clear h
  intro r28 hr28 a h
  obtain ⟨x1, x2, M⟩ := a
  unfold f_X2_fillSeats_c28 at h
  (try dsimp only at h ⊢)
  refine J.iload_n (q := 29) O dX2_fillSeats_28 rfl 2 rfl ?_
  refine J.iload_n (q := 30) O dX2_fillSeats_29 rfl 1 rfl ?_
  refine J.icmp_ge (q := 33) (tgt := 91) O dX2_fillSeats_30 rfl (by decide) (fun z6 => ?_) (fun z6 => ?_)
  · replace h := h.1 z6
    exact J.sub [0] rfl (j_X2_fillSeats_b91 hG O hR h)
  · replace h := h.2 z6
    refine J.iload_n (q := 34) O dX2_fillSeats_33 rfl 2 rfl ?_
    refine J.bipush (q := 36) (v := (9 : Int32)) O dX2_fillSeats_34 rfl rfl ?_
    refine J.icmp_ge (q := 39) (tgt := 91) O dX2_fillSeats_36 rfl (by decide) (fun z7 => ?_) (fun z7 => ?_)
    · replace h := h.1 z7
      exact J.sub [0] rfl (j_X2_fillSeats_b91 hG O hR h)
    · replace h := h.2 z7
      refine J.aload_n (q := 40) O dX2_fillSeats_39 rfl 0 rfl ?_
      refine J.callVI (q := 43) [] [] [.ref (ad G 51)] rfl O dX2_fillSeats_40 rfl (c_X2_nextWinner hG h) wd_4_111 mw_X2_nextWinner io_51 rfl (by decide) (Nat.le_of_ble_eq_true rfl) (fun v8 M8 h => ?_)
      refine J.istore_n (q := 44) O dX2_fillSeats_43 rfl [(3, .int v8), (0, .ref (ad G 51)), (1, .int x1), (2, .int x2)] (by decide) rfl ?_
      refine J.iload_n (q := 45) O dX2_fillSeats_44 rfl 0 rfl ?_
      refine J.if_ge (q := 48) (tgt := 53) O dX2_fillSeats_45 rfl (by decide) (fun z9 => ?_) (fun z9 => ?_)
      · replace h := h.1 z9
        refine J.aload_n (q := 54) O dX2_fillSeats_53 rfl 1 rfl ?_
        refine J.getR (q := 57) (c' := 51) (ci := 2) (k := 4) (r := 55) O dX2_fillSeats_54 rfl wd_1_178 (by decide) if_51_4 ?_
        refine J.iload_n (q := 58) O dX2_fillSeats_57 rfl 0 rfl ?_
        refine J.dup2 (q := 59) O dX2_fillSeats_58 rfl rfl rfl ?_
        obtain ⟨hv10, h⟩ := h
        refine J.iald (q := 60) (c' := 55) (j := v8.toNatClampNeg) (M8 55 v8.toNatClampNeg) rfl O dX2_fillSeats_59 rfl ar_55 hv10 rfl ?_
        refine J.iconst (q := 61) (v := (1 : Int32)) O dX2_fillSeats_60 rfl rfl ?_
        refine J.iadd (q := 62) O dX2_fillSeats_61 rfl ?_
        obtain ⟨hv11, h⟩ := h
        refine J.iast (q := 63) (c' := 55) (j := v8.toNatClampNeg) O dX2_fillSeats_62 rfl ar_55 hv11 rfl ?_
        refine J.aload_n (q := 64) O dX2_fillSeats_63 rfl 1 rfl ?_
        refine J.getR (q := 67) (c' := 51) (ci := 2) (k := 2) (r := 53) O dX2_fillSeats_64 rfl wd_1_174 (by decide) if_51_2 ?_
        refine J.iload_n (q := 68) O dX2_fillSeats_67 rfl 3 rfl ?_
        refine J.iload_n (q := 69) O dX2_fillSeats_68 rfl 0 rfl ?_
        obtain ⟨hv12, h⟩ := h
        refine J.iast (q := 70) (c' := 53) (j := x2.toNatClampNeg) O dX2_fillSeats_69 rfl ar_53 hv12 rfl ?_
        refine J.aload_n (q := 71) O dX2_fillSeats_70 rfl 1 rfl ?_
        refine J.getR (q := 74) (c' := 51) (ci := 2) (k := 3) (r := 54) O dX2_fillSeats_71 rfl wd_1_176 (by decide) if_51_3 ?_
        refine J.iload_n (q := 75) O dX2_fillSeats_74 rfl 3 rfl ?_
        refine J.bipush (q := 77) (v := (-9 : Int32)) O dX2_fillSeats_75 rfl rfl ?_
        obtain ⟨hv13, h⟩ := h
        refine J.iast (q := 78) (c' := 54) (j := x2.toNatClampNeg) O dX2_fillSeats_77 rfl ar_54 hv13 rfl ?_
        refine J.aload_n (q := 79) O dX2_fillSeats_78 rfl 1 rfl ?_
        refine J.iload_n (q := 80) O dX2_fillSeats_79 rfl 3 rfl ?_
        refine J.iconst (q := 81) (v := (1 : Int32)) O dX2_fillSeats_80 rfl rfl ?_
        refine J.iadd (q := 82) O dX2_fillSeats_81 rfl ?_
        refine J.putI (q := 85) (c' := 51) (ci := 2) (k := 1) O dX2_fillSeats_82 rfl wd_1_172 (by decide) if_51_1 rfl rfl ?_
        refine J.iinc (q := 88) O dX2_fillSeats_85 rfl [(2, .int (x2 + (1 : Int32))), (3, .int v8), (0, .ref (ad G 51)), (1, .int x1)] 3 rfl rfl (by decide) rfl ?_
        refine J.goto (q := 28) O dX2_fillSeats_88 (by decide) ?_
        exact J.sub [2, 3, 0] rfl (hr28 _ h)
      · replace h := h.2 z9
        refine J.aload_n (q := 49) O dX2_fillSeats_48 rfl 1 rfl ?_
        refine J.getI (q := 52) (c' := 51) (ci := 2) (k := 1) (M8 51 1) rfl O dX2_fillSeats_49 rfl wd_1_172 (by decide) if_51_1 ?_
        exact hR _ _ _ _ dX2_fillSeats_52 h
set_option maxHeartbeats 4000000 in
set_option maxRecDepth 20000 in
theorem j_X2_fillSeats_c7 {X : CX} {G : GX} {K : Int32 → Mem → Prop} (hG : Gd G) (O : Ok X G cX2_fillSeats 4 RX2 2) (hR : RetI X G cX2_fillSeats K) {a : Int32 × Int32 × Mem} (h : Lp (fun (r7 : Int32 × Int32 × Mem → Prop) a => f_X2_fillSeats_c7 K r7 a.1 a.2.1 a.2.2) a) : J X G a.2.2 7 [(0, .ref (ad G 51)), (1, .int a.1), (2, .int a.2.1)] [] := by
  refine Lp.elim (P := fun a => J X G a.2.2 7 [(0, .ref (ad G 51)), (1, .int a.1), (2, .int a.2.1)] []) ?_ h
  clear h
  intro r7 hr7 a h
  obtain ⟨x1, x2, M⟩ := a
  unfold f_X2_fillSeats_c7 at h
  (try dsimp only at h ⊢)
  refine J.iload_n (q := 8) O dX2_fillSeats_7 rfl 2 rfl ?_
  refine J.bipush (q := 10) (v := (6 : Int32)) O dX2_fillSeats_8 rfl rfl ?_
  refine J.icmp_ge (q := 13) (tgt := 26) O dX2_fillSeats_10 rfl (by decide) (fun z14 => ?_) (fun z14 => ?_)
  · replace h := h.1 z14
    refine J.iconst (q := 27) (v := (0 : Int32)) O dX2_fillSeats_26 rfl rfl ?_
    refine J.istore_n (q := 28) O dX2_fillSeats_27 rfl [(2, .int (0 : Int32)), (0, .ref (ad G 51)), (1, .int x1)] (by decide) rfl ?_
    exact J.sub [1, 2, 0] rfl (j_X2_fillSeats_c28 hG O hR h)
  · replace h := h.2 z14
    refine J.aload_n (q := 14) O dX2_fillSeats_13 rfl 0 rfl ?_
    refine J.getR (q := 17) (c' := 51) (ci := 2) (k := 4) (r := 55) O dX2_fillSeats_14 rfl wd_1_178 (by decide) if_51_4 ?_
    refine J.iload_n (q := 18) O dX2_fillSeats_17 rfl 2 rfl ?_
    refine J.iconst (q := 19) (v := (0 : Int32)) O dX2_fillSeats_18 rfl rfl ?_
    obtain ⟨hv15, h⟩ := h
    refine J.iast (q := 20) (c' := 55) (j := x2.toNatClampNeg) O dX2_fillSeats_19 rfl ar_55 hv15 rfl ?_
    refine J.iinc (q := 23) O dX2_fillSeats_20 rfl [(2, .int (x2 + (1 : Int32))), (0, .ref (ad G 51)), (1, .int x1)] 2 rfl rfl (by decide) rfl ?_
    refine J.goto (q := 7) O dX2_fillSeats_23 (by decide) ?_
    exact J.sub [1, 2, 0] rfl (hr7 _ h)
set_option maxHeartbeats 4000000 in
set_option maxRecDepth 20000 in
theorem c_X2_fillSeats {l : Launch} {G : GX} (hG : Gd G) {a1 : Int32} {M : Mem} {K : Int32 → Mem → Prop} (h : f_X2_fillSeats a1 M K) : CI l G yX2_fillSeats cX2_fillSeats 4 (some .int) 2 [.ref (ad G 51), .int a1] M K := by
  unfold f_X2_fillSeats at h
  refine CI.mk hG (by decide) [(0, .ref (ad G 51)), (1, .int a1)] rfl (Nat.le_of_ble_eq_true rfl) (fun X O hlX hR => ?_)
  subst hlX
  refine J.aload_n (q := 1) O dX2_fillSeats_0 rfl 0 rfl ?_
  refine J.iconst (q := 2) (v := (0 : Int32)) O dX2_fillSeats_1 rfl rfl ?_
  refine J.putI (q := 5) (c' := 51) (ci := 2) (k := 1) O dX2_fillSeats_2 rfl wd_1_172 (by decide) if_51_1 rfl rfl ?_
  refine J.iconst (q := 6) (v := (0 : Int32)) O dX2_fillSeats_5 rfl rfl ?_
  refine J.istore_n (q := 7) O dX2_fillSeats_6 rfl [(2, .int (0 : Int32)), (0, .ref (ad G 51)), (1, .int a1)] (by decide) rfl ?_
  exact J.sub [1, 2, 0] rfl (j_X2_fillSeats_c7 hG O hR h)
set_option maxHeartbeats 4000000 in
set_option maxRecDepth 20000 in
theorem c_X11_elect {l : Launch} {G : GX} (hG : Gd G) {a1 : Int32} {M : Mem} {K : Int32 → Mem → Prop} (h : f_X11_elect a1 M K) : CI l G yX11_elect cX11_elect 3 (some .int) 3 [.ref (ad G 0), .int a1] M K := by
  unfold f_X11_elect at h
  refine CI.mk hG (by decide) [(0, .ref (ad G 0)), (1, .int a1)] rfl (Nat.le_of_ble_eq_true rfl) (fun X O hlX hR => ?_)
  subst hlX
  refine J.iload_n (q := 1) O dX11_elect_0 rfl 1 rfl ?_
  refine J.iconst (q := 2) (v := (1 : Int32)) O dX11_elect_1 rfl rfl ?_
  refine J.bipush (q := 4) (v := (9 : Int32)) O dX11_elect_2 rfl rfl ?_
  refine J.callSI (q := 7) [.int a1, .int (1 : Int32), .int (9 : Int32)] [] [.int (9 : Int32), .int (1 : Int32), .int a1] rfl O dX11_elect_4 rfl (c_X11_outside hG h) wd_3_63 mw_X11_outside rfl (by decide) (Nat.le_of_ble_eq_true rfl) (fun v1 M1 h => ?_)
  refine J.istore_n (q := 8) O dX11_elect_7 rfl [(2, .int v1), (0, .ref (ad G 0)), (1, .int a1)] (by decide) rfl ?_
  refine J.iload_n (q := 9) O dX11_elect_8 rfl 0 rfl ?_
  refine J.if_eq (q := 12) (tgt := 18) O dX11_elect_9 rfl (by decide) (fun z2 => ?_) (fun z2 => ?_)
  · replace h := h.1 z2
    refine J.aload_n (q := 19) O dX11_elect_18 rfl 1 rfl ?_
    refine J.getR (q := 22) (c' := 0) (ci := 11) (k := 3) (r := 51) O dX11_elect_19 rfl wd_3_5 (by decide) if_0_3 ?_
    refine J.iload_n (q := 23) O dX11_elect_22 rfl 2 rfl ?_
    refine J.callVI (q := 26) [.int a1] [] [.int a1, .ref (ad G 51)] rfl O dX11_elect_23 rfl (c_X2_fillSeats hG h) wd_4_107 mw_X2_fillSeats io_51 rfl (by decide) (Nat.le_of_ble_eq_true rfl) (fun v3 M3 h => ?_)
    exact hR _ _ _ _ dX11_elect_26 h
  · replace h := h.2 z2
    refine J.aload_n (q := 13) O dX11_elect_12 rfl 1 rfl ?_
    refine J.iload_n (q := 14) O dX11_elect_13 rfl 0 rfl ?_
    refine J.callVI (q := 17) [.int v1] [] [.int v1, .ref (ad G 0)] rfl O dX11_elect_14 rfl (c_X11_refuse hG h) wd_3_55 mw_X11_refuse io_0 rfl (by decide) (Nat.le_of_ble_eq_true rfl) (fun v4 M4 h => ?_)
    exact hR _ _ _ _ dX11_elect_17 h
set_option maxHeartbeats 4000000 in
set_option maxRecDepth 20000 in
theorem j_X2_hasSeat_b23 {X : CX} {G : GX} {K : Int32 → Mem → Prop} (hG : Gd G) (O : Ok X G cX2_hasSeat 2 RX2 1) (hR : RetZ X G cX2_hasSeat K) {s0 : Int32} {M : Mem} (h : f_X2_hasSeat_b23 K s0 M) : J X G M 23 [] [.int s0] := by
  unfold f_X2_hasSeat_b23 at h
  exact hR _ _ _ _ dX2_hasSeat_23 h.1 h.2
set_option maxHeartbeats 4000000 in
set_option maxRecDepth 20000 in
theorem j_X2_hasSeat_b22 {X : CX} {G : GX} {K : Int32 → Mem → Prop} (hG : Gd G) (O : Ok X G cX2_hasSeat 2 RX2 1) (hR : RetZ X G cX2_hasSeat K) {M : Mem} (h : f_X2_hasSeat_b22 K  M) : J X G M 22 [] [] := by
  unfold f_X2_hasSeat_b22 at h
  refine J.iconst (q := 23) (v := (0 : Int32)) O dX2_hasSeat_22 rfl rfl ?_
  exact J.sub [] rfl (j_X2_hasSeat_b23 hG O hR h)
set_option maxHeartbeats 4000000 in
set_option maxRecDepth 20000 in
theorem c_X2_hasSeat {l : Launch} {G : GX} (hG : Gd G) {a1 : Int32} {M : Mem} {K : Int32 → Mem → Prop} (h : f_X2_hasSeat a1 M K) : CI l G yX2_hasSeat cX2_hasSeat 2 (some .boolean) 1 [.ref (ad G 51), .int a1] M K := by
  unfold f_X2_hasSeat at h
  refine CZ.mk hG (by decide) [(0, .ref (ad G 51)), (1, .int a1)] rfl (Nat.le_of_ble_eq_true rfl) (fun X O hlX hR => ?_)
  subst hlX
  refine J.iload_n (q := 1) O dX2_hasSeat_0 rfl 1 rfl ?_
  refine J.if_lt (q := 4) (tgt := 22) O dX2_hasSeat_1 rfl (by decide) (fun z2 => ?_) (fun z2 => ?_)
  · replace h := h.1 z2
    exact J.sub [] rfl (j_X2_hasSeat_b22 hG O hR h)
  · replace h := h.2 z2
    refine J.iload_n (q := 5) O dX2_hasSeat_4 rfl 1 rfl ?_
    refine J.aload_n (q := 6) O dX2_hasSeat_5 rfl 0 rfl ?_
    refine J.getI (q := 9) (c' := 51) (ci := 2) (k := 1) (M 51 1) rfl O dX2_hasSeat_6 rfl wd_1_172 (by decide) if_51_1 ?_
    refine J.icmp_ge (q := 12) (tgt := 22) O dX2_hasSeat_9 rfl (by decide) (fun z3 => ?_) (fun z3 => ?_)
    · replace h := h.1 z3
      exact J.sub [] rfl (j_X2_hasSeat_b22 hG O hR h)
    · replace h := h.2 z3
      refine J.iload_n (q := 13) O dX2_hasSeat_12 rfl 1 rfl ?_
      refine J.bipush (q := 15) (v := (9 : Int32)) O dX2_hasSeat_13 rfl rfl ?_
      refine J.icmp_ge (q := 18) (tgt := 22) O dX2_hasSeat_15 rfl (by decide) (fun z4 => ?_) (fun z4 => ?_)
      · replace h := h.1 z4
        exact J.sub [] rfl (j_X2_hasSeat_b22 hG O hR h)
      · replace h := h.2 z4
        refine J.iconst (q := 19) (v := (1 : Int32)) O dX2_hasSeat_18 rfl rfl ?_
        refine J.goto (q := 23) O dX2_hasSeat_19 (by decide) ?_
        exact J.sub [] rfl (j_X2_hasSeat_b23 hG O hR h)
set_option maxHeartbeats 4000000 in
set_option maxRecDepth 20000 in
theorem j_X11_seat_b26 {X : CX} {G : GX} {K : Int32 → Mem → Prop} (hG : Gd G) (O : Ok X G cX11_seat 3 RX11 2) (hR : RetI X G cX11_seat K) {M : Mem} (h : f_X11_seat_b26 K  M) : J X G M 26 [(0, .ref (ad G 0))] [] := by
  unfold f_X11_seat_b26 at h
  refine J.aload_n (q := 27) O dX11_seat_26 rfl 0 rfl ?_
  refine J.bipush (q := 29) (v := (-2 : Int32)) O dX11_seat_27 rfl rfl ?_
  refine J.callVI (q := 32) [.int (-2 : Int32)] [] [.int (-2 : Int32), .ref (ad G 0)] rfl O dX11_seat_29 rfl (c_X11_refuse hG h) wd_3_55 mw_X11_refuse io_0 rfl (by decide) (Nat.le_of_ble_eq_true rfl) (fun v3 M3 h => ?_)
  exact hR _ _ _ _ dX11_seat_32 h
set_option maxHeartbeats 4000000 in
set_option maxRecDepth 20000 in
theorem j_X11_seat_b58 {X : CX} {G : GX} {K : Int32 → Mem → Prop} (hG : Gd G) (O : Ok X G cX11_seat 3 RX11 2) (hR : RetI X G cX11_seat K) {s0 : Int32} {M : Mem} (h : f_X11_seat_b58 K s0 M) : J X G M 58 [] [.int s0] := by
  unfold f_X11_seat_b58 at h
  exact hR _ _ _ _ dX11_seat_58 h
set_option maxHeartbeats 4000000 in
set_option maxRecDepth 20000 in
theorem c_X11_seat {l : Launch} {G : GX} (hG : Gd G) {a1 : Int32} {a2 : Int32} {M : Mem} {K : Int32 → Mem → Prop} (h : f_X11_seat a1 a2 M K) : CI l G yX11_seat cX11_seat 3 (some .int) 2 [.ref (ad G 0), .int a1, .int a2] M K := by
  unfold f_X11_seat at h
  refine CI.mk hG (by decide) [(0, .ref (ad G 0)), (1, .int a1), (2, .int a2)] rfl (Nat.le_of_ble_eq_true rfl) (fun X O hlX hR => ?_)
  subst hlX
  refine J.aload_n (q := 1) O dX11_seat_0 rfl 0 rfl ?_
  refine J.getR (q := 4) (c' := 0) (ci := 11) (k := 3) (r := 51) O dX11_seat_1 rfl wd_3_5 (by decide) if_0_3 ?_
  refine J.iload_n (q := 5) O dX11_seat_4 rfl 1 rfl ?_
  refine J.callVI (q := 8) [.int a1] [] [.int a1, .ref (ad G 51)] rfl O dX11_seat_5 rfl (c_X2_hasSeat hG h) wd_4_119 mw_X2_hasSeat io_51 rfl (by decide) (Nat.le_of_ble_eq_true rfl) (fun v4 M4 h => ?_)
  refine J.if_ne (q := 11) (tgt := 17) O dX11_seat_8 rfl (by decide) (fun z5 => ?_) (fun z5 => ?_)
  · replace h := h.1 z5
    refine J.iload_n (q := 18) O dX11_seat_17 rfl 2 rfl ?_
    refine J.if_lt (q := 21) (tgt := 26) O dX11_seat_18 rfl (by decide) (fun z6 => ?_) (fun z6 => ?_)
    · replace h := h.1 z6
      exact J.sub [0] rfl (j_X11_seat_b26 hG O hR h)
    · replace h := h.2 z6
      refine J.iload_n (q := 22) O dX11_seat_21 rfl 2 rfl ?_
      refine J.iconst (q := 23) (v := (1 : Int32)) O dX11_seat_22 rfl rfl ?_
      refine J.icmp_le (q := 26) (tgt := 33) O dX11_seat_23 rfl (by decide) (fun z7 => ?_) (fun z7 => ?_)
      · replace h := h.1 z7
        refine J.iload_n (q := 34) O dX11_seat_33 rfl 2 rfl ?_
        refine J.if_ne (q := 37) (tgt := 49) O dX11_seat_34 rfl (by decide) (fun z8 => ?_) (fun z8 => ?_)
        · replace h := h.1 z8
          refine J.aload_n (q := 50) O dX11_seat_49 rfl 0 rfl ?_
          refine J.getR (q := 53) (c' := 0) (ci := 11) (k := 3) (r := 51) O dX11_seat_50 rfl wd_3_5 (by decide) if_0_3 ?_
          refine J.getR (q := 56) (c' := 51) (ci := 2) (k := 3) (r := 54) O dX11_seat_53 rfl wd_1_177 (by decide) if_51_3 ?_
          refine J.iload_n (q := 57) O dX11_seat_56 rfl 1 rfl ?_
          obtain ⟨hv9, h⟩ := h
          refine J.iald (q := 58) (c' := 54) (j := a1.toNatClampNeg) (M4 54 a1.toNatClampNeg) rfl O dX11_seat_57 rfl ar_54 hv9 rfl ?_
          exact J.sub [] rfl (j_X11_seat_b58 hG O hR h)
        · replace h := h.2 z8
          refine J.aload_n (q := 38) O dX11_seat_37 rfl 0 rfl ?_
          refine J.getR (q := 41) (c' := 0) (ci := 11) (k := 3) (r := 51) O dX11_seat_38 rfl wd_3_5 (by decide) if_0_3 ?_
          refine J.getR (q := 44) (c' := 51) (ci := 2) (k := 2) (r := 53) O dX11_seat_41 rfl wd_1_175 (by decide) if_51_2 ?_
          refine J.iload_n (q := 45) O dX11_seat_44 rfl 1 rfl ?_
          obtain ⟨hv10, h⟩ := h
          refine J.iald (q := 46) (c' := 53) (j := a1.toNatClampNeg) (M4 53 a1.toNatClampNeg) rfl O dX11_seat_45 rfl ar_53 hv10 rfl ?_
          refine J.goto (q := 58) O dX11_seat_46 (by decide) ?_
          exact J.sub [] rfl (j_X11_seat_b58 hG O hR h)
      · replace h := h.2 z7
        exact J.sub [0] rfl (j_X11_seat_b26 hG O hR h)
  · replace h := h.2 z5
    refine J.aload_n (q := 12) O dX11_seat_11 rfl 0 rfl ?_
    refine J.iconst (q := 13) (v := (-1 : Int32)) O dX11_seat_12 rfl rfl ?_
    refine J.callVI (q := 16) [.int (-1 : Int32)] [] [.int (-1 : Int32), .ref (ad G 0)] rfl O dX11_seat_13 rfl (c_X11_refuse hG h) wd_3_55 mw_X11_refuse io_0 rfl (by decide) (Nat.le_of_ble_eq_true rfl) (fun v11 M11 h => ?_)
    exact hR _ _ _ _ dX11_seat_16 h
set_option maxHeartbeats 4000000 in
set_option maxRecDepth 20000 in
theorem j_X2_sitsElsewhere_b27 {X : CX} {G : GX} {K : Int32 → Mem → Prop} (hG : Gd G) (O : Ok X G cX2_sitsElsewhere 4 RX2 1) (hR : RetZ X G cX2_sitsElsewhere K) {r2 : Int32 × Int32 × Int32 × Mem → Prop} (hr2 : ∀ a : Int32 × Int32 × Int32 × Mem, r2 a → J X G a.2.2.2 2 [(0, .ref (ad G 51)), (1, .int a.1), (2, .int a.2.1), (3, .int a.2.2.1)] []) {x1 : Int32} {x2 : Int32} {x3 : Int32} {M : Mem} (h : f_X2_sitsElsewhere_b27 r2 K x1 x2 x3 M) : J X G M 27 [(0, .ref (ad G 51)), (1, .int x1), (2, .int x2), (3, .int x3)] [] := by
  unfold f_X2_sitsElsewhere_b27 at h
  refine J.iinc (q := 30) O dX2_sitsElsewhere_27 rfl [(3, .int (x3 + (1 : Int32))), (0, .ref (ad G 51)), (1, .int x1), (2, .int x2)] 3 rfl rfl (by decide) rfl ?_
  refine J.goto (q := 2) O dX2_sitsElsewhere_30 (by decide) ?_
  exact J.sub [1, 2, 3, 0] rfl (hr2 _ h)
set_option maxHeartbeats 4000000 in
set_option maxRecDepth 20000 in
theorem j_X2_sitsElsewhere_c2 {X : CX} {G : GX} {K : Int32 → Mem → Prop} (hG : Gd G) (O : Ok X G cX2_sitsElsewhere 4 RX2 1) (hR : RetZ X G cX2_sitsElsewhere K) {a : Int32 × Int32 × Int32 × Mem} (h : Lp (fun (r2 : Int32 × Int32 × Int32 × Mem → Prop) a => f_X2_sitsElsewhere_c2 K r2 a.1 a.2.1 a.2.2.1 a.2.2.2) a) : J X G a.2.2.2 2 [(0, .ref (ad G 51)), (1, .int a.1), (2, .int a.2.1), (3, .int a.2.2.1)] [] := by
  refine Lp.elim (P := fun a => J X G a.2.2.2 2 [(0, .ref (ad G 51)), (1, .int a.1), (2, .int a.2.1), (3, .int a.2.2.1)] []) ?_ h
  clear h
  intro r2 hr2 a h
  obtain ⟨x1, x2, x3, M⟩ := a
  unfold f_X2_sitsElsewhere_c2 at h
  (try dsimp only at h ⊢)
  refine J.iload_n (q := 3) O dX2_sitsElsewhere_2 rfl 3 rfl ?_
  refine J.aload_n (q := 4) O dX2_sitsElsewhere_3 rfl 0 rfl ?_
  refine J.getI (q := 7) (c' := 51) (ci := 2) (k := 1) (M 51 1) rfl O dX2_sitsElsewhere_4 rfl wd_1_172 (by decide) if_51_1 ?_
  refine J.icmp_ge (q := 10) (tgt := 33) O dX2_sitsElsewhere_7 rfl (by decide) (fun z2 => ?_) (fun z2 => ?_)
  · replace h := h.1 z2
    refine J.iconst (q := 34) (v := (0 : Int32)) O dX2_sitsElsewhere_33 rfl rfl ?_
    exact hR _ _ _ _ dX2_sitsElsewhere_34 (Or.inl rfl) h
  · replace h := h.2 z2
    refine J.iload_n (q := 11) O dX2_sitsElsewhere_10 rfl 3 rfl ?_
    refine J.iload_n (q := 12) O dX2_sitsElsewhere_11 rfl 2 rfl ?_
    refine J.icmp_eq (q := 15) (tgt := 27) O dX2_sitsElsewhere_12 rfl (by decide) (fun z3 => ?_) (fun z3 => ?_)
    · replace h := h.1 z3
      exact J.sub [0, 1, 2, 3] rfl (j_X2_sitsElsewhere_b27 hG O hR hr2 h)
    · replace h := h.2 z3
      refine J.aload_n (q := 16) O dX2_sitsElsewhere_15 rfl 0 rfl ?_
      refine J.getR (q := 19) (c' := 51) (ci := 2) (k := 3) (r := 54) O dX2_sitsElsewhere_16 rfl wd_1_176 (by decide) if_51_3 ?_
      refine J.iload_n (q := 20) O dX2_sitsElsewhere_19 rfl 3 rfl ?_
      obtain ⟨hv4, h⟩ := h
      refine J.iald (q := 21) (c' := 54) (j := x3.toNatClampNeg) (M 54 x3.toNatClampNeg) rfl O dX2_sitsElsewhere_20 rfl ar_54 hv4 rfl ?_
      refine J.iload_n (q := 22) O dX2_sitsElsewhere_21 rfl 1 rfl ?_
      refine J.icmp_ne (q := 25) (tgt := 27) O dX2_sitsElsewhere_22 rfl (by decide) (fun z5 => ?_) (fun z5 => ?_)
      · replace h := h.1 z5
        exact J.sub [0, 1, 2, 3] rfl (j_X2_sitsElsewhere_b27 hG O hR hr2 h)
      · replace h := h.2 z5
        refine J.iconst (q := 26) (v := (1 : Int32)) O dX2_sitsElsewhere_25 rfl rfl ?_
        exact hR _ _ _ _ dX2_sitsElsewhere_26 (Or.inr rfl) h
set_option maxHeartbeats 4000000 in
set_option maxRecDepth 20000 in
theorem c_X2_sitsElsewhere {l : Launch} {G : GX} (hG : Gd G) {a1 : Int32} {a2 : Int32} {M : Mem} {K : Int32 → Mem → Prop} (h : f_X2_sitsElsewhere a1 a2 M K) : CI l G yX2_sitsElsewhere cX2_sitsElsewhere 4 (some .boolean) 1 [.ref (ad G 51), .int a1, .int a2] M K := by
  unfold f_X2_sitsElsewhere at h
  refine CZ.mk hG (by decide) [(0, .ref (ad G 51)), (1, .int a1), (2, .int a2)] rfl (Nat.le_of_ble_eq_true rfl) (fun X O hlX hR => ?_)
  subst hlX
  refine J.iconst (q := 1) (v := (0 : Int32)) O dX2_sitsElsewhere_0 rfl rfl ?_
  refine J.istore_n (q := 2) O dX2_sitsElsewhere_1 rfl [(3, .int (0 : Int32)), (0, .ref (ad G 51)), (1, .int a1), (2, .int a2)] (by decide) rfl ?_
  exact J.sub [1, 2, 3, 0] rfl (j_X2_sitsElsewhere_c2 hG O hR h)
set_option maxHeartbeats 4000000 in
set_option maxRecDepth 20000 in
theorem j_X11_sit_b22 {X : CX} {G : GX} {K : Int32 → Mem → Prop} (hG : Gd G) (O : Ok X G cX11_sit 3 RX11 2) (hR : RetI X G cX11_sit K) {M : Mem} (h : f_X11_sit_b22 K  M) : J X G M 22 [(0, .ref (ad G 0))] [] := by
  unfold f_X11_sit_b22 at h
  refine J.aload_n (q := 23) O dX11_sit_22 rfl 0 rfl ?_
  refine J.iconst (q := 24) (v := (-1 : Int32)) O dX11_sit_23 rfl rfl ?_
  refine J.callVI (q := 27) [.int (-1 : Int32)] [] [.int (-1 : Int32), .ref (ad G 0)] rfl O dX11_sit_24 rfl (c_X11_refuse hG h) wd_3_55 mw_X11_refuse io_0 rfl (by decide) (Nat.le_of_ble_eq_true rfl) (fun v5 M5 h => ?_)
  exact hR _ _ _ _ dX11_sit_27 h
set_option maxHeartbeats 4000000 in
set_option maxRecDepth 20000 in
theorem j_X11_sit_b73 {X : CX} {G : GX} {K : Int32 → Mem → Prop} (hG : Gd G) (O : Ok X G cX11_sit 3 RX11 2) (hR : RetI X G cX11_sit K) {M : Mem} (h : f_X11_sit_b73 K  M) : J X G M 73 [(0, .ref (ad G 0))] [] := by
  unfold f_X11_sit_b73 at h
  refine J.aload_n (q := 74) O dX11_sit_73 rfl 0 rfl ?_
  refine J.bipush (q := 76) (v := (-3 : Int32)) O dX11_sit_74 rfl rfl ?_
  refine J.callVI (q := 79) [.int (-3 : Int32)] [] [.int (-3 : Int32), .ref (ad G 0)] rfl O dX11_sit_76 rfl (c_X11_refuse hG h) wd_3_55 mw_X11_refuse io_0 rfl (by decide) (Nat.le_of_ble_eq_true rfl) (fun v6 M6 h => ?_)
  exact hR _ _ _ _ dX11_sit_79 h
set_option maxHeartbeats 4000000 in
set_option maxRecDepth 20000 in
theorem c_X11_sit {l : Launch} {G : GX} (hG : Gd G) {a1 : Int32} {a2 : Int32} {M : Mem} {K : Int32 → Mem → Prop} (h : f_X11_sit a1 a2 M K) : CI l G yX11_sit cX11_sit 3 (some .int) 2 [.ref (ad G 0), .int a1, .int a2] M K := by
  unfold f_X11_sit at h
  refine CI.mk hG (by decide) [(0, .ref (ad G 0)), (1, .int a1), (2, .int a2)] rfl (Nat.le_of_ble_eq_true rfl) (fun X O hlX hR => ?_)
  subst hlX
  refine J.aload_n (q := 1) O dX11_sit_0 rfl 0 rfl ?_
  refine J.getR (q := 4) (c' := 0) (ci := 11) (k := 3) (r := 51) O dX11_sit_1 rfl wd_3_5 (by decide) if_0_3 ?_
  refine J.iload_n (q := 5) O dX11_sit_4 rfl 1 rfl ?_
  refine J.callVI (q := 8) [.int a1] [] [.int a1, .ref (ad G 51)] rfl O dX11_sit_5 rfl (c_X2_hasSeat hG h) wd_4_119 mw_X2_hasSeat io_51 rfl (by decide) (Nat.le_of_ble_eq_true rfl) (fun v7 M7 h => ?_)
  refine J.if_eq (q := 11) (tgt := 22) O dX11_sit_8 rfl (by decide) (fun z8 => ?_) (fun z8 => ?_)
  · replace h := h.1 z8
    exact J.sub [0] rfl (j_X11_sit_b22 hG O hR h)
  · replace h := h.2 z8
    refine J.aload_n (q := 12) O dX11_sit_11 rfl 0 rfl ?_
    refine J.getR (q := 15) (c' := 0) (ci := 11) (k := 1) (r := 4) O dX11_sit_12 rfl wd_3_3 (by decide) if_0_1 ?_
    refine J.iload_n (q := 16) O dX11_sit_15 rfl 2 rfl ?_
    refine J.callVI (q := 19) [.int a2] [] [.int a2, .ref (ad G 4)] rfl O dX11_sit_16 rfl (c_X9_has hG h) wd_3_106 mw_X9_has io_4 rfl (by decide) (Nat.le_of_ble_eq_true rfl) (fun v9 M9 h => ?_)
    refine J.if_ne (q := 22) (tgt := 28) O dX11_sit_19 rfl (by decide) (fun z10 => ?_) (fun z10 => ?_)
    · replace h := h.1 z10
      refine J.aload_n (q := 29) O dX11_sit_28 rfl 0 rfl ?_
      refine J.getR (q := 32) (c' := 0) (ci := 11) (k := 1) (r := 4) O dX11_sit_29 rfl wd_3_3 (by decide) if_0_1 ?_
      refine J.getR (q := 35) (c' := 4) (ci := 9) (k := 2) (r := 6) O dX11_sit_32 rfl wd_1_58 (by decide) if_4_2 ?_
      refine J.iload_n (q := 36) O dX11_sit_35 rfl 2 rfl ?_
      obtain ⟨hv11, h⟩ := h
      refine J.zald (q := 37) (c' := 6) (j := a2.toNatClampNeg) (M9 6 a2.toNatClampNeg) rfl O dX11_sit_36 rfl ar_6 hv11 rfl ?_
      refine J.if_eq (q := 40) (tgt := 73) O dX11_sit_37 rfl (by decide) (fun z12 => ?_) (fun z12 => ?_)
      · replace h := h.1 z12
        exact J.sub [0] rfl (j_X11_sit_b73 hG O hR h)
      · replace h := h.2 z12
        refine J.aload_n (q := 41) O dX11_sit_40 rfl 0 rfl ?_
        refine J.getR (q := 44) (c' := 0) (ci := 11) (k := 1) (r := 4) O dX11_sit_41 rfl wd_3_3 (by decide) if_0_1 ?_
        refine J.getR (q := 47) (c' := 4) (ci := 9) (k := 1) (r := 5) O dX11_sit_44 rfl wd_1_55 (by decide) if_4_1 ?_
        refine J.iload_n (q := 48) O dX11_sit_47 rfl 2 rfl ?_
        obtain ⟨hv13, h⟩ := h
        refine J.iald (q := 49) (c' := 5) (j := a2.toNatClampNeg) (M9 5 a2.toNatClampNeg) rfl O dX11_sit_48 rfl ar_5 hv13 rfl ?_
        refine J.aload_n (q := 50) O dX11_sit_49 rfl 0 rfl ?_
        refine J.getR (q := 53) (c' := 0) (ci := 11) (k := 3) (r := 51) O dX11_sit_50 rfl wd_3_5 (by decide) if_0_3 ?_
        refine J.getR (q := 56) (c' := 51) (ci := 2) (k := 2) (r := 53) O dX11_sit_53 rfl wd_1_175 (by decide) if_51_2 ?_
        refine J.iload_n (q := 57) O dX11_sit_56 rfl 1 rfl ?_
        obtain ⟨hv14, h⟩ := h
        refine J.iald (q := 58) (c' := 53) (j := a1.toNatClampNeg) (M9 53 a1.toNatClampNeg) rfl O dX11_sit_57 rfl ar_53 hv14 rfl ?_
        refine J.icmp_ne (q := 61) (tgt := 73) O dX11_sit_58 rfl (by decide) (fun z15 => ?_) (fun z15 => ?_)
        · replace h := h.1 z15
          exact J.sub [0] rfl (j_X11_sit_b73 hG O hR h)
        · replace h := h.2 z15
          refine J.aload_n (q := 62) O dX11_sit_61 rfl 0 rfl ?_
          refine J.getR (q := 65) (c' := 0) (ci := 11) (k := 3) (r := 51) O dX11_sit_62 rfl wd_3_5 (by decide) if_0_3 ?_
          refine J.iload_n (q := 66) O dX11_sit_65 rfl 2 rfl ?_
          refine J.iload_n (q := 67) O dX11_sit_66 rfl 1 rfl ?_
          refine J.callVI (q := 70) [.int a2, .int a1] [] [.int a1, .int a2, .ref (ad G 51)] rfl O dX11_sit_67 rfl (c_X2_sitsElsewhere hG h) wd_4_127 mw_X2_sitsElsewhere io_51 rfl (by decide) (Nat.le_of_ble_eq_true rfl) (fun v16 M16 h => ?_)
          refine J.if_eq (q := 73) (tgt := 80) O dX11_sit_70 rfl (by decide) (fun z17 => ?_) (fun z17 => ?_)
          · replace h := h.1 z17
            refine J.aload_n (q := 81) O dX11_sit_80 rfl 0 rfl ?_
            refine J.getR (q := 84) (c' := 0) (ci := 11) (k := 3) (r := 51) O dX11_sit_81 rfl wd_3_5 (by decide) if_0_3 ?_
            refine J.getR (q := 87) (c' := 51) (ci := 2) (k := 3) (r := 54) O dX11_sit_84 rfl wd_1_177 (by decide) if_51_3 ?_
            refine J.iload_n (q := 88) O dX11_sit_87 rfl 1 rfl ?_
            refine J.iload_n (q := 89) O dX11_sit_88 rfl 2 rfl ?_
            obtain ⟨hv18, h⟩ := h
            refine J.iast (q := 90) (c' := 54) (j := a1.toNatClampNeg) O dX11_sit_89 rfl ar_54 hv18 rfl ?_
            refine J.iconst (q := 91) (v := (1 : Int32)) O dX11_sit_90 rfl rfl ?_
            exact hR _ _ _ _ dX11_sit_91 h
          · replace h := h.2 z17
            exact J.sub [0] rfl (j_X11_sit_b73 hG O hR h)
    · replace h := h.2 z10
      exact J.sub [0] rfl (j_X11_sit_b22 hG O hR h)
set_option maxHeartbeats 4000000 in
set_option maxRecDepth 20000 in
theorem j_X11_canBePresent_b69 {X : CX} {G : GX} {K : Int32 → Mem → Prop} (hG : Gd G) (O : Ok X G cX11_canBePresent 4 RX11 2) (hR : RetZ X G cX11_canBePresent K) {M : Mem} (h : f_X11_canBePresent_b69 K  M) : J X G M 69 [] [] := by
  unfold f_X11_canBePresent_b69 at h
  refine J.iconst (q := 70) (v := (0 : Int32)) O dX11_canBePresent_69 rfl rfl ?_
  exact hR _ _ _ _ dX11_canBePresent_70 (Or.inl rfl) h
set_option maxHeartbeats 4000000 in
set_option maxRecDepth 20000 in
theorem j_X11_canBePresent_b71 {X : CX} {G : GX} {K : Int32 → Mem → Prop} (hG : Gd G) (O : Ok X G cX11_canBePresent 4 RX11 2) (hR : RetZ X G cX11_canBePresent K) {r16 : Int32 × Int32 × Mem → Prop} (hr16 : ∀ a : Int32 × Int32 × Mem, r16 a → J X G a.2.2 16 [(0, .ref (ad G 0)), (1, .int a.1), (2, .int a.2.1)] []) {x1 : Int32} {x2 : Int32} {M : Mem} (h : f_X11_canBePresent_b71 r16 K x1 x2 M) : J X G M 71 [(0, .ref (ad G 0)), (1, .int x1), (2, .int x2)] [] := by
  unfold f_X11_canBePresent_b71 at h
  refine J.iinc (q := 74) O dX11_canBePresent_71 rfl [(2, .int (x2 + (1 : Int32))), (0, .ref (ad G 0)), (1, .int x1)] 2 rfl rfl (by decide) rfl ?_
  refine J.goto (q := 16) O dX11_canBePresent_74 (by decide) ?_
  exact J.sub [1, 2, 0] rfl (hr16 _ h)
set_option maxHeartbeats 4000000 in
set_option maxRecDepth 20000 in
theorem j_X11_canBePresent_c16 {X : CX} {G : GX} {K : Int32 → Mem → Prop} (hG : Gd G) (O : Ok X G cX11_canBePresent 4 RX11 2) (hR : RetZ X G cX11_canBePresent K) {a : Int32 × Int32 × Mem} (h : Lp (fun (r16 : Int32 × Int32 × Mem → Prop) a => f_X11_canBePresent_c16 K r16 a.1 a.2.1 a.2.2) a) : J X G a.2.2 16 [(0, .ref (ad G 0)), (1, .int a.1), (2, .int a.2.1)] [] := by
  refine Lp.elim (P := fun a => J X G a.2.2 16 [(0, .ref (ad G 0)), (1, .int a.1), (2, .int a.2.1)] []) ?_ h
  clear h
  intro r16 hr16 a h
  obtain ⟨x1, x2, M⟩ := a
  unfold f_X11_canBePresent_c16 at h
  (try dsimp only at h ⊢)
  refine J.iload_n (q := 17) O dX11_canBePresent_16 rfl 2 rfl ?_
  refine J.aload_n (q := 18) O dX11_canBePresent_17 rfl 0 rfl ?_
  refine J.getR (q := 21) (c' := 0) (ci := 11) (k := 3) (r := 51) O dX11_canBePresent_18 rfl wd_3_5 (by decide) if_0_3 ?_
  refine J.getI (q := 24) (c' := 51) (ci := 2) (k := 1) (M 51 1) rfl O dX11_canBePresent_21 rfl wd_1_173 (by decide) if_51_1 ?_
  refine J.icmp_ge (q := 27) (tgt := 77) O dX11_canBePresent_24 rfl (by decide) (fun z3 => ?_) (fun z3 => ?_)
  · replace h := h.1 z3
    refine J.iconst (q := 78) (v := (1 : Int32)) O dX11_canBePresent_77 rfl rfl ?_
    exact hR _ _ _ _ dX11_canBePresent_78 (Or.inr rfl) h
  · replace h := h.2 z3
    refine J.aload_n (q := 28) O dX11_canBePresent_27 rfl 0 rfl ?_
    refine J.getR (q := 31) (c' := 0) (ci := 11) (k := 3) (r := 51) O dX11_canBePresent_28 rfl wd_3_5 (by decide) if_0_3 ?_
    refine J.getR (q := 34) (c' := 51) (ci := 2) (k := 3) (r := 54) O dX11_canBePresent_31 rfl wd_1_177 (by decide) if_51_3 ?_
    refine J.iload_n (q := 35) O dX11_canBePresent_34 rfl 2 rfl ?_
    obtain ⟨hv4, h⟩ := h
    refine J.iald (q := 36) (c' := 54) (j := x2.toNatClampNeg) (M 54 x2.toNatClampNeg) rfl O dX11_canBePresent_35 rfl ar_54 hv4 rfl ?_
    refine J.istore_n (q := 37) O dX11_canBePresent_36 rfl [(3, .int (M 54 x2.toNatClampNeg)), (0, .ref (ad G 0)), (1, .int x1), (2, .int x2)] (by decide) rfl ?_
    refine J.iload_n (q := 38) O dX11_canBePresent_37 rfl 2 rfl ?_
    refine J.iload_n (q := 39) O dX11_canBePresent_38 rfl 3 rfl ?_
    refine J.ishr (q := 40) O dX11_canBePresent_39 rfl ?_
    refine J.iconst (q := 41) (v := (1 : Int32)) O dX11_canBePresent_40 rfl rfl ?_
    refine J.iand (q := 42) O dX11_canBePresent_41 rfl ?_
    refine J.iconst (q := 43) (v := (1 : Int32)) O dX11_canBePresent_42 rfl rfl ?_
    refine J.icmp_ne (q := 46) (tgt := 71) O dX11_canBePresent_43 rfl (by decide) (fun z5 => ?_) (fun z5 => ?_)
    · replace h := h.1 z5
      exact J.sub [1, 2, 3] rfl (j_X11_canBePresent_b71 hG O hR hr16 h)
    · replace h := h.2 z5
      refine J.aload_n (q := 47) O dX11_canBePresent_46 rfl 1 rfl ?_
      refine J.getR (q := 50) (c' := 0) (ci := 11) (k := 1) (r := 4) O dX11_canBePresent_47 rfl wd_3_3 (by decide) if_0_1 ?_
      refine J.iload_n (q := 51) O dX11_canBePresent_50 rfl 0 rfl ?_
      refine J.callVI (q := 54) [.int (M 54 x2.toNatClampNeg)] [] [.int (M 54 x2.toNatClampNeg), .ref (ad G 4)] rfl O dX11_canBePresent_51 rfl (c_X9_has hG h) wd_3_106 mw_X9_has io_4 rfl (by decide) (Nat.le_of_ble_eq_true rfl) (fun v6 M6 h => ?_)
      refine J.if_eq (q := 57) (tgt := 69) O dX11_canBePresent_54 rfl (by decide) (fun z7 => ?_) (fun z7 => ?_)
      · replace h := h.1 z7
        exact J.sub [] rfl (j_X11_canBePresent_b69 hG O hR h)
      · replace h := h.2 z7
        refine J.aload_n (q := 58) O dX11_canBePresent_57 rfl 1 rfl ?_
        refine J.getR (q := 61) (c' := 0) (ci := 11) (k := 1) (r := 4) O dX11_canBePresent_58 rfl wd_3_3 (by decide) if_0_1 ?_
        refine J.getR (q := 64) (c' := 4) (ci := 9) (k := 2) (r := 6) O dX11_canBePresent_61 rfl wd_1_58 (by decide) if_4_2 ?_
        refine J.iload_n (q := 65) O dX11_canBePresent_64 rfl 0 rfl ?_
        obtain ⟨hv8, h⟩ := h
        refine J.zald (q := 66) (c' := 6) (j := (M 54 x2.toNatClampNeg).toNatClampNeg) (M6 6 ((M 54 x2.toNatClampNeg).toNatClampNeg)) rfl O dX11_canBePresent_65 rfl ar_6 hv8 rfl ?_
        refine J.if_ne (q := 69) (tgt := 71) O dX11_canBePresent_66 rfl (by decide) (fun z9 => ?_) (fun z9 => ?_)
        · replace h := h.1 z9
          exact J.sub [1, 2, 3] rfl (j_X11_canBePresent_b71 hG O hR hr16 h)
        · replace h := h.2 z9
          exact J.sub [] rfl (j_X11_canBePresent_b69 hG O hR h)
set_option maxHeartbeats 4000000 in
set_option maxRecDepth 20000 in
theorem c_X11_canBePresent {l : Launch} {G : GX} (hG : Gd G) {a1 : Int32} {M : Mem} {K : Int32 → Mem → Prop} (h : f_X11_canBePresent a1 M K) : CI l G yX11_canBePresent cX11_canBePresent 4 (some .boolean) 2 [.ref (ad G 0), .int a1] M K := by
  unfold f_X11_canBePresent at h
  refine CZ.mk hG (by decide) [(0, .ref (ad G 0)), (1, .int a1)] rfl (Nat.le_of_ble_eq_true rfl) (fun X O hlX hR => ?_)
  subst hlX
  refine J.iload_n (q := 1) O dX11_canBePresent_0 rfl 1 rfl ?_
  refine J.aload_n (q := 2) O dX11_canBePresent_1 rfl 0 rfl ?_
  refine J.getR (q := 5) (c' := 0) (ci := 11) (k := 3) (r := 51) O dX11_canBePresent_2 rfl wd_3_5 (by decide) if_0_3 ?_
  refine J.getI (q := 8) (c' := 51) (ci := 2) (k := 1) (M 51 1) rfl O dX11_canBePresent_5 rfl wd_1_173 (by decide) if_51_1 ?_
  refine J.ishr (q := 9) O dX11_canBePresent_8 rfl ?_
  refine J.if_eq (q := 12) (tgt := 14) O dX11_canBePresent_9 rfl (by decide) (fun z10 => ?_) (fun z10 => ?_)
  · replace h := h.1 z10
    refine J.iconst (q := 15) (v := (0 : Int32)) O dX11_canBePresent_14 rfl rfl ?_
    refine J.istore_n (q := 16) O dX11_canBePresent_15 rfl [(2, .int (0 : Int32)), (0, .ref (ad G 0)), (1, .int a1)] (by decide) rfl ?_
    exact J.sub [1, 2, 0] rfl (j_X11_canBePresent_c16 hG O hR h)
  · replace h := h.2 z10
    refine J.iconst (q := 13) (v := (0 : Int32)) O dX11_canBePresent_12 rfl rfl ?_
    exact hR _ _ _ _ dX11_canBePresent_13 (Or.inl rfl) h
set_option maxHeartbeats 4000000 in
set_option maxRecDepth 20000 in
theorem j_X2_meet_b62 {X : CX} {G : GX} {K : Int32 → Mem → Prop} (hG : Gd G) (O : Ok X G cX2_meet 4 RX2 2) (hR : RetI X G cX2_meet K) {s0 : Int32} {s1 : Int32} {M : Mem} (h : f_X2_meet_b62 K s0 s1 M) : J X G M 62 [(0, .ref (ad G 51))] [.int s0, .int s1, .ref (ad G 58)] := by
  unfold f_X2_meet_b62 at h
  obtain ⟨hv7, h⟩ := h
  obtain ⟨hb8, h⟩ := h
  refine J.zast (q := 63) (c' := 58) (j := s1.toNatClampNeg) O dX2_meet_62 rfl ar_58 hv7 rfl hb8 ?_
  refine J.aload_n (q := 64) O dX2_meet_63 rfl 0 rfl ?_
  refine J.getR (q := 67) (c' := 51) (ci := 2) (k := 9) (r := 59) O dX2_meet_64 rfl wd_1_187 (by decide) if_51_9 ?_
  refine J.aload_n (q := 68) O dX2_meet_67 rfl 0 rfl ?_
  refine J.getI (q := 71) (c' := 51) (ci := 2) (k := 5) (M 51 5) rfl O dX2_meet_68 rfl wd_1_179 (by decide) if_51_5 ?_
  refine J.ldc (q := 73) O dX2_meet_71 rfl wd_4_144 ?_
  obtain ⟨hv9, h⟩ := h
  refine J.iast (q := 74) (c' := 59) (j := (M 51 5).toNatClampNeg) O dX2_meet_73 rfl ar_59 hv9 rfl ?_
  refine J.aload_n (q := 75) O dX2_meet_74 rfl 0 rfl ?_
  refine J.getR (q := 78) (c' := 51) (ci := 2) (k := 10) (r := 60) O dX2_meet_75 rfl wd_1_189 (by decide) if_51_10 ?_
  refine J.aload_n (q := 79) O dX2_meet_78 rfl 0 rfl ?_
  refine J.getI (q := 82) (c' := 51) (ci := 2) (k := 5) (M 51 5) rfl O dX2_meet_79 rfl wd_1_179 (by decide) if_51_5 ?_
  refine J.iconst (q := 83) (v := (0 : Int32)) O dX2_meet_82 rfl rfl ?_
  obtain ⟨hv10, h⟩ := h
  refine J.iast (q := 84) (c' := 60) (j := (M 51 5).toNatClampNeg) O dX2_meet_83 rfl ar_60 hv10 rfl ?_
  refine J.aload_n (q := 85) O dX2_meet_84 rfl 0 rfl ?_
  refine J.dup (q := 86) O dX2_meet_85 rfl rfl ?_
  refine J.getI (q := 89) (c' := 51) (ci := 2) (k := 5) (M 51 5) rfl O dX2_meet_86 rfl wd_1_179 (by decide) if_51_5 ?_
  refine J.iconst (q := 90) (v := (1 : Int32)) O dX2_meet_89 rfl rfl ?_
  refine J.iadd (q := 91) O dX2_meet_90 rfl ?_
  refine J.putI (q := 94) (c' := 51) (ci := 2) (k := 5) O dX2_meet_91 rfl wd_1_179 (by decide) if_51_5 rfl rfl ?_
  refine J.aload_n (q := 95) O dX2_meet_94 rfl 0 rfl ?_
  refine J.getI (q := 98) (c' := 51) (ci := 2) (k := 5) ((M 51 5) + (1 : Int32)) rfl O dX2_meet_95 rfl wd_1_179 (by decide) if_51_5 ?_
  refine J.iconst (q := 99) (v := (1 : Int32)) O dX2_meet_98 rfl rfl ?_
  refine J.isub (q := 100) O dX2_meet_99 rfl ?_
  exact hR _ _ _ _ dX2_meet_100 h
set_option maxHeartbeats 4000000 in
set_option maxRecDepth 20000 in
theorem j_X2_meet_b61 {X : CX} {G : GX} {K : Int32 → Mem → Prop} (hG : Gd G) (O : Ok X G cX2_meet 4 RX2 2) (hR : RetI X G cX2_meet K) {s0 : Int32} {M : Mem} (h : f_X2_meet_b61 K s0 M) : J X G M 61 [(0, .ref (ad G 51))] [.int s0, .ref (ad G 58)] := by
  unfold f_X2_meet_b61 at h
  refine J.iconst (q := 62) (v := (0 : Int32)) O dX2_meet_61 rfl rfl ?_
  exact J.sub [0] rfl (j_X2_meet_b62 hG O hR h)
set_option maxHeartbeats 4000000 in
set_option maxRecDepth 20000 in
theorem c_X2_meet {l : Launch} {G : GX} (hG : Gd G) {a1 : Int32} {a2 : Int32} {a3 : Int32} {M : Mem} {K : Int32 → Mem → Prop} (h : f_X2_meet a1 a2 a3 M K) : CI l G yX2_meet cX2_meet 4 (some .int) 2 [.ref (ad G 51), .int a1, .int a2, .int a3] M K := by
  unfold f_X2_meet at h
  refine CI.mk hG (by decide) [(0, .ref (ad G 51)), (1, .int a1), (2, .int a2), (3, .int a3)] rfl (Nat.le_of_ble_eq_true rfl) (fun X O hlX hR => ?_)
  subst hlX
  refine J.aload_n (q := 1) O dX2_meet_0 rfl 0 rfl ?_
  refine J.getI (q := 4) (c' := 51) (ci := 2) (k := 5) (M 51 5) rfl O dX2_meet_1 rfl wd_1_179 (by decide) if_51_5 ?_
  refine J.bipush (q := 6) (v := (30 : Int32)) O dX2_meet_4 rfl rfl ?_
  refine J.icmp_lt (q := 9) (tgt := 12) O dX2_meet_6 rfl (by decide) (fun z11 => ?_) (fun z11 => ?_)
  · replace h := h.1 z11
    refine J.aload_n (q := 13) O dX2_meet_12 rfl 0 rfl ?_
    refine J.getR (q := 16) (c' := 51) (ci := 2) (k := 6) (r := 56) O dX2_meet_13 rfl wd_1_181 (by decide) if_51_6 ?_
    refine J.aload_n (q := 17) O dX2_meet_16 rfl 0 rfl ?_
    refine J.getI (q := 20) (c' := 51) (ci := 2) (k := 5) (M 51 5) rfl O dX2_meet_17 rfl wd_1_179 (by decide) if_51_5 ?_
    refine J.iload_n (q := 21) O dX2_meet_20 rfl 1 rfl ?_
    obtain ⟨hv12, h⟩ := h
    refine J.iast (q := 22) (c' := 56) (j := (M 51 5).toNatClampNeg) O dX2_meet_21 rfl ar_56 hv12 rfl ?_
    refine J.aload_n (q := 23) O dX2_meet_22 rfl 0 rfl ?_
    refine J.getR (q := 26) (c' := 51) (ci := 2) (k := 7) (r := 57) O dX2_meet_23 rfl wd_1_183 (by decide) if_51_7 ?_
    refine J.aload_n (q := 27) O dX2_meet_26 rfl 0 rfl ?_
    refine J.getI (q := 30) (c' := 51) (ci := 2) (k := 5) (M 51 5) rfl O dX2_meet_27 rfl wd_1_179 (by decide) if_51_5 ?_
    refine J.iload_n (q := 31) O dX2_meet_30 rfl 2 rfl ?_
    obtain ⟨hv13, h⟩ := h
    refine J.iast (q := 32) (c' := 57) (j := (M 51 5).toNatClampNeg) O dX2_meet_31 rfl ar_57 hv13 rfl ?_
    refine J.aload_n (q := 33) O dX2_meet_32 rfl 0 rfl ?_
    refine J.getR (q := 36) (c' := 51) (ci := 2) (k := 8) (r := 58) O dX2_meet_33 rfl wd_1_185 (by decide) if_51_8 ?_
    refine J.aload_n (q := 37) O dX2_meet_36 rfl 0 rfl ?_
    refine J.getI (q := 40) (c' := 51) (ci := 2) (k := 5) (M 51 5) rfl O dX2_meet_37 rfl wd_1_179 (by decide) if_51_5 ?_
    refine J.iload_n (q := 41) O dX2_meet_40 rfl 3 rfl ?_
    refine J.if_eq (q := 44) (tgt := 61) O dX2_meet_41 rfl (by decide) (fun z14 => ?_) (fun z14 => ?_)
    · replace h := h.1 z14
      exact J.sub [0] rfl (j_X2_meet_b61 hG O hR h)
    · replace h := h.2 z14
      refine J.iconst (q := 45) (v := (2 : Int32)) O dX2_meet_44 rfl rfl ?_
      refine J.iload_n (q := 46) O dX2_meet_45 rfl 2 rfl ?_
      refine J.callSI (q := 49) [.int a2] [.int (2 : Int32), .int (M 51 5), .ref (ad G 58)] [.int a2, .int (2 : Int32), .int (M 51 5), .ref (ad G 58)] rfl O dX2_meet_46 rfl (c_J6_bitCount_0f7a4 hG h) wd_4_143 mw_J6_bitCount_0f7a4 rfl (by decide) (Nat.le_of_ble_eq_true rfl) (fun v15 M15 h => ?_)
      refine J.imul (q := 50) O dX2_meet_49 rfl ?_
      refine J.aload_n (q := 51) O dX2_meet_50 rfl 0 rfl ?_
      refine J.getI (q := 54) (c' := 51) (ci := 2) (k := 1) (M15 51 1) rfl O dX2_meet_51 rfl wd_1_172 (by decide) if_51_1 ?_
      refine J.icmp_le (q := 57) (tgt := 61) O dX2_meet_54 rfl (by decide) (fun z16 => ?_) (fun z16 => ?_)
      · replace h := h.1 z16
        exact J.sub [0] rfl (j_X2_meet_b61 hG O hR h)
      · replace h := h.2 z16
        refine J.iconst (q := 58) (v := (1 : Int32)) O dX2_meet_57 rfl rfl ?_
        refine J.goto (q := 62) O dX2_meet_58 (by decide) ?_
        exact J.sub [0] rfl (j_X2_meet_b62 hG O hR h)
  · replace h := h.2 z11
    refine J.bipush (q := 11) (v := (-6 : Int32)) O dX2_meet_9 rfl rfl ?_
    exact hR _ _ _ _ dX2_meet_11 h
set_option maxHeartbeats 4000000 in
set_option maxRecDepth 20000 in
theorem j_X11_session_b8 {X : CX} {G : GX} {K : Int32 → Mem → Prop} (hG : Gd G) (O : Ok X G cX11_session 3 RX11 3) (hR : RetI X G cX11_session K) {M : Mem} (h : f_X11_session_b8 K  M) : J X G M 8 [(0, .ref (ad G 0))] [] := by
  unfold f_X11_session_b8 at h
  refine J.aload_n (q := 9) O dX11_session_8 rfl 0 rfl ?_
  refine J.bipush (q := 11) (v := (-4 : Int32)) O dX11_session_9 rfl rfl ?_
  refine J.callVI (q := 14) [.int (-4 : Int32)] [] [.int (-4 : Int32), .ref (ad G 0)] rfl O dX11_session_11 rfl (c_X11_refuse hG h) wd_3_55 mw_X11_refuse io_0 rfl (by decide) (Nat.le_of_ble_eq_true rfl) (fun v1 M1 h => ?_)
  exact hR _ _ _ _ dX11_session_14 h
set_option maxHeartbeats 4000000 in
set_option maxRecDepth 20000 in
theorem j_X11_session_b34 {X : CX} {G : GX} {K : Int32 → Mem → Prop} (hG : Gd G) (O : Ok X G cX11_session 3 RX11 3) (hR : RetI X G cX11_session K) {M : Mem} (h : f_X11_session_b34 K  M) : J X G M 34 [(0, .ref (ad G 0))] [] := by
  unfold f_X11_session_b34 at h
  refine J.aload_n (q := 35) O dX11_session_34 rfl 0 rfl ?_
  refine J.bipush (q := 37) (v := (-3 : Int32)) O dX11_session_35 rfl rfl ?_
  refine J.callVI (q := 40) [.int (-3 : Int32)] [] [.int (-3 : Int32), .ref (ad G 0)] rfl O dX11_session_37 rfl (c_X11_refuse hG h) wd_3_55 mw_X11_refuse io_0 rfl (by decide) (Nat.le_of_ble_eq_true rfl) (fun v2 M2 h => ?_)
  exact hR _ _ _ _ dX11_session_40 h
set_option maxHeartbeats 4000000 in
set_option maxRecDepth 20000 in
theorem j_X11_session_b95 {X : CX} {G : GX} {K : Int32 → Mem → Prop} (hG : Gd G) (O : Ok X G cX11_session 3 RX11 3) (hR : RetI X G cX11_session K) {s0 : Int32} {s1 : Int32} {s2 : Int32} {M : Mem} (h : f_X11_session_b95 K s0 s1 s2 M) : J X G M 95 [] [.int s0, .int s1, .int s2, .ref (ad G 51)] := by
  unfold f_X11_session_b95 at h
  refine J.callVI (q := 98) [.int s2, .int s1, .int s0] [] [.int s0, .int s1, .int s2, .ref (ad G 51)] rfl O dX11_session_95 rfl (c_X2_meet hG h) wd_4_139 mw_X2_meet io_51 rfl (by decide) (Nat.le_of_ble_eq_true rfl) (fun v3 M3 h => ?_)
  exact hR _ _ _ _ dX11_session_98 h
set_option maxHeartbeats 4000000 in
set_option maxRecDepth 20000 in
theorem c_X11_session {l : Launch} {G : GX} (hG : Gd G) {a1 : Int32} {a2 : Int32} {M : Mem} {K : Int32 → Mem → Prop} (h : f_X11_session a1 a2 M K) : CI l G yX11_session cX11_session 3 (some .int) 3 [.ref (ad G 0), .int a1, .int a2] M K := by
  unfold f_X11_session at h
  refine CI.mk hG (by decide) [(0, .ref (ad G 0)), (1, .int a1), (2, .int a2)] rfl (Nat.le_of_ble_eq_true rfl) (fun X O hlX hR => ?_)
  subst hlX
  refine J.iload_n (q := 1) O dX11_session_0 rfl 1 rfl ?_
  refine J.if_lt (q := 4) (tgt := 8) O dX11_session_1 rfl (by decide) (fun z4 => ?_) (fun z4 => ?_)
  · replace h := h.1 z4
    exact J.sub [0] rfl (j_X11_session_b8 hG O hR h)
  · replace h := h.2 z4
    refine J.iload_n (q := 5) O dX11_session_4 rfl 2 rfl ?_
    refine J.if_ge (q := 8) (tgt := 15) O dX11_session_5 rfl (by decide) (fun z5 => ?_) (fun z5 => ?_)
    · replace h := h.1 z5
      refine J.iload_n (q := 16) O dX11_session_15 rfl 1 rfl ?_
      refine J.aload_n (q := 17) O dX11_session_16 rfl 0 rfl ?_
      refine J.getR (q := 20) (c' := 0) (ci := 11) (k := 0) (r := 1) O dX11_session_17 rfl wd_3_2 (by decide) if_0_0 ?_
      refine J.getI (q := 23) (c' := 1) (ci := 3) (k := 0) (M 1 0) rfl O dX11_session_20 rfl wd_1_31 (by decide) if_1_0 ?_
      refine J.icmp_gt (q := 26) (tgt := 34) O dX11_session_23 rfl (by decide) (fun z6 => ?_) (fun z6 => ?_)
      · replace h := h.1 z6
        exact J.sub [0] rfl (j_X11_session_b34 hG O hR h)
      · replace h := h.2 z6
        refine J.aload_n (q := 27) O dX11_session_26 rfl 0 rfl ?_
        refine J.iload_n (q := 28) O dX11_session_27 rfl 2 rfl ?_
        refine J.callVI (q := 31) [.int a2] [] [.int a2, .ref (ad G 0)] rfl O dX11_session_28 rfl (c_X11_canBePresent hG h) wd_4_135 mw_X11_canBePresent io_0 rfl (by decide) (Nat.le_of_ble_eq_true rfl) (fun v7 M7 h => ?_)
        refine J.if_ne (q := 34) (tgt := 41) O dX11_session_31 rfl (by decide) (fun z8 => ?_) (fun z8 => ?_)
        · replace h := h.1 z8
          refine J.aload_n (q := 42) O dX11_session_41 rfl 0 rfl ?_
          refine J.getR (q := 45) (c' := 0) (ci := 11) (k := 3) (r := 51) O dX11_session_42 rfl wd_3_5 (by decide) if_0_3 ?_
          refine J.getI (q := 48) (c' := 51) (ci := 2) (k := 5) (M7 51 5) rfl O dX11_session_45 rfl wd_1_180 (by decide) if_51_5 ?_
          refine J.bipush (q := 50) (v := (30 : Int32)) O dX11_session_48 rfl rfl ?_
          refine J.icmp_lt (q := 53) (tgt := 60) O dX11_session_50 rfl (by decide) (fun z9 => ?_) (fun z9 => ?_)
          · replace h := h.1 z9
            refine J.aload_n (q := 61) O dX11_session_60 rfl 0 rfl ?_
            refine J.getR (q := 64) (c' := 0) (ci := 11) (k := 3) (r := 51) O dX11_session_61 rfl wd_3_5 (by decide) if_0_3 ?_
            refine J.aload_n (q := 65) O dX11_session_64 rfl 0 rfl ?_
            refine J.getR (q := 68) (c' := 0) (ci := 11) (k := 0) (r := 1) O dX11_session_65 rfl wd_3_2 (by decide) if_0_0 ?_
            refine J.getI (q := 71) (c' := 1) (ci := 3) (k := 0) (M7 1 0) rfl O dX11_session_68 rfl wd_1_31 (by decide) if_1_0 ?_
            refine J.iload_n (q := 72) O dX11_session_71 rfl 2 rfl ?_
            refine J.aload_n (q := 73) O dX11_session_72 rfl 0 rfl ?_
            refine J.getR (q := 76) (c' := 0) (ci := 11) (k := 0) (r := 1) O dX11_session_73 rfl wd_3_2 (by decide) if_0_0 ?_
            refine J.getI (q := 79) (c' := 1) (ci := 3) (k := 0) (M7 1 0) rfl O dX11_session_76 rfl wd_1_31 (by decide) if_1_0 ?_
            refine J.iload_n (q := 80) O dX11_session_79 rfl 1 rfl ?_
            refine J.isub (q := 81) O dX11_session_80 rfl ?_
            refine J.aload_n (q := 82) O dX11_session_81 rfl 0 rfl ?_
            refine J.getR (q := 85) (c' := 0) (ci := 11) (k := 12) (r := 124) O dX11_session_82 rfl wd_3_14 (by decide) if_0_12 ?_
            refine J.iconst (q := 86) (v := (0 : Int32)) O dX11_session_85 rfl rfl ?_
            refine J.iald (q := 87) (c' := 124) (j := 0) (M7 124 0) rfl O dX11_session_86 rfl ar_124 (vin_lit (by decide)) (by decide) ?_
            refine J.icmp_lt (q := 90) (tgt := 94) O dX11_session_87 rfl (by decide) (fun z10 => ?_) (fun z10 => ?_)
            · replace h := h.1 z10
              refine J.iconst (q := 95) (v := (0 : Int32)) O dX11_session_94 rfl rfl ?_
              exact J.sub [] rfl (j_X11_session_b95 hG O hR h)
            · replace h := h.2 z10
              refine J.iconst (q := 91) (v := (1 : Int32)) O dX11_session_90 rfl rfl ?_
              refine J.goto (q := 95) O dX11_session_91 (by decide) ?_
              exact J.sub [] rfl (j_X11_session_b95 hG O hR h)
          · replace h := h.2 z9
            refine J.aload_n (q := 54) O dX11_session_53 rfl 0 rfl ?_
            refine J.bipush (q := 56) (v := (-6 : Int32)) O dX11_session_54 rfl rfl ?_
            refine J.callVI (q := 59) [.int (-6 : Int32)] [] [.int (-6 : Int32), .ref (ad G 0)] rfl O dX11_session_56 rfl (c_X11_refuse hG h) wd_3_55 mw_X11_refuse io_0 rfl (by decide) (Nat.le_of_ble_eq_true rfl) (fun v11 M11 h => ?_)
            exact hR _ _ _ _ dX11_session_59 h
        · replace h := h.2 z8
          exact J.sub [0] rfl (j_X11_session_b34 hG O hR h)
    · replace h := h.2 z5
      exact J.sub [0] rfl (j_X11_session_b8 hG O hR h)
set_option maxHeartbeats 4000000 in
set_option maxRecDepth 20000 in
theorem j_X2_hasSession_b23 {X : CX} {G : GX} {K : Int32 → Mem → Prop} (hG : Gd G) (O : Ok X G cX2_hasSession 2 RX2 1) (hR : RetZ X G cX2_hasSession K) {s0 : Int32} {M : Mem} (h : f_X2_hasSession_b23 K s0 M) : J X G M 23 [] [.int s0] := by
  unfold f_X2_hasSession_b23 at h
  exact hR _ _ _ _ dX2_hasSession_23 h.1 h.2
set_option maxHeartbeats 4000000 in
set_option maxRecDepth 20000 in
theorem j_X2_hasSession_b22 {X : CX} {G : GX} {K : Int32 → Mem → Prop} (hG : Gd G) (O : Ok X G cX2_hasSession 2 RX2 1) (hR : RetZ X G cX2_hasSession K) {M : Mem} (h : f_X2_hasSession_b22 K  M) : J X G M 22 [] [] := by
  unfold f_X2_hasSession_b22 at h
  refine J.iconst (q := 23) (v := (0 : Int32)) O dX2_hasSession_22 rfl rfl ?_
  exact J.sub [] rfl (j_X2_hasSession_b23 hG O hR h)
set_option maxHeartbeats 4000000 in
set_option maxRecDepth 20000 in
theorem c_X2_hasSession {l : Launch} {G : GX} (hG : Gd G) {a1 : Int32} {M : Mem} {K : Int32 → Mem → Prop} (h : f_X2_hasSession a1 M K) : CI l G yX2_hasSession cX2_hasSession 2 (some .boolean) 1 [.ref (ad G 51), .int a1] M K := by
  unfold f_X2_hasSession at h
  refine CZ.mk hG (by decide) [(0, .ref (ad G 51)), (1, .int a1)] rfl (Nat.le_of_ble_eq_true rfl) (fun X O hlX hR => ?_)
  subst hlX
  refine J.iload_n (q := 1) O dX2_hasSession_0 rfl 1 rfl ?_
  refine J.if_lt (q := 4) (tgt := 22) O dX2_hasSession_1 rfl (by decide) (fun z2 => ?_) (fun z2 => ?_)
  · replace h := h.1 z2
    exact J.sub [] rfl (j_X2_hasSession_b22 hG O hR h)
  · replace h := h.2 z2
    refine J.iload_n (q := 5) O dX2_hasSession_4 rfl 1 rfl ?_
    refine J.aload_n (q := 6) O dX2_hasSession_5 rfl 0 rfl ?_
    refine J.getI (q := 9) (c' := 51) (ci := 2) (k := 5) (M 51 5) rfl O dX2_hasSession_6 rfl wd_1_179 (by decide) if_51_5 ?_
    refine J.icmp_ge (q := 12) (tgt := 22) O dX2_hasSession_9 rfl (by decide) (fun z3 => ?_) (fun z3 => ?_)
    · replace h := h.1 z3
      exact J.sub [] rfl (j_X2_hasSession_b22 hG O hR h)
    · replace h := h.2 z3
      refine J.iload_n (q := 13) O dX2_hasSession_12 rfl 1 rfl ?_
      refine J.bipush (q := 15) (v := (30 : Int32)) O dX2_hasSession_13 rfl rfl ?_
      refine J.icmp_ge (q := 18) (tgt := 22) O dX2_hasSession_15 rfl (by decide) (fun z4 => ?_) (fun z4 => ?_)
      · replace h := h.1 z4
        exact J.sub [] rfl (j_X2_hasSession_b22 hG O hR h)
      · replace h := h.2 z4
        refine J.iconst (q := 19) (v := (1 : Int32)) O dX2_hasSession_18 rfl rfl ?_
        refine J.goto (q := 23) O dX2_hasSession_19 (by decide) ?_
        exact J.sub [] rfl (j_X2_hasSession_b23 hG O hR h)
set_option maxHeartbeats 4000000 in
set_option maxRecDepth 20000 in
theorem j_X11_vote_b74 {X : CX} {G : GX} {K : Int32 → Mem → Prop} (hG : Gd G) (O : Ok X G cX11_vote 9 RX11 4) (hR : RetI X G cX11_vote K) {M : Mem} (h : f_X11_vote_b74 K  M) : J X G M 74 [(0, .ref (ad G 0))] [] := by
  unfold f_X11_vote_b74 at h
  refine J.aload_n (q := 75) O dX11_vote_74 rfl 0 rfl ?_
  refine J.bipush (q := 77) (v := (-3 : Int32)) O dX11_vote_75 rfl rfl ?_
  refine J.callVI (q := 80) [.int (-3 : Int32)] [] [.int (-3 : Int32), .ref (ad G 0)] rfl O dX11_vote_77 rfl (c_X11_refuse hG h) wd_3_55 mw_X11_refuse io_0 rfl (by decide) (Nat.le_of_ble_eq_true rfl) (fun v6 M6 h => ?_)
  exact hR _ _ _ _ dX11_vote_80 h
set_option maxHeartbeats 4000000 in
set_option maxRecDepth 20000 in
theorem j_X11_vote_b143 {X : CX} {G : GX} {K : Int32 → Mem → Prop} (hG : Gd G) (O : Ok X G cX11_vote 9 RX11 4) (hR : RetI X G cX11_vote K) {M : Mem} (h : f_X11_vote_b143 K  M) : J X G M 143 [(0, .ref (ad G 0))] [] := by
  unfold f_X11_vote_b143 at h
  refine J.aload_n (q := 144) O dX11_vote_143 rfl 0 rfl ?_
  refine J.bipush (q := 146) (v := (-3 : Int32)) O dX11_vote_144 rfl rfl ?_
  refine J.callVI (q := 149) [.int (-3 : Int32)] [] [.int (-3 : Int32), .ref (ad G 0)] rfl O dX11_vote_146 rfl (c_X11_refuse hG h) wd_3_55 mw_X11_refuse io_0 rfl (by decide) (Nat.le_of_ble_eq_true rfl) (fun v7 M7 h => ?_)
  exact hR _ _ _ _ dX11_vote_149 h
set_option maxHeartbeats 4000000 in
set_option maxRecDepth 20000 in
theorem j_X11_vote_b184 {X : CX} {G : GX} {K : Int32 → Mem → Prop} (hG : Gd G) (O : Ok X G cX11_vote 9 RX11 4) (hR : RetI X G cX11_vote K) {x4 : Nat} {x5 : Int32} {s0 : Int32} {M : Mem} (h : f_X11_vote_b184 K x4 x5 s0 M) : J X G M 184 [(0, .ref (ad G 0)), (4, .ref (ad G x4)), (5, .int x5)] [.int s0] := by
  unfold f_X11_vote_b184 at h
  obtain ⟨hx4, h⟩ := h
  refine J.istore (q := 186) O dX11_vote_184 rfl [(8, .int s0), (0, .ref (ad G 0)), (4, .ref (ad G x4)), (5, .int x5)] (by decide) rfl ?_
  refine J.aload (q := 188) O dX11_vote_186 rfl 2 rfl ?_
  refine J.iconst (q := 189) (v := (3 : Int32)) O dX11_vote_188 rfl rfl ?_
  refine J.iconst (q := 190) (v := (2 : Int32)) O dX11_vote_189 rfl rfl ?_
  refine J.iload (q := 192) O dX11_vote_190 rfl 3 rfl ?_
  refine J.imul (q := 193) O dX11_vote_192 rfl ?_
  refine J.iload (q := 195) O dX11_vote_193 rfl 0 rfl ?_
  refine J.iadd (q := 196) O dX11_vote_195 rfl ?_
  refine J.callVI (q := 199) [.int (3 : Int32), .int (((2 : Int32) * x5) + s0)] [] [.int (((2 : Int32) * x5) + s0), .int (3 : Int32), .ref (ad G x4)] rfl O dX11_vote_196 rfl (c_X5_tell hG h) wd_4_47 mw_X5_tell (isMat_O hx4) rfl (by decide) (Nat.le_of_ble_eq_true rfl) (fun v8 M8 h => ?_)
  refine J.pop (q := 200) O dX11_vote_199 rfl rfl ?_
  refine J.aload_n (q := 201) O dX11_vote_200 rfl 1 rfl ?_
  refine J.getR (q := 204) (c' := 0) (ci := 11) (k := 3) (r := 51) O dX11_vote_201 rfl wd_3_5 (by decide) if_0_3 ?_
  refine J.getR (q := 207) (c' := 51) (ci := 2) (k := 10) (r := 60) O dX11_vote_204 rfl wd_1_190 (by decide) if_51_10 ?_
  refine J.iload (q := 209) O dX11_vote_207 rfl 3 rfl ?_
  refine J.dup2 (q := 210) O dX11_vote_209 rfl rfl rfl ?_
  obtain ⟨hv9, h⟩ := h
  refine J.iald (q := 211) (c' := 60) (j := x5.toNatClampNeg) (M8 60 x5.toNatClampNeg) rfl O dX11_vote_210 rfl ar_60 hv9 rfl ?_
  refine J.iconst (q := 212) (v := (1 : Int32)) O dX11_vote_211 rfl rfl ?_
  refine J.iadd (q := 213) O dX11_vote_212 rfl ?_
  obtain ⟨hv10, h⟩ := h
  refine J.iast (q := 214) (c' := 60) (j := x5.toNatClampNeg) O dX11_vote_213 rfl ar_60 hv10 rfl ?_
  refine J.iload (q := 216) O dX11_vote_214 rfl 0 rfl ?_
  exact hR _ _ _ _ dX11_vote_216 h
set_option maxHeartbeats 4000000 in
set_option maxRecDepth 20000 in
theorem j_X11_vote_b126 {X : CX} {G : GX} {K : Int32 → Mem → Prop} (hG : Gd G) (O : Ok X G cX11_vote 9 RX11 4) (hR : RetI X G cX11_vote K) {x2 : Int32} {x3 : Int32} {x4 : Nat} {x5 : Int32} {x7 : Int32} {M : Mem} (h : f_X11_vote_b126 K x2 x3 x4 x5 x7 M) : J X G M 126 [(0, .ref (ad G 0)), (2, .int x2), (3, .int x3), (4, .ref (ad G x4)), (5, .int x5), (7, .int x7)] [] := by
  unfold f_X11_vote_b126 at h
  obtain ⟨hx4, h⟩ := h
  refine J.iload_n (q := 127) O dX11_vote_126 rfl 1 rfl ?_
  refine J.iload_n (q := 128) O dX11_vote_127 rfl 2 rfl ?_
  refine J.ior (q := 129) O dX11_vote_128 rfl ?_
  refine J.iload (q := 131) O dX11_vote_129 rfl 5 rfl ?_
  refine J.iconst (q := 132) (v := (-1 : Int32)) O dX11_vote_131 rfl rfl ?_
  refine J.ixor (q := 133) O dX11_vote_132 rfl ?_
  refine J.iand (q := 134) O dX11_vote_133 rfl ?_
  refine J.if_ne (q := 137) (tgt := 143) O dX11_vote_134 rfl (by decide) (fun z11 => ?_) (fun z11 => ?_)
  · replace h := h.1 z11
    exact J.sub [0] rfl (j_X11_vote_b143 hG O hR h)
  · replace h := h.2 z11
    refine J.iload_n (q := 138) O dX11_vote_137 rfl 1 rfl ?_
    refine J.iload_n (q := 139) O dX11_vote_138 rfl 2 rfl ?_
    refine J.iand (q := 140) O dX11_vote_139 rfl ?_
    refine J.if_eq (q := 143) (tgt := 150) O dX11_vote_140 rfl (by decide) (fun z12 => ?_) (fun z12 => ?_)
    · replace h := h.1 z12
      refine J.aload (q := 152) O dX11_vote_150 rfl 3 rfl ?_
      refine J.callVI (q := 155) [] [] [.ref (ad G x4)] rfl O dX11_vote_152 rfl (c_X5_isFull hG h) wd_4_43 mw_X5_isFull (isMat_O hx4) rfl (by decide) (Nat.le_of_ble_eq_true rfl) (fun v13 M13 h => ?_)
      refine J.if_eq (q := 158) (tgt := 165) O dX11_vote_155 rfl (by decide) (fun z14 => ?_) (fun z14 => ?_)
      · replace h := h.1 z14
        refine J.iconst (q := 166) (v := (2 : Int32)) O dX11_vote_165 rfl rfl ?_
        refine J.iload_n (q := 167) O dX11_vote_166 rfl 1 rfl ?_
        refine J.callSI (q := 170) [.int x2] [.int (2 : Int32)] [.int x2, .int (2 : Int32)] rfl O dX11_vote_167 rfl (c_J6_bitCount_0f7a4 hG h) wd_3_222 mw_J6_bitCount_0f7a4 rfl (by decide) (Nat.le_of_ble_eq_true rfl) (fun v15 M15 h => ?_)
        refine J.imul (q := 171) O dX11_vote_170 rfl ?_
        refine J.iload (q := 173) O dX11_vote_171 rfl 5 rfl ?_
        refine J.callSI (q := 176) [.int x7] [.int ((2 : Int32) * v15)] [.int x7, .int ((2 : Int32) * v15)] rfl O dX11_vote_173 rfl (c_J6_bitCount_0f7a4 hG h) wd_3_222 mw_J6_bitCount_0f7a4 rfl (by decide) (Nat.le_of_ble_eq_true rfl) (fun v16 M16 h => ?_)
        refine J.icmp_le (q := 179) (tgt := 183) O dX11_vote_176 rfl (by decide) (fun z17 => ?_) (fun z17 => ?_)
        · replace h := h.1 z17
          refine J.iconst (q := 184) (v := (0 : Int32)) O dX11_vote_183 rfl rfl ?_
          exact J.sub [0, 3, 4] rfl (j_X11_vote_b184 hG O hR h)
        · replace h := h.2 z17
          refine J.iconst (q := 180) (v := (1 : Int32)) O dX11_vote_179 rfl rfl ?_
          refine J.goto (q := 184) O dX11_vote_180 (by decide) ?_
          exact J.sub [0, 3, 4] rfl (j_X11_vote_b184 hG O hR h)
      · replace h := h.2 z14
        refine J.aload_n (q := 159) O dX11_vote_158 rfl 0 rfl ?_
        refine J.bipush (q := 161) (v := (-6 : Int32)) O dX11_vote_159 rfl rfl ?_
        refine J.callVI (q := 164) [.int (-6 : Int32)] [] [.int (-6 : Int32), .ref (ad G 0)] rfl O dX11_vote_161 rfl (c_X11_refuse hG h) wd_3_55 mw_X11_refuse io_0 rfl (by decide) (Nat.le_of_ble_eq_true rfl) (fun v18 M18 h => ?_)
        exact hR _ _ _ _ dX11_vote_164 h
    · replace h := h.2 z12
      exact J.sub [0] rfl (j_X11_vote_b143 hG O hR h)
set_option maxHeartbeats 4000000 in
set_option maxRecDepth 20000 in
theorem c_X11_vote {l : Launch} {G : GX} (hG : Gd G) {a1 : Int32} {a2 : Int32} {a3 : Int32} {M : Mem} {K : Int32 → Mem → Prop} (h : f_X11_vote a1 a2 a3 M K) : CI l G yX11_vote cX11_vote 9 (some .int) 4 [.ref (ad G 0), .int a1, .int a2, .int a3] M K := by
  unfold f_X11_vote at h
  refine CI.mk hG (by decide) [(0, .ref (ad G 0)), (1, .int a1), (2, .int a2), (3, .int a3)] rfl (Nat.le_of_ble_eq_true rfl) (fun X O hlX hR => ?_)
  subst hlX
  refine J.aload_n (q := 1) O dX11_vote_0 rfl 0 rfl ?_
  refine J.iload_n (q := 2) O dX11_vote_1 rfl 1 rfl ?_
  refine J.callVI (q := 5) [.int a1] [] [.int a1, .ref (ad G 0)] rfl O dX11_vote_2 rfl (c_X11_isMatter hG h) wd_4_31 mw_X11_isMatter io_0 rfl (by decide) (Nat.le_of_ble_eq_true rfl) (fun v19 M19 h => ?_)
  refine J.if_ne (q := 8) (tgt := 14) O dX11_vote_5 rfl (by decide) (fun z20 => ?_) (fun z20 => ?_)
  · replace h := h.1 z20
    refine J.aload_n (q := 15) O dX11_vote_14 rfl 0 rfl ?_
    refine J.getR (q := 18) (c' := 0) (ci := 11) (k := 4) (r := 61) O dX11_vote_15 rfl wd_3_6 (by decide) if_0_4 ?_
    refine J.iload_n (q := 19) O dX11_vote_18 rfl 1 rfl ?_
    obtain ⟨hv21, h⟩ := h
    refine J.aald (q := 20) (t := 0) (c' := 61) (b := 127) (d := 4) O dX11_vote_19 rfl ar_61 hv21 ?_
    refine J.astore (q := 22) O dX11_vote_20 rfl [(4, .ref (ad G (127 + 4 * a1.toNatClampNeg))), (0, .ref (ad G 0)), (1, .int a1), (2, .int a2), (3, .int a3)] (by decide) rfl ?_
    refine J.aload_n (q := 23) O dX11_vote_22 rfl 1 rfl ?_
    refine J.getR (q := 26) (c' := 0) (ci := 11) (k := 3) (r := 51) O dX11_vote_23 rfl wd_3_5 (by decide) if_0_3 ?_
    refine J.getI (q := 29) (c' := 51) (ci := 2) (k := 5) (M19 51 5) rfl O dX11_vote_26 rfl wd_1_180 (by decide) if_51_5 ?_
    refine J.iconst (q := 30) (v := (1 : Int32)) O dX11_vote_29 rfl rfl ?_
    refine J.isub (q := 31) O dX11_vote_30 rfl ?_
    refine J.istore (q := 33) O dX11_vote_31 rfl [(5, .int ((M19 51 5) - (1 : Int32))), (4, .ref (ad G (127 + 4 * a1.toNatClampNeg))), (0, .ref (ad G 0)), (1, .int a1), (2, .int a2), (3, .int a3)] (by decide) rfl ?_
    refine J.aload_n (q := 34) O dX11_vote_33 rfl 2 rfl ?_
    refine J.getR (q := 37) (c' := 0) (ci := 11) (k := 3) (r := 51) O dX11_vote_34 rfl wd_3_5 (by decide) if_0_3 ?_
    refine J.iload (q := 39) O dX11_vote_37 rfl 0 rfl ?_
    refine J.callVI (q := 42) [.int ((M19 51 5) - (1 : Int32))] [] [.int ((M19 51 5) - (1 : Int32)), .ref (ad G 51)] rfl O dX11_vote_39 rfl (c_X2_hasSession hG h) wd_4_149 mw_X2_hasSession io_51 rfl (by decide) (Nat.le_of_ble_eq_true rfl) (fun v22 M22 h => ?_)
    refine J.if_eq (q := 45) (tgt := 74) O dX11_vote_42 rfl (by decide) (fun z23 => ?_) (fun z23 => ?_)
    · replace h := h.1 z23
      exact J.sub [2] rfl (j_X11_vote_b74 hG O hR h)
    · replace h := h.2 z23
      refine J.aload_n (q := 46) O dX11_vote_45 rfl 2 rfl ?_
      refine J.getR (q := 49) (c' := 0) (ci := 11) (k := 3) (r := 51) O dX11_vote_46 rfl wd_3_5 (by decide) if_0_3 ?_
      refine J.getR (q := 52) (c' := 51) (ci := 2) (k := 6) (r := 56) O dX11_vote_49 rfl wd_1_182 (by decide) if_51_6 ?_
      refine J.iload (q := 54) O dX11_vote_52 rfl 0 rfl ?_
      obtain ⟨hv24, h⟩ := h
      refine J.iald (q := 55) (c' := 56) (j := ((M19 51 5) - (1 : Int32)).toNatClampNeg) (M22 56 (((M19 51 5) - (1 : Int32)).toNatClampNeg)) rfl O dX11_vote_54 rfl ar_56 hv24 rfl ?_
      refine J.aload_n (q := 56) O dX11_vote_55 rfl 2 rfl ?_
      refine J.getR (q := 59) (c' := 0) (ci := 11) (k := 0) (r := 1) O dX11_vote_56 rfl wd_3_2 (by decide) if_0_0 ?_
      refine J.getI (q := 62) (c' := 1) (ci := 3) (k := 0) (M22 1 0) rfl O dX11_vote_59 rfl wd_1_31 (by decide) if_1_0 ?_
      refine J.icmp_ne (q := 65) (tgt := 74) O dX11_vote_62 rfl (by decide) (fun z25 => ?_) (fun z25 => ?_)
      · replace h := h.1 z25
        exact J.sub [2] rfl (j_X11_vote_b74 hG O hR h)
      · replace h := h.2 z25
        refine J.aload (q := 67) O dX11_vote_65 rfl 1 rfl ?_
        refine J.getI (q := 70) (c' := (127 + 4 * a1.toNatClampNeg)) (ci := 5) (k := 7) (M22 (127 + 4 * a1.toNatClampNeg) 7) rfl O dX11_vote_67 rfl wd_2_202 (by decide) (isMat_F (isMat_of hv21) rfl) ?_
        refine J.iconst (q := 71) (v := (2 : Int32)) O dX11_vote_70 rfl rfl ?_
        refine J.icmp_ge (q := 74) (tgt := 81) O dX11_vote_71 rfl (by decide) (fun z26 => ?_) (fun z26 => ?_)
        · replace h := h.1 z26
          refine J.aload (q := 83) O dX11_vote_81 rfl 1 rfl ?_
          refine J.aload_n (q := 84) O dX11_vote_83 rfl 2 rfl ?_
          refine J.getR (q := 87) (c' := 0) (ci := 11) (k := 0) (r := 1) O dX11_vote_84 rfl wd_3_2 (by decide) if_0_0 ?_
          refine J.getI (q := 90) (c' := 1) (ci := 3) (k := 0) (M22 1 0) rfl O dX11_vote_87 rfl wd_1_31 (by decide) if_1_0 ?_
          refine J.aload_n (q := 91) O dX11_vote_90 rfl 2 rfl ?_
          refine J.getR (q := 94) (c' := 0) (ci := 11) (k := 0) (r := 1) O dX11_vote_91 rfl wd_3_2 (by decide) if_0_0 ?_
          refine J.getI (q := 97) (c' := 1) (ci := 3) (k := 0) (M22 1 0) rfl O dX11_vote_94 rfl wd_1_31 (by decide) if_1_0 ?_
          refine J.callVI (q := 100) [.int (M22 1 0), .int (M22 1 0)] [] [.int (M22 1 0), .int (M22 1 0), .ref (ad G (127 + 4 * a1.toNatClampNeg))] rfl O dX11_vote_97 rfl (c_X5_stateOn hG h) wd_4_59 mw_X5_stateOn (isMat_O (isMat_of hv21)) rfl (by decide) (Nat.le_of_ble_eq_true rfl) (fun v27 M27 h => ?_)
          refine J.istore (q := 102) O dX11_vote_100 rfl [(6, .int v27), (5, .int ((M19 51 5) - (1 : Int32))), (4, .ref (ad G (127 + 4 * a1.toNatClampNeg))), (0, .ref (ad G 0)), (1, .int a1), (2, .int a2), (3, .int a3)] (by decide) rfl ?_
          refine J.aload_n (q := 103) O dX11_vote_102 rfl 3 rfl ?_
          refine J.getR (q := 106) (c' := 0) (ci := 11) (k := 3) (r := 51) O dX11_vote_103 rfl wd_3_5 (by decide) if_0_3 ?_
          refine J.getR (q := 109) (c' := 51) (ci := 2) (k := 7) (r := 57) O dX11_vote_106 rfl wd_1_184 (by decide) if_51_7 ?_
          refine J.iload (q := 111) O dX11_vote_109 rfl 1 rfl ?_
          obtain ⟨hv28, h⟩ := h
          refine J.iald (q := 112) (c' := 57) (j := ((M19 51 5) - (1 : Int32)).toNatClampNeg) (M27 57 (((M19 51 5) - (1 : Int32)).toNatClampNeg)) rfl O dX11_vote_111 rfl ar_57 hv28 rfl ?_
          refine J.istore (q := 114) O dX11_vote_112 rfl [(7, .int (M27 57 (((M19 51 5) - (1 : Int32)).toNatClampNeg))), (6, .int v27), (5, .int ((M19 51 5) - (1 : Int32))), (4, .ref (ad G (127 + 4 * a1.toNatClampNeg))), (0, .ref (ad G 0)), (1, .int a1), (2, .int a2), (3, .int a3)] (by decide) rfl ?_
          refine J.iload (q := 116) O dX11_vote_114 rfl 1 rfl ?_
          refine J.iconst (q := 117) (v := (2 : Int32)) O dX11_vote_116 rfl rfl ?_
          refine J.icmp_eq (q := 120) (tgt := 126) O dX11_vote_117 rfl (by decide) (fun z29 => ?_) (fun z29 => ?_)
          · replace h := h.1 z29
            exact J.sub [4, 6, 7, 3, 2, 0] rfl (j_X11_vote_b126 hG O hR h)
          · replace h := h.2 z29
            refine J.iload (q := 122) O dX11_vote_120 rfl 1 rfl ?_
            refine J.iconst (q := 123) (v := (3 : Int32)) O dX11_vote_122 rfl rfl ?_
            refine J.icmp_ne (q := 126) (tgt := 143) O dX11_vote_123 rfl (by decide) (fun z30 => ?_) (fun z30 => ?_)
            · replace h := h.1 z30
              exact J.sub [4] rfl (j_X11_vote_b143 hG O hR h)
            · replace h := h.2 z30
              exact J.sub [4, 6, 7, 3, 2, 0] rfl (j_X11_vote_b126 hG O hR h)
        · replace h := h.2 z26
          exact J.sub [2] rfl (j_X11_vote_b74 hG O hR h)
  · replace h := h.2 z20
    refine J.aload_n (q := 9) O dX11_vote_8 rfl 0 rfl ?_
    refine J.iconst (q := 10) (v := (-1 : Int32)) O dX11_vote_9 rfl rfl ?_
    refine J.callVI (q := 13) [.int (-1 : Int32)] [] [.int (-1 : Int32), .ref (ad G 0)] rfl O dX11_vote_10 rfl (c_X11_refuse hG h) wd_3_55 mw_X11_refuse io_0 rfl (by decide) (Nat.le_of_ble_eq_true rfl) (fun v31 M31 h => ?_)
    exact hR _ _ _ _ dX11_vote_13 h
set_option maxHeartbeats 4000000 in
set_option maxRecDepth 20000 in
theorem j_X11_sessionOf_b85 {X : CX} {G : GX} {K : Int32 → Mem → Prop} (hG : Gd G) (O : Ok X G cX11_sessionOf 3 RX11 2) (hR : RetI X G cX11_sessionOf K) {s0 : Int32} {M : Mem} (h : f_X11_sessionOf_b85 K s0 M) : J X G M 85 [] [.int s0] := by
  unfold f_X11_sessionOf_b85 at h
  exact hR _ _ _ _ dX11_sessionOf_85 h
set_option maxHeartbeats 4000000 in
set_option maxRecDepth 20000 in
theorem j_X11_sessionOf_b105 {X : CX} {G : GX} {K : Int32 → Mem → Prop} (hG : Gd G) (O : Ok X G cX11_sessionOf 3 RX11 2) (hR : RetI X G cX11_sessionOf K) {s0 : Int32} {M : Mem} (h : f_X11_sessionOf_b105 K s0 M) : J X G M 105 [] [.int s0] := by
  unfold f_X11_sessionOf_b105 at h
  exact hR _ _ _ _ dX11_sessionOf_105 h
set_option maxHeartbeats 4000000 in
set_option maxRecDepth 20000 in
theorem c_X11_sessionOf {l : Launch} {G : GX} (hG : Gd G) {a1 : Int32} {a2 : Int32} {M : Mem} {K : Int32 → Mem → Prop} (h : f_X11_sessionOf a1 a2 M K) : CI l G yX11_sessionOf cX11_sessionOf 3 (some .int) 2 [.ref (ad G 0), .int a1, .int a2] M K := by
  unfold f_X11_sessionOf at h
  refine CI.mk hG (by decide) [(0, .ref (ad G 0)), (1, .int a1), (2, .int a2)] rfl (Nat.le_of_ble_eq_true rfl) (fun X O hlX hR => ?_)
  subst hlX
  refine J.aload_n (q := 1) O dX11_sessionOf_0 rfl 0 rfl ?_
  refine J.getR (q := 4) (c' := 0) (ci := 11) (k := 3) (r := 51) O dX11_sessionOf_1 rfl wd_3_5 (by decide) if_0_3 ?_
  refine J.iload_n (q := 5) O dX11_sessionOf_4 rfl 1 rfl ?_
  refine J.callVI (q := 8) [.int a1] [] [.int a1, .ref (ad G 51)] rfl O dX11_sessionOf_5 rfl (c_X2_hasSession hG h) wd_4_149 mw_X2_hasSession io_51 rfl (by decide) (Nat.le_of_ble_eq_true rfl) (fun v5 M5 h => ?_)
  refine J.if_ne (q := 11) (tgt := 17) O dX11_sessionOf_8 rfl (by decide) (fun z6 => ?_) (fun z6 => ?_)
  · replace h := h.1 z6
    refine J.iload_n (q := 18) O dX11_sessionOf_17 rfl 2 rfl ?_
    rcases tsw_cov a2 (0) 3 (by decide) with z8 | ⟨j, hj, z8⟩
    · replace h := h.1 (by omega)
      refine J.tswOut (q := 106) O dX11_sessionOf_18 (by omega) (by decide) ?_
      refine J.aload_n (q := 107) O dX11_sessionOf_106 rfl 0 rfl ?_
      refine J.bipush (q := 109) (v := (-2 : Int32)) O dX11_sessionOf_107 rfl rfl ?_
      refine J.callVI (q := 112) [.int (-2 : Int32)] [] [.int (-2 : Int32), .ref (ad G 0)] rfl O dX11_sessionOf_109 rfl (c_X11_refuse hG h) wd_3_55 mw_X11_refuse io_0 rfl (by decide) (Nat.le_of_ble_eq_true rfl) (fun v7 M7 h => ?_)
      exact hR _ _ _ _ dX11_sessionOf_112 h
    · match j, hj, z8 with
      | 0, _, z8 =>
        have z8 : a2 = (0 : Int32) := z8.trans (by decide)
        replace h := h.2.1 z8
        refine J.tswIn (q := 48) O dX11_sessionOf_18 (0 : Int32) z8 (by decide) (by decide) rfl (by decide) ?_
        refine J.aload_n (q := 49) O dX11_sessionOf_48 rfl 0 rfl ?_
        refine J.getR (q := 52) (c' := 0) (ci := 11) (k := 3) (r := 51) O dX11_sessionOf_49 rfl wd_3_5 (by decide) if_0_3 ?_
        refine J.getR (q := 55) (c' := 51) (ci := 2) (k := 6) (r := 56) O dX11_sessionOf_52 rfl wd_1_182 (by decide) if_51_6 ?_
        refine J.iload_n (q := 56) O dX11_sessionOf_55 rfl 1 rfl ?_
        obtain ⟨hv9, h⟩ := h
        refine J.iald (q := 57) (c' := 56) (j := a1.toNatClampNeg) (M5 56 a1.toNatClampNeg) rfl O dX11_sessionOf_56 rfl ar_56 hv9 rfl ?_
        exact hR _ _ _ _ dX11_sessionOf_57 h
      | 1, _, z8 =>
        have z8 : a2 = (1 : Int32) := z8.trans (by decide)
        replace h := h.2.2.1 z8
        refine J.tswIn (q := 58) O dX11_sessionOf_18 (1 : Int32) z8 (by decide) (by decide) rfl (by decide) ?_
        refine J.aload_n (q := 59) O dX11_sessionOf_58 rfl 0 rfl ?_
        refine J.getR (q := 62) (c' := 0) (ci := 11) (k := 3) (r := 51) O dX11_sessionOf_59 rfl wd_3_5 (by decide) if_0_3 ?_
        refine J.getR (q := 65) (c' := 51) (ci := 2) (k := 7) (r := 57) O dX11_sessionOf_62 rfl wd_1_184 (by decide) if_51_7 ?_
        refine J.iload_n (q := 66) O dX11_sessionOf_65 rfl 1 rfl ?_
        obtain ⟨hv10, h⟩ := h
        refine J.iald (q := 67) (c' := 57) (j := a1.toNatClampNeg) (M5 57 a1.toNatClampNeg) rfl O dX11_sessionOf_66 rfl ar_57 hv10 rfl ?_
        exact hR _ _ _ _ dX11_sessionOf_67 h
      | 2, _, z8 =>
        have z8 : a2 = (2 : Int32) := z8.trans (by decide)
        replace h := h.2.2.2.1 z8
        refine J.tswIn (q := 68) O dX11_sessionOf_18 (2 : Int32) z8 (by decide) (by decide) rfl (by decide) ?_
        refine J.aload_n (q := 69) O dX11_sessionOf_68 rfl 0 rfl ?_
        refine J.getR (q := 72) (c' := 0) (ci := 11) (k := 3) (r := 51) O dX11_sessionOf_69 rfl wd_3_5 (by decide) if_0_3 ?_
        refine J.getR (q := 75) (c' := 51) (ci := 2) (k := 8) (r := 58) O dX11_sessionOf_72 rfl wd_1_186 (by decide) if_51_8 ?_
        refine J.iload_n (q := 76) O dX11_sessionOf_75 rfl 1 rfl ?_
        obtain ⟨hv11, h⟩ := h
        refine J.zald (q := 77) (c' := 58) (j := a1.toNatClampNeg) (M5 58 a1.toNatClampNeg) rfl O dX11_sessionOf_76 rfl ar_58 hv11 rfl ?_
        refine J.if_eq (q := 80) (tgt := 84) O dX11_sessionOf_77 rfl (by decide) (fun z12 => ?_) (fun z12 => ?_)
        · replace h := h.1 z12
          refine J.iconst (q := 85) (v := (0 : Int32)) O dX11_sessionOf_84 rfl rfl ?_
          exact J.sub [] rfl (j_X11_sessionOf_b85 hG O hR h)
        · replace h := h.2 z12
          refine J.iconst (q := 81) (v := (1 : Int32)) O dX11_sessionOf_80 rfl rfl ?_
          refine J.goto (q := 85) O dX11_sessionOf_81 (by decide) ?_
          exact J.sub [] rfl (j_X11_sessionOf_b85 hG O hR h)
      | 3, _, z8 =>
        have z8 : a2 = (3 : Int32) := z8.trans (by decide)
        replace h := h.2.2.2.2 z8
        refine J.tswIn (q := 86) O dX11_sessionOf_18 (3 : Int32) z8 (by decide) (by decide) rfl (by decide) ?_
        refine J.aload_n (q := 87) O dX11_sessionOf_86 rfl 0 rfl ?_
        refine J.getR (q := 90) (c' := 0) (ci := 11) (k := 3) (r := 51) O dX11_sessionOf_87 rfl wd_3_5 (by decide) if_0_3 ?_
        refine J.getR (q := 93) (c' := 51) (ci := 2) (k := 9) (r := 59) O dX11_sessionOf_90 rfl wd_1_188 (by decide) if_51_9 ?_
        refine J.iload_n (q := 94) O dX11_sessionOf_93 rfl 1 rfl ?_
        obtain ⟨hv13, h⟩ := h
        refine J.iald (q := 95) (c' := 59) (j := a1.toNatClampNeg) (M5 59 a1.toNatClampNeg) rfl O dX11_sessionOf_94 rfl ar_59 hv13 rfl ?_
        refine J.ldc (q := 97) O dX11_sessionOf_95 rfl wd_3_203 ?_
        refine J.icmp_eq (q := 100) (tgt := 104) O dX11_sessionOf_97 rfl (by decide) (fun z14 => ?_) (fun z14 => ?_)
        · replace h := h.1 z14
          refine J.iconst (q := 105) (v := (0 : Int32)) O dX11_sessionOf_104 rfl rfl ?_
          exact J.sub [] rfl (j_X11_sessionOf_b105 hG O hR h)
        · replace h := h.2 z14
          refine J.iconst (q := 101) (v := (1 : Int32)) O dX11_sessionOf_100 rfl rfl ?_
          refine J.goto (q := 105) O dX11_sessionOf_101 (by decide) ?_
          exact J.sub [] rfl (j_X11_sessionOf_b105 hG O hR h)
      | j + 4, hj, _ => exact absurd hj (by omega)
  · replace h := h.2 z6
    refine J.aload_n (q := 12) O dX11_sessionOf_11 rfl 0 rfl ?_
    refine J.iconst (q := 13) (v := (-1 : Int32)) O dX11_sessionOf_12 rfl rfl ?_
    refine J.callVI (q := 16) [.int (-1 : Int32)] [] [.int (-1 : Int32), .ref (ad G 0)] rfl O dX11_sessionOf_13 rfl (c_X11_refuse hG h) wd_3_55 mw_X11_refuse io_0 rfl (by decide) (Nat.le_of_ble_eq_true rfl) (fun v15 M15 h => ?_)
    exact hR _ _ _ _ dX11_sessionOf_16 h
set_option maxHeartbeats 4000000 in
set_option maxRecDepth 20000 in
theorem j_X11_voids_b43 {X : CX} {G : GX} {K : Int32 → Mem → Prop} (hG : Gd G) (O : Ok X G cX11_voids 2 RX11 2) (hR : RetI X G cX11_voids K) {M : Mem} (h : f_X11_voids_b43 K  M) : J X G M 43 [(0, .ref (ad G 0))] [] := by
  unfold f_X11_voids_b43 at h
  refine J.aload_n (q := 44) O dX11_voids_43 rfl 0 rfl ?_
  refine J.bipush (q := 46) (v := (-3 : Int32)) O dX11_voids_44 rfl rfl ?_
  refine J.callVI (q := 49) [.int (-3 : Int32)] [] [.int (-3 : Int32), .ref (ad G 0)] rfl O dX11_voids_46 rfl (c_X11_refuse hG h) wd_3_55 mw_X11_refuse io_0 rfl (by decide) (Nat.le_of_ble_eq_true rfl) (fun v5 M5 h => ?_)
  exact hR _ _ _ _ dX11_voids_49 h
set_option maxHeartbeats 4000000 in
set_option maxRecDepth 20000 in
theorem c_X11_voids {l : Launch} {G : GX} (hG : Gd G) {a1 : Int32} {M : Mem} {K : Int32 → Mem → Prop} (h : f_X11_voids a1 M K) : CI l G yX11_voids cX11_voids 2 (some .int) 2 [.ref (ad G 0), .int a1] M K := by
  unfold f_X11_voids at h
  refine CI.mk hG (by decide) [(0, .ref (ad G 0)), (1, .int a1)] rfl (Nat.le_of_ble_eq_true rfl) (fun X O hlX hR => ?_)
  subst hlX
  refine J.aload_n (q := 1) O dX11_voids_0 rfl 0 rfl ?_
  refine J.getR (q := 4) (c' := 0) (ci := 11) (k := 3) (r := 51) O dX11_voids_1 rfl wd_3_5 (by decide) if_0_3 ?_
  refine J.iload_n (q := 5) O dX11_voids_4 rfl 1 rfl ?_
  refine J.callVI (q := 8) [.int a1] [] [.int a1, .ref (ad G 51)] rfl O dX11_voids_5 rfl (c_X2_hasSession hG h) wd_4_149 mw_X2_hasSession io_51 rfl (by decide) (Nat.le_of_ble_eq_true rfl) (fun v6 M6 h => ?_)
  refine J.if_ne (q := 11) (tgt := 17) O dX11_voids_8 rfl (by decide) (fun z7 => ?_) (fun z7 => ?_)
  · replace h := h.1 z7
    refine J.aload_n (q := 18) O dX11_voids_17 rfl 0 rfl ?_
    refine J.getR (q := 21) (c' := 0) (ci := 11) (k := 3) (r := 51) O dX11_voids_18 rfl wd_3_5 (by decide) if_0_3 ?_
    refine J.getR (q := 24) (c' := 51) (ci := 2) (k := 8) (r := 58) O dX11_voids_21 rfl wd_1_186 (by decide) if_51_8 ?_
    refine J.iload_n (q := 25) O dX11_voids_24 rfl 1 rfl ?_
    obtain ⟨hv8, h⟩ := h
    refine J.zald (q := 26) (c' := 58) (j := a1.toNatClampNeg) (M6 58 a1.toNatClampNeg) rfl O dX11_voids_25 rfl ar_58 hv8 rfl ?_
    refine J.if_ne (q := 29) (tgt := 43) O dX11_voids_26 rfl (by decide) (fun z9 => ?_) (fun z9 => ?_)
    · replace h := h.1 z9
      exact J.sub [0] rfl (j_X11_voids_b43 hG O hR h)
    · replace h := h.2 z9
      refine J.aload_n (q := 30) O dX11_voids_29 rfl 0 rfl ?_
      refine J.getR (q := 33) (c' := 0) (ci := 11) (k := 3) (r := 51) O dX11_voids_30 rfl wd_3_5 (by decide) if_0_3 ?_
      refine J.getR (q := 36) (c' := 51) (ci := 2) (k := 9) (r := 59) O dX11_voids_33 rfl wd_1_188 (by decide) if_51_9 ?_
      refine J.iload_n (q := 37) O dX11_voids_36 rfl 1 rfl ?_
      obtain ⟨hv10, h⟩ := h
      refine J.iald (q := 38) (c' := 59) (j := a1.toNatClampNeg) (M6 59 a1.toNatClampNeg) rfl O dX11_voids_37 rfl ar_59 hv10 rfl ?_
      refine J.ldc (q := 40) O dX11_voids_38 rfl wd_3_203 ?_
      refine J.icmp_eq (q := 43) (tgt := 50) O dX11_voids_40 rfl (by decide) (fun z11 => ?_) (fun z11 => ?_)
      · replace h := h.1 z11
        refine J.aload_n (q := 51) O dX11_voids_50 rfl 0 rfl ?_
        refine J.getR (q := 54) (c' := 0) (ci := 11) (k := 3) (r := 51) O dX11_voids_51 rfl wd_3_5 (by decide) if_0_3 ?_
        refine J.getR (q := 57) (c' := 51) (ci := 2) (k := 9) (r := 59) O dX11_voids_54 rfl wd_1_188 (by decide) if_51_9 ?_
        refine J.iload_n (q := 58) O dX11_voids_57 rfl 1 rfl ?_
        refine J.aload_n (q := 59) O dX11_voids_58 rfl 0 rfl ?_
        refine J.getR (q := 62) (c' := 0) (ci := 11) (k := 0) (r := 1) O dX11_voids_59 rfl wd_3_2 (by decide) if_0_0 ?_
        refine J.getI (q := 65) (c' := 1) (ci := 3) (k := 0) (M6 1 0) rfl O dX11_voids_62 rfl wd_1_31 (by decide) if_1_0 ?_
        obtain ⟨hv12, h⟩ := h
        refine J.iast (q := 66) (c' := 59) (j := a1.toNatClampNeg) O dX11_voids_65 rfl ar_59 hv12 rfl ?_
        refine J.aload_n (q := 67) O dX11_voids_66 rfl 0 rfl ?_
        refine J.getR (q := 70) (c' := 0) (ci := 11) (k := 3) (r := 51) O dX11_voids_67 rfl wd_3_5 (by decide) if_0_3 ?_
        refine J.getR (q := 73) (c' := 51) (ci := 2) (k := 10) (r := 60) O dX11_voids_70 rfl wd_1_190 (by decide) if_51_10 ?_
        refine J.iload_n (q := 74) O dX11_voids_73 rfl 1 rfl ?_
        obtain ⟨hv13, h⟩ := h
        refine J.iald (q := 75) (c' := 60) (j := a1.toNatClampNeg) (M6 60 a1.toNatClampNeg) rfl O dX11_voids_74 rfl ar_60 hv13 rfl ?_
        exact hR _ _ _ _ dX11_voids_75 h
      · replace h := h.2 z11
        exact J.sub [0] rfl (j_X11_voids_b43 hG O hR h)
  · replace h := h.2 z7
    refine J.aload_n (q := 12) O dX11_voids_11 rfl 0 rfl ?_
    refine J.iconst (q := 13) (v := (-1 : Int32)) O dX11_voids_12 rfl rfl ?_
    refine J.callVI (q := 16) [.int (-1 : Int32)] [] [.int (-1 : Int32), .ref (ad G 0)] rfl O dX11_voids_13 rfl (c_X11_refuse hG h) wd_3_55 mw_X11_refuse io_0 rfl (by decide) (Nat.le_of_ble_eq_true rfl) (fun v14 M14 h => ?_)
    exact hR _ _ _ _ dX11_voids_16 h
set_option maxHeartbeats 4000000 in
set_option maxRecDepth 20000 in
theorem j_X11_set_b9 {X : CX} {G : GX} {K : Int32 → Mem → Prop} (hG : Gd G) (O : Ok X G cX11_set 5 RX11 2) (hR : RetI X G cX11_set K) {M : Mem} (h : f_X11_set_b9 K  M) : J X G M 9 [(0, .ref (ad G 0))] [] := by
  unfold f_X11_set_b9 at h
  refine J.aload_n (q := 10) O dX11_set_9 rfl 0 rfl ?_
  refine J.bipush (q := 12) (v := (-2 : Int32)) O dX11_set_10 rfl rfl ?_
  refine J.callVI (q := 15) [.int (-2 : Int32)] [] [.int (-2 : Int32), .ref (ad G 0)] rfl O dX11_set_12 rfl (c_X11_refuse hG h) wd_3_55 mw_X11_refuse io_0 rfl (by decide) (Nat.le_of_ble_eq_true rfl) (fun v5 M5 h => ?_)
  exact hR _ _ _ _ dX11_set_15 h
set_option maxHeartbeats 4000000 in
set_option maxRecDepth 20000 in
theorem c_X11_set {l : Launch} {G : GX} (hG : Gd G) {a1 : Int32} {a2 : Int32} {M : Mem} {K : Int32 → Mem → Prop} (h : f_X11_set a1 a2 M K) : CI l G yX11_set cX11_set 5 (some .int) 2 [.ref (ad G 0), .int a1, .int a2] M K := by
  unfold f_X11_set at h
  refine CI.mk hG (by decide) [(0, .ref (ad G 0)), (1, .int a1), (2, .int a2)] rfl (Nat.le_of_ble_eq_true rfl) (fun X O hlX hR => ?_)
  subst hlX
  refine J.iload_n (q := 1) O dX11_set_0 rfl 1 rfl ?_
  refine J.if_lt (q := 4) (tgt := 9) O dX11_set_1 rfl (by decide) (fun z6 => ?_) (fun z6 => ?_)
  · replace h := h.1 z6
    exact J.sub [0] rfl (j_X11_set_b9 hG O hR h)
  · replace h := h.2 z6
    refine J.iload_n (q := 5) O dX11_set_4 rfl 1 rfl ?_
    refine J.iconst (q := 6) (v := (4 : Int32)) O dX11_set_5 rfl rfl ?_
    refine J.icmp_le (q := 9) (tgt := 16) O dX11_set_6 rfl (by decide) (fun z7 => ?_) (fun z7 => ?_)
    · replace h := h.1 z7
      refine J.iload_n (q := 17) O dX11_set_16 rfl 2 rfl ?_
      refine J.gets (q := 20) (k := 1) O dX11_set_17 rfl (by decide) wd_4_165 ?_
      refine J.iload_n (q := 21) O dX11_set_20 rfl 1 rfl ?_
      obtain ⟨hv8, h⟩ := h
      refine J.sald (q := 22) O dX11_set_21 rfl (by decide) hv8 ?_
      refine J.gets (q := 25) (k := 2) O dX11_set_22 rfl (by decide) wd_4_167 ?_
      refine J.iload_n (q := 26) O dX11_set_25 rfl 1 rfl ?_
      obtain ⟨hv9, h⟩ := h
      refine J.sald (q := 27) O dX11_set_26 rfl (by decide) hv9 ?_
      refine J.callSI (q := 30) [.int a2, .int (sv 1 a1.toNatClampNeg), .int (sv 2 a1.toNatClampNeg)] [] [.int (sv 2 a1.toNatClampNeg), .int (sv 1 a1.toNatClampNeg), .int a2] rfl O dX11_set_27 rfl (c_X11_outside hG h) wd_3_63 mw_X11_outside rfl (by decide) (Nat.le_of_ble_eq_true rfl) (fun v10 M10 h => ?_)
      refine J.istore_n (q := 31) O dX11_set_30 rfl [(3, .int v10), (0, .ref (ad G 0)), (1, .int a1), (2, .int a2)] (by decide) rfl ?_
      refine J.iload_n (q := 32) O dX11_set_31 rfl 0 rfl ?_
      refine J.if_eq (q := 35) (tgt := 41) O dX11_set_32 rfl (by decide) (fun z11 => ?_) (fun z11 => ?_)
      · replace h := h.1 z11
        refine J.aload_n (q := 42) O dX11_set_41 rfl 1 rfl ?_
        refine J.getR (q := 45) (c' := 0) (ci := 11) (k := 12) (r := 124) O dX11_set_42 rfl wd_3_14 (by decide) if_0_12 ?_
        refine J.iload_n (q := 46) O dX11_set_45 rfl 2 rfl ?_
        obtain ⟨hv12, h⟩ := h
        refine J.iald (q := 47) (c' := 124) (j := a1.toNatClampNeg) (M10 124 a1.toNatClampNeg) rfl O dX11_set_46 rfl ar_124 hv12 rfl ?_
        refine J.istore (q := 49) O dX11_set_47 rfl [(4, .int (M10 124 a1.toNatClampNeg)), (3, .int v10), (0, .ref (ad G 0)), (1, .int a1), (2, .int a2)] (by decide) rfl ?_
        refine J.aload_n (q := 50) O dX11_set_49 rfl 2 rfl ?_
        refine J.getR (q := 53) (c' := 0) (ci := 11) (k := 12) (r := 124) O dX11_set_50 rfl wd_3_14 (by decide) if_0_12 ?_
        refine J.iload_n (q := 54) O dX11_set_53 rfl 3 rfl ?_
        refine J.iload_n (q := 55) O dX11_set_54 rfl 4 rfl ?_
        obtain ⟨hv13, h⟩ := h
        refine J.iast (q := 56) (c' := 124) (j := a1.toNatClampNeg) O dX11_set_55 rfl ar_124 hv13 rfl ?_
        refine J.iload (q := 58) O dX11_set_56 rfl 0 rfl ?_
        exact hR _ _ _ _ dX11_set_58 h
      · replace h := h.2 z11
        refine J.aload_n (q := 36) O dX11_set_35 rfl 1 rfl ?_
        refine J.iload_n (q := 37) O dX11_set_36 rfl 0 rfl ?_
        refine J.callVI (q := 40) [.int v10] [] [.int v10, .ref (ad G 0)] rfl O dX11_set_37 rfl (c_X11_refuse hG h) wd_3_55 mw_X11_refuse io_0 rfl (by decide) (Nat.le_of_ble_eq_true rfl) (fun v14 M14 h => ?_)
        exact hR _ _ _ _ dX11_set_40 h
    · replace h := h.2 z7
      exact J.sub [0] rfl (j_X11_set_b9 hG O hR h)
set_option maxHeartbeats 4000000 in
set_option maxRecDepth 20000 in
theorem j_X1_isOf_c2 {X : CX} {G : GX} {K : Int32 → Mem → Prop} (hG : Gd G) (O : Ok X G cX1_isOf 3 RX1 1) (hR : RetZ X G cX1_isOf K) {a : Int32 × Int32 × Mem} (h : Lp (fun (r2 : Int32 × Int32 × Mem → Prop) a => f_X1_isOf_c2 K r2 a.1 a.2.1 a.2.2) a) : J X G a.2.2 2 [(0, .ref (ad G 62)), (1, .int a.1), (2, .int a.2.1)] [] := by
  refine Lp.elim (P := fun a => J X G a.2.2 2 [(0, .ref (ad G 62)), (1, .int a.1), (2, .int a.2.1)] []) ?_ h
  clear h
  intro r2 hr2 a h
  obtain ⟨x1, x2, M⟩ := a
  unfold f_X1_isOf_c2 at h
  (try dsimp only at h ⊢)
  refine J.iload_n (q := 3) O dX1_isOf_2 rfl 2 rfl ?_
  refine J.aload_n (q := 4) O dX1_isOf_3 rfl 0 rfl ?_
  refine J.getI (q := 7) (c' := 62) (ci := 1) (k := 0) (M 62 0) rfl O dX1_isOf_4 rfl wd_1_222 (by decide) if_62_0 ?_
  refine J.icmp_ge (q := 10) (tgt := 28) O dX1_isOf_7 rfl (by decide) (fun z2 => ?_) (fun z2 => ?_)
  · replace h := h.1 z2
    refine J.iconst (q := 29) (v := (0 : Int32)) O dX1_isOf_28 rfl rfl ?_
    exact hR _ _ _ _ dX1_isOf_29 (Or.inl rfl) h
  · replace h := h.2 z2
    refine J.aload_n (q := 11) O dX1_isOf_10 rfl 0 rfl ?_
    refine J.getR (q := 14) (c' := 62) (ci := 1) (k := 1) (r := 63) O dX1_isOf_11 rfl wd_1_224 (by decide) if_62_1 ?_
    refine J.iload_n (q := 15) O dX1_isOf_14 rfl 2 rfl ?_
    obtain ⟨hv3, h⟩ := h
    refine J.iald (q := 16) (c' := 63) (j := x2.toNatClampNeg) (M 63 x2.toNatClampNeg) rfl O dX1_isOf_15 rfl ar_63 hv3 rfl ?_
    refine J.iload_n (q := 17) O dX1_isOf_16 rfl 1 rfl ?_
    refine J.icmp_ne (q := 20) (tgt := 22) O dX1_isOf_17 rfl (by decide) (fun z4 => ?_) (fun z4 => ?_)
    · replace h := h.1 z4
      refine J.iinc (q := 25) O dX1_isOf_22 rfl [(2, .int (x2 + (1 : Int32))), (0, .ref (ad G 62)), (1, .int x1)] 2 rfl rfl (by decide) rfl ?_
      refine J.goto (q := 2) O dX1_isOf_25 (by decide) ?_
      exact J.sub [1, 2, 0] rfl (hr2 _ h)
    · replace h := h.2 z4
      refine J.iconst (q := 21) (v := (1 : Int32)) O dX1_isOf_20 rfl rfl ?_
      exact hR _ _ _ _ dX1_isOf_21 (Or.inr rfl) h
set_option maxHeartbeats 4000000 in
set_option maxRecDepth 20000 in
theorem c_X1_isOf {l : Launch} {G : GX} (hG : Gd G) {a1 : Int32} {M : Mem} {K : Int32 → Mem → Prop} (h : f_X1_isOf a1 M K) : CI l G yX1_isOf cX1_isOf 3 (some .boolean) 1 [.ref (ad G 62), .int a1] M K := by
  unfold f_X1_isOf at h
  refine CZ.mk hG (by decide) [(0, .ref (ad G 62)), (1, .int a1)] rfl (Nat.le_of_ble_eq_true rfl) (fun X O hlX hR => ?_)
  subst hlX
  refine J.iconst (q := 1) (v := (0 : Int32)) O dX1_isOf_0 rfl rfl ?_
  refine J.istore_n (q := 2) O dX1_isOf_1 rfl [(2, .int (0 : Int32)), (0, .ref (ad G 62)), (1, .int a1)] (by decide) rfl ?_
  exact J.sub [1, 2, 0] rfl (j_X1_isOf_c2 hG O hR h)
set_option maxHeartbeats 4000000 in
set_option maxRecDepth 20000 in
theorem c_X1_add {l : Launch} {G : GX} (hG : Gd G) {a1 : Int32} {a2 : Int32} {a3 : Int32} {a4 : Int32} {a5 : Int32} {M : Mem} {K : Int32 → Mem → Prop} (h : f_X1_add a1 a2 a3 a4 a5 M K) : CI l G yX1_add cX1_add 6 (some .int) 1 [.ref (ad G 62), .int a1, .int a2, .int a3, .int a4, .int a5] M K := by
  unfold f_X1_add at h
  refine CI.mk hG (by decide) [(0, .ref (ad G 62)), (1, .int a1), (2, .int a2), (3, .int a3), (4, .int a4), (5, .int a5)] rfl (Nat.le_of_ble_eq_true rfl) (fun X O hlX hR => ?_)
  subst hlX
  refine J.aload_n (q := 1) O dX1_add_0 rfl 0 rfl ?_
  refine J.getI (q := 4) (c' := 62) (ci := 1) (k := 0) (M 62 0) rfl O dX1_add_1 rfl wd_1_222 (by decide) if_62_0 ?_
  refine J.bipush (q := 6) (v := (30 : Int32)) O dX1_add_4 rfl rfl ?_
  refine J.icmp_lt (q := 9) (tgt := 12) O dX1_add_6 rfl (by decide) (fun z7 => ?_) (fun z7 => ?_)
  · replace h := h.1 z7
    refine J.aload_n (q := 13) O dX1_add_12 rfl 0 rfl ?_
    refine J.getR (q := 16) (c' := 62) (ci := 1) (k := 1) (r := 63) O dX1_add_13 rfl wd_1_224 (by decide) if_62_1 ?_
    refine J.aload_n (q := 17) O dX1_add_16 rfl 0 rfl ?_
    refine J.getI (q := 20) (c' := 62) (ci := 1) (k := 0) (M 62 0) rfl O dX1_add_17 rfl wd_1_222 (by decide) if_62_0 ?_
    refine J.iload_n (q := 21) O dX1_add_20 rfl 1 rfl ?_
    obtain ⟨hv8, h⟩ := h
    refine J.iast (q := 22) (c' := 63) (j := (M 62 0).toNatClampNeg) O dX1_add_21 rfl ar_63 hv8 rfl ?_
    refine J.aload_n (q := 23) O dX1_add_22 rfl 0 rfl ?_
    refine J.getR (q := 26) (c' := 62) (ci := 1) (k := 2) (r := 64) O dX1_add_23 rfl wd_1_226 (by decide) if_62_2 ?_
    refine J.aload_n (q := 27) O dX1_add_26 rfl 0 rfl ?_
    refine J.getI (q := 30) (c' := 62) (ci := 1) (k := 0) (M 62 0) rfl O dX1_add_27 rfl wd_1_222 (by decide) if_62_0 ?_
    refine J.iload_n (q := 31) O dX1_add_30 rfl 2 rfl ?_
    obtain ⟨hv9, h⟩ := h
    refine J.iast (q := 32) (c' := 64) (j := (M 62 0).toNatClampNeg) O dX1_add_31 rfl ar_64 hv9 rfl ?_
    refine J.aload_n (q := 33) O dX1_add_32 rfl 0 rfl ?_
    refine J.getR (q := 36) (c' := 62) (ci := 1) (k := 3) (r := 65) O dX1_add_33 rfl wd_1_228 (by decide) if_62_3 ?_
    refine J.aload_n (q := 37) O dX1_add_36 rfl 0 rfl ?_
    refine J.getI (q := 40) (c' := 62) (ci := 1) (k := 0) (M 62 0) rfl O dX1_add_37 rfl wd_1_222 (by decide) if_62_0 ?_
    refine J.iload_n (q := 41) O dX1_add_40 rfl 3 rfl ?_
    obtain ⟨hv10, h⟩ := h
    refine J.iast (q := 42) (c' := 65) (j := (M 62 0).toNatClampNeg) O dX1_add_41 rfl ar_65 hv10 rfl ?_
    refine J.aload_n (q := 43) O dX1_add_42 rfl 0 rfl ?_
    refine J.getR (q := 46) (c' := 62) (ci := 1) (k := 4) (r := 66) O dX1_add_43 rfl wd_1_230 (by decide) if_62_4 ?_
    refine J.aload_n (q := 47) O dX1_add_46 rfl 0 rfl ?_
    refine J.getI (q := 50) (c' := 62) (ci := 1) (k := 0) (M 62 0) rfl O dX1_add_47 rfl wd_1_222 (by decide) if_62_0 ?_
    refine J.iload (q := 52) O dX1_add_50 rfl 4 rfl ?_
    obtain ⟨hv11, h⟩ := h
    refine J.iast (q := 53) (c' := 66) (j := (M 62 0).toNatClampNeg) O dX1_add_52 rfl ar_66 hv11 rfl ?_
    refine J.aload_n (q := 54) O dX1_add_53 rfl 0 rfl ?_
    refine J.getR (q := 57) (c' := 62) (ci := 1) (k := 5) (r := 67) O dX1_add_54 rfl wd_1_232 (by decide) if_62_5 ?_
    refine J.aload_n (q := 58) O dX1_add_57 rfl 0 rfl ?_
    refine J.getI (q := 61) (c' := 62) (ci := 1) (k := 0) (M 62 0) rfl O dX1_add_58 rfl wd_1_222 (by decide) if_62_0 ?_
    refine J.iload (q := 63) O dX1_add_61 rfl 5 rfl ?_
    obtain ⟨hv12, h⟩ := h
    refine J.iast (q := 64) (c' := 67) (j := (M 62 0).toNatClampNeg) O dX1_add_63 rfl ar_67 hv12 rfl ?_
    refine J.aload_n (q := 65) O dX1_add_64 rfl 0 rfl ?_
    refine J.getR (q := 68) (c' := 62) (ci := 1) (k := 6) (r := 68) O dX1_add_65 rfl wd_1_234 (by decide) if_62_6 ?_
    refine J.aload_n (q := 69) O dX1_add_68 rfl 0 rfl ?_
    refine J.getI (q := 72) (c' := 62) (ci := 1) (k := 0) (M 62 0) rfl O dX1_add_69 rfl wd_1_222 (by decide) if_62_0 ?_
    refine J.iconst (q := 73) (v := (0 : Int32)) O dX1_add_72 rfl rfl ?_
    obtain ⟨hv13, h⟩ := h
    refine J.zast (q := 74) (c' := 68) (j := (M 62 0).toNatClampNeg) O dX1_add_73 rfl ar_68 hv13 rfl (Or.inl rfl) ?_
    refine J.aload_n (q := 75) O dX1_add_74 rfl 0 rfl ?_
    refine J.dup (q := 76) O dX1_add_75 rfl rfl ?_
    refine J.getI (q := 79) (c' := 62) (ci := 1) (k := 0) (M 62 0) rfl O dX1_add_76 rfl wd_1_222 (by decide) if_62_0 ?_
    refine J.iconst (q := 80) (v := (1 : Int32)) O dX1_add_79 rfl rfl ?_
    refine J.iadd (q := 81) O dX1_add_80 rfl ?_
    refine J.putI (q := 84) (c' := 62) (ci := 1) (k := 0) O dX1_add_81 rfl wd_1_222 (by decide) if_62_0 rfl rfl ?_
    refine J.aload_n (q := 85) O dX1_add_84 rfl 0 rfl ?_
    refine J.getI (q := 88) (c' := 62) (ci := 1) (k := 0) ((M 62 0) + (1 : Int32)) rfl O dX1_add_85 rfl wd_1_222 (by decide) if_62_0 ?_
    refine J.iconst (q := 89) (v := (1 : Int32)) O dX1_add_88 rfl rfl ?_
    refine J.isub (q := 90) O dX1_add_89 rfl ?_
    exact hR _ _ _ _ dX1_add_90 h
  · replace h := h.2 z7
    refine J.bipush (q := 11) (v := (-6 : Int32)) O dX1_add_9 rfl rfl ?_
    exact hR _ _ _ _ dX1_add_11 h
set_option maxHeartbeats 4000000 in
set_option maxRecDepth 20000 in
theorem j_X11_agree_b57 {X : CX} {G : GX} {K : Int32 → Mem → Prop} (hG : Gd G) (O : Ok X G cX11_agree 6 RX11 5) (hR : RetI X G cX11_agree K) {M : Mem} (h : f_X11_agree_b57 K  M) : J X G M 57 [(0, .ref (ad G 0))] [] := by
  unfold f_X11_agree_b57 at h
  refine J.aload_n (q := 58) O dX11_agree_57 rfl 0 rfl ?_
  refine J.bipush (q := 60) (v := (-3 : Int32)) O dX11_agree_58 rfl rfl ?_
  refine J.callVI (q := 63) [.int (-3 : Int32)] [] [.int (-3 : Int32), .ref (ad G 0)] rfl O dX11_agree_60 rfl (c_X11_refuse hG h) wd_3_55 mw_X11_refuse io_0 rfl (by decide) (Nat.le_of_ble_eq_true rfl) (fun v3 M3 h => ?_)
  exact hR _ _ _ _ dX11_agree_63 h
set_option maxHeartbeats 4000000 in
set_option maxRecDepth 20000 in
theorem j_X11_agree_b164 {X : CX} {G : GX} {K : Int32 → Mem → Prop} (hG : Gd G) (O : Ok X G cX11_agree 6 RX11 5) (hR : RetI X G cX11_agree K) {s0 : Int32} {s1 : Int32} {s2 : Int32} {s3 : Int32} {M : Mem} (h : f_X11_agree_b164 K s0 s1 s2 s3 M) : J X G M 164 [(0, .ref (ad G 0))] [.int s0, .int s1, .int s2, .int s3, .ref (ad G 62)] := by
  unfold f_X11_agree_b164 at h
  refine J.aload_n (q := 165) O dX11_agree_164 rfl 0 rfl ?_
  refine J.getR (q := 168) (c' := 0) (ci := 11) (k := 0) (r := 1) O dX11_agree_165 rfl wd_3_2 (by decide) if_0_0 ?_
  refine J.getI (q := 171) (c' := 1) (ci := 3) (k := 0) (M 1 0) rfl O dX11_agree_168 rfl wd_1_31 (by decide) if_1_0 ?_
  refine J.callVI (q := 174) [.int s3, .int s2, .int s1, .int s0, .int (M 1 0)] [] [.int (M 1 0), .int s0, .int s1, .int s2, .int s3, .ref (ad G 62)] rfl O dX11_agree_171 rfl (c_X1_add hG h) wd_4_177 mw_X1_add io_62 rfl (by decide) (Nat.le_of_ble_eq_true rfl) (fun v4 M4 h => ?_)
  exact hR _ _ _ _ dX11_agree_174 h
set_option maxHeartbeats 4000000 in
set_option maxRecDepth 20000 in
theorem j_X11_agree_b113 {X : CX} {G : GX} {K : Int32 → Mem → Prop} (hG : Gd G) (O : Ok X G cX11_agree 6 RX11 5) (hR : RetI X G cX11_agree K) {x1 : Int32} {x2 : Int32} {x3 : Int32} {x4 : Int32} {x5 : Int32} {M : Mem} (h : f_X11_agree_b113 K x1 x2 x3 x4 x5 M) : J X G M 113 [(0, .ref (ad G 0)), (1, .int x1), (2, .int x2), (3, .int x3), (4, .int x4), (5, .int x5)] [] := by
  unfold f_X11_agree_b113 at h
  refine J.iload (q := 115) O dX11_agree_113 rfl 5 rfl ?_
  refine J.aload_n (q := 116) O dX11_agree_115 rfl 0 rfl ?_
  refine J.getR (q := 119) (c' := 0) (ci := 11) (k := 6) (r := 62) O dX11_agree_116 rfl wd_3_8 (by decide) if_0_6 ?_
  refine J.getI (q := 122) (c' := 62) (ci := 1) (k := 0) (M 62 0) rfl O dX11_agree_119 rfl wd_1_223 (by decide) if_62_0 ?_
  refine J.bipush (q := 124) (v := (30 : Int32)) O dX11_agree_122 rfl rfl ?_
  refine J.callSI (q := 127) [.int (M 62 0), .int (30 : Int32)] [.int x5] [.int (30 : Int32), .int (M 62 0), .int x5] rfl O dX11_agree_124 rfl (c_X11_fullAt hG h) wd_3_91 mw_X11_fullAt rfl (by decide) (Nat.le_of_ble_eq_true rfl) (fun v5 M5 h => ?_)
  refine J.callSI (q := 130) [.int x5, .int v5] [] [.int v5, .int x5] rfl O dX11_agree_127 rfl (c_X11_worse hG h) wd_3_74 mw_X11_worse rfl (by decide) (Nat.le_of_ble_eq_true rfl) (fun v6 M6 h => ?_)
  refine J.istore (q := 132) O dX11_agree_130 rfl [(5, .int v6), (0, .ref (ad G 0)), (1, .int x1), (2, .int x2), (3, .int x3), (4, .int x4)] (by decide) rfl ?_
  refine J.iload (q := 134) O dX11_agree_132 rfl 0 rfl ?_
  refine J.if_eq (q := 137) (tgt := 144) O dX11_agree_134 rfl (by decide) (fun z7 => ?_) (fun z7 => ?_)
  · replace h := h.1 z7
    refine J.aload_n (q := 145) O dX11_agree_144 rfl 1 rfl ?_
    refine J.getR (q := 148) (c' := 0) (ci := 11) (k := 6) (r := 62) O dX11_agree_145 rfl wd_3_8 (by decide) if_0_6 ?_
    refine J.iload_n (q := 149) O dX11_agree_148 rfl 2 rfl ?_
    refine J.iload_n (q := 150) O dX11_agree_149 rfl 3 rfl ?_
    refine J.iload_n (q := 151) O dX11_agree_150 rfl 4 rfl ?_
    refine J.iload (q := 153) O dX11_agree_151 rfl 5 rfl ?_
    refine J.iconst (q := 154) (v := (-1 : Int32)) O dX11_agree_153 rfl rfl ?_
    refine J.icmp_ne (q := 157) (tgt := 162) O dX11_agree_154 rfl (by decide) (fun z8 => ?_) (fun z8 => ?_)
    · replace h := h.1 z8
      refine J.iload (q := 164) O dX11_agree_162 rfl 5 rfl ?_
      exact J.sub [1] rfl (j_X11_agree_b164 hG O hR h)
    · replace h := h.2 z8
      refine J.ldc (q := 159) O dX11_agree_157 rfl wd_3_203 ?_
      refine J.goto (q := 164) O dX11_agree_159 (by decide) ?_
      exact J.sub [1] rfl (j_X11_agree_b164 hG O hR h)
  · replace h := h.2 z7
    refine J.aload_n (q := 138) O dX11_agree_137 rfl 1 rfl ?_
    refine J.iload (q := 140) O dX11_agree_138 rfl 0 rfl ?_
    refine J.callVI (q := 143) [.int v6] [] [.int v6, .ref (ad G 0)] rfl O dX11_agree_140 rfl (c_X11_refuse hG h) wd_3_55 mw_X11_refuse io_0 rfl (by decide) (Nat.le_of_ble_eq_true rfl) (fun v9 M9 h => ?_)
    exact hR _ _ _ _ dX11_agree_143 h
set_option maxHeartbeats 4000000 in
set_option maxRecDepth 20000 in
theorem c_X11_agree {l : Launch} {G : GX} (hG : Gd G) {a1 : Int32} {a2 : Int32} {a3 : Int32} {a4 : Int32} {M : Mem} {K : Int32 → Mem → Prop} (h : f_X11_agree a1 a2 a3 a4 M K) : CI l G yX11_agree cX11_agree 6 (some .int) 5 [.ref (ad G 0), .int a1, .int a2, .int a3, .int a4] M K := by
  unfold f_X11_agree at h
  refine CI.mk hG (by decide) [(0, .ref (ad G 0)), (1, .int a1), (2, .int a2), (3, .int a3), (4, .int a4)] rfl (Nat.le_of_ble_eq_true rfl) (fun X O hlX hR => ?_)
  subst hlX
  refine J.aload_n (q := 1) O dX11_agree_0 rfl 0 rfl ?_
  refine J.iload_n (q := 2) O dX11_agree_1 rfl 1 rfl ?_
  refine J.callVI (q := 5) [.int a1] [] [.int a1, .ref (ad G 0)] rfl O dX11_agree_2 rfl (c_X11_isMatter hG h) wd_4_31 mw_X11_isMatter io_0 rfl (by decide) (Nat.le_of_ble_eq_true rfl) (fun v10 M10 h => ?_)
  refine J.if_ne (q := 8) (tgt := 14) O dX11_agree_5 rfl (by decide) (fun z11 => ?_) (fun z11 => ?_)
  · replace h := h.1 z11
    refine J.aload_n (q := 15) O dX11_agree_14 rfl 0 rfl ?_
    refine J.getR (q := 18) (c' := 0) (ci := 11) (k := 4) (r := 61) O dX11_agree_15 rfl wd_3_6 (by decide) if_0_4 ?_
    refine J.iload_n (q := 19) O dX11_agree_18 rfl 1 rfl ?_
    obtain ⟨hv12, h⟩ := h
    refine J.aald (q := 20) (t := 0) (c' := 61) (b := 127) (d := 4) O dX11_agree_19 rfl ar_61 hv12 ?_
    refine J.getI (q := 23) (c' := (127 + 4 * a1.toNatClampNeg)) (ci := 5) (k := 7) (M10 (127 + 4 * a1.toNatClampNeg) 7) rfl O dX11_agree_20 rfl wd_2_202 (by decide) (isMat_F (isMat_of hv12) rfl) ?_
    refine J.iconst (q := 24) (v := (3 : Int32)) O dX11_agree_23 rfl rfl ?_
    refine J.icmp_ne (q := 27) (tgt := 57) O dX11_agree_24 rfl (by decide) (fun z13 => ?_) (fun z13 => ?_)
    · replace h := h.1 z13
      exact J.sub [0] rfl (j_X11_agree_b57 hG O hR h)
    · replace h := h.2 z13
      refine J.aload_n (q := 28) O dX11_agree_27 rfl 0 rfl ?_
      refine J.getR (q := 31) (c' := 0) (ci := 11) (k := 4) (r := 61) O dX11_agree_28 rfl wd_3_6 (by decide) if_0_4 ?_
      refine J.iload_n (q := 32) O dX11_agree_31 rfl 1 rfl ?_
      obtain ⟨hv14, h⟩ := h
      refine J.aald (q := 33) (t := 0) (c' := 61) (b := 127) (d := 4) O dX11_agree_32 rfl ar_61 hv14 ?_
      refine J.aload_n (q := 34) O dX11_agree_33 rfl 0 rfl ?_
      refine J.getR (q := 37) (c' := 0) (ci := 11) (k := 0) (r := 1) O dX11_agree_34 rfl wd_3_2 (by decide) if_0_0 ?_
      refine J.getI (q := 40) (c' := 1) (ci := 3) (k := 0) (M10 1 0) rfl O dX11_agree_37 rfl wd_1_31 (by decide) if_1_0 ?_
      refine J.callVI (q := 43) [.int (M10 1 0)] [] [.int (M10 1 0), .ref (ad G (127 + 4 * a1.toNatClampNeg))] rfl O dX11_agree_40 rfl (c_X5_letsOn hG h) wd_4_90 mw_X5_letsOn (isMat_O (isMat_of hv14)) rfl (by decide) (Nat.le_of_ble_eq_true rfl) (fun v15 M15 h => ?_)
      refine J.if_eq (q := 46) (tgt := 57) O dX11_agree_43 rfl (by decide) (fun z16 => ?_) (fun z16 => ?_)
      · replace h := h.1 z16
        exact J.sub [0] rfl (j_X11_agree_b57 hG O hR h)
      · replace h := h.2 z16
        refine J.aload_n (q := 47) O dX11_agree_46 rfl 0 rfl ?_
        refine J.getR (q := 50) (c' := 0) (ci := 11) (k := 6) (r := 62) O dX11_agree_47 rfl wd_3_8 (by decide) if_0_6 ?_
        refine J.iload_n (q := 51) O dX11_agree_50 rfl 1 rfl ?_
        refine J.callVI (q := 54) [.int a1] [] [.int a1, .ref (ad G 62)] rfl O dX11_agree_51 rfl (c_X1_isOf hG h) wd_4_173 mw_X1_isOf io_62 rfl (by decide) (Nat.le_of_ble_eq_true rfl) (fun v17 M17 h => ?_)
        refine J.if_eq (q := 57) (tgt := 64) O dX11_agree_54 rfl (by decide) (fun z18 => ?_) (fun z18 => ?_)
        · replace h := h.1 z18
          refine J.iload_n (q := 65) O dX11_agree_64 rfl 2 rfl ?_
          refine J.iconst (q := 66) (v := (0 : Int32)) O dX11_agree_65 rfl rfl ?_
          refine J.sipush (q := 69) (v := (9999 : Int32)) O dX11_agree_66 rfl rfl ?_
          refine J.callSI (q := 72) [.int a2, .int (0 : Int32), .int (9999 : Int32)] [] [.int (9999 : Int32), .int (0 : Int32), .int a2] rfl O dX11_agree_69 rfl (c_X11_outside hG h) wd_3_63 mw_X11_outside rfl (by decide) (Nat.le_of_ble_eq_true rfl) (fun v19 M19 h => ?_)
          refine J.iload_n (q := 73) O dX11_agree_72 rfl 3 rfl ?_
          refine J.aload_n (q := 74) O dX11_agree_73 rfl 0 rfl ?_
          refine J.getR (q := 77) (c' := 0) (ci := 11) (k := 0) (r := 1) O dX11_agree_74 rfl wd_3_2 (by decide) if_0_0 ?_
          refine J.getI (q := 80) (c' := 1) (ci := 3) (k := 0) (M19 1 0) rfl O dX11_agree_77 rfl wd_1_31 (by decide) if_1_0 ?_
          refine J.sipush (q := 83) (v := (1000 : Int32)) O dX11_agree_80 rfl rfl ?_
          refine J.callSI (q := 86) [.int a3, .int (M19 1 0), .int (1000 : Int32)] [.int v19] [.int (1000 : Int32), .int (M19 1 0), .int a3, .int v19] rfl O dX11_agree_83 rfl (c_X11_outside hG h) wd_3_63 mw_X11_outside rfl (by decide) (Nat.le_of_ble_eq_true rfl) (fun v20 M20 h => ?_)
          refine J.callSI (q := 89) [.int v19, .int v20] [] [.int v20, .int v19] rfl O dX11_agree_86 rfl (c_X11_worse hG h) wd_3_74 mw_X11_worse rfl (by decide) (Nat.le_of_ble_eq_true rfl) (fun v21 M21 h => ?_)
          refine J.istore (q := 91) O dX11_agree_89 rfl [(5, .int v21), (0, .ref (ad G 0)), (1, .int a1), (2, .int a2), (3, .int a3), (4, .int a4)] (by decide) rfl ?_
          refine J.iload (q := 93) O dX11_agree_91 rfl 5 rfl ?_
          refine J.iconst (q := 94) (v := (-1 : Int32)) O dX11_agree_93 rfl rfl ?_
          refine J.icmp_eq (q := 97) (tgt := 113) O dX11_agree_94 rfl (by decide) (fun z22 => ?_) (fun z22 => ?_)
          · replace h := h.1 z22
            exact J.sub [1, 2, 3, 4, 5, 0] rfl (j_X11_agree_b113 hG O hR h)
          · replace h := h.2 z22
            refine J.iload (q := 99) O dX11_agree_97 rfl 0 rfl ?_
            refine J.iload (q := 101) O dX11_agree_99 rfl 5 rfl ?_
            refine J.iload_n (q := 102) O dX11_agree_101 rfl 4 rfl ?_
            refine J.sipush (q := 105) (v := (1000 : Int32)) O dX11_agree_102 rfl rfl ?_
            refine J.callSI (q := 108) [.int a4, .int a3, .int (1000 : Int32)] [.int v21] [.int (1000 : Int32), .int a3, .int a4, .int v21] rfl O dX11_agree_105 rfl (c_X11_outside hG h) wd_3_63 mw_X11_outside rfl (by decide) (Nat.le_of_ble_eq_true rfl) (fun v23 M23 h => ?_)
            refine J.callSI (q := 111) [.int v21, .int v23] [] [.int v23, .int v21] rfl O dX11_agree_108 rfl (c_X11_worse hG h) wd_3_74 mw_X11_worse rfl (by decide) (Nat.le_of_ble_eq_true rfl) (fun v24 M24 h => ?_)
            refine J.istore (q := 113) O dX11_agree_111 rfl [(5, .int v24), (0, .ref (ad G 0)), (1, .int a1), (2, .int a2), (3, .int a3), (4, .int a4)] (by decide) rfl ?_
            exact J.sub [1, 2, 3, 4, 5, 0] rfl (j_X11_agree_b113 hG O hR h)
        · replace h := h.2 z18
          exact J.sub [0] rfl (j_X11_agree_b57 hG O hR h)
  · replace h := h.2 z11
    refine J.aload_n (q := 9) O dX11_agree_8 rfl 0 rfl ?_
    refine J.iconst (q := 10) (v := (-1 : Int32)) O dX11_agree_9 rfl rfl ?_
    refine J.callVI (q := 13) [.int (-1 : Int32)] [] [.int (-1 : Int32), .ref (ad G 0)] rfl O dX11_agree_10 rfl (c_X11_refuse hG h) wd_3_55 mw_X11_refuse io_0 rfl (by decide) (Nat.le_of_ble_eq_true rfl) (fun v25 M25 h => ?_)
    exact hR _ _ _ _ dX11_agree_13 h
set_option maxHeartbeats 4000000 in
set_option maxRecDepth 20000 in
theorem j_X1_has_b23 {X : CX} {G : GX} {K : Int32 → Mem → Prop} (hG : Gd G) (O : Ok X G cX1_has 2 RX1 1) (hR : RetZ X G cX1_has K) {s0 : Int32} {M : Mem} (h : f_X1_has_b23 K s0 M) : J X G M 23 [] [.int s0] := by
  unfold f_X1_has_b23 at h
  exact hR _ _ _ _ dX1_has_23 h.1 h.2
set_option maxHeartbeats 4000000 in
set_option maxRecDepth 20000 in
theorem j_X1_has_b22 {X : CX} {G : GX} {K : Int32 → Mem → Prop} (hG : Gd G) (O : Ok X G cX1_has 2 RX1 1) (hR : RetZ X G cX1_has K) {M : Mem} (h : f_X1_has_b22 K  M) : J X G M 22 [] [] := by
  unfold f_X1_has_b22 at h
  refine J.iconst (q := 23) (v := (0 : Int32)) O dX1_has_22 rfl rfl ?_
  exact J.sub [] rfl (j_X1_has_b23 hG O hR h)
set_option maxHeartbeats 4000000 in
set_option maxRecDepth 20000 in
theorem c_X1_has {l : Launch} {G : GX} (hG : Gd G) {a1 : Int32} {M : Mem} {K : Int32 → Mem → Prop} (h : f_X1_has a1 M K) : CI l G yX1_has cX1_has 2 (some .boolean) 1 [.ref (ad G 62), .int a1] M K := by
  unfold f_X1_has at h
  refine CZ.mk hG (by decide) [(0, .ref (ad G 62)), (1, .int a1)] rfl (Nat.le_of_ble_eq_true rfl) (fun X O hlX hR => ?_)
  subst hlX
  refine J.iload_n (q := 1) O dX1_has_0 rfl 1 rfl ?_
  refine J.if_lt (q := 4) (tgt := 22) O dX1_has_1 rfl (by decide) (fun z2 => ?_) (fun z2 => ?_)
  · replace h := h.1 z2
    exact J.sub [] rfl (j_X1_has_b22 hG O hR h)
  · replace h := h.2 z2
    refine J.iload_n (q := 5) O dX1_has_4 rfl 1 rfl ?_
    refine J.aload_n (q := 6) O dX1_has_5 rfl 0 rfl ?_
    refine J.getI (q := 9) (c' := 62) (ci := 1) (k := 0) (M 62 0) rfl O dX1_has_6 rfl wd_1_222 (by decide) if_62_0 ?_
    refine J.icmp_ge (q := 12) (tgt := 22) O dX1_has_9 rfl (by decide) (fun z3 => ?_) (fun z3 => ?_)
    · replace h := h.1 z3
      exact J.sub [] rfl (j_X1_has_b22 hG O hR h)
    · replace h := h.2 z3
      refine J.iload_n (q := 13) O dX1_has_12 rfl 1 rfl ?_
      refine J.bipush (q := 15) (v := (30 : Int32)) O dX1_has_13 rfl rfl ?_
      refine J.icmp_ge (q := 18) (tgt := 22) O dX1_has_15 rfl (by decide) (fun z4 => ?_) (fun z4 => ?_)
      · replace h := h.1 z4
        exact J.sub [] rfl (j_X1_has_b22 hG O hR h)
      · replace h := h.2 z4
        refine J.iconst (q := 19) (v := (1 : Int32)) O dX1_has_18 rfl rfl ?_
        refine J.goto (q := 23) O dX1_has_19 (by decide) ?_
        exact J.sub [] rfl (j_X1_has_b23 hG O hR h)
set_option maxHeartbeats 4000000 in
set_option maxRecDepth 20000 in
theorem c_X1_endBy {l : Launch} {G : GX} (hG : Gd G) {a1 : Int32} {a2 : Int32} {M : Mem} {K : Int32 → Mem → Prop} (h : f_X1_endBy a1 a2 M K) : CI l G yX1_endBy cX1_endBy 3 (some .int) 1 [.ref (ad G 62), .int a1, .int a2] M K := by
  unfold f_X1_endBy at h
  refine CI.mk hG (by decide) [(0, .ref (ad G 62)), (1, .int a1), (2, .int a2)] rfl (Nat.le_of_ble_eq_true rfl) (fun X O hlX hR => ?_)
  subst hlX
  refine J.aload_n (q := 1) O dX1_endBy_0 rfl 0 rfl ?_
  refine J.getR (q := 4) (c' := 62) (ci := 1) (k := 6) (r := 68) O dX1_endBy_1 rfl wd_1_234 (by decide) if_62_6 ?_
  refine J.iload_n (q := 5) O dX1_endBy_4 rfl 1 rfl ?_
  refine J.iconst (q := 6) (v := (1 : Int32)) O dX1_endBy_5 rfl rfl ?_
  obtain ⟨hv5, h⟩ := h
  refine J.zast (q := 7) (c' := 68) (j := a1.toNatClampNeg) O dX1_endBy_6 rfl ar_68 hv5 rfl (Or.inr rfl) ?_
  refine J.aload_n (q := 8) O dX1_endBy_7 rfl 0 rfl ?_
  refine J.getR (q := 11) (c' := 62) (ci := 1) (k := 4) (r := 66) O dX1_endBy_8 rfl wd_1_230 (by decide) if_62_4 ?_
  refine J.iload_n (q := 12) O dX1_endBy_11 rfl 1 rfl ?_
  refine J.aload_n (q := 13) O dX1_endBy_12 rfl 0 rfl ?_
  refine J.getR (q := 16) (c' := 62) (ci := 1) (k := 4) (r := 66) O dX1_endBy_13 rfl wd_1_230 (by decide) if_62_4 ?_
  refine J.iload_n (q := 17) O dX1_endBy_16 rfl 1 rfl ?_
  obtain ⟨hv6, h⟩ := h
  refine J.iald (q := 18) (c' := 66) (j := a1.toNatClampNeg) (M 66 a1.toNatClampNeg) rfl O dX1_endBy_17 rfl ar_66 hv6 rfl ?_
  refine J.iload_n (q := 19) O dX1_endBy_18 rfl 2 rfl ?_
  refine J.mmin (q := 22) O dX1_endBy_19 rfl wd_4_193 (by decide) (Nat.le_of_ble_eq_true rfl) ?_
  obtain ⟨hv7, h⟩ := h
  refine J.iast (q := 23) (c' := 66) (j := a1.toNatClampNeg) O dX1_endBy_22 rfl ar_66 hv7 rfl ?_
  refine J.aload_n (q := 24) O dX1_endBy_23 rfl 0 rfl ?_
  refine J.getR (q := 27) (c' := 62) (ci := 1) (k := 4) (r := 66) O dX1_endBy_24 rfl wd_1_230 (by decide) if_62_4 ?_
  refine J.iload_n (q := 28) O dX1_endBy_27 rfl 1 rfl ?_
  obtain ⟨hv8, h⟩ := h
  refine J.iald (q := 29) (c' := 66) (j := a1.toNatClampNeg) ((mset (mset M 68 a1.toNatClampNeg (1 : Int32)) 66 a1.toNatClampNeg (if a2 < (M 66 a1.toNatClampNeg) then a2 else (M 66 a1.toNatClampNeg))) 66 a1.toNatClampNeg) rfl O dX1_endBy_28 rfl ar_66 hv8 rfl ?_
  exact hR _ _ _ _ dX1_endBy_29 h
set_option maxHeartbeats 4000000 in
set_option maxRecDepth 20000 in
theorem c_X11_cancel {l : Launch} {G : GX} (hG : Gd G) {a1 : Int32} {M : Mem} {K : Int32 → Mem → Prop} (h : f_X11_cancel a1 M K) : CI l G yX11_cancel cX11_cancel 2 (some .int) 2 [.ref (ad G 0), .int a1] M K := by
  unfold f_X11_cancel at h
  refine CI.mk hG (by decide) [(0, .ref (ad G 0)), (1, .int a1)] rfl (Nat.le_of_ble_eq_true rfl) (fun X O hlX hR => ?_)
  subst hlX
  refine J.aload_n (q := 1) O dX11_cancel_0 rfl 0 rfl ?_
  refine J.getR (q := 4) (c' := 0) (ci := 11) (k := 6) (r := 62) O dX11_cancel_1 rfl wd_3_8 (by decide) if_0_6 ?_
  refine J.iload_n (q := 5) O dX11_cancel_4 rfl 1 rfl ?_
  refine J.callVI (q := 8) [.int a1] [] [.int a1, .ref (ad G 62)] rfl O dX11_cancel_5 rfl (c_X1_has hG h) wd_4_185 mw_X1_has io_62 rfl (by decide) (Nat.le_of_ble_eq_true rfl) (fun v2 M2 h => ?_)
  refine J.if_ne (q := 11) (tgt := 17) O dX11_cancel_8 rfl (by decide) (fun z3 => ?_) (fun z3 => ?_)
  · replace h := h.1 z3
    refine J.aload_n (q := 18) O dX11_cancel_17 rfl 0 rfl ?_
    refine J.getR (q := 21) (c' := 0) (ci := 11) (k := 6) (r := 62) O dX11_cancel_18 rfl wd_3_8 (by decide) if_0_6 ?_
    refine J.getR (q := 24) (c' := 62) (ci := 1) (k := 6) (r := 68) O dX11_cancel_21 rfl wd_1_235 (by decide) if_62_6 ?_
    refine J.iload_n (q := 25) O dX11_cancel_24 rfl 1 rfl ?_
    obtain ⟨hv4, h⟩ := h
    refine J.zald (q := 26) (c' := 68) (j := a1.toNatClampNeg) (M2 68 a1.toNatClampNeg) rfl O dX11_cancel_25 rfl ar_68 hv4 rfl ?_
    refine J.if_eq (q := 29) (tgt := 36) O dX11_cancel_26 rfl (by decide) (fun z5 => ?_) (fun z5 => ?_)
    · replace h := h.1 z5
      refine J.aload_n (q := 37) O dX11_cancel_36 rfl 0 rfl ?_
      refine J.getR (q := 40) (c' := 0) (ci := 11) (k := 6) (r := 62) O dX11_cancel_37 rfl wd_3_8 (by decide) if_0_6 ?_
      refine J.iload_n (q := 41) O dX11_cancel_40 rfl 1 rfl ?_
      refine J.aload_n (q := 42) O dX11_cancel_41 rfl 0 rfl ?_
      refine J.getR (q := 45) (c' := 0) (ci := 11) (k := 0) (r := 1) O dX11_cancel_42 rfl wd_3_2 (by decide) if_0_0 ?_
      refine J.getI (q := 48) (c' := 1) (ci := 3) (k := 0) (M2 1 0) rfl O dX11_cancel_45 rfl wd_1_31 (by decide) if_1_0 ?_
      refine J.aload_n (q := 49) O dX11_cancel_48 rfl 0 rfl ?_
      refine J.getR (q := 52) (c' := 0) (ci := 11) (k := 12) (r := 124) O dX11_cancel_49 rfl wd_3_14 (by decide) if_0_12 ?_
      refine J.iconst (q := 53) (v := (1 : Int32)) O dX11_cancel_52 rfl rfl ?_
      refine J.iald (q := 54) (c' := 124) (j := 1) (M2 124 1) rfl O dX11_cancel_53 rfl ar_124 (vin_lit (by decide)) (by decide) ?_
      refine J.iadd (q := 55) O dX11_cancel_54 rfl ?_
      refine J.callVI (q := 58) [.int a1, .int ((M2 1 0) + (M2 124 1))] [] [.int ((M2 1 0) + (M2 124 1)), .int a1, .ref (ad G 62)] rfl O dX11_cancel_55 rfl (c_X1_endBy hG h) wd_4_189 mw_X1_endBy io_62 rfl (by decide) (Nat.le_of_ble_eq_true rfl) (fun v6 M6 h => ?_)
      exact hR _ _ _ _ dX11_cancel_58 h
    · replace h := h.2 z5
      refine J.aload_n (q := 30) O dX11_cancel_29 rfl 0 rfl ?_
      refine J.bipush (q := 32) (v := (-3 : Int32)) O dX11_cancel_30 rfl rfl ?_
      refine J.callVI (q := 35) [.int (-3 : Int32)] [] [.int (-3 : Int32), .ref (ad G 0)] rfl O dX11_cancel_32 rfl (c_X11_refuse hG h) wd_3_55 mw_X11_refuse io_0 rfl (by decide) (Nat.le_of_ble_eq_true rfl) (fun v7 M7 h => ?_)
      exact hR _ _ _ _ dX11_cancel_35 h
  · replace h := h.2 z3
    refine J.aload_n (q := 12) O dX11_cancel_11 rfl 0 rfl ?_
    refine J.iconst (q := 13) (v := (-1 : Int32)) O dX11_cancel_12 rfl rfl ?_
    refine J.callVI (q := 16) [.int (-1 : Int32)] [] [.int (-1 : Int32), .ref (ad G 0)] rfl O dX11_cancel_13 rfl (c_X11_refuse hG h) wd_3_55 mw_X11_refuse io_0 rfl (by decide) (Nat.le_of_ble_eq_true rfl) (fun v8 M8 h => ?_)
    exact hR _ _ _ _ dX11_cancel_16 h
set_option maxHeartbeats 4000000 in
set_option maxRecDepth 20000 in
theorem j_X11_holds_b60 {X : CX} {G : GX} {K : Int32 → Mem → Prop} (hG : Gd G) (O : Ok X G cX11_holds 3 RX11 4) (hR : RetZ X G cX11_holds K) {s0 : Int32} {M : Mem} (h : f_X11_holds_b60 K s0 M) : J X G M 60 [] [.int s0] := by
  unfold f_X11_holds_b60 at h
  exact hR _ _ _ _ dX11_holds_60 h.1 h.2
set_option maxHeartbeats 4000000 in
set_option maxRecDepth 20000 in
theorem j_X11_holds_b59 {X : CX} {G : GX} {K : Int32 → Mem → Prop} (hG : Gd G) (O : Ok X G cX11_holds 3 RX11 4) (hR : RetZ X G cX11_holds K) {M : Mem} (h : f_X11_holds_b59 K  M) : J X G M 59 [] [] := by
  unfold f_X11_holds_b59 at h
  refine J.iconst (q := 60) (v := (0 : Int32)) O dX11_holds_59 rfl rfl ?_
  exact J.sub [] rfl (j_X11_holds_b60 hG O hR h)
set_option maxHeartbeats 4000000 in
set_option maxRecDepth 20000 in
theorem c_X11_holds {l : Launch} {G : GX} (hG : Gd G) {a1 : Int32} {M : Mem} {K : Int32 → Mem → Prop} (h : f_X11_holds a1 M K) : CI l G yX11_holds cX11_holds 3 (some .boolean) 4 [.ref (ad G 0), .int a1] M K := by
  unfold f_X11_holds at h
  refine CZ.mk hG (by decide) [(0, .ref (ad G 0)), (1, .int a1)] rfl (Nat.le_of_ble_eq_true rfl) (fun X O hlX hR => ?_)
  subst hlX
  refine J.aload_n (q := 1) O dX11_holds_0 rfl 0 rfl ?_
  refine J.getR (q := 4) (c' := 0) (ci := 11) (k := 6) (r := 62) O dX11_holds_1 rfl wd_3_8 (by decide) if_0_6 ?_
  refine J.getR (q := 7) (c' := 62) (ci := 1) (k := 1) (r := 63) O dX11_holds_4 rfl wd_1_225 (by decide) if_62_1 ?_
  refine J.iload_n (q := 8) O dX11_holds_7 rfl 1 rfl ?_
  obtain ⟨hv6, h⟩ := h
  refine J.iald (q := 9) (c' := 63) (j := a1.toNatClampNeg) (M 63 a1.toNatClampNeg) rfl O dX11_holds_8 rfl ar_63 hv6 rfl ?_
  refine J.istore_n (q := 10) O dX11_holds_9 rfl [(2, .int (M 63 a1.toNatClampNeg)), (0, .ref (ad G 0)), (1, .int a1)] (by decide) rfl ?_
  refine J.aload_n (q := 11) O dX11_holds_10 rfl 1 rfl ?_
  refine J.iload_n (q := 12) O dX11_holds_11 rfl 0 rfl ?_
  refine J.callVI (q := 15) [.int (M 63 a1.toNatClampNeg)] [] [.int (M 63 a1.toNatClampNeg), .ref (ad G 0)] rfl O dX11_holds_12 rfl (c_X11_isMatter hG h) wd_4_31 mw_X11_isMatter io_0 rfl (by decide) (Nat.le_of_ble_eq_true rfl) (fun v7 M7 h => ?_)
  refine J.if_eq (q := 18) (tgt := 59) O dX11_holds_15 rfl (by decide) (fun z8 => ?_) (fun z8 => ?_)
  · replace h := h.1 z8
    exact J.sub [] rfl (j_X11_holds_b59 hG O hR h)
  · replace h := h.2 z8
    refine J.aload_n (q := 19) O dX11_holds_18 rfl 1 rfl ?_
    refine J.getR (q := 22) (c' := 0) (ci := 11) (k := 4) (r := 61) O dX11_holds_19 rfl wd_3_6 (by decide) if_0_4 ?_
    refine J.iload_n (q := 23) O dX11_holds_22 rfl 0 rfl ?_
    obtain ⟨hv9, h⟩ := h
    refine J.aald (q := 24) (t := 0) (c' := 61) (b := 127) (d := 4) O dX11_holds_23 rfl ar_61 hv9 ?_
    refine J.aload_n (q := 25) O dX11_holds_24 rfl 1 rfl ?_
    refine J.getR (q := 28) (c' := 0) (ci := 11) (k := 4) (r := 61) O dX11_holds_25 rfl wd_3_6 (by decide) if_0_4 ?_
    refine J.iload_n (q := 29) O dX11_holds_28 rfl 0 rfl ?_
    obtain ⟨hv10, h⟩ := h
    refine J.aald (q := 30) (t := 0) (c' := 61) (b := 127) (d := 4) O dX11_holds_29 rfl ar_61 hv10 ?_
    refine J.aload_n (q := 31) O dX11_holds_30 rfl 1 rfl ?_
    refine J.getR (q := 34) (c' := 0) (ci := 11) (k := 6) (r := 62) O dX11_holds_31 rfl wd_3_8 (by decide) if_0_6 ?_
    refine J.getR (q := 37) (c' := 62) (ci := 1) (k := 5) (r := 67) O dX11_holds_34 rfl wd_1_233 (by decide) if_62_5 ?_
    refine J.iload_n (q := 38) O dX11_holds_37 rfl 2 rfl ?_
    obtain ⟨hv11, h⟩ := h
    refine J.iald (q := 39) (c' := 67) (j := a1.toNatClampNeg) (M7 67 a1.toNatClampNeg) rfl O dX11_holds_38 rfl ar_67 hv11 rfl ?_
    refine J.aload_n (q := 40) O dX11_holds_39 rfl 1 rfl ?_
    refine J.getR (q := 43) (c' := 0) (ci := 11) (k := 0) (r := 1) O dX11_holds_40 rfl wd_3_2 (by decide) if_0_0 ?_
    refine J.getI (q := 46) (c' := 1) (ci := 3) (k := 0) (M7 1 0) rfl O dX11_holds_43 rfl wd_1_31 (by decide) if_1_0 ?_
    refine J.callVI (q := 49) [.int (M7 67 a1.toNatClampNeg), .int (M7 1 0)] [.ref (ad G (127 + 4 * ((M 63 a1.toNatClampNeg).toNatClampNeg)))] [.int (M7 1 0), .int (M7 67 a1.toNatClampNeg), .ref (ad G (127 + 4 * ((M 63 a1.toNatClampNeg).toNatClampNeg))), .ref (ad G (127 + 4 * ((M 63 a1.toNatClampNeg).toNatClampNeg)))] rfl O dX11_holds_46 rfl (c_X5_stateOn hG h) wd_4_59 mw_X5_stateOn (isMat_O (isMat_of hv10)) rfl (by decide) (Nat.le_of_ble_eq_true rfl) (fun v12 M12 h => ?_)
    refine J.callVI (q := 52) [.int v12] [] [.int v12, .ref (ad G (127 + 4 * ((M 63 a1.toNatClampNeg).toNatClampNeg)))] rfl O dX11_holds_49 rfl (c_X5_lets hG h) wd_4_202 mw_X5_lets (isMat_O (isMat_of hv9)) rfl (by decide) (Nat.le_of_ble_eq_true rfl) (fun v13 M13 h => ?_)
    refine J.if_eq (q := 55) (tgt := 59) O dX11_holds_52 rfl (by decide) (fun z14 => ?_) (fun z14 => ?_)
    · replace h := h.1 z14
      exact J.sub [] rfl (j_X11_holds_b59 hG O hR h)
    · replace h := h.2 z14
      refine J.iconst (q := 56) (v := (1 : Int32)) O dX11_holds_55 rfl rfl ?_
      refine J.goto (q := 60) O dX11_holds_56 (by decide) ?_
      exact J.sub [] rfl (j_X11_holds_b60 hG O hR h)
set_option maxHeartbeats 4000000 in
set_option maxRecDepth 20000 in
theorem j_X11_agreementOf_b105 {X : CX} {G : GX} {K : Int32 → Mem → Prop} (hG : Gd G) (O : Ok X G cX11_agreementOf 3 RX11 5) (hR : RetI X G cX11_agreementOf K) {s0 : Int32} {M : Mem} (h : f_X11_agreementOf_b105 K s0 M) : J X G M 105 [] [.int s0] := by
  unfold f_X11_agreementOf_b105 at h
  exact hR _ _ _ _ dX11_agreementOf_105 h
set_option maxHeartbeats 4000000 in
set_option maxRecDepth 20000 in
theorem c_X11_agreementOf {l : Launch} {G : GX} (hG : Gd G) {a1 : Int32} {a2 : Int32} {M : Mem} {K : Int32 → Mem → Prop} (h : f_X11_agreementOf a1 a2 M K) : CI l G yX11_agreementOf cX11_agreementOf 3 (some .int) 5 [.ref (ad G 0), .int a1, .int a2] M K := by
  unfold f_X11_agreementOf at h
  refine CI.mk hG (by decide) [(0, .ref (ad G 0)), (1, .int a1), (2, .int a2)] rfl (Nat.le_of_ble_eq_true rfl) (fun X O hlX hR => ?_)
  subst hlX
  refine J.aload_n (q := 1) O dX11_agreementOf_0 rfl 0 rfl ?_
  refine J.getR (q := 4) (c' := 0) (ci := 11) (k := 6) (r := 62) O dX11_agreementOf_1 rfl wd_3_8 (by decide) if_0_6 ?_
  refine J.iload_n (q := 5) O dX11_agreementOf_4 rfl 1 rfl ?_
  refine J.callVI (q := 8) [.int a1] [] [.int a1, .ref (ad G 62)] rfl O dX11_agreementOf_5 rfl (c_X1_has hG h) wd_4_185 mw_X1_has io_62 rfl (by decide) (Nat.le_of_ble_eq_true rfl) (fun v5 M5 h => ?_)
  refine J.if_ne (q := 11) (tgt := 17) O dX11_agreementOf_8 rfl (by decide) (fun z6 => ?_) (fun z6 => ?_)
  · replace h := h.1 z6
    refine J.iload_n (q := 18) O dX11_agreementOf_17 rfl 2 rfl ?_
    rcases tsw_cov a2 (0) 4 (by decide) with z8 | ⟨j, hj, z8⟩
    · replace h := h.1 (by omega)
      refine J.tswOut (q := 106) O dX11_agreementOf_18 (by omega) (by decide) ?_
      refine J.aload_n (q := 107) O dX11_agreementOf_106 rfl 0 rfl ?_
      refine J.bipush (q := 109) (v := (-2 : Int32)) O dX11_agreementOf_107 rfl rfl ?_
      refine J.callVI (q := 112) [.int (-2 : Int32)] [] [.int (-2 : Int32), .ref (ad G 0)] rfl O dX11_agreementOf_109 rfl (c_X11_refuse hG h) wd_3_55 mw_X11_refuse io_0 rfl (by decide) (Nat.le_of_ble_eq_true rfl) (fun v7 M7 h => ?_)
      exact hR _ _ _ _ dX11_agreementOf_112 h
    · match j, hj, z8 with
      | 0, _, z8 =>
        have z8 : a2 = (0 : Int32) := z8.trans (by decide)
        replace h := h.2.1 z8
        refine J.tswIn (q := 52) O dX11_agreementOf_18 (0 : Int32) z8 (by decide) (by decide) rfl (by decide) ?_
        refine J.aload_n (q := 53) O dX11_agreementOf_52 rfl 0 rfl ?_
        refine J.getR (q := 56) (c' := 0) (ci := 11) (k := 6) (r := 62) O dX11_agreementOf_53 rfl wd_3_8 (by decide) if_0_6 ?_
        refine J.getR (q := 59) (c' := 62) (ci := 1) (k := 1) (r := 63) O dX11_agreementOf_56 rfl wd_1_225 (by decide) if_62_1 ?_
        refine J.iload_n (q := 60) O dX11_agreementOf_59 rfl 1 rfl ?_
        obtain ⟨hv9, h⟩ := h
        refine J.iald (q := 61) (c' := 63) (j := a1.toNatClampNeg) (M5 63 a1.toNatClampNeg) rfl O dX11_agreementOf_60 rfl ar_63 hv9 rfl ?_
        exact hR _ _ _ _ dX11_agreementOf_61 h
      | 1, _, z8 =>
        have z8 : a2 = (1 : Int32) := z8.trans (by decide)
        replace h := h.2.2.1 z8
        refine J.tswIn (q := 62) O dX11_agreementOf_18 (1 : Int32) z8 (by decide) (by decide) rfl (by decide) ?_
        refine J.aload_n (q := 63) O dX11_agreementOf_62 rfl 0 rfl ?_
        refine J.getR (q := 66) (c' := 0) (ci := 11) (k := 6) (r := 62) O dX11_agreementOf_63 rfl wd_3_8 (by decide) if_0_6 ?_
        refine J.getR (q := 69) (c' := 62) (ci := 1) (k := 2) (r := 64) O dX11_agreementOf_66 rfl wd_1_227 (by decide) if_62_2 ?_
        refine J.iload_n (q := 70) O dX11_agreementOf_69 rfl 1 rfl ?_
        obtain ⟨hv10, h⟩ := h
        refine J.iald (q := 71) (c' := 64) (j := a1.toNatClampNeg) (M5 64 a1.toNatClampNeg) rfl O dX11_agreementOf_70 rfl ar_64 hv10 rfl ?_
        exact hR _ _ _ _ dX11_agreementOf_71 h
      | 2, _, z8 =>
        have z8 : a2 = (2 : Int32) := z8.trans (by decide)
        replace h := h.2.2.2.1 z8
        refine J.tswIn (q := 72) O dX11_agreementOf_18 (2 : Int32) z8 (by decide) (by decide) rfl (by decide) ?_
        refine J.aload_n (q := 73) O dX11_agreementOf_72 rfl 0 rfl ?_
        refine J.getR (q := 76) (c' := 0) (ci := 11) (k := 6) (r := 62) O dX11_agreementOf_73 rfl wd_3_8 (by decide) if_0_6 ?_
        refine J.getR (q := 79) (c' := 62) (ci := 1) (k := 3) (r := 65) O dX11_agreementOf_76 rfl wd_1_229 (by decide) if_62_3 ?_
        refine J.iload_n (q := 80) O dX11_agreementOf_79 rfl 1 rfl ?_
        obtain ⟨hv11, h⟩ := h
        refine J.iald (q := 81) (c' := 65) (j := a1.toNatClampNeg) (M5 65 a1.toNatClampNeg) rfl O dX11_agreementOf_80 rfl ar_65 hv11 rfl ?_
        exact hR _ _ _ _ dX11_agreementOf_81 h
      | 3, _, z8 =>
        have z8 : a2 = (3 : Int32) := z8.trans (by decide)
        replace h := h.2.2.2.2.1 z8
        refine J.tswIn (q := 82) O dX11_agreementOf_18 (3 : Int32) z8 (by decide) (by decide) rfl (by decide) ?_
        refine J.aload_n (q := 83) O dX11_agreementOf_82 rfl 0 rfl ?_
        refine J.getR (q := 86) (c' := 0) (ci := 11) (k := 6) (r := 62) O dX11_agreementOf_83 rfl wd_3_8 (by decide) if_0_6 ?_
        refine J.getR (q := 89) (c' := 62) (ci := 1) (k := 4) (r := 66) O dX11_agreementOf_86 rfl wd_1_231 (by decide) if_62_4 ?_
        refine J.iload_n (q := 90) O dX11_agreementOf_89 rfl 1 rfl ?_
        obtain ⟨hv12, h⟩ := h
        refine J.iald (q := 91) (c' := 66) (j := a1.toNatClampNeg) (M5 66 a1.toNatClampNeg) rfl O dX11_agreementOf_90 rfl ar_66 hv12 rfl ?_
        exact hR _ _ _ _ dX11_agreementOf_91 h
      | 4, _, z8 =>
        have z8 : a2 = (4 : Int32) := z8.trans (by decide)
        replace h := h.2.2.2.2.2 z8
        refine J.tswIn (q := 92) O dX11_agreementOf_18 (4 : Int32) z8 (by decide) (by decide) rfl (by decide) ?_
        refine J.aload_n (q := 93) O dX11_agreementOf_92 rfl 0 rfl ?_
        refine J.iload_n (q := 94) O dX11_agreementOf_93 rfl 1 rfl ?_
        refine J.callVI (q := 97) [.int a1] [] [.int a1, .ref (ad G 0)] rfl O dX11_agreementOf_94 rfl (c_X11_holds hG h) wd_4_198 mw_X11_holds io_0 rfl (by decide) (Nat.le_of_ble_eq_true rfl) (fun v13 M13 h => ?_)
        refine J.if_eq (q := 100) (tgt := 104) O dX11_agreementOf_97 rfl (by decide) (fun z14 => ?_) (fun z14 => ?_)
        · replace h := h.1 z14
          refine J.iconst (q := 105) (v := (0 : Int32)) O dX11_agreementOf_104 rfl rfl ?_
          exact J.sub [] rfl (j_X11_agreementOf_b105 hG O hR h)
        · replace h := h.2 z14
          refine J.iconst (q := 101) (v := (1 : Int32)) O dX11_agreementOf_100 rfl rfl ?_
          refine J.goto (q := 105) O dX11_agreementOf_101 (by decide) ?_
          exact J.sub [] rfl (j_X11_agreementOf_b105 hG O hR h)
      | j + 5, hj, _ => exact absurd hj (by omega)
  · replace h := h.2 z6
    refine J.aload_n (q := 12) O dX11_agreementOf_11 rfl 0 rfl ?_
    refine J.iconst (q := 13) (v := (-1 : Int32)) O dX11_agreementOf_12 rfl rfl ?_
    refine J.callVI (q := 16) [.int (-1 : Int32)] [] [.int (-1 : Int32), .ref (ad G 0)] rfl O dX11_agreementOf_13 rfl (c_X11_refuse hG h) wd_3_55 mw_X11_refuse io_0 rfl (by decide) (Nat.le_of_ble_eq_true rfl) (fun v15 M15 h => ?_)
    exact hR _ _ _ _ dX11_agreementOf_16 h
set_option maxHeartbeats 4000000 in
set_option maxRecDepth 20000 in
theorem c_X11_refuseFar {l : Launch} {G : GX} (hG : Gd G) {a1 : Int32} {M : Mem} {K : Int32 → Mem → Prop} (h : f_X11_refuseFar a1 M K) : CI l G yX11_refuseFar cX11_refuseFar 2 (some .int) 2 [.ref (ad G 0), .int a1] M K := by
  unfold f_X11_refuseFar at h
  refine CI.mk hG (by decide) [(0, .ref (ad G 0)), (1, .int a1)] rfl (Nat.le_of_ble_eq_true rfl) (fun X O hlX hR => ?_)
  subst hlX
  refine J.ldcw (q := 3) O dX11_refuseFar_0 rfl wd_4_211 ?_
  refine J.aload_n (q := 4) O dX11_refuseFar_3 rfl 0 rfl ?_
  refine J.iload_n (q := 5) O dX11_refuseFar_4 rfl 1 rfl ?_
  refine J.callVI (q := 8) [.int a1] [.int (1000000000 : Int32)] [.int a1, .ref (ad G 0), .int (1000000000 : Int32)] rfl O dX11_refuseFar_5 rfl (c_X11_refuse hG h) wd_3_55 mw_X11_refuse io_0 rfl (by decide) (Nat.le_of_ble_eq_true rfl) (fun v1 M1 h => ?_)
  refine J.isub (q := 9) O dX11_refuseFar_8 rfl ?_
  exact hR _ _ _ _ dX11_refuseFar_9 h
set_option maxHeartbeats 4000000 in
set_option maxRecDepth 20000 in
theorem j_X11_contract_b16 {X : CX} {G : GX} {K : Int32 → Mem → Prop} (hG : Gd G) (O : Ok X G cX11_contract 6 RX11 3) (hR : RetI X G cX11_contract K) {M : Mem} (h : f_X11_contract_b16 K  M) : J X G M 16 [(0, .ref (ad G 0))] [] := by
  unfold f_X11_contract_b16 at h
  refine J.aload_n (q := 17) O dX11_contract_16 rfl 0 rfl ?_
  refine J.bipush (q := 19) (v := (-2 : Int32)) O dX11_contract_17 rfl rfl ?_
  refine J.callVI (q := 22) [.int (-2 : Int32)] [] [.int (-2 : Int32), .ref (ad G 0)] rfl O dX11_contract_19 rfl (c_X11_refuseFar hG h) wd_4_207 mw_X11_refuseFar io_0 rfl (by decide) (Nat.le_of_ble_eq_true rfl) (fun v4 M4 h => ?_)
  exact hR _ _ _ _ dX11_contract_22 h
set_option maxHeartbeats 4000000 in
set_option maxRecDepth 20000 in
theorem c_X11_contract {l : Launch} {G : GX} (hG : Gd G) {a1 : Int32} {a2 : Int32} {a3 : Int32} {M : Mem} {K : Int32 → Mem → Prop} (h : f_X11_contract a1 a2 a3 M K) : CI l G yX11_contract cX11_contract 6 (some .int) 3 [.ref (ad G 0), .int a1, .int a2, .int a3] M K := by
  unfold f_X11_contract at h
  refine CI.mk hG (by decide) [(0, .ref (ad G 0)), (1, .int a1), (2, .int a2), (3, .int a3)] rfl (Nat.le_of_ble_eq_true rfl) (fun X O hlX hR => ?_)
  subst hlX
  refine J.iload_n (q := 1) O dX11_contract_0 rfl 1 rfl ?_
  refine J.callSI (q := 4) [.int a1] [] [.int a1] rfl O dX11_contract_1 rfl (c_X11_isWhat hG h) wd_3_208 mw_X11_isWhat rfl (by decide) (Nat.le_of_ble_eq_true rfl) (fun v5 M5 h => ?_)
  refine J.if_eq (q := 7) (tgt := 16) O dX11_contract_4 rfl (by decide) (fun z6 => ?_) (fun z6 => ?_)
  · replace h := h.1 z6
    exact J.sub [0] rfl (j_X11_contract_b16 hG O hR h)
  · replace h := h.2 z6
    refine J.iload_n (q := 8) O dX11_contract_7 rfl 3 rfl ?_
    refine J.if_lt (q := 11) (tgt := 16) O dX11_contract_8 rfl (by decide) (fun z7 => ?_) (fun z7 => ?_)
    · replace h := h.1 z7
      exact J.sub [0] rfl (j_X11_contract_b16 hG O hR h)
    · replace h := h.2 z7
      refine J.iload_n (q := 12) O dX11_contract_11 rfl 3 rfl ?_
      refine J.iconst (q := 13) (v := (2 : Int32)) O dX11_contract_12 rfl rfl ?_
      refine J.icmp_le (q := 16) (tgt := 23) O dX11_contract_13 rfl (by decide) (fun z8 => ?_) (fun z8 => ?_)
      · replace h := h.1 z8
        refine J.iload_n (q := 24) O dX11_contract_23 rfl 2 rfl ?_
        refine J.iconst (q := 25) (v := (-1 : Int32)) O dX11_contract_24 rfl rfl ?_
        refine J.sipush (q := 28) (v := (9999 : Int32)) O dX11_contract_25 rfl rfl ?_
        refine J.callSI (q := 31) [.int a2, .int (-1 : Int32), .int (9999 : Int32)] [] [.int (9999 : Int32), .int (-1 : Int32), .int a2] rfl O dX11_contract_28 rfl (c_X11_outside hG h) wd_3_63 mw_X11_outside rfl (by decide) (Nat.le_of_ble_eq_true rfl) (fun v9 M9 h => ?_)
        refine J.istore (q := 33) O dX11_contract_31 rfl [(4, .int v9), (0, .ref (ad G 0)), (1, .int a1), (2, .int a2), (3, .int a3)] (by decide) rfl ?_
        refine J.iload (q := 35) O dX11_contract_33 rfl 0 rfl ?_
        refine J.if_eq (q := 38) (tgt := 45) O dX11_contract_35 rfl (by decide) (fun z10 => ?_) (fun z10 => ?_)
        · replace h := h.1 z10
          refine J.aload_n (q := 46) O dX11_contract_45 rfl 1 rfl ?_
          refine J.getR (q := 49) (c' := 0) (ci := 11) (k := 6) (r := 62) O dX11_contract_46 rfl wd_3_8 (by decide) if_0_6 ?_
          refine J.getR (q := 52) (c' := 62) (ci := 1) (k := 7) (r := 69) O dX11_contract_49 rfl wd_1_237 (by decide) if_62_7 ?_
          refine J.iload_n (q := 53) O dX11_contract_52 rfl 2 rfl ?_
          obtain ⟨hv11, h⟩ := h
          refine J.iald (q := 54) (c' := 69) (j := a1.toNatClampNeg) (M9 69 a1.toNatClampNeg) rfl O dX11_contract_53 rfl ar_69 hv11 rfl ?_
          refine J.istore (q := 56) O dX11_contract_54 rfl [(5, .int (M9 69 a1.toNatClampNeg)), (4, .int v9), (0, .ref (ad G 0)), (1, .int a1), (2, .int a2), (3, .int a3)] (by decide) rfl ?_
          refine J.aload_n (q := 57) O dX11_contract_56 rfl 2 rfl ?_
          refine J.getR (q := 60) (c' := 0) (ci := 11) (k := 6) (r := 62) O dX11_contract_57 rfl wd_3_8 (by decide) if_0_6 ?_
          refine J.getR (q := 63) (c' := 62) (ci := 1) (k := 7) (r := 69) O dX11_contract_60 rfl wd_1_237 (by decide) if_62_7 ?_
          refine J.iload_n (q := 64) O dX11_contract_63 rfl 3 rfl ?_
          refine J.iload_n (q := 65) O dX11_contract_64 rfl 4 rfl ?_
          obtain ⟨hv12, h⟩ := h
          refine J.iast (q := 66) (c' := 69) (j := a1.toNatClampNeg) O dX11_contract_65 rfl ar_69 hv12 rfl ?_
          refine J.aload_n (q := 67) O dX11_contract_66 rfl 2 rfl ?_
          refine J.getR (q := 70) (c' := 0) (ci := 11) (k := 6) (r := 62) O dX11_contract_67 rfl wd_3_8 (by decide) if_0_6 ?_
          refine J.getR (q := 73) (c' := 62) (ci := 1) (k := 8) (r := 70) O dX11_contract_70 rfl wd_1_239 (by decide) if_62_8 ?_
          refine J.iload_n (q := 74) O dX11_contract_73 rfl 3 rfl ?_
          refine J.iload_n (q := 75) O dX11_contract_74 rfl 5 rfl ?_
          obtain ⟨hv13, h⟩ := h
          refine J.iast (q := 76) (c' := 70) (j := a1.toNatClampNeg) O dX11_contract_75 rfl ar_70 hv13 rfl ?_
          refine J.iload (q := 78) O dX11_contract_76 rfl 0 rfl ?_
          exact hR _ _ _ _ dX11_contract_78 h
        · replace h := h.2 z10
          refine J.aload_n (q := 39) O dX11_contract_38 rfl 1 rfl ?_
          refine J.iload (q := 41) O dX11_contract_39 rfl 0 rfl ?_
          refine J.callVI (q := 44) [.int v9] [] [.int v9, .ref (ad G 0)] rfl O dX11_contract_41 rfl (c_X11_refuseFar hG h) wd_4_207 mw_X11_refuseFar io_0 rfl (by decide) (Nat.le_of_ble_eq_true rfl) (fun v14 M14 h => ?_)
          exact hR _ _ _ _ dX11_contract_44 h
      · replace h := h.2 z8
        exact J.sub [0] rfl (j_X11_contract_b16 hG O hR h)
set_option maxHeartbeats 4000000 in
set_option maxRecDepth 20000 in
theorem j_X11_after_b52 {X : CX} {G : GX} {K : Int32 → Mem → Prop} (hG : Gd G) (O : Ok X G cX11_after 4 RX11 2) (hR : RetI X G cX11_after K) {s0 : Int32} {M : Mem} (h : f_X11_after_b52 K s0 M) : J X G M 52 [] [.int s0] := by
  unfold f_X11_after_b52 at h
  exact hR _ _ _ _ dX11_after_52 h
set_option maxHeartbeats 4000000 in
set_option maxRecDepth 20000 in
theorem j_X11_after_b32 {X : CX} {G : GX} {K : Int32 → Mem → Prop} (hG : Gd G) (O : Ok X G cX11_after 4 RX11 2) (hR : RetI X G cX11_after K) {x1 : Int32} {x2 : Int32} {s0 : Int32} {M : Mem} (h : f_X11_after_b32 K x1 x2 s0 M) : J X G M 32 [(0, .ref (ad G 0)), (1, .int x1), (2, .int x2)] [.int s0] := by
  unfold f_X11_after_b32 at h
  refine J.istore_n (q := 33) O dX11_after_32 rfl [(3, .int s0), (0, .ref (ad G 0)), (1, .int x1), (2, .int x2)] (by decide) rfl ?_
  refine J.aload_n (q := 34) O dX11_after_33 rfl 1 rfl ?_
  refine J.getR (q := 37) (c' := 0) (ci := 11) (k := 6) (r := 62) O dX11_after_34 rfl wd_3_8 (by decide) if_0_6 ?_
  refine J.getR (q := 40) (c' := 62) (ci := 1) (k := 9) (r := 71) O dX11_after_37 rfl wd_2_1 (by decide) if_62_9 ?_
  refine J.iload_n (q := 41) O dX11_after_40 rfl 2 rfl ?_
  refine J.iload_n (q := 42) O dX11_after_41 rfl 3 rfl ?_
  obtain ⟨hv4, h⟩ := h
  obtain ⟨hb5, h⟩ := h
  refine J.zast (q := 43) (c' := 71) (j := x1.toNatClampNeg) O dX11_after_42 rfl ar_71 hv4 rfl hb5 ?_
  refine J.iload_n (q := 44) O dX11_after_43 rfl 0 rfl ?_
  refine J.if_eq (q := 47) (tgt := 51) O dX11_after_44 rfl (by decide) (fun z6 => ?_) (fun z6 => ?_)
  · replace h := h.1 z6
    refine J.iconst (q := 52) (v := (0 : Int32)) O dX11_after_51 rfl rfl ?_
    exact J.sub [] rfl (j_X11_after_b52 hG O hR h)
  · replace h := h.2 z6
    refine J.iconst (q := 48) (v := (1 : Int32)) O dX11_after_47 rfl rfl ?_
    refine J.goto (q := 52) O dX11_after_48 (by decide) ?_
    exact J.sub [] rfl (j_X11_after_b52 hG O hR h)
set_option maxHeartbeats 4000000 in
set_option maxRecDepth 20000 in
theorem c_X11_after {l : Launch} {G : GX} (hG : Gd G) {a1 : Int32} {a2 : Int32} {M : Mem} {K : Int32 → Mem → Prop} (h : f_X11_after a1 a2 M K) : CI l G yX11_after cX11_after 4 (some .int) 2 [.ref (ad G 0), .int a1, .int a2] M K := by
  unfold f_X11_after at h
  refine CI.mk hG (by decide) [(0, .ref (ad G 0)), (1, .int a1), (2, .int a2)] rfl (Nat.le_of_ble_eq_true rfl) (fun X O hlX hR => ?_)
  subst hlX
  refine J.iload_n (q := 1) O dX11_after_0 rfl 1 rfl ?_
  refine J.callSI (q := 4) [.int a1] [] [.int a1] rfl O dX11_after_1 rfl (c_X11_isWhat hG h) wd_3_208 mw_X11_isWhat rfl (by decide) (Nat.le_of_ble_eq_true rfl) (fun v7 M7 h => ?_)
  refine J.if_ne (q := 7) (tgt := 14) O dX11_after_4 rfl (by decide) (fun z8 => ?_) (fun z8 => ?_)
  · replace h := h.1 z8
    refine J.aload_n (q := 15) O dX11_after_14 rfl 0 rfl ?_
    refine J.getR (q := 18) (c' := 0) (ci := 11) (k := 6) (r := 62) O dX11_after_15 rfl wd_3_8 (by decide) if_0_6 ?_
    refine J.getR (q := 21) (c' := 62) (ci := 1) (k := 9) (r := 71) O dX11_after_18 rfl wd_2_1 (by decide) if_62_9 ?_
    refine J.iload_n (q := 22) O dX11_after_21 rfl 1 rfl ?_
    obtain ⟨hv9, h⟩ := h
    refine J.zald (q := 23) (c' := 71) (j := a1.toNatClampNeg) (M7 71 a1.toNatClampNeg) rfl O dX11_after_22 rfl ar_71 hv9 rfl ?_
    refine J.iload_n (q := 24) O dX11_after_23 rfl 2 rfl ?_
    refine J.icmp_eq (q := 27) (tgt := 31) O dX11_after_24 rfl (by decide) (fun z10 => ?_) (fun z10 => ?_)
    · replace h := h.1 z10
      refine J.iconst (q := 32) (v := (0 : Int32)) O dX11_after_31 rfl rfl ?_
      exact J.sub [0, 1, 2] rfl (j_X11_after_b32 hG O hR h)
    · replace h := h.2 z10
      refine J.iconst (q := 28) (v := (1 : Int32)) O dX11_after_27 rfl rfl ?_
      refine J.goto (q := 32) O dX11_after_28 (by decide) ?_
      exact J.sub [0, 1, 2] rfl (j_X11_after_b32 hG O hR h)
  · replace h := h.2 z8
    refine J.aload_n (q := 8) O dX11_after_7 rfl 0 rfl ?_
    refine J.bipush (q := 10) (v := (-2 : Int32)) O dX11_after_8 rfl rfl ?_
    refine J.callVI (q := 13) [.int (-2 : Int32)] [] [.int (-2 : Int32), .ref (ad G 0)] rfl O dX11_after_10 rfl (c_X11_refuse hG h) wd_3_55 mw_X11_refuse io_0 rfl (by decide) (Nat.le_of_ble_eq_true rfl) (fun v11 M11 h => ?_)
    exact hR _ _ _ _ dX11_after_13 h
set_option maxHeartbeats 4000000 in
set_option maxRecDepth 20000 in
theorem j_X11_concerns_b57 {X : CX} {G : GX} {K : Int32 → Mem → Prop} (hG : Gd G) (O : Ok X G cX11_concerns 5 RX11 2) (hR : RetZ X G cX11_concerns K) {s0 : Int32} {M : Mem} (h : f_X11_concerns_b57 K s0 M) : J X G M 57 [] [.int s0] := by
  unfold f_X11_concerns_b57 at h
  exact hR _ _ _ _ dX11_concerns_57 h.1 h.2
set_option maxHeartbeats 4000000 in
set_option maxRecDepth 20000 in
theorem j_X11_concerns_b56 {X : CX} {G : GX} {K : Int32 → Mem → Prop} (hG : Gd G) (O : Ok X G cX11_concerns 5 RX11 2) (hR : RetZ X G cX11_concerns K) {M : Mem} (h : f_X11_concerns_b56 K  M) : J X G M 56 [] [] := by
  unfold f_X11_concerns_b56 at h
  refine J.iconst (q := 57) (v := (0 : Int32)) O dX11_concerns_56 rfl rfl ?_
  exact J.sub [] rfl (j_X11_concerns_b57 hG O hR h)
set_option maxHeartbeats 4000000 in
set_option maxRecDepth 20000 in
theorem c_X11_concerns {l : Launch} {G : GX} (hG : Gd G) {a1 : Int32} {a2 : Int32} {a3 : Int32} {M : Mem} {K : Int32 → Mem → Prop} (h : f_X11_concerns a1 a2 a3 M K) : CI l G yX11_concerns cX11_concerns 5 (some .boolean) 2 [.ref (ad G 0), .int a1, .int a2, .int a3] M K := by
  unfold f_X11_concerns at h
  refine CZ.mk hG (by decide) [(0, .ref (ad G 0)), (1, .int a1), (2, .int a2), (3, .int a3)] rfl (Nat.le_of_ble_eq_true rfl) (fun X O hlX hR => ?_)
  subst hlX
  refine J.aload_n (q := 1) O dX11_concerns_0 rfl 0 rfl ?_
  refine J.getR (q := 4) (c' := 0) (ci := 11) (k := 6) (r := 62) O dX11_concerns_1 rfl wd_3_8 (by decide) if_0_6 ?_
  refine J.getR (q := 7) (c' := 62) (ci := 1) (k := 1) (r := 63) O dX11_concerns_4 rfl wd_1_225 (by decide) if_62_1 ?_
  refine J.iload_n (q := 8) O dX11_concerns_7 rfl 1 rfl ?_
  obtain ⟨hv5, h⟩ := h
  refine J.iald (q := 9) (c' := 63) (j := a1.toNatClampNeg) (M 63 a1.toNatClampNeg) rfl O dX11_concerns_8 rfl ar_63 hv5 rfl ?_
  refine J.istore (q := 11) O dX11_concerns_9 rfl [(4, .int (M 63 a1.toNatClampNeg)), (0, .ref (ad G 0)), (1, .int a1), (2, .int a2), (3, .int a3)] (by decide) rfl ?_
  refine J.aload_n (q := 12) O dX11_concerns_11 rfl 1 rfl ?_
  refine J.iload (q := 14) O dX11_concerns_12 rfl 0 rfl ?_
  refine J.callVI (q := 17) [.int (M 63 a1.toNatClampNeg)] [] [.int (M 63 a1.toNatClampNeg), .ref (ad G 0)] rfl O dX11_concerns_14 rfl (c_X11_isMatter hG h) wd_4_31 mw_X11_isMatter io_0 rfl (by decide) (Nat.le_of_ble_eq_true rfl) (fun v6 M6 h => ?_)
  refine J.if_eq (q := 20) (tgt := 56) O dX11_concerns_17 rfl (by decide) (fun z7 => ?_) (fun z7 => ?_)
  · replace h := h.1 z7
    exact J.sub [] rfl (j_X11_concerns_b56 hG O hR h)
  · replace h := h.2 z7
    refine J.aload_n (q := 21) O dX11_concerns_20 rfl 1 rfl ?_
    refine J.getR (q := 24) (c' := 0) (ci := 11) (k := 4) (r := 61) O dX11_concerns_21 rfl wd_3_6 (by decide) if_0_4 ?_
    refine J.iload (q := 26) O dX11_concerns_24 rfl 0 rfl ?_
    obtain ⟨hv8, h⟩ := h
    refine J.aald (q := 27) (t := 0) (c' := 61) (b := 127) (d := 4) O dX11_concerns_26 rfl ar_61 hv8 ?_
    refine J.getI (q := 30) (c' := (127 + 4 * ((M 63 a1.toNatClampNeg).toNatClampNeg))) (ci := 5) (k := 2) (M6 (127 + 4 * ((M 63 a1.toNatClampNeg).toNatClampNeg)) 2) rfl O dX11_concerns_27 rfl wd_2_192 (by decide) (isMat_F (isMat_of hv8) rfl) ?_
    refine J.iload_n (q := 31) O dX11_concerns_30 rfl 4 rfl ?_
    refine J.icmp_ne (q := 34) (tgt := 56) O dX11_concerns_31 rfl (by decide) (fun z9 => ?_) (fun z9 => ?_)
    · replace h := h.1 z9
      exact J.sub [] rfl (j_X11_concerns_b56 hG O hR h)
    · replace h := h.2 z9
      refine J.aload_n (q := 35) O dX11_concerns_34 rfl 1 rfl ?_
      refine J.getR (q := 38) (c' := 0) (ci := 11) (k := 4) (r := 61) O dX11_concerns_35 rfl wd_3_6 (by decide) if_0_4 ?_
      refine J.iload (q := 40) O dX11_concerns_38 rfl 0 rfl ?_
      obtain ⟨hv10, h⟩ := h
      refine J.aald (q := 41) (t := 0) (c' := 61) (b := 127) (d := 4) O dX11_concerns_40 rfl ar_61 hv10 ?_
      refine J.getI (q := 44) (c' := (127 + 4 * ((M 63 a1.toNatClampNeg).toNatClampNeg))) (ci := 5) (k := 3) (M6 (127 + 4 * ((M 63 a1.toNatClampNeg).toNatClampNeg)) 3) rfl O dX11_concerns_41 rfl wd_2_194 (by decide) (isMat_F (isMat_of hv10) rfl) ?_
      refine J.iload_n (q := 45) O dX11_concerns_44 rfl 3 rfl ?_
      refine J.ishr (q := 46) O dX11_concerns_45 rfl ?_
      refine J.iconst (q := 47) (v := (1 : Int32)) O dX11_concerns_46 rfl rfl ?_
      refine J.iand (q := 48) O dX11_concerns_47 rfl ?_
      refine J.iconst (q := 49) (v := (1 : Int32)) O dX11_concerns_48 rfl rfl ?_
      refine J.icmp_ne (q := 52) (tgt := 56) O dX11_concerns_49 rfl (by decide) (fun z11 => ?_) (fun z11 => ?_)
      · replace h := h.1 z11
        exact J.sub [] rfl (j_X11_concerns_b56 hG O hR h)
      · replace h := h.2 z11
        refine J.iconst (q := 53) (v := (1 : Int32)) O dX11_concerns_52 rfl rfl ?_
        refine J.goto (q := 57) O dX11_concerns_53 (by decide) ?_
        exact J.sub [] rfl (j_X11_concerns_b57 hG O hR h)
set_option maxHeartbeats 4000000 in
set_option maxRecDepth 20000 in
theorem j_X11_agreementInForce_b104 {X : CX} {G : GX} {K : Int32 → Mem → Prop} (hG : Gd G) (O : Ok X G cX11_agreementInForce 6 RX11 5) (hR : RetI X G cX11_agreementInForce K) {r7 : Int32 × Int32 × Int32 × Int32 × Int32 × Mem → Prop} (hr7 : ∀ a : Int32 × Int32 × Int32 × Int32 × Int32 × Mem, r7 a → J X G a.2.2.2.2.2 7 [(0, .ref (ad G 0)), (1, .int a.1), (2, .int a.2.1), (3, .int a.2.2.1), (4, .int a.2.2.2.1), (5, .int a.2.2.2.2.1)] []) {x1 : Int32} {x2 : Int32} {x3 : Int32} {x4 : Int32} {x5 : Int32} {M : Mem} (h : f_X11_agreementInForce_b104 r7 K x1 x2 x3 x4 x5 M) : J X G M 104 [(0, .ref (ad G 0)), (1, .int x1), (2, .int x2), (3, .int x3), (4, .int x4), (5, .int x5)] [] := by
  unfold f_X11_agreementInForce_b104 at h
  refine J.iinc (q := 107) O dX11_agreementInForce_104 rfl [(5, .int (x5 + (1 : Int32))), (0, .ref (ad G 0)), (1, .int x1), (2, .int x2), (3, .int x3), (4, .int x4)] 5 rfl rfl (by decide) rfl ?_
  refine J.goto (q := 7) O dX11_agreementInForce_107 (by decide) ?_
  exact J.sub [1, 2, 3, 4, 5, 0] rfl (hr7 _ h)
set_option maxHeartbeats 4000000 in
set_option maxRecDepth 20000 in
theorem j_X11_agreementInForce_b100 {X : CX} {G : GX} {K : Int32 → Mem → Prop} (hG : Gd G) (O : Ok X G cX11_agreementInForce 6 RX11 5) (hR : RetI X G cX11_agreementInForce K) {r7 : Int32 × Int32 × Int32 × Int32 × Int32 × Mem → Prop} (hr7 : ∀ a : Int32 × Int32 × Int32 × Int32 × Int32 × Mem, r7 a → J X G a.2.2.2.2.2 7 [(0, .ref (ad G 0)), (1, .int a.1), (2, .int a.2.1), (3, .int a.2.2.1), (4, .int a.2.2.2.1), (5, .int a.2.2.2.2.1)] []) {x1 : Int32} {x2 : Int32} {x3 : Int32} {x5 : Int32} {M : Mem} (h : f_X11_agreementInForce_b100 r7 K x1 x2 x3 x5 M) : J X G M 100 [(0, .ref (ad G 0)), (1, .int x1), (2, .int x2), (3, .int x3), (5, .int x5)] [] := by
  unfold f_X11_agreementInForce_b100 at h
  refine J.iload (q := 102) O dX11_agreementInForce_100 rfl 4 rfl ?_
  refine J.istore (q := 104) O dX11_agreementInForce_102 rfl [(4, .int x5), (0, .ref (ad G 0)), (1, .int x1), (2, .int x2), (3, .int x3), (5, .int x5)] (by decide) rfl ?_
  exact J.sub [1, 2, 3, 4, 0, 5] rfl (j_X11_agreementInForce_b104 hG O hR hr7 h)
set_option maxHeartbeats 4000000 in
set_option maxRecDepth 20000 in
theorem j_X11_agreementInForce_c7 {X : CX} {G : GX} {K : Int32 → Mem → Prop} (hG : Gd G) (O : Ok X G cX11_agreementInForce 6 RX11 5) (hR : RetI X G cX11_agreementInForce K) {a : Int32 × Int32 × Int32 × Int32 × Int32 × Mem} (h : Lp (fun (r7 : Int32 × Int32 × Int32 × Int32 × Int32 × Mem → Prop) a => f_X11_agreementInForce_c7 K r7 a.1 a.2.1 a.2.2.1 a.2.2.2.1 a.2.2.2.2.1 a.2.2.2.2.2) a) : J X G a.2.2.2.2.2 7 [(0, .ref (ad G 0)), (1, .int a.1), (2, .int a.2.1), (3, .int a.2.2.1), (4, .int a.2.2.2.1), (5, .int a.2.2.2.2.1)] [] := by
  refine Lp.elim (P := fun a => J X G a.2.2.2.2.2 7 [(0, .ref (ad G 0)), (1, .int a.1), (2, .int a.2.1), (3, .int a.2.2.1), (4, .int a.2.2.2.1), (5, .int a.2.2.2.2.1)] []) ?_ h
  clear h
  intro r7 hr7 a h
  obtain ⟨x1, x2, x3, x4, x5, M⟩ := a
  unfold f_X11_agreementInForce_c7 at h
  (try dsimp only at h ⊢)
  refine J.iload (q := 9) O dX11_agreementInForce_7 rfl 5 rfl ?_
  refine J.aload_n (q := 10) O dX11_agreementInForce_9 rfl 0 rfl ?_
  refine J.getR (q := 13) (c' := 0) (ci := 11) (k := 6) (r := 62) O dX11_agreementInForce_10 rfl wd_3_8 (by decide) if_0_6 ?_
  refine J.getI (q := 16) (c' := 62) (ci := 1) (k := 0) (M 62 0) rfl O dX11_agreementInForce_13 rfl wd_1_223 (by decide) if_62_0 ?_
  refine J.icmp_ge (q := 19) (tgt := 110) O dX11_agreementInForce_16 rfl (by decide) (fun z5 => ?_) (fun z5 => ?_)
  · replace h := h.1 z5
    refine J.iload (q := 112) O dX11_agreementInForce_110 rfl 4 rfl ?_
    exact hR _ _ _ _ dX11_agreementInForce_112 h
  · replace h := h.2 z5
    refine J.iload_n (q := 20) O dX11_agreementInForce_19 rfl 3 rfl ?_
    refine J.aload_n (q := 21) O dX11_agreementInForce_20 rfl 0 rfl ?_
    refine J.getR (q := 24) (c' := 0) (ci := 11) (k := 6) (r := 62) O dX11_agreementInForce_21 rfl wd_3_8 (by decide) if_0_6 ?_
    refine J.getR (q := 27) (c' := 62) (ci := 1) (k := 3) (r := 65) O dX11_agreementInForce_24 rfl wd_1_229 (by decide) if_62_3 ?_
    refine J.iload (q := 29) O dX11_agreementInForce_27 rfl 5 rfl ?_
    obtain ⟨hv6, h⟩ := h
    refine J.iald (q := 30) (c' := 65) (j := x5.toNatClampNeg) (M 65 x5.toNatClampNeg) rfl O dX11_agreementInForce_29 rfl ar_65 hv6 rfl ?_
    refine J.icmp_lt (q := 33) (tgt := 104) O dX11_agreementInForce_30 rfl (by decide) (fun z7 => ?_) (fun z7 => ?_)
    · replace h := h.1 z7
      exact J.sub [0, 1, 2, 3, 4, 5] rfl (j_X11_agreementInForce_b104 hG O hR hr7 h)
    · replace h := h.2 z7
      refine J.iload_n (q := 34) O dX11_agreementInForce_33 rfl 3 rfl ?_
      refine J.aload_n (q := 35) O dX11_agreementInForce_34 rfl 0 rfl ?_
      refine J.getR (q := 38) (c' := 0) (ci := 11) (k := 6) (r := 62) O dX11_agreementInForce_35 rfl wd_3_8 (by decide) if_0_6 ?_
      refine J.getR (q := 41) (c' := 62) (ci := 1) (k := 4) (r := 66) O dX11_agreementInForce_38 rfl wd_1_231 (by decide) if_62_4 ?_
      refine J.iload (q := 43) O dX11_agreementInForce_41 rfl 5 rfl ?_
      obtain ⟨hv8, h⟩ := h
      refine J.iald (q := 44) (c' := 66) (j := x5.toNatClampNeg) (M 66 x5.toNatClampNeg) rfl O dX11_agreementInForce_43 rfl ar_66 hv8 rfl ?_
      refine J.icmp_gt (q := 47) (tgt := 104) O dX11_agreementInForce_44 rfl (by decide) (fun z9 => ?_) (fun z9 => ?_)
      · replace h := h.1 z9
        exact J.sub [0, 1, 2, 3, 4, 5] rfl (j_X11_agreementInForce_b104 hG O hR hr7 h)
      · replace h := h.2 z9
        refine J.aload_n (q := 48) O dX11_agreementInForce_47 rfl 0 rfl ?_
        refine J.iload (q := 50) O dX11_agreementInForce_48 rfl 5 rfl ?_
        refine J.iload_n (q := 51) O dX11_agreementInForce_50 rfl 1 rfl ?_
        refine J.iload_n (q := 52) O dX11_agreementInForce_51 rfl 2 rfl ?_
        refine J.callVI (q := 55) [.int x5, .int x1, .int x2] [] [.int x2, .int x1, .int x5, .ref (ad G 0)] rfl O dX11_agreementInForce_52 rfl (c_X11_concerns hG h) wd_4_224 mw_X11_concerns io_0 rfl (by decide) (Nat.le_of_ble_eq_true rfl) (fun v10 M10 h => ?_)
        refine J.if_eq (q := 58) (tgt := 104) O dX11_agreementInForce_55 rfl (by decide) (fun z11 => ?_) (fun z11 => ?_)
        · replace h := h.1 z11
          exact J.sub [0, 1, 2, 3, 4, 5] rfl (j_X11_agreementInForce_b104 hG O hR hr7 h)
        · replace h := h.2 z11
          refine J.aload_n (q := 59) O dX11_agreementInForce_58 rfl 0 rfl ?_
          refine J.iload (q := 61) O dX11_agreementInForce_59 rfl 5 rfl ?_
          refine J.callVI (q := 64) [.int x5] [] [.int x5, .ref (ad G 0)] rfl O dX11_agreementInForce_61 rfl (c_X11_holds hG h) wd_4_198 mw_X11_holds io_0 rfl (by decide) (Nat.le_of_ble_eq_true rfl) (fun v12 M12 h => ?_)
          refine J.if_ne (q := 67) (tgt := 70) O dX11_agreementInForce_64 rfl (by decide) (fun z13 => ?_) (fun z13 => ?_)
          · replace h := h.1 z13
            refine J.iload (q := 72) O dX11_agreementInForce_70 rfl 4 rfl ?_
            refine J.bipush (q := 74) (v := (-9 : Int32)) O dX11_agreementInForce_72 rfl rfl ?_
            refine J.icmp_eq (q := 77) (tgt := 100) O dX11_agreementInForce_74 rfl (by decide) (fun z14 => ?_) (fun z14 => ?_)
            · replace h := h.1 z14
              exact J.sub [0, 1, 2, 3, 5] rfl (j_X11_agreementInForce_b100 hG O hR hr7 h)
            · replace h := h.2 z14
              refine J.aload_n (q := 78) O dX11_agreementInForce_77 rfl 0 rfl ?_
              refine J.getR (q := 81) (c' := 0) (ci := 11) (k := 6) (r := 62) O dX11_agreementInForce_78 rfl wd_3_8 (by decide) if_0_6 ?_
              refine J.getR (q := 84) (c' := 62) (ci := 1) (k := 3) (r := 65) O dX11_agreementInForce_81 rfl wd_1_229 (by decide) if_62_3 ?_
              refine J.iload (q := 86) O dX11_agreementInForce_84 rfl 5 rfl ?_
              obtain ⟨hv15, h⟩ := h
              refine J.iald (q := 87) (c' := 65) (j := x5.toNatClampNeg) (M12 65 x5.toNatClampNeg) rfl O dX11_agreementInForce_86 rfl ar_65 hv15 rfl ?_
              refine J.aload_n (q := 88) O dX11_agreementInForce_87 rfl 0 rfl ?_
              refine J.getR (q := 91) (c' := 0) (ci := 11) (k := 6) (r := 62) O dX11_agreementInForce_88 rfl wd_3_8 (by decide) if_0_6 ?_
              refine J.getR (q := 94) (c' := 62) (ci := 1) (k := 3) (r := 65) O dX11_agreementInForce_91 rfl wd_1_229 (by decide) if_62_3 ?_
              refine J.iload (q := 96) O dX11_agreementInForce_94 rfl 4 rfl ?_
              obtain ⟨hv16, h⟩ := h
              refine J.iald (q := 97) (c' := 65) (j := x4.toNatClampNeg) (M12 65 x4.toNatClampNeg) rfl O dX11_agreementInForce_96 rfl ar_65 hv16 rfl ?_
              refine J.icmp_lt (q := 100) (tgt := 104) O dX11_agreementInForce_97 rfl (by decide) (fun z17 => ?_) (fun z17 => ?_)
              · replace h := h.1 z17
                exact J.sub [0, 1, 2, 3, 4, 5] rfl (j_X11_agreementInForce_b104 hG O hR hr7 h)
              · replace h := h.2 z17
                exact J.sub [0, 1, 2, 3, 5] rfl (j_X11_agreementInForce_b100 hG O hR hr7 h)
          · replace h := h.2 z13
            refine J.goto (q := 104) O dX11_agreementInForce_67 (by decide) ?_
            exact J.sub [0, 1, 2, 3, 4, 5] rfl (j_X11_agreementInForce_b104 hG O hR hr7 h)
set_option maxHeartbeats 4000000 in
set_option maxRecDepth 20000 in
theorem c_X11_agreementInForce {l : Launch} {G : GX} (hG : Gd G) {a1 : Int32} {a2 : Int32} {a3 : Int32} {M : Mem} {K : Int32 → Mem → Prop} (h : f_X11_agreementInForce a1 a2 a3 M K) : CI l G yX11_agreementInForce cX11_agreementInForce 6 (some .int) 5 [.ref (ad G 0), .int a1, .int a2, .int a3] M K := by
  unfold f_X11_agreementInForce at h
  refine CI.mk hG (by decide) [(0, .ref (ad G 0)), (1, .int a1), (2, .int a2), (3, .int a3)] rfl (Nat.le_of_ble_eq_true rfl) (fun X O hlX hR => ?_)
  subst hlX
  refine J.bipush (q := 2) (v := (-9 : Int32)) O dX11_agreementInForce_0 rfl rfl ?_
  refine J.istore (q := 4) O dX11_agreementInForce_2 rfl [(4, .int (-9 : Int32)), (0, .ref (ad G 0)), (1, .int a1), (2, .int a2), (3, .int a3)] (by decide) rfl ?_
  refine J.iconst (q := 5) (v := (0 : Int32)) O dX11_agreementInForce_4 rfl rfl ?_
  refine J.istore (q := 7) O dX11_agreementInForce_5 rfl [(5, .int (0 : Int32)), (4, .int (-9 : Int32)), (0, .ref (ad G 0)), (1, .int a1), (2, .int a2), (3, .int a3)] (by decide) rfl ?_
  exact J.sub [2, 3, 4, 5, 1, 0] rfl (j_X11_agreementInForce_c7 hG O hR h)
set_option maxHeartbeats 4000000 in
set_option maxRecDepth 20000 in
theorem j_X11_agreementEndedLast_b125 {X : CX} {G : GX} {K : Int32 → Mem → Prop} (hG : Gd G) (O : Ok X G cX11_agreementEndedLast 7 RX11 5) (hR : RetI X G cX11_agreementEndedLast K) {r7 : Int32 × Int32 × Int32 × Int32 × Int32 × Mem → Prop} (hr7 : ∀ a : Int32 × Int32 × Int32 × Int32 × Int32 × Mem, r7 a → J X G a.2.2.2.2.2 7 [(0, .ref (ad G 0)), (1, .int a.1), (2, .int a.2.1), (3, .int a.2.2.1), (4, .int a.2.2.2.1), (5, .int a.2.2.2.2.1)] []) {x1 : Int32} {x2 : Int32} {x3 : Int32} {x4 : Int32} {x5 : Int32} {M : Mem} (h : f_X11_agreementEndedLast_b125 r7 K x1 x2 x3 x4 x5 M) : J X G M 125 [(0, .ref (ad G 0)), (1, .int x1), (2, .int x2), (3, .int x3), (4, .int x4), (5, .int x5)] [] := by
  unfold f_X11_agreementEndedLast_b125 at h
  refine J.iinc (q := 128) O dX11_agreementEndedLast_125 rfl [(5, .int (x5 + (1 : Int32))), (0, .ref (ad G 0)), (1, .int x1), (2, .int x2), (3, .int x3), (4, .int x4)] 5 rfl rfl (by decide) rfl ?_
  refine J.goto (q := 7) O dX11_agreementEndedLast_128 (by decide) ?_
  exact J.sub [1, 2, 3, 4, 5, 0] rfl (hr7 _ h)
set_option maxHeartbeats 4000000 in
set_option maxRecDepth 20000 in
theorem j_X11_agreementEndedLast_b121 {X : CX} {G : GX} {K : Int32 → Mem → Prop} (hG : Gd G) (O : Ok X G cX11_agreementEndedLast 7 RX11 5) (hR : RetI X G cX11_agreementEndedLast K) {r7 : Int32 × Int32 × Int32 × Int32 × Int32 × Mem → Prop} (hr7 : ∀ a : Int32 × Int32 × Int32 × Int32 × Int32 × Mem, r7 a → J X G a.2.2.2.2.2 7 [(0, .ref (ad G 0)), (1, .int a.1), (2, .int a.2.1), (3, .int a.2.2.1), (4, .int a.2.2.2.1), (5, .int a.2.2.2.2.1)] []) {x1 : Int32} {x2 : Int32} {x3 : Int32} {x5 : Int32} {M : Mem} (h : f_X11_agreementEndedLast_b121 r7 K x1 x2 x3 x5 M) : J X G M 121 [(0, .ref (ad G 0)), (1, .int x1), (2, .int x2), (3, .int x3), (5, .int x5)] [] := by
  unfold f_X11_agreementEndedLast_b121 at h
  refine J.iload (q := 123) O dX11_agreementEndedLast_121 rfl 4 rfl ?_
  refine J.istore (q := 125) O dX11_agreementEndedLast_123 rfl [(4, .int x5), (0, .ref (ad G 0)), (1, .int x1), (2, .int x2), (3, .int x3), (5, .int x5)] (by decide) rfl ?_
  exact J.sub [1, 2, 3, 4, 0, 5] rfl (j_X11_agreementEndedLast_b125 hG O hR hr7 h)
set_option maxHeartbeats 4000000 in
set_option maxRecDepth 20000 in
theorem j_X11_agreementEndedLast_b47 {X : CX} {G : GX} {K : Int32 → Mem → Prop} (hG : Gd G) (O : Ok X G cX11_agreementEndedLast 7 RX11 5) (hR : RetI X G cX11_agreementEndedLast K) {r7 : Int32 × Int32 × Int32 × Int32 × Int32 × Mem → Prop} (hr7 : ∀ a : Int32 × Int32 × Int32 × Int32 × Int32 × Mem, r7 a → J X G a.2.2.2.2.2 7 [(0, .ref (ad G 0)), (1, .int a.1), (2, .int a.2.1), (3, .int a.2.2.1), (4, .int a.2.2.2.1), (5, .int a.2.2.2.2.1)] []) {x1 : Int32} {x2 : Int32} {x3 : Int32} {x4 : Int32} {x5 : Int32} {s0 : Int32} {M : Mem} (h : f_X11_agreementEndedLast_b47 r7 K x1 x2 x3 x4 x5 s0 M) : J X G M 47 [(0, .ref (ad G 0)), (1, .int x1), (2, .int x2), (3, .int x3), (4, .int x4), (5, .int x5)] [.int s0] := by
  unfold f_X11_agreementEndedLast_b47 at h
  refine J.istore (q := 49) O dX11_agreementEndedLast_47 rfl [(6, .int s0), (0, .ref (ad G 0)), (1, .int x1), (2, .int x2), (3, .int x3), (4, .int x4), (5, .int x5)] (by decide) rfl ?_
  refine J.iload (q := 51) O dX11_agreementEndedLast_49 rfl 0 rfl ?_
  refine J.if_eq (q := 54) (tgt := 125) O dX11_agreementEndedLast_51 rfl (by decide) (fun z6 => ?_) (fun z6 => ?_)
  · replace h := h.1 z6
    exact J.sub [1, 2, 3, 4, 5, 6] rfl (j_X11_agreementEndedLast_b125 hG O hR hr7 h)
  · replace h := h.2 z6
    refine J.aload_n (q := 55) O dX11_agreementEndedLast_54 rfl 1 rfl ?_
    refine J.getR (q := 58) (c' := 0) (ci := 11) (k := 6) (r := 62) O dX11_agreementEndedLast_55 rfl wd_3_8 (by decide) if_0_6 ?_
    refine J.getR (q := 61) (c' := 62) (ci := 1) (k := 4) (r := 66) O dX11_agreementEndedLast_58 rfl wd_1_231 (by decide) if_62_4 ?_
    refine J.iload (q := 63) O dX11_agreementEndedLast_61 rfl 6 rfl ?_
    obtain ⟨hv7, h⟩ := h
    refine J.iald (q := 64) (c' := 66) (j := x5.toNatClampNeg) (M 66 x5.toNatClampNeg) rfl O dX11_agreementEndedLast_63 rfl ar_66 hv7 rfl ?_
    refine J.iload_n (q := 65) O dX11_agreementEndedLast_64 rfl 4 rfl ?_
    refine J.icmp_ge (q := 68) (tgt := 125) O dX11_agreementEndedLast_65 rfl (by decide) (fun z8 => ?_) (fun z8 => ?_)
    · replace h := h.1 z8
      exact J.sub [1, 2, 3, 4, 5, 6] rfl (j_X11_agreementEndedLast_b125 hG O hR hr7 h)
    · replace h := h.2 z8
      refine J.aload_n (q := 69) O dX11_agreementEndedLast_68 rfl 1 rfl ?_
      refine J.iload (q := 71) O dX11_agreementEndedLast_69 rfl 6 rfl ?_
      refine J.iload_n (q := 72) O dX11_agreementEndedLast_71 rfl 2 rfl ?_
      refine J.iload_n (q := 73) O dX11_agreementEndedLast_72 rfl 3 rfl ?_
      refine J.callVI (q := 76) [.int x5, .int x1, .int x2] [] [.int x2, .int x1, .int x5, .ref (ad G 0)] rfl O dX11_agreementEndedLast_73 rfl (c_X11_concerns hG h) wd_4_224 mw_X11_concerns io_0 rfl (by decide) (Nat.le_of_ble_eq_true rfl) (fun v9 M9 h => ?_)
      refine J.if_eq (q := 79) (tgt := 125) O dX11_agreementEndedLast_76 rfl (by decide) (fun z10 => ?_) (fun z10 => ?_)
      · replace h := h.1 z10
        exact J.sub [1, 2, 3, 4, 5, 6] rfl (j_X11_agreementEndedLast_b125 hG O hR hr7 h)
      · replace h := h.2 z10
        refine J.aload_n (q := 80) O dX11_agreementEndedLast_79 rfl 1 rfl ?_
        refine J.iload (q := 82) O dX11_agreementEndedLast_80 rfl 6 rfl ?_
        refine J.callVI (q := 85) [.int x5] [] [.int x5, .ref (ad G 0)] rfl O dX11_agreementEndedLast_82 rfl (c_X11_holds hG h) wd_4_198 mw_X11_holds io_0 rfl (by decide) (Nat.le_of_ble_eq_true rfl) (fun v11 M11 h => ?_)
        refine J.if_ne (q := 88) (tgt := 91) O dX11_agreementEndedLast_85 rfl (by decide) (fun z12 => ?_) (fun z12 => ?_)
        · replace h := h.1 z12
          refine J.iload (q := 93) O dX11_agreementEndedLast_91 rfl 5 rfl ?_
          refine J.bipush (q := 95) (v := (-9 : Int32)) O dX11_agreementEndedLast_93 rfl rfl ?_
          refine J.icmp_eq (q := 98) (tgt := 121) O dX11_agreementEndedLast_95 rfl (by decide) (fun z13 => ?_) (fun z13 => ?_)
          · replace h := h.1 z13
            exact J.sub [1, 2, 3, 4, 6] rfl (j_X11_agreementEndedLast_b121 hG O hR hr7 h)
          · replace h := h.2 z13
            refine J.aload_n (q := 99) O dX11_agreementEndedLast_98 rfl 1 rfl ?_
            refine J.getR (q := 102) (c' := 0) (ci := 11) (k := 6) (r := 62) O dX11_agreementEndedLast_99 rfl wd_3_8 (by decide) if_0_6 ?_
            refine J.getR (q := 105) (c' := 62) (ci := 1) (k := 4) (r := 66) O dX11_agreementEndedLast_102 rfl wd_1_231 (by decide) if_62_4 ?_
            refine J.iload (q := 107) O dX11_agreementEndedLast_105 rfl 6 rfl ?_
            obtain ⟨hv14, h⟩ := h
            refine J.iald (q := 108) (c' := 66) (j := x5.toNatClampNeg) (M11 66 x5.toNatClampNeg) rfl O dX11_agreementEndedLast_107 rfl ar_66 hv14 rfl ?_
            refine J.aload_n (q := 109) O dX11_agreementEndedLast_108 rfl 1 rfl ?_
            refine J.getR (q := 112) (c' := 0) (ci := 11) (k := 6) (r := 62) O dX11_agreementEndedLast_109 rfl wd_3_8 (by decide) if_0_6 ?_
            refine J.getR (q := 115) (c' := 62) (ci := 1) (k := 4) (r := 66) O dX11_agreementEndedLast_112 rfl wd_1_231 (by decide) if_62_4 ?_
            refine J.iload (q := 117) O dX11_agreementEndedLast_115 rfl 5 rfl ?_
            obtain ⟨hv15, h⟩ := h
            refine J.iald (q := 118) (c' := 66) (j := x4.toNatClampNeg) (M11 66 x4.toNatClampNeg) rfl O dX11_agreementEndedLast_117 rfl ar_66 hv15 rfl ?_
            refine J.icmp_lt (q := 121) (tgt := 125) O dX11_agreementEndedLast_118 rfl (by decide) (fun z16 => ?_) (fun z16 => ?_)
            · replace h := h.1 z16
              exact J.sub [1, 2, 3, 4, 5, 6] rfl (j_X11_agreementEndedLast_b125 hG O hR hr7 h)
            · replace h := h.2 z16
              exact J.sub [1, 2, 3, 4, 6] rfl (j_X11_agreementEndedLast_b121 hG O hR hr7 h)
        · replace h := h.2 z12
          refine J.goto (q := 125) O dX11_agreementEndedLast_88 (by decide) ?_
          exact J.sub [1, 2, 3, 4, 5, 6] rfl (j_X11_agreementEndedLast_b125 hG O hR hr7 h)
set_option maxHeartbeats 4000000 in
set_option maxRecDepth 20000 in
theorem j_X11_agreementEndedLast_c7 {X : CX} {G : GX} {K : Int32 → Mem → Prop} (hG : Gd G) (O : Ok X G cX11_agreementEndedLast 7 RX11 5) (hR : RetI X G cX11_agreementEndedLast K) {a : Int32 × Int32 × Int32 × Int32 × Int32 × Mem} (h : Lp (fun (r7 : Int32 × Int32 × Int32 × Int32 × Int32 × Mem → Prop) a => f_X11_agreementEndedLast_c7 K r7 a.1 a.2.1 a.2.2.1 a.2.2.2.1 a.2.2.2.2.1 a.2.2.2.2.2) a) : J X G a.2.2.2.2.2 7 [(0, .ref (ad G 0)), (1, .int a.1), (2, .int a.2.1), (3, .int a.2.2.1), (4, .int a.2.2.2.1), (5, .int a.2.2.2.2.1)] [] := by
  refine Lp.elim (P := fun a => J X G a.2.2.2.2.2 7 [(0, .ref (ad G 0)), (1, .int a.1), (2, .int a.2.1), (3, .int a.2.2.1), (4, .int a.2.2.2.1), (5, .int a.2.2.2.2.1)] []) ?_ h
  clear h
  intro r7 hr7 a h
  obtain ⟨x1, x2, x3, x4, x5, M⟩ := a
  unfold f_X11_agreementEndedLast_c7 at h
  (try dsimp only at h ⊢)
  refine J.iload (q := 9) O dX11_agreementEndedLast_7 rfl 5 rfl ?_
  refine J.aload_n (q := 10) O dX11_agreementEndedLast_9 rfl 0 rfl ?_
  refine J.getR (q := 13) (c' := 0) (ci := 11) (k := 6) (r := 62) O dX11_agreementEndedLast_10 rfl wd_3_8 (by decide) if_0_6 ?_
  refine J.getI (q := 16) (c' := 62) (ci := 1) (k := 0) (M 62 0) rfl O dX11_agreementEndedLast_13 rfl wd_1_223 (by decide) if_62_0 ?_
  refine J.icmp_ge (q := 19) (tgt := 131) O dX11_agreementEndedLast_16 rfl (by decide) (fun z17 => ?_) (fun z17 => ?_)
  · replace h := h.1 z17
    refine J.iload (q := 133) O dX11_agreementEndedLast_131 rfl 4 rfl ?_
    exact hR _ _ _ _ dX11_agreementEndedLast_133 h
  · replace h := h.2 z17
    refine J.aload_n (q := 20) O dX11_agreementEndedLast_19 rfl 0 rfl ?_
    refine J.getR (q := 23) (c' := 0) (ci := 11) (k := 6) (r := 62) O dX11_agreementEndedLast_20 rfl wd_3_8 (by decide) if_0_6 ?_
    refine J.getR (q := 26) (c' := 62) (ci := 1) (k := 3) (r := 65) O dX11_agreementEndedLast_23 rfl wd_1_229 (by decide) if_62_3 ?_
    refine J.iload (q := 28) O dX11_agreementEndedLast_26 rfl 5 rfl ?_
    obtain ⟨hv18, h⟩ := h
    refine J.iald (q := 29) (c' := 65) (j := x5.toNatClampNeg) (M 65 x5.toNatClampNeg) rfl O dX11_agreementEndedLast_28 rfl ar_65 hv18 rfl ?_
    refine J.aload_n (q := 30) O dX11_agreementEndedLast_29 rfl 0 rfl ?_
    refine J.getR (q := 33) (c' := 0) (ci := 11) (k := 6) (r := 62) O dX11_agreementEndedLast_30 rfl wd_3_8 (by decide) if_0_6 ?_
    refine J.getR (q := 36) (c' := 62) (ci := 1) (k := 4) (r := 66) O dX11_agreementEndedLast_33 rfl wd_1_231 (by decide) if_62_4 ?_
    refine J.iload (q := 38) O dX11_agreementEndedLast_36 rfl 5 rfl ?_
    obtain ⟨hv19, h⟩ := h
    refine J.iald (q := 39) (c' := 66) (j := x5.toNatClampNeg) (M 66 x5.toNatClampNeg) rfl O dX11_agreementEndedLast_38 rfl ar_66 hv19 rfl ?_
    refine J.icmp_gt (q := 42) (tgt := 46) O dX11_agreementEndedLast_39 rfl (by decide) (fun z20 => ?_) (fun z20 => ?_)
    · replace h := h.1 z20
      refine J.iconst (q := 47) (v := (0 : Int32)) O dX11_agreementEndedLast_46 rfl rfl ?_
      exact J.sub [0, 1, 2, 3, 4, 5] rfl (j_X11_agreementEndedLast_b47 hG O hR hr7 h)
    · replace h := h.2 z20
      refine J.iconst (q := 43) (v := (1 : Int32)) O dX11_agreementEndedLast_42 rfl rfl ?_
      refine J.goto (q := 47) O dX11_agreementEndedLast_43 (by decide) ?_
      exact J.sub [0, 1, 2, 3, 4, 5] rfl (j_X11_agreementEndedLast_b47 hG O hR hr7 h)
set_option maxHeartbeats 4000000 in
set_option maxRecDepth 20000 in
theorem c_X11_agreementEndedLast {l : Launch} {G : GX} (hG : Gd G) {a1 : Int32} {a2 : Int32} {a3 : Int32} {M : Mem} {K : Int32 → Mem → Prop} (h : f_X11_agreementEndedLast a1 a2 a3 M K) : CI l G yX11_agreementEndedLast cX11_agreementEndedLast 7 (some .int) 5 [.ref (ad G 0), .int a1, .int a2, .int a3] M K := by
  unfold f_X11_agreementEndedLast at h
  refine CI.mk hG (by decide) [(0, .ref (ad G 0)), (1, .int a1), (2, .int a2), (3, .int a3)] rfl (Nat.le_of_ble_eq_true rfl) (fun X O hlX hR => ?_)
  subst hlX
  refine J.bipush (q := 2) (v := (-9 : Int32)) O dX11_agreementEndedLast_0 rfl rfl ?_
  refine J.istore (q := 4) O dX11_agreementEndedLast_2 rfl [(4, .int (-9 : Int32)), (0, .ref (ad G 0)), (1, .int a1), (2, .int a2), (3, .int a3)] (by decide) rfl ?_
  refine J.iconst (q := 5) (v := (0 : Int32)) O dX11_agreementEndedLast_4 rfl rfl ?_
  refine J.istore (q := 7) O dX11_agreementEndedLast_5 rfl [(5, .int (0 : Int32)), (4, .int (-9 : Int32)), (0, .ref (ad G 0)), (1, .int a1), (2, .int a2), (3, .int a3)] (by decide) rfl ?_
  exact J.sub [2, 3, 4, 5, 1, 0] rfl (j_X11_agreementEndedLast_c7 hG O hR h)
set_option maxHeartbeats 4000000 in
set_option maxRecDepth 20000 in
theorem j_X1_worthBy_b26 {X : CX} {G : GX} {K : Int32 → Mem → Prop} (hG : Gd G) (O : Ok X G cX1_worthBy 4 RX1 2) (hR : RetI X G cX1_worthBy K) {s0 : Int32} {M : Mem} (h : f_X1_worthBy_b26 K s0 M) : J X G M 26 [] [.int s0] := by
  unfold f_X1_worthBy_b26 at h
  exact hR _ _ _ _ dX1_worthBy_26 h
set_option maxHeartbeats 4000000 in
set_option maxRecDepth 20000 in
theorem j_X1_worthBy_b42 {X : CX} {G : GX} {K : Int32 → Mem → Prop} (hG : Gd G) (O : Ok X G cX1_worthBy 4 RX1 2) (hR : RetI X G cX1_worthBy K) {x2 : Int32} {M : Mem} (h : f_X1_worthBy_b42 K x2 M) : J X G M 42 [(0, .ref (ad G 62)), (2, .int x2)] [] := by
  unfold f_X1_worthBy_b42 at h
  refine J.aload_n (q := 43) O dX1_worthBy_42 rfl 0 rfl ?_
  refine J.getR (q := 46) (c' := 62) (ci := 1) (k := 2) (r := 64) O dX1_worthBy_43 rfl wd_1_226 (by decide) if_62_2 ?_
  refine J.iload_n (q := 47) O dX1_worthBy_46 rfl 1 rfl ?_
  obtain ⟨hv6, h⟩ := h
  refine J.iald (q := 48) (c' := 64) (j := x2.toNatClampNeg) (M 64 x2.toNatClampNeg) rfl O dX1_worthBy_47 rfl ar_64 hv6 rfl ?_
  exact hR _ _ _ _ dX1_worthBy_48 h
set_option maxHeartbeats 4000000 in
set_option maxRecDepth 20000 in
theorem j_X1_worthBy_b72 {X : CX} {G : GX} {K : Int32 → Mem → Prop} (hG : Gd G) (O : Ok X G cX1_worthBy 4 RX1 2) (hR : RetI X G cX1_worthBy K) {s0 : Int32} {M : Mem} (h : f_X1_worthBy_b72 K s0 M) : J X G M 72 [] [.int s0] := by
  unfold f_X1_worthBy_b72 at h
  exact hR _ _ _ _ dX1_worthBy_72 h
set_option maxHeartbeats 4000000 in
set_option maxRecDepth 20000 in
theorem c_X1_worthBy {l : Launch} {G : GX} (hG : Gd G) {a1 : Int32} {a2 : Int32} {M : Mem} {K : Int32 → Mem → Prop} (h : f_X1_worthBy a1 a2 M K) : CI l G yX1_worthBy cX1_worthBy 4 (some .int) 2 [.ref (ad G 62), .int a1, .int a2] M K := by
  unfold f_X1_worthBy at h
  refine CI.mk hG (by decide) [(0, .ref (ad G 62)), (1, .int a1), (2, .int a2)] rfl (Nat.le_of_ble_eq_true rfl) (fun X O hlX hR => ?_)
  subst hlX
  refine J.aload_n (q := 1) O dX1_worthBy_0 rfl 0 rfl ?_
  refine J.getR (q := 4) (c' := 62) (ci := 1) (k := 7) (r := 69) O dX1_worthBy_1 rfl wd_1_236 (by decide) if_62_7 ?_
  refine J.iload_n (q := 5) O dX1_worthBy_4 rfl 1 rfl ?_
  obtain ⟨hv7, h⟩ := h
  refine J.iald (q := 6) (c' := 69) (j := a1.toNatClampNeg) (M 69 a1.toNatClampNeg) rfl O dX1_worthBy_5 rfl ar_69 hv7 rfl ?_
  refine J.istore_n (q := 7) O dX1_worthBy_6 rfl [(3, .int (M 69 a1.toNatClampNeg)), (0, .ref (ad G 62)), (1, .int a1), (2, .int a2)] (by decide) rfl ?_
  refine J.aload_n (q := 8) O dX1_worthBy_7 rfl 1 rfl ?_
  refine J.iload_n (q := 9) O dX1_worthBy_8 rfl 3 rfl ?_
  refine J.callVI (q := 12) [.int a2] [] [.int a2, .ref (ad G 62)] rfl O dX1_worthBy_9 rfl (c_X1_has hG h) wd_4_236 mw_X1_has io_62 rfl (by decide) (Nat.le_of_ble_eq_true rfl) (fun v8 M8 h => ?_)
  refine J.if_ne (q := 15) (tgt := 27) O dX1_worthBy_12 rfl (by decide) (fun z9 => ?_) (fun z9 => ?_)
  · replace h := h.1 z9
    refine J.iload_n (q := 28) O dX1_worthBy_27 rfl 0 rfl ?_
    refine J.iconst (q := 29) (v := (-1 : Int32)) O dX1_worthBy_28 rfl rfl ?_
    refine J.icmp_eq (q := 32) (tgt := 42) O dX1_worthBy_29 rfl (by decide) (fun z10 => ?_) (fun z10 => ?_)
    · replace h := h.1 z10
      exact J.sub [1, 3] rfl (j_X1_worthBy_b42 hG O hR h)
    · replace h := h.2 z10
      refine J.aload_n (q := 33) O dX1_worthBy_32 rfl 1 rfl ?_
      refine J.getR (q := 36) (c' := 62) (ci := 1) (k := 8) (r := 70) O dX1_worthBy_33 rfl wd_1_238 (by decide) if_62_8 ?_
      refine J.iload_n (q := 37) O dX1_worthBy_36 rfl 2 rfl ?_
      obtain ⟨hv11, h⟩ := h
      refine J.iald (q := 38) (c' := 70) (j := a1.toNatClampNeg) (M8 70 a1.toNatClampNeg) rfl O dX1_worthBy_37 rfl ar_70 hv11 rfl ?_
      refine J.iconst (q := 39) (v := (2 : Int32)) O dX1_worthBy_38 rfl rfl ?_
      refine J.icmp_ne (q := 42) (tgt := 49) O dX1_worthBy_39 rfl (by decide) (fun z12 => ?_) (fun z12 => ?_)
      · replace h := h.1 z12
        refine J.aload_n (q := 50) O dX1_worthBy_49 rfl 1 rfl ?_
        refine J.getR (q := 53) (c' := 62) (ci := 1) (k := 8) (r := 70) O dX1_worthBy_50 rfl wd_1_238 (by decide) if_62_8 ?_
        refine J.iload_n (q := 54) O dX1_worthBy_53 rfl 2 rfl ?_
        obtain ⟨hv13, h⟩ := h
        refine J.iald (q := 55) (c' := 70) (j := a1.toNatClampNeg) (M8 70 a1.toNatClampNeg) rfl O dX1_worthBy_54 rfl ar_70 hv13 rfl ?_
        refine J.if_ne (q := 58) (tgt := 62) O dX1_worthBy_55 rfl (by decide) (fun z14 => ?_) (fun z14 => ?_)
        · replace h := h.1 z14
          refine J.iload_n (q := 63) O dX1_worthBy_62 rfl 0 rfl ?_
          refine J.aload_n (q := 64) O dX1_worthBy_63 rfl 1 rfl ?_
          refine J.getR (q := 67) (c' := 62) (ci := 1) (k := 2) (r := 64) O dX1_worthBy_64 rfl wd_1_226 (by decide) if_62_2 ?_
          refine J.iload_n (q := 68) O dX1_worthBy_67 rfl 3 rfl ?_
          obtain ⟨hv15, h⟩ := h
          refine J.iald (q := 69) (c' := 64) (j := a2.toNatClampNeg) (M8 64 a2.toNatClampNeg) rfl O dX1_worthBy_68 rfl ar_64 hv15 rfl ?_
          refine J.mmax (q := 72) O dX1_worthBy_69 rfl wd_4_237 (by decide) (Nat.le_of_ble_eq_true rfl) ?_
          exact J.sub [] rfl (j_X1_worthBy_b72 hG O hR h)
        · replace h := h.2 z14
          refine J.iload_n (q := 59) O dX1_worthBy_58 rfl 0 rfl ?_
          refine J.goto (q := 72) O dX1_worthBy_59 (by decide) ?_
          exact J.sub [] rfl (j_X1_worthBy_b72 hG O hR h)
      · replace h := h.2 z12
        exact J.sub [1, 3] rfl (j_X1_worthBy_b42 hG O hR h)
  · replace h := h.2 z9
    refine J.iload_n (q := 16) O dX1_worthBy_15 rfl 0 rfl ?_
    refine J.iconst (q := 17) (v := (-1 : Int32)) O dX1_worthBy_16 rfl rfl ?_
    refine J.icmp_ne (q := 20) (tgt := 25) O dX1_worthBy_17 rfl (by decide) (fun z16 => ?_) (fun z16 => ?_)
    · replace h := h.1 z16
      refine J.iload_n (q := 26) O dX1_worthBy_25 rfl 0 rfl ?_
      exact J.sub [] rfl (j_X1_worthBy_b26 hG O hR h)
    · replace h := h.2 z16
      refine J.bipush (q := 22) (v := (-9 : Int32)) O dX1_worthBy_20 rfl rfl ?_
      refine J.goto (q := 26) O dX1_worthBy_22 (by decide) ?_
      exact J.sub [] rfl (j_X1_worthBy_b26 hG O hR h)
set_option maxHeartbeats 4000000 in
set_option maxRecDepth 20000 in
theorem j_X11_worth_b31 {X : CX} {G : GX} {K : Int32 → Mem → Prop} (hG : Gd G) (O : Ok X G cX11_worth 7 RX11 6) (hR : RetI X G cX11_worth K) {M : Mem} (h : f_X11_worth_b31 K  M) : J X G M 31 [(0, .ref (ad G 0))] [] := by
  unfold f_X11_worth_b31 at h
  refine J.aload_n (q := 32) O dX11_worth_31 rfl 0 rfl ?_
  refine J.bipush (q := 34) (v := (-2 : Int32)) O dX11_worth_32 rfl rfl ?_
  refine J.callVI (q := 37) [.int (-2 : Int32)] [] [.int (-2 : Int32), .ref (ad G 0)] rfl O dX11_worth_34 rfl (c_X11_refuse hG h) wd_3_55 mw_X11_refuse io_0 rfl (by decide) (Nat.le_of_ble_eq_true rfl) (fun v2 M2 h => ?_)
  exact hR _ _ _ _ dX11_worth_37 h
set_option maxHeartbeats 4000000 in
set_option maxRecDepth 20000 in
theorem j_X11_worth_b118 {X : CX} {G : GX} {K : Int32 → Mem → Prop} (hG : Gd G) (O : Ok X G cX11_worth 7 RX11 6) (hR : RetI X G cX11_worth K) {s0 : Int32} {M : Mem} (h : f_X11_worth_b118 K s0 M) : J X G M 118 [] [.int s0] := by
  unfold f_X11_worth_b118 at h
  exact hR _ _ _ _ dX11_worth_118 h
set_option maxHeartbeats 4000000 in
set_option maxRecDepth 20000 in
theorem j_X11_worth_b97 {X : CX} {G : GX} {K : Int32 → Mem → Prop} (hG : Gd G) (O : Ok X G cX11_worth 7 RX11 6) (hR : RetI X G cX11_worth K) {x2 : Int32} {x4 : Int32} {x6 : Int32} {M : Mem} (h : f_X11_worth_b97 K x2 x4 x6 M) : J X G M 97 [(0, .ref (ad G 0)), (2, .int x2), (4, .int x4), (6, .int x6)] [] := by
  unfold f_X11_worth_b97 at h
  refine J.iload (q := 99) O dX11_worth_97 rfl 2 rfl ?_
  refine J.iconst (q := 100) (v := (1 : Int32)) O dX11_worth_99 rfl rfl ?_
  refine J.icmp_ne (q := 103) (tgt := 108) O dX11_worth_100 rfl (by decide) (fun z3 => ?_) (fun z3 => ?_)
  · replace h := h.1 z3
    refine J.aload_n (q := 109) O dX11_worth_108 rfl 0 rfl ?_
    refine J.getR (q := 112) (c' := 0) (ci := 11) (k := 6) (r := 62) O dX11_worth_109 rfl wd_3_8 (by decide) if_0_6 ?_
    refine J.iload_n (q := 113) O dX11_worth_112 rfl 1 rfl ?_
    refine J.iload (q := 115) O dX11_worth_113 rfl 3 rfl ?_
    refine J.callVI (q := 118) [.int x2, .int x6] [] [.int x6, .int x2, .ref (ad G 62)] rfl O dX11_worth_115 rfl (c_X1_worthBy hG h) wd_4_232 mw_X1_worthBy io_62 rfl (by decide) (Nat.le_of_ble_eq_true rfl) (fun v4 M4 h => ?_)
    exact J.sub [] rfl (j_X11_worth_b118 hG O hR h)
  · replace h := h.2 z3
    refine J.iload (q := 105) O dX11_worth_103 rfl 3 rfl ?_
    refine J.goto (q := 118) O dX11_worth_105 (by decide) ?_
    exact J.sub [] rfl (j_X11_worth_b118 hG O hR h)
set_option maxHeartbeats 4000000 in
set_option maxRecDepth 20000 in
theorem c_X11_worth {l : Launch} {G : GX} (hG : Gd G) {a1 : Int32} {a2 : Int32} {a3 : Int32} {a4 : Int32} {M : Mem} {K : Int32 → Mem → Prop} (h : f_X11_worth a1 a2 a3 a4 M K) : CI l G yX11_worth cX11_worth 7 (some .int) 6 [.ref (ad G 0), .int a1, .int a2, .int a3, .int a4] M K := by
  unfold f_X11_worth at h
  refine CI.mk hG (by decide) [(0, .ref (ad G 0)), (1, .int a1), (2, .int a2), (3, .int a3), (4, .int a4)] rfl (Nat.le_of_ble_eq_true rfl) (fun X O hlX hR => ?_)
  subst hlX
  refine J.iload_n (q := 1) O dX11_worth_0 rfl 1 rfl ?_
  refine J.callSI (q := 4) [.int a1] [] [.int a1] rfl O dX11_worth_1 rfl (c_X11_isShop hG h) wd_3_88 mw_X11_isShop rfl (by decide) (Nat.le_of_ble_eq_true rfl) (fun v5 M5 h => ?_)
  refine J.if_ne (q := 7) (tgt := 13) O dX11_worth_4 rfl (by decide) (fun z6 => ?_) (fun z6 => ?_)
  · replace h := h.1 z6
    refine J.iload_n (q := 14) O dX11_worth_13 rfl 2 rfl ?_
    refine J.callSI (q := 17) [.int a2] [] [.int a2] rfl O dX11_worth_14 rfl (c_X11_isWhat hG h) wd_3_208 mw_X11_isWhat rfl (by decide) (Nat.le_of_ble_eq_true rfl) (fun v7 M7 h => ?_)
    refine J.if_eq (q := 20) (tgt := 31) O dX11_worth_17 rfl (by decide) (fun z8 => ?_) (fun z8 => ?_)
    · replace h := h.1 z8
      exact J.sub [0] rfl (j_X11_worth_b31 hG O hR h)
    · replace h := h.2 z8
      refine J.iload (q := 22) O dX11_worth_20 rfl 4 rfl ?_
      refine J.if_lt (q := 25) (tgt := 31) O dX11_worth_22 rfl (by decide) (fun z9 => ?_) (fun z9 => ?_)
      · replace h := h.1 z9
        exact J.sub [0] rfl (j_X11_worth_b31 hG O hR h)
      · replace h := h.2 z9
        refine J.iload (q := 27) O dX11_worth_25 rfl 4 rfl ?_
        refine J.iconst (q := 28) (v := (1 : Int32)) O dX11_worth_27 rfl rfl ?_
        refine J.icmp_le (q := 31) (tgt := 38) O dX11_worth_28 rfl (by decide) (fun z10 => ?_) (fun z10 => ?_)
        · replace h := h.1 z10
          refine J.iload_n (q := 39) O dX11_worth_38 rfl 3 rfl ?_
          refine J.iconst (q := 40) (v := (0 : Int32)) O dX11_worth_39 rfl rfl ?_
          refine J.sipush (q := 43) (v := (1000 : Int32)) O dX11_worth_40 rfl rfl ?_
          refine J.callSI (q := 46) [.int a3, .int (0 : Int32), .int (1000 : Int32)] [] [.int (1000 : Int32), .int (0 : Int32), .int a3] rfl O dX11_worth_43 rfl (c_X11_outside hG h) wd_3_63 mw_X11_outside rfl (by decide) (Nat.le_of_ble_eq_true rfl) (fun v11 M11 h => ?_)
          refine J.istore (q := 48) O dX11_worth_46 rfl [(5, .int v11), (0, .ref (ad G 0)), (1, .int a1), (2, .int a2), (3, .int a3), (4, .int a4)] (by decide) rfl ?_
          refine J.iload (q := 50) O dX11_worth_48 rfl 0 rfl ?_
          refine J.if_eq (q := 53) (tgt := 60) O dX11_worth_50 rfl (by decide) (fun z12 => ?_) (fun z12 => ?_)
          · replace h := h.1 z12
            refine J.aload_n (q := 61) O dX11_worth_60 rfl 1 rfl ?_
            refine J.iload_n (q := 62) O dX11_worth_61 rfl 2 rfl ?_
            refine J.iload_n (q := 63) O dX11_worth_62 rfl 3 rfl ?_
            refine J.iload_n (q := 64) O dX11_worth_63 rfl 4 rfl ?_
            refine J.callVI (q := 67) [.int a1, .int a2, .int a3] [] [.int a3, .int a2, .int a1, .ref (ad G 0)] rfl O dX11_worth_64 rfl (c_X11_agreementInForce hG h) wd_4_220 mw_X11_agreementInForce io_0 rfl (by decide) (Nat.le_of_ble_eq_true rfl) (fun v13 M13 h => ?_)
            refine J.istore (q := 69) O dX11_worth_67 rfl [(6, .int v13), (5, .int v11), (0, .ref (ad G 0)), (1, .int a1), (2, .int a2), (3, .int a3), (4, .int a4)] (by decide) rfl ?_
            refine J.iload (q := 71) O dX11_worth_69 rfl 0 rfl ?_
            refine J.bipush (q := 73) (v := (-9 : Int32)) O dX11_worth_71 rfl rfl ?_
            refine J.icmp_ne (q := 76) (tgt := 97) O dX11_worth_73 rfl (by decide) (fun z14 => ?_) (fun z14 => ?_)
            · replace h := h.1 z14
              exact J.sub [2, 4, 6, 0] rfl (j_X11_worth_b97 hG O hR h)
            · replace h := h.2 z14
              refine J.aload_n (q := 77) O dX11_worth_76 rfl 2 rfl ?_
              refine J.getR (q := 80) (c' := 0) (ci := 11) (k := 6) (r := 62) O dX11_worth_77 rfl wd_3_8 (by decide) if_0_6 ?_
              refine J.getR (q := 83) (c' := 62) (ci := 1) (k := 9) (r := 71) O dX11_worth_80 rfl wd_2_1 (by decide) if_62_9 ?_
              refine J.iload_n (q := 84) O dX11_worth_83 rfl 4 rfl ?_
              obtain ⟨hv15, h⟩ := h
              refine J.zald (q := 85) (c' := 71) (j := a2.toNatClampNeg) (M13 71 a2.toNatClampNeg) rfl O dX11_worth_84 rfl ar_71 hv15 rfl ?_
              refine J.if_eq (q := 88) (tgt := 97) O dX11_worth_85 rfl (by decide) (fun z16 => ?_) (fun z16 => ?_)
              · replace h := h.1 z16
                exact J.sub [2, 4, 6, 0] rfl (j_X11_worth_b97 hG O hR h)
              · replace h := h.2 z16
                refine J.aload_n (q := 89) O dX11_worth_88 rfl 2 rfl ?_
                refine J.iload_n (q := 90) O dX11_worth_89 rfl 3 rfl ?_
                refine J.iload_n (q := 91) O dX11_worth_90 rfl 4 rfl ?_
                refine J.iload_n (q := 92) O dX11_worth_91 rfl 5 rfl ?_
                refine J.callVI (q := 95) [.int a1, .int a2, .int a3] [] [.int a3, .int a2, .int a1, .ref (ad G 0)] rfl O dX11_worth_92 rfl (c_X11_agreementEndedLast hG h) wd_4_228 mw_X11_agreementEndedLast io_0 rfl (by decide) (Nat.le_of_ble_eq_true rfl) (fun v17 M17 h => ?_)
                refine J.istore (q := 97) O dX11_worth_95 rfl [(6, .int v17), (5, .int v11), (0, .ref (ad G 0)), (1, .int a1), (2, .int a2), (3, .int a3), (4, .int a4)] (by decide) rfl ?_
                exact J.sub [2, 4, 6, 0] rfl (j_X11_worth_b97 hG O hR h)
          · replace h := h.2 z12
            refine J.aload_n (q := 54) O dX11_worth_53 rfl 1 rfl ?_
            refine J.iload (q := 56) O dX11_worth_54 rfl 0 rfl ?_
            refine J.callVI (q := 59) [.int v11] [] [.int v11, .ref (ad G 0)] rfl O dX11_worth_56 rfl (c_X11_refuse hG h) wd_3_55 mw_X11_refuse io_0 rfl (by decide) (Nat.le_of_ble_eq_true rfl) (fun v18 M18 h => ?_)
            exact hR _ _ _ _ dX11_worth_59 h
        · replace h := h.2 z10
          exact J.sub [0] rfl (j_X11_worth_b31 hG O hR h)
  · replace h := h.2 z6
    refine J.aload_n (q := 8) O dX11_worth_7 rfl 0 rfl ?_
    refine J.iconst (q := 9) (v := (-1 : Int32)) O dX11_worth_8 rfl rfl ?_
    refine J.callVI (q := 12) [.int (-1 : Int32)] [] [.int (-1 : Int32), .ref (ad G 0)] rfl O dX11_worth_9 rfl (c_X11_refuse hG h) wd_3_55 mw_X11_refuse io_0 rfl (by decide) (Nat.le_of_ble_eq_true rfl) (fun v19 M19 h => ?_)
    exact hR _ _ _ _ dX11_worth_12 h
set_option maxHeartbeats 4000000 in
set_option maxRecDepth 20000 in
theorem j_X11_board_b65 {X : CX} {G : GX} {K : Int32 → Mem → Prop} (hG : Gd G) (O : Ok X G cX11_board 9 RX11 4) (hR : RetI X G cX11_board K) {M : Mem} (h : f_X11_board_b65 K  M) : J X G M 65 [(0, .ref (ad G 0))] [] := by
  unfold f_X11_board_b65 at h
  refine J.aload_n (q := 66) O dX11_board_65 rfl 0 rfl ?_
  refine J.bipush (q := 68) (v := (-3 : Int32)) O dX11_board_66 rfl rfl ?_
  refine J.callVI (q := 71) [.int (-3 : Int32)] [] [.int (-3 : Int32), .ref (ad G 0)] rfl O dX11_board_68 rfl (c_X11_refuse hG h) wd_3_55 mw_X11_refuse io_0 rfl (by decide) (Nat.le_of_ble_eq_true rfl) (fun v2 M2 h => ?_)
  exact hR _ _ _ _ dX11_board_71 h
set_option maxHeartbeats 4000000 in
set_option maxRecDepth 20000 in
theorem j_X11_board_b141 {X : CX} {G : GX} {K : Int32 → Mem → Prop} (hG : Gd G) (O : Ok X G cX11_board 9 RX11 4) (hR : RetI X G cX11_board K) {x5 : Nat} {s0 : Int32} {M : Mem} (h : f_X11_board_b141 K x5 s0 M) : J X G M 141 [(5, .ref (ad G x5))] [.int s0] := by
  unfold f_X11_board_b141 at h
  obtain ⟨hx5, h⟩ := h
  refine J.istore (q := 143) O dX11_board_141 rfl [(8, .int s0), (5, .ref (ad G x5))] (by decide) rfl ?_
  refine J.aload (q := 145) O dX11_board_143 rfl 1 rfl ?_
  refine J.iconst (q := 146) (v := (4 : Int32)) O dX11_board_145 rfl rfl ?_
  refine J.iload (q := 148) O dX11_board_146 rfl 0 rfl ?_
  refine J.callVI (q := 151) [.int (4 : Int32), .int s0] [] [.int s0, .int (4 : Int32), .ref (ad G x5)] rfl O dX11_board_148 rfl (c_X5_tell hG h) wd_4_47 mw_X5_tell (isMat_O hx5) rfl (by decide) (Nat.le_of_ble_eq_true rfl) (fun v3 M3 h => ?_)
  refine J.pop (q := 152) O dX11_board_151 rfl rfl ?_
  refine J.iload (q := 154) O dX11_board_152 rfl 0 rfl ?_
  exact hR _ _ _ _ dX11_board_154 h
set_option maxHeartbeats 4000000 in
set_option maxRecDepth 20000 in
theorem j_X11_board_b131 {X : CX} {G : GX} {K : Int32 → Mem → Prop} (hG : Gd G) (O : Ok X G cX11_board 9 RX11 4) (hR : RetI X G cX11_board K) {x5 : Nat} {s0 : Int32} {s1 : Int32} {M : Mem} (h : f_X11_board_b131 K x5 s0 s1 M) : J X G M 131 [(5, .ref (ad G x5))] [.int s0, .int s1] := by
  unfold f_X11_board_b131 at h
  obtain ⟨hx5, h⟩ := h
  refine J.iadd (q := 132) O dX11_board_131 rfl ?_
  refine J.iconst (q := 133) (v := (3 : Int32)) O dX11_board_132 rfl rfl ?_
  refine J.icmp_lt (q := 136) (tgt := 140) O dX11_board_133 rfl (by decide) (fun z4 => ?_) (fun z4 => ?_)
  · replace h := h.1 z4
    refine J.iconst (q := 141) (v := (0 : Int32)) O dX11_board_140 rfl rfl ?_
    exact J.sub [0] rfl (j_X11_board_b141 hG O hR h)
  · replace h := h.2 z4
    refine J.iconst (q := 137) (v := (1 : Int32)) O dX11_board_136 rfl rfl ?_
    refine J.goto (q := 141) O dX11_board_137 (by decide) ?_
    exact J.sub [0] rfl (j_X11_board_b141 hG O hR h)
set_option maxHeartbeats 4000000 in
set_option maxRecDepth 20000 in
theorem j_X11_board_b72 {X : CX} {G : GX} {K : Int32 → Mem → Prop} (hG : Gd G) (O : Ok X G cX11_board 9 RX11 4) (hR : RetI X G cX11_board K) {x2 : Int32} {x3 : Int32} {x4 : Int32} {x5 : Nat} {M : Mem} (h : f_X11_board_b72 K x2 x3 x4 x5 M) : J X G M 72 [(0, .ref (ad G 0)), (2, .int x2), (3, .int x3), (4, .int x4), (5, .ref (ad G x5))] [] := by
  unfold f_X11_board_b72 at h
  obtain ⟨hx5, h⟩ := h
  refine J.iload_n (q := 73) O dX11_board_72 rfl 1 rfl ?_
  refine J.iconst (q := 74) (v := (0 : Int32)) O dX11_board_73 rfl rfl ?_
  refine J.iconst (q := 75) (v := (2 : Int32)) O dX11_board_74 rfl rfl ?_
  refine J.callSI (q := 78) [.int x2, .int (0 : Int32), .int (2 : Int32)] [] [.int (2 : Int32), .int (0 : Int32), .int x2] rfl O dX11_board_75 rfl (c_X11_outside hG h) wd_3_63 mw_X11_outside rfl (by decide) (Nat.le_of_ble_eq_true rfl) (fun v5 M5 h => ?_)
  refine J.iload_n (q := 79) O dX11_board_78 rfl 2 rfl ?_
  refine J.iconst (q := 80) (v := (0 : Int32)) O dX11_board_79 rfl rfl ?_
  refine J.iconst (q := 81) (v := (2 : Int32)) O dX11_board_80 rfl rfl ?_
  refine J.callSI (q := 84) [.int x3, .int (0 : Int32), .int (2 : Int32)] [.int v5] [.int (2 : Int32), .int (0 : Int32), .int x3, .int v5] rfl O dX11_board_81 rfl (c_X11_outside hG h) wd_3_63 mw_X11_outside rfl (by decide) (Nat.le_of_ble_eq_true rfl) (fun v6 M6 h => ?_)
  refine J.callSI (q := 87) [.int v5, .int v6] [] [.int v6, .int v5] rfl O dX11_board_84 rfl (c_X11_worse hG h) wd_3_74 mw_X11_worse rfl (by decide) (Nat.le_of_ble_eq_true rfl) (fun v7 M7 h => ?_)
  refine J.istore (q := 89) O dX11_board_87 rfl [(7, .int v7), (0, .ref (ad G 0)), (2, .int x2), (3, .int x3), (4, .int x4), (5, .ref (ad G x5))] (by decide) rfl ?_
  refine J.iload (q := 91) O dX11_board_89 rfl 0 rfl ?_
  refine J.aload (q := 93) O dX11_board_91 rfl 5 rfl ?_
  refine J.getI (q := 96) (c' := x5) (ci := 5) (k := 11) (M7 x5 11) rfl O dX11_board_93 rfl wd_2_207 (by decide) (isMat_F hx5 rfl) ?_
  refine J.bipush (q := 98) (v := (30 : Int32)) O dX11_board_96 rfl rfl ?_
  refine J.callSI (q := 101) [.int (M7 x5 11), .int (30 : Int32)] [.int v7] [.int (30 : Int32), .int (M7 x5 11), .int v7] rfl O dX11_board_98 rfl (c_X11_fullAt hG h) wd_3_91 mw_X11_fullAt rfl (by decide) (Nat.le_of_ble_eq_true rfl) (fun v8 M8 h => ?_)
  refine J.callSI (q := 104) [.int v7, .int v8] [] [.int v8, .int v7] rfl O dX11_board_101 rfl (c_X11_worse hG h) wd_3_74 mw_X11_worse rfl (by decide) (Nat.le_of_ble_eq_true rfl) (fun v9 M9 h => ?_)
  refine J.istore (q := 106) O dX11_board_104 rfl [(7, .int v9), (0, .ref (ad G 0)), (2, .int x2), (3, .int x3), (4, .int x4), (5, .ref (ad G x5))] (by decide) rfl ?_
  refine J.iload (q := 108) O dX11_board_106 rfl 0 rfl ?_
  refine J.if_eq (q := 111) (tgt := 118) O dX11_board_108 rfl (by decide) (fun z10 => ?_) (fun z10 => ?_)
  · replace h := h.1 z10
    refine J.iload_n (q := 119) O dX11_board_118 rfl 2 rfl ?_
    refine J.iload_n (q := 120) O dX11_board_119 rfl 3 rfl ?_
    refine J.iadd (q := 121) O dX11_board_120 rfl ?_
    refine J.iload (q := 123) O dX11_board_121 rfl 4 rfl ?_
    refine J.if_eq (q := 126) (tgt := 130) O dX11_board_123 rfl (by decide) (fun z11 => ?_) (fun z11 => ?_)
    · replace h := h.1 z11
      refine J.iconst (q := 131) (v := (0 : Int32)) O dX11_board_130 rfl rfl ?_
      exact J.sub [5] rfl (j_X11_board_b131 hG O hR h)
    · replace h := h.2 z11
      refine J.iconst (q := 127) (v := (1 : Int32)) O dX11_board_126 rfl rfl ?_
      refine J.goto (q := 131) O dX11_board_127 (by decide) ?_
      exact J.sub [5] rfl (j_X11_board_b131 hG O hR h)
  · replace h := h.2 z10
    refine J.aload_n (q := 112) O dX11_board_111 rfl 1 rfl ?_
    refine J.iload (q := 114) O dX11_board_112 rfl 0 rfl ?_
    refine J.callVI (q := 117) [.int v9] [] [.int v9, .ref (ad G 0)] rfl O dX11_board_114 rfl (c_X11_refuse hG h) wd_3_55 mw_X11_refuse io_0 rfl (by decide) (Nat.le_of_ble_eq_true rfl) (fun v12 M12 h => ?_)
    exact hR _ _ _ _ dX11_board_117 h
set_option maxHeartbeats 4000000 in
set_option maxRecDepth 20000 in
theorem c_X11_board {l : Launch} {G : GX} (hG : Gd G) {a1 : Int32} {a2 : Int32} {a3 : Int32} {a4 : Int32} {M : Mem} {K : Int32 → Mem → Prop} (h : f_X11_board a1 a2 a3 a4 M K) : CI l G yX11_board cX11_board 9 (some .int) 4 [.ref (ad G 0), .int a1, .int a2, .int a3, .int a4] M K := by
  unfold f_X11_board at h
  refine CI.mk hG (by decide) [(0, .ref (ad G 0)), (1, .int a1), (2, .int a2), (3, .int a3), (4, .int a4)] rfl (Nat.le_of_ble_eq_true rfl) (fun X O hlX hR => ?_)
  subst hlX
  refine J.aload_n (q := 1) O dX11_board_0 rfl 0 rfl ?_
  refine J.iload_n (q := 2) O dX11_board_1 rfl 1 rfl ?_
  refine J.callVI (q := 5) [.int a1] [] [.int a1, .ref (ad G 0)] rfl O dX11_board_2 rfl (c_X11_isMatter hG h) wd_4_31 mw_X11_isMatter io_0 rfl (by decide) (Nat.le_of_ble_eq_true rfl) (fun v13 M13 h => ?_)
  refine J.if_ne (q := 8) (tgt := 14) O dX11_board_5 rfl (by decide) (fun z14 => ?_) (fun z14 => ?_)
  · replace h := h.1 z14
    refine J.aload_n (q := 15) O dX11_board_14 rfl 0 rfl ?_
    refine J.getR (q := 18) (c' := 0) (ci := 11) (k := 4) (r := 61) O dX11_board_15 rfl wd_3_6 (by decide) if_0_4 ?_
    refine J.iload_n (q := 19) O dX11_board_18 rfl 1 rfl ?_
    obtain ⟨hv15, h⟩ := h
    refine J.aald (q := 20) (t := 0) (c' := 61) (b := 127) (d := 4) O dX11_board_19 rfl ar_61 hv15 ?_
    refine J.astore (q := 22) O dX11_board_20 rfl [(5, .ref (ad G (127 + 4 * a1.toNatClampNeg))), (0, .ref (ad G 0)), (1, .int a1), (2, .int a2), (3, .int a3), (4, .int a4)] (by decide) rfl ?_
    refine J.aload (q := 24) O dX11_board_22 rfl 0 rfl ?_
    refine J.aload_n (q := 25) O dX11_board_24 rfl 1 rfl ?_
    refine J.getR (q := 28) (c' := 0) (ci := 11) (k := 0) (r := 1) O dX11_board_25 rfl wd_3_2 (by decide) if_0_0 ?_
    refine J.getI (q := 31) (c' := 1) (ci := 3) (k := 0) (M13 1 0) rfl O dX11_board_28 rfl wd_1_31 (by decide) if_1_0 ?_
    refine J.aload_n (q := 32) O dX11_board_31 rfl 1 rfl ?_
    refine J.getR (q := 35) (c' := 0) (ci := 11) (k := 0) (r := 1) O dX11_board_32 rfl wd_3_2 (by decide) if_0_0 ?_
    refine J.getI (q := 38) (c' := 1) (ci := 3) (k := 0) (M13 1 0) rfl O dX11_board_35 rfl wd_1_31 (by decide) if_1_0 ?_
    refine J.callVI (q := 41) [.int (M13 1 0), .int (M13 1 0)] [] [.int (M13 1 0), .int (M13 1 0), .ref (ad G (127 + 4 * a1.toNatClampNeg))] rfl O dX11_board_38 rfl (c_X5_stateOn hG h) wd_4_59 mw_X5_stateOn (isMat_O (isMat_of hv15)) rfl (by decide) (Nat.le_of_ble_eq_true rfl) (fun v16 M16 h => ?_)
    refine J.istore (q := 43) O dX11_board_41 rfl [(6, .int v16), (5, .ref (ad G (127 + 4 * a1.toNatClampNeg))), (0, .ref (ad G 0)), (1, .int a1), (2, .int a2), (3, .int a3), (4, .int a4)] (by decide) rfl ?_
    refine J.aload (q := 45) O dX11_board_43 rfl 1 rfl ?_
    refine J.getI (q := 48) (c' := (127 + 4 * a1.toNatClampNeg)) (ci := 5) (k := 7) (M16 (127 + 4 * a1.toNatClampNeg) 7) rfl O dX11_board_45 rfl wd_2_202 (by decide) (isMat_F (isMat_of hv15) rfl) ?_
    refine J.iconst (q := 49) (v := (3 : Int32)) O dX11_board_48 rfl rfl ?_
    refine J.icmp_lt (q := 52) (tgt := 65) O dX11_board_49 rfl (by decide) (fun z17 => ?_) (fun z17 => ?_)
    · replace h := h.1 z17
      exact J.sub [2] rfl (j_X11_board_b65 hG O hR h)
    · replace h := h.2 z17
      refine J.iload (q := 54) O dX11_board_52 rfl 0 rfl ?_
      refine J.iconst (q := 55) (v := (5 : Int32)) O dX11_board_54 rfl rfl ?_
      refine J.icmp_eq (q := 58) (tgt := 72) O dX11_board_55 rfl (by decide) (fun z18 => ?_) (fun z18 => ?_)
      · replace h := h.1 z18
        exact J.sub [2, 4, 5, 6, 1] rfl (j_X11_board_b72 hG O hR h)
      · replace h := h.2 z18
        refine J.iload (q := 60) O dX11_board_58 rfl 0 rfl ?_
        refine J.bipush (q := 62) (v := (7 : Int32)) O dX11_board_60 rfl rfl ?_
        refine J.icmp_eq (q := 65) (tgt := 72) O dX11_board_62 rfl (by decide) (fun z19 => ?_) (fun z19 => ?_)
        · replace h := h.1 z19
          exact J.sub [2, 4, 5, 6, 1] rfl (j_X11_board_b72 hG O hR h)
        · replace h := h.2 z19
          exact J.sub [2] rfl (j_X11_board_b65 hG O hR h)
  · replace h := h.2 z14
    refine J.aload_n (q := 9) O dX11_board_8 rfl 0 rfl ?_
    refine J.iconst (q := 10) (v := (-1 : Int32)) O dX11_board_9 rfl rfl ?_
    refine J.callVI (q := 13) [.int (-1 : Int32)] [] [.int (-1 : Int32), .ref (ad G 0)] rfl O dX11_board_10 rfl (c_X11_refuse hG h) wd_3_55 mw_X11_refuse io_0 rfl (by decide) (Nat.le_of_ble_eq_true rfl) (fun v20 M20 h => ?_)
    exact hR _ _ _ _ dX11_board_13 h
set_option maxHeartbeats 4000000 in
set_option maxRecDepth 20000 in
theorem c_X11_court {l : Launch} {G : GX} (hG : Gd G) {a1 : Int32} {M : Mem} {K : Int32 → Mem → Prop} (h : f_X11_court a1 M K) : CI l G yX11_court cX11_court 3 (some .int) 2 [.ref (ad G 0), .int a1] M K := by
  unfold f_X11_court at h
  refine CI.mk hG (by decide) [(0, .ref (ad G 0)), (1, .int a1)] rfl (Nat.le_of_ble_eq_true rfl) (fun X O hlX hR => ?_)
  subst hlX
  refine J.aload_n (q := 1) O dX11_court_0 rfl 0 rfl ?_
  refine J.iload_n (q := 2) O dX11_court_1 rfl 1 rfl ?_
  refine J.callVI (q := 5) [.int a1] [] [.int a1, .ref (ad G 0)] rfl O dX11_court_2 rfl (c_X11_isMatter hG h) wd_4_31 mw_X11_isMatter io_0 rfl (by decide) (Nat.le_of_ble_eq_true rfl) (fun v2 M2 h => ?_)
  refine J.if_ne (q := 8) (tgt := 14) O dX11_court_5 rfl (by decide) (fun z3 => ?_) (fun z3 => ?_)
  · replace h := h.1 z3
    refine J.aload_n (q := 15) O dX11_court_14 rfl 0 rfl ?_
    refine J.getR (q := 18) (c' := 0) (ci := 11) (k := 4) (r := 61) O dX11_court_15 rfl wd_3_6 (by decide) if_0_4 ?_
    refine J.iload_n (q := 19) O dX11_court_18 rfl 1 rfl ?_
    obtain ⟨hv4, h⟩ := h
    refine J.aald (q := 20) (t := 0) (c' := 61) (b := 127) (d := 4) O dX11_court_19 rfl ar_61 hv4 ?_
    refine J.astore_n (q := 21) O dX11_court_20 rfl [(2, .ref (ad G (127 + 4 * a1.toNatClampNeg))), (0, .ref (ad G 0)), (1, .int a1)] (by decide) rfl ?_
    refine J.aload_n (q := 22) O dX11_court_21 rfl 0 rfl ?_
    refine J.aload_n (q := 23) O dX11_court_22 rfl 1 rfl ?_
    refine J.getR (q := 26) (c' := 0) (ci := 11) (k := 0) (r := 1) O dX11_court_23 rfl wd_3_2 (by decide) if_0_0 ?_
    refine J.getI (q := 29) (c' := 1) (ci := 3) (k := 0) (M2 1 0) rfl O dX11_court_26 rfl wd_1_31 (by decide) if_1_0 ?_
    refine J.aload_n (q := 30) O dX11_court_29 rfl 1 rfl ?_
    refine J.getR (q := 33) (c' := 0) (ci := 11) (k := 0) (r := 1) O dX11_court_30 rfl wd_3_2 (by decide) if_0_0 ?_
    refine J.getI (q := 36) (c' := 1) (ci := 3) (k := 0) (M2 1 0) rfl O dX11_court_33 rfl wd_1_31 (by decide) if_1_0 ?_
    refine J.callVI (q := 39) [.int (M2 1 0), .int (M2 1 0)] [] [.int (M2 1 0), .int (M2 1 0), .ref (ad G (127 + 4 * a1.toNatClampNeg))] rfl O dX11_court_36 rfl (c_X5_lastRuling hG h) wd_5_6 mw_X5_lastRuling (isMat_O (isMat_of hv4)) rfl (by decide) (Nat.le_of_ble_eq_true rfl) (fun v5 M5 h => ?_)
    refine J.bipush (q := 41) (v := (-9 : Int32)) O dX11_court_39 rfl rfl ?_
    refine J.icmp_ne (q := 44) (tgt := 51) O dX11_court_41 rfl (by decide) (fun z6 => ?_) (fun z6 => ?_)
    · replace h := h.1 z6
      refine J.aload_n (q := 52) O dX11_court_51 rfl 0 rfl ?_
      refine J.callVI (q := 55) [] [] [.ref (ad G (127 + 4 * a1.toNatClampNeg))] rfl O dX11_court_52 rfl (c_X5_isFull hG h) wd_4_43 mw_X5_isFull (isMat_O (isMat_of hv4)) rfl (by decide) (Nat.le_of_ble_eq_true rfl) (fun v7 M7 h => ?_)
      refine J.if_eq (q := 58) (tgt := 65) O dX11_court_55 rfl (by decide) (fun z8 => ?_) (fun z8 => ?_)
      · replace h := h.1 z8
        refine J.aload_n (q := 66) O dX11_court_65 rfl 0 rfl ?_
        refine J.iconst (q := 67) (v := (5 : Int32)) O dX11_court_66 rfl rfl ?_
        refine J.iconst (q := 68) (v := (0 : Int32)) O dX11_court_67 rfl rfl ?_
        refine J.callVI (q := 71) [.int (5 : Int32), .int (0 : Int32)] [] [.int (0 : Int32), .int (5 : Int32), .ref (ad G (127 + 4 * a1.toNatClampNeg))] rfl O dX11_court_68 rfl (c_X5_tell hG h) wd_4_47 mw_X5_tell (isMat_O (isMat_of hv4)) rfl (by decide) (Nat.le_of_ble_eq_true rfl) (fun v9 M9 h => ?_)
        refine J.pop (q := 72) O dX11_court_71 rfl rfl ?_
        refine J.iconst (q := 73) (v := (1 : Int32)) O dX11_court_72 rfl rfl ?_
        exact hR _ _ _ _ dX11_court_73 h
      · replace h := h.2 z8
        refine J.aload_n (q := 59) O dX11_court_58 rfl 1 rfl ?_
        refine J.bipush (q := 61) (v := (-6 : Int32)) O dX11_court_59 rfl rfl ?_
        refine J.callVI (q := 64) [.int (-6 : Int32)] [] [.int (-6 : Int32), .ref (ad G 0)] rfl O dX11_court_61 rfl (c_X11_refuse hG h) wd_3_55 mw_X11_refuse io_0 rfl (by decide) (Nat.le_of_ble_eq_true rfl) (fun v10 M10 h => ?_)
        exact hR _ _ _ _ dX11_court_64 h
    · replace h := h.2 z6
      refine J.aload_n (q := 45) O dX11_court_44 rfl 1 rfl ?_
      refine J.bipush (q := 47) (v := (-3 : Int32)) O dX11_court_45 rfl rfl ?_
      refine J.callVI (q := 50) [.int (-3 : Int32)] [] [.int (-3 : Int32), .ref (ad G 0)] rfl O dX11_court_47 rfl (c_X11_refuse hG h) wd_3_55 mw_X11_refuse io_0 rfl (by decide) (Nat.le_of_ble_eq_true rfl) (fun v11 M11 h => ?_)
      exact hR _ _ _ _ dX11_court_50 h
  · replace h := h.2 z3
    refine J.aload_n (q := 9) O dX11_court_8 rfl 0 rfl ?_
    refine J.iconst (q := 10) (v := (-1 : Int32)) O dX11_court_9 rfl rfl ?_
    refine J.callVI (q := 13) [.int (-1 : Int32)] [] [.int (-1 : Int32), .ref (ad G 0)] rfl O dX11_court_10 rfl (c_X11_refuse hG h) wd_3_55 mw_X11_refuse io_0 rfl (by decide) (Nat.le_of_ble_eq_true rfl) (fun v12 M12 h => ?_)
    exact hR _ _ _ _ dX11_court_13 h
set_option maxHeartbeats 4000000 in
set_option maxRecDepth 20000 in
theorem c_X4_add {l : Launch} {G : GX} (hG : Gd G) {a1 : Int32} {a2 : Int32} {a3 : Int32} {a4 : Int32} {a5 : Int32} {M : Mem} {K : Int32 → Mem → Prop} (h : f_X4_add a1 a2 a3 a4 a5 M K) : CI l G yX4_add cX4_add 6 (some .int) 1 [.ref (ad G 72), .int a1, .int a2, .int a3, .int a4, .int a5] M K := by
  unfold f_X4_add at h
  refine CI.mk hG (by decide) [(0, .ref (ad G 72)), (1, .int a1), (2, .int a2), (3, .int a3), (4, .int a4), (5, .int a5)] rfl (Nat.le_of_ble_eq_true rfl) (fun X O hlX hR => ?_)
  subst hlX
  refine J.aload_n (q := 1) O dX4_add_0 rfl 0 rfl ?_
  refine J.getI (q := 4) (c' := 72) (ci := 4) (k := 0) (M 72 0) rfl O dX4_add_1 rfl wd_2_29 (by decide) if_72_0 ?_
  refine J.bipush (q := 6) (v := (60 : Int32)) O dX4_add_4 rfl rfl ?_
  refine J.icmp_lt (q := 9) (tgt := 12) O dX4_add_6 rfl (by decide) (fun z7 => ?_) (fun z7 => ?_)
  · replace h := h.1 z7
    refine J.aload_n (q := 13) O dX4_add_12 rfl 0 rfl ?_
    refine J.getR (q := 16) (c' := 72) (ci := 4) (k := 1) (r := 73) O dX4_add_13 rfl wd_2_31 (by decide) if_72_1 ?_
    refine J.aload_n (q := 17) O dX4_add_16 rfl 0 rfl ?_
    refine J.getI (q := 20) (c' := 72) (ci := 4) (k := 0) (M 72 0) rfl O dX4_add_17 rfl wd_2_29 (by decide) if_72_0 ?_
    refine J.iload_n (q := 21) O dX4_add_20 rfl 1 rfl ?_
    obtain ⟨hv8, h⟩ := h
    refine J.iast (q := 22) (c' := 73) (j := (M 72 0).toNatClampNeg) O dX4_add_21 rfl ar_73 hv8 rfl ?_
    refine J.aload_n (q := 23) O dX4_add_22 rfl 0 rfl ?_
    refine J.getR (q := 26) (c' := 72) (ci := 4) (k := 2) (r := 74) O dX4_add_23 rfl wd_2_33 (by decide) if_72_2 ?_
    refine J.aload_n (q := 27) O dX4_add_26 rfl 0 rfl ?_
    refine J.getI (q := 30) (c' := 72) (ci := 4) (k := 0) (M 72 0) rfl O dX4_add_27 rfl wd_2_29 (by decide) if_72_0 ?_
    refine J.iload_n (q := 31) O dX4_add_30 rfl 2 rfl ?_
    obtain ⟨hv9, h⟩ := h
    refine J.iast (q := 32) (c' := 74) (j := (M 72 0).toNatClampNeg) O dX4_add_31 rfl ar_74 hv9 rfl ?_
    refine J.aload_n (q := 33) O dX4_add_32 rfl 0 rfl ?_
    refine J.getR (q := 36) (c' := 72) (ci := 4) (k := 3) (r := 75) O dX4_add_33 rfl wd_2_35 (by decide) if_72_3 ?_
    refine J.aload_n (q := 37) O dX4_add_36 rfl 0 rfl ?_
    refine J.getI (q := 40) (c' := 72) (ci := 4) (k := 0) (M 72 0) rfl O dX4_add_37 rfl wd_2_29 (by decide) if_72_0 ?_
    refine J.iload_n (q := 41) O dX4_add_40 rfl 3 rfl ?_
    obtain ⟨hv10, h⟩ := h
    refine J.iast (q := 42) (c' := 75) (j := (M 72 0).toNatClampNeg) O dX4_add_41 rfl ar_75 hv10 rfl ?_
    refine J.aload_n (q := 43) O dX4_add_42 rfl 0 rfl ?_
    refine J.getR (q := 46) (c' := 72) (ci := 4) (k := 4) (r := 76) O dX4_add_43 rfl wd_2_37 (by decide) if_72_4 ?_
    refine J.aload_n (q := 47) O dX4_add_46 rfl 0 rfl ?_
    refine J.getI (q := 50) (c' := 72) (ci := 4) (k := 0) (M 72 0) rfl O dX4_add_47 rfl wd_2_29 (by decide) if_72_0 ?_
    refine J.iload (q := 52) O dX4_add_50 rfl 4 rfl ?_
    obtain ⟨hv11, h⟩ := h
    refine J.iast (q := 53) (c' := 76) (j := (M 72 0).toNatClampNeg) O dX4_add_52 rfl ar_76 hv11 rfl ?_
    refine J.aload_n (q := 54) O dX4_add_53 rfl 0 rfl ?_
    refine J.getR (q := 57) (c' := 72) (ci := 4) (k := 5) (r := 77) O dX4_add_54 rfl wd_2_39 (by decide) if_72_5 ?_
    refine J.aload_n (q := 58) O dX4_add_57 rfl 0 rfl ?_
    refine J.getI (q := 61) (c' := 72) (ci := 4) (k := 0) (M 72 0) rfl O dX4_add_58 rfl wd_2_29 (by decide) if_72_0 ?_
    refine J.iload (q := 63) O dX4_add_61 rfl 5 rfl ?_
    obtain ⟨hv12, h⟩ := h
    obtain ⟨hb13, h⟩ := h
    refine J.zast (q := 64) (c' := 77) (j := (M 72 0).toNatClampNeg) O dX4_add_63 rfl ar_77 hv12 rfl hb13 ?_
    refine J.aload_n (q := 65) O dX4_add_64 rfl 0 rfl ?_
    refine J.dup (q := 66) O dX4_add_65 rfl rfl ?_
    refine J.getI (q := 69) (c' := 72) (ci := 4) (k := 0) (M 72 0) rfl O dX4_add_66 rfl wd_2_29 (by decide) if_72_0 ?_
    refine J.iconst (q := 70) (v := (1 : Int32)) O dX4_add_69 rfl rfl ?_
    refine J.iadd (q := 71) O dX4_add_70 rfl ?_
    refine J.putI (q := 74) (c' := 72) (ci := 4) (k := 0) O dX4_add_71 rfl wd_2_29 (by decide) if_72_0 rfl rfl ?_
    refine J.aload_n (q := 75) O dX4_add_74 rfl 0 rfl ?_
    refine J.getI (q := 78) (c' := 72) (ci := 4) (k := 0) ((M 72 0) + (1 : Int32)) rfl O dX4_add_75 rfl wd_2_29 (by decide) if_72_0 ?_
    refine J.iconst (q := 79) (v := (1 : Int32)) O dX4_add_78 rfl rfl ?_
    refine J.isub (q := 80) O dX4_add_79 rfl ?_
    exact hR _ _ _ _ dX4_add_80 h
  · replace h := h.2 z7
    refine J.bipush (q := 11) (v := (-6 : Int32)) O dX4_add_9 rfl rfl ?_
    exact hR _ _ _ _ dX4_add_11 h
set_option maxHeartbeats 4000000 in
set_option maxRecDepth 20000 in
theorem j_X11_deed_b141 {X : CX} {G : GX} {K : Int32 → Mem → Prop} (hG : Gd G) (O : Ok X G cX11_deed 7 RX11 8) (hR : RetI X G cX11_deed K) {x1 : Int32} {x3 : Int32} {x4 : Int32} {s0 : Int32} {M : Mem} (h : f_X11_deed_b141 K x1 x3 x4 s0 M) : J X G M 141 [(0, .ref (ad G 0)), (1, .int x1), (3, .int x3), (4, .int x4)] [.int s0] := by
  unfold f_X11_deed_b141 at h
  refine J.istore (q := 143) O dX11_deed_141 rfl [(6, .int s0), (0, .ref (ad G 0)), (1, .int x1), (3, .int x3), (4, .int x4)] (by decide) rfl ?_
  refine J.aload_n (q := 144) O dX11_deed_143 rfl 1 rfl ?_
  refine J.getR (q := 147) (c' := 0) (ci := 11) (k := 7) (r := 72) O dX11_deed_144 rfl wd_3_9 (by decide) if_0_7 ?_
  refine J.iload_n (q := 148) O dX11_deed_147 rfl 2 rfl ?_
  refine J.aload_n (q := 149) O dX11_deed_148 rfl 1 rfl ?_
  refine J.getR (q := 152) (c' := 0) (ci := 11) (k := 0) (r := 1) O dX11_deed_149 rfl wd_3_2 (by decide) if_0_0 ?_
  refine J.getI (q := 155) (c' := 1) (ci := 3) (k := 0) (M 1 0) rfl O dX11_deed_152 rfl wd_1_31 (by decide) if_1_0 ?_
  refine J.iload_n (q := 156) O dX11_deed_155 rfl 3 rfl ?_
  refine J.iload (q := 158) O dX11_deed_156 rfl 4 rfl ?_
  refine J.iload (q := 160) O dX11_deed_158 rfl 0 rfl ?_
  refine J.callVI (q := 163) [.int x1, .int (M 1 0), .int x3, .int x4, .int s0] [] [.int s0, .int x4, .int x3, .int (M 1 0), .int x1, .ref (ad G 72)] rfl O dX11_deed_160 rfl (c_X4_add hG h) wd_5_11 mw_X4_add io_72 rfl (by decide) (Nat.le_of_ble_eq_true rfl) (fun v2 M2 h => ?_)
  exact hR _ _ _ _ dX11_deed_163 h
set_option maxHeartbeats 4000000 in
set_option maxRecDepth 20000 in
theorem j_X11_deed_b61 {X : CX} {G : GX} {K : Int32 → Mem → Prop} (hG : Gd G) (O : Ok X G cX11_deed 7 RX11 8) (hR : RetI X G cX11_deed K) {x1 : Int32} {x2 : Int32} {x3 : Int32} {x4 : Int32} {M : Mem} (h : f_X11_deed_b61 K x1 x2 x3 x4 M) : J X G M 61 [(0, .ref (ad G 0)), (1, .int x1), (2, .int x2), (3, .int x3), (4, .int x4)] [] := by
  unfold f_X11_deed_b61 at h
  refine J.iload_n (q := 62) O dX11_deed_61 rfl 3 rfl ?_
  refine J.iload (q := 64) O dX11_deed_62 rfl 4 rfl ?_
  refine J.callSI (q := 67) [.int x3, .int x4] [] [.int x4, .int x3] rfl O dX11_deed_64 rfl (c_X11_wrongTopic hG h) wd_3_211 mw_X11_wrongTopic rfl (by decide) (Nat.le_of_ble_eq_true rfl) (fun v3 M3 h => ?_)
  refine J.aload_n (q := 68) O dX11_deed_67 rfl 0 rfl ?_
  refine J.getR (q := 71) (c' := 0) (ci := 11) (k := 7) (r := 72) O dX11_deed_68 rfl wd_3_9 (by decide) if_0_7 ?_
  refine J.getI (q := 74) (c' := 72) (ci := 4) (k := 0) (M3 72 0) rfl O dX11_deed_71 rfl wd_2_30 (by decide) if_72_0 ?_
  refine J.bipush (q := 76) (v := (60 : Int32)) O dX11_deed_74 rfl rfl ?_
  refine J.callSI (q := 79) [.int (M3 72 0), .int (60 : Int32)] [.int v3] [.int (60 : Int32), .int (M3 72 0), .int v3] rfl O dX11_deed_76 rfl (c_X11_fullAt hG h) wd_3_91 mw_X11_fullAt rfl (by decide) (Nat.le_of_ble_eq_true rfl) (fun v4 M4 h => ?_)
  refine J.callSI (q := 82) [.int v3, .int v4] [] [.int v4, .int v3] rfl O dX11_deed_79 rfl (c_X11_worse hG h) wd_3_74 mw_X11_worse rfl (by decide) (Nat.le_of_ble_eq_true rfl) (fun v5 M5 h => ?_)
  refine J.istore (q := 84) O dX11_deed_82 rfl [(5, .int v5), (0, .ref (ad G 0)), (1, .int x1), (2, .int x2), (3, .int x3), (4, .int x4)] (by decide) rfl ?_
  refine J.iload (q := 86) O dX11_deed_84 rfl 0 rfl ?_
  refine J.if_eq (q := 89) (tgt := 96) O dX11_deed_86 rfl (by decide) (fun z6 => ?_) (fun z6 => ?_)
  · replace h := h.1 z6
    refine J.aload_n (q := 97) O dX11_deed_96 rfl 1 rfl ?_
    refine J.iload_n (q := 98) O dX11_deed_97 rfl 4 rfl ?_
    refine J.iload (q := 100) O dX11_deed_98 rfl 5 rfl ?_
    refine J.iconst (q := 101) (v := (0 : Int32)) O dX11_deed_100 rfl rfl ?_
    refine J.callVV (q := 104) [.int x3, .int x4, .int (0 : Int32)] [] [.int (0 : Int32), .int x4, .int x3, .ref (ad G 0)] rfl O dX11_deed_101 rfl (c_X11_tellFacts hG h) wd_3_214 mw_X11_tellFacts io_0 rfl (by decide) (Nat.le_of_ble_eq_true rfl) (fun M7 h => ?_)
    refine J.aload_n (q := 105) O dX11_deed_104 rfl 1 rfl ?_
    refine J.getR (q := 108) (c' := 0) (ci := 11) (k := 2) (r := 15) O dX11_deed_105 rfl wd_3_4 (by decide) if_0_2 ?_
    refine J.aload_n (q := 109) O dX11_deed_108 rfl 1 rfl ?_
    refine J.getR (q := 112) (c' := 0) (ci := 11) (k := 2) (r := 15) O dX11_deed_109 rfl wd_3_4 (by decide) if_0_2 ?_
    refine J.aload_n (q := 113) O dX11_deed_112 rfl 1 rfl ?_
    refine J.getR (q := 116) (c' := 0) (ci := 11) (k := 2) (r := 15) O dX11_deed_113 rfl wd_3_4 (by decide) if_0_2 ?_
    refine J.iload_n (q := 117) O dX11_deed_116 rfl 3 rfl ?_
    refine J.aload_n (q := 118) O dX11_deed_117 rfl 1 rfl ?_
    refine J.getR (q := 121) (c' := 0) (ci := 11) (k := 0) (r := 1) O dX11_deed_118 rfl wd_3_2 (by decide) if_0_0 ?_
    refine J.getI (q := 124) (c' := 1) (ci := 3) (k := 0) (M7 1 0) rfl O dX11_deed_121 rfl wd_1_31 (by decide) if_1_0 ?_
    refine J.callVI (q := 127) [.int x2, .int (M7 1 0)] [.ref (ad G 15), .ref (ad G 15)] [.int (M7 1 0), .int x2, .ref (ad G 15), .ref (ad G 15), .ref (ad G 15)] rfl O dX11_deed_124 rfl (c_X0_bearingOn hG h) wd_3_228 mw_X0_bearingOn io_15 rfl (by decide) (Nat.le_of_ble_eq_true rfl) (fun v8 M8 h => ?_)
    refine J.callVI (q := 130) [.int v8] [.ref (ad G 15)] [.int v8, .ref (ad G 15), .ref (ad G 15)] rfl O dX11_deed_127 rfl (c_X0_giverAmong hG h) wd_4_4 mw_X0_giverAmong io_15 rfl (by decide) (Nat.le_of_ble_eq_true rfl) (fun v9 M9 h => ?_)
    refine J.callVI (q := 133) [.int v9] [] [.int v9, .ref (ad G 15)] rfl O dX11_deed_130 rfl (c_X0_kindOf hG h) wd_4_8 mw_X0_kindOf io_15 rfl (by decide) (Nat.le_of_ble_eq_true rfl) (fun v10 M10 h => ?_)
    refine J.if_le (q := 136) (tgt := 140) O dX11_deed_133 rfl (by decide) (fun z11 => ?_) (fun z11 => ?_)
    · replace h := h.1 z11
      refine J.iconst (q := 141) (v := (0 : Int32)) O dX11_deed_140 rfl rfl ?_
      exact J.sub [1, 2, 4, 5] rfl (j_X11_deed_b141 hG O hR h)
    · replace h := h.2 z11
      refine J.iconst (q := 137) (v := (1 : Int32)) O dX11_deed_136 rfl rfl ?_
      refine J.goto (q := 141) O dX11_deed_137 (by decide) ?_
      exact J.sub [1, 2, 4, 5] rfl (j_X11_deed_b141 hG O hR h)
  · replace h := h.2 z6
    refine J.aload_n (q := 90) O dX11_deed_89 rfl 1 rfl ?_
    refine J.iload (q := 92) O dX11_deed_90 rfl 0 rfl ?_
    refine J.callVI (q := 95) [.int v5] [] [.int v5, .ref (ad G 0)] rfl O dX11_deed_92 rfl (c_X11_refuse hG h) wd_3_55 mw_X11_refuse io_0 rfl (by decide) (Nat.le_of_ble_eq_true rfl) (fun v12 M12 h => ?_)
    exact hR _ _ _ _ dX11_deed_95 h
set_option maxHeartbeats 4000000 in
set_option maxRecDepth 20000 in
theorem j_X11_deed_b19 {X : CX} {G : GX} {K : Int32 → Mem → Prop} (hG : Gd G) (O : Ok X G cX11_deed 7 RX11 8) (hR : RetI X G cX11_deed K) {x1 : Int32} {x2 : Int32} {x3 : Int32} {x4 : Int32} {M : Mem} (h : f_X11_deed_b19 K x1 x2 x3 x4 M) : J X G M 19 [(0, .ref (ad G 0)), (1, .int x1), (2, .int x2), (3, .int x3), (4, .int x4)] [] := by
  unfold f_X11_deed_b19 at h
  refine J.iload_n (q := 20) O dX11_deed_19 rfl 2 rfl ?_
  refine J.callSI (q := 23) [.int x2] [] [.int x2] rfl O dX11_deed_20 rfl (c_X11_isWhat hG h) wd_3_208 mw_X11_isWhat rfl (by decide) (Nat.le_of_ble_eq_true rfl) (fun v13 M13 h => ?_)
  refine J.if_ne (q := 26) (tgt := 33) O dX11_deed_23 rfl (by decide) (fun z14 => ?_) (fun z14 => ?_)
  · replace h := h.1 z14
    refine J.aload_n (q := 34) O dX11_deed_33 rfl 0 rfl ?_
    refine J.iload_n (q := 35) O dX11_deed_34 rfl 1 rfl ?_
    refine J.callVI (q := 38) [.int x1] [] [.int x1, .ref (ad G 0)] rfl O dX11_deed_35 rfl (c_X11_isMatter hG h) wd_4_31 mw_X11_isMatter io_0 rfl (by decide) (Nat.le_of_ble_eq_true rfl) (fun v15 M15 h => ?_)
    refine J.if_eq (q := 41) (tgt := 61) O dX11_deed_38 rfl (by decide) (fun z16 => ?_) (fun z16 => ?_)
    · replace h := h.1 z16
      exact J.sub [0, 1, 2, 3, 4] rfl (j_X11_deed_b61 hG O hR h)
    · replace h := h.2 z16
      refine J.aload_n (q := 42) O dX11_deed_41 rfl 0 rfl ?_
      refine J.getR (q := 45) (c' := 0) (ci := 11) (k := 4) (r := 61) O dX11_deed_42 rfl wd_3_6 (by decide) if_0_4 ?_
      refine J.iload_n (q := 46) O dX11_deed_45 rfl 1 rfl ?_
      obtain ⟨hv17, h⟩ := h
      refine J.aald (q := 47) (t := 0) (c' := 61) (b := 127) (d := 4) O dX11_deed_46 rfl ar_61 hv17 ?_
      refine J.getI (q := 50) (c' := (127 + 4 * x1.toNatClampNeg)) (ci := 5) (k := 2) (M15 (127 + 4 * x1.toNatClampNeg) 2) rfl O dX11_deed_47 rfl wd_2_192 (by decide) (isMat_F (isMat_of hv17) rfl) ?_
      refine J.iload_n (q := 51) O dX11_deed_50 rfl 2 rfl ?_
      refine J.icmp_eq (q := 54) (tgt := 61) O dX11_deed_51 rfl (by decide) (fun z18 => ?_) (fun z18 => ?_)
      · replace h := h.1 z18
        exact J.sub [0, 1, 2, 3, 4] rfl (j_X11_deed_b61 hG O hR h)
      · replace h := h.2 z18
        refine J.aload_n (q := 55) O dX11_deed_54 rfl 0 rfl ?_
        refine J.bipush (q := 57) (v := (-3 : Int32)) O dX11_deed_55 rfl rfl ?_
        refine J.callVI (q := 60) [.int (-3 : Int32)] [] [.int (-3 : Int32), .ref (ad G 0)] rfl O dX11_deed_57 rfl (c_X11_refuse hG h) wd_3_55 mw_X11_refuse io_0 rfl (by decide) (Nat.le_of_ble_eq_true rfl) (fun v19 M19 h => ?_)
        exact hR _ _ _ _ dX11_deed_60 h
  · replace h := h.2 z14
    refine J.aload_n (q := 27) O dX11_deed_26 rfl 0 rfl ?_
    refine J.bipush (q := 29) (v := (-2 : Int32)) O dX11_deed_27 rfl rfl ?_
    refine J.callVI (q := 32) [.int (-2 : Int32)] [] [.int (-2 : Int32), .ref (ad G 0)] rfl O dX11_deed_29 rfl (c_X11_refuse hG h) wd_3_55 mw_X11_refuse io_0 rfl (by decide) (Nat.le_of_ble_eq_true rfl) (fun v20 M20 h => ?_)
    exact hR _ _ _ _ dX11_deed_32 h
set_option maxHeartbeats 4000000 in
set_option maxRecDepth 20000 in
theorem c_X11_deed {l : Launch} {G : GX} (hG : Gd G) {a1 : Int32} {a2 : Int32} {a3 : Int32} {a4 : Int32} {M : Mem} {K : Int32 → Mem → Prop} (h : f_X11_deed a1 a2 a3 a4 M K) : CI l G yX11_deed cX11_deed 7 (some .int) 8 [.ref (ad G 0), .int a1, .int a2, .int a3, .int a4] M K := by
  unfold f_X11_deed at h
  refine CI.mk hG (by decide) [(0, .ref (ad G 0)), (1, .int a1), (2, .int a2), (3, .int a3), (4, .int a4)] rfl (Nat.le_of_ble_eq_true rfl) (fun X O hlX hR => ?_)
  subst hlX
  refine J.iload_n (q := 1) O dX11_deed_0 rfl 1 rfl ?_
  refine J.iconst (q := 2) (v := (-1 : Int32)) O dX11_deed_1 rfl rfl ?_
  refine J.icmp_eq (q := 5) (tgt := 19) O dX11_deed_2 rfl (by decide) (fun z21 => ?_) (fun z21 => ?_)
  · replace h := h.1 z21
    exact J.sub [0, 1, 2, 3, 4] rfl (j_X11_deed_b19 hG O hR h)
  · replace h := h.2 z21
    refine J.aload_n (q := 6) O dX11_deed_5 rfl 0 rfl ?_
    refine J.iload_n (q := 7) O dX11_deed_6 rfl 1 rfl ?_
    refine J.callVI (q := 10) [.int a1] [] [.int a1, .ref (ad G 0)] rfl O dX11_deed_7 rfl (c_X11_isMatter hG h) wd_4_31 mw_X11_isMatter io_0 rfl (by decide) (Nat.le_of_ble_eq_true rfl) (fun v22 M22 h => ?_)
    refine J.if_ne (q := 13) (tgt := 19) O dX11_deed_10 rfl (by decide) (fun z23 => ?_) (fun z23 => ?_)
    · replace h := h.1 z23
      exact J.sub [0, 1, 2, 3, 4] rfl (j_X11_deed_b19 hG O hR h)
    · replace h := h.2 z23
      refine J.aload_n (q := 14) O dX11_deed_13 rfl 0 rfl ?_
      refine J.iconst (q := 15) (v := (-1 : Int32)) O dX11_deed_14 rfl rfl ?_
      refine J.callVI (q := 18) [.int (-1 : Int32)] [] [.int (-1 : Int32), .ref (ad G 0)] rfl O dX11_deed_15 rfl (c_X11_refuse hG h) wd_3_55 mw_X11_refuse io_0 rfl (by decide) (Nat.le_of_ble_eq_true rfl) (fun v24 M24 h => ?_)
      exact hR _ _ _ _ dX11_deed_18 h
set_option maxHeartbeats 4000000 in
set_option maxRecDepth 20000 in
theorem j_X4_has_b23 {X : CX} {G : GX} {K : Int32 → Mem → Prop} (hG : Gd G) (O : Ok X G cX4_has 2 RX4 1) (hR : RetZ X G cX4_has K) {s0 : Int32} {M : Mem} (h : f_X4_has_b23 K s0 M) : J X G M 23 [] [.int s0] := by
  unfold f_X4_has_b23 at h
  exact hR _ _ _ _ dX4_has_23 h.1 h.2
set_option maxHeartbeats 4000000 in
set_option maxRecDepth 20000 in
theorem j_X4_has_b22 {X : CX} {G : GX} {K : Int32 → Mem → Prop} (hG : Gd G) (O : Ok X G cX4_has 2 RX4 1) (hR : RetZ X G cX4_has K) {M : Mem} (h : f_X4_has_b22 K  M) : J X G M 22 [] [] := by
  unfold f_X4_has_b22 at h
  refine J.iconst (q := 23) (v := (0 : Int32)) O dX4_has_22 rfl rfl ?_
  exact J.sub [] rfl (j_X4_has_b23 hG O hR h)
set_option maxHeartbeats 4000000 in
set_option maxRecDepth 20000 in
theorem c_X4_has {l : Launch} {G : GX} (hG : Gd G) {a1 : Int32} {M : Mem} {K : Int32 → Mem → Prop} (h : f_X4_has a1 M K) : CI l G yX4_has cX4_has 2 (some .boolean) 1 [.ref (ad G 72), .int a1] M K := by
  unfold f_X4_has at h
  refine CZ.mk hG (by decide) [(0, .ref (ad G 72)), (1, .int a1)] rfl (Nat.le_of_ble_eq_true rfl) (fun X O hlX hR => ?_)
  subst hlX
  refine J.iload_n (q := 1) O dX4_has_0 rfl 1 rfl ?_
  refine J.if_lt (q := 4) (tgt := 22) O dX4_has_1 rfl (by decide) (fun z2 => ?_) (fun z2 => ?_)
  · replace h := h.1 z2
    exact J.sub [] rfl (j_X4_has_b22 hG O hR h)
  · replace h := h.2 z2
    refine J.iload_n (q := 5) O dX4_has_4 rfl 1 rfl ?_
    refine J.aload_n (q := 6) O dX4_has_5 rfl 0 rfl ?_
    refine J.getI (q := 9) (c' := 72) (ci := 4) (k := 0) (M 72 0) rfl O dX4_has_6 rfl wd_2_29 (by decide) if_72_0 ?_
    refine J.icmp_ge (q := 12) (tgt := 22) O dX4_has_9 rfl (by decide) (fun z3 => ?_) (fun z3 => ?_)
    · replace h := h.1 z3
      exact J.sub [] rfl (j_X4_has_b22 hG O hR h)
    · replace h := h.2 z3
      refine J.iload_n (q := 13) O dX4_has_12 rfl 1 rfl ?_
      refine J.bipush (q := 15) (v := (60 : Int32)) O dX4_has_13 rfl rfl ?_
      refine J.icmp_ge (q := 18) (tgt := 22) O dX4_has_15 rfl (by decide) (fun z4 => ?_) (fun z4 => ?_)
      · replace h := h.1 z4
        exact J.sub [] rfl (j_X4_has_b22 hG O hR h)
      · replace h := h.2 z4
        refine J.iconst (q := 19) (v := (1 : Int32)) O dX4_has_18 rfl rfl ?_
        refine J.goto (q := 23) O dX4_has_19 (by decide) ?_
        exact J.sub [] rfl (j_X4_has_b23 hG O hR h)
set_option maxHeartbeats 4000000 in
set_option maxRecDepth 20000 in
theorem j_X3_firstDayBeyond_c11 {X : CX} {G : GX} {K : Int32 → Mem → Prop} (hG : Gd G) (O : Ok X G cX3_firstDayBeyond 4 RX3 1) (hR : RetI X G cX3_firstDayBeyond K) {a : Int32 × Int32 × Int32 × Mem} (h : Lp (fun (r11 : Int32 × Int32 × Int32 × Mem → Prop) a => f_X3_firstDayBeyond_c11 K r11 a.1 a.2.1 a.2.2.1 a.2.2.2) a) : J X G a.2.2.2 11 [(0, .ref (ad G 1)), (1, .int a.1), (2, .int a.2.1), (3, .int a.2.2.1)] [] := by
  refine Lp.elim (P := fun a => J X G a.2.2.2 11 [(0, .ref (ad G 1)), (1, .int a.1), (2, .int a.2.1), (3, .int a.2.2.1)] []) ?_ h
  clear h
  intro r11 hr11 a h
  obtain ⟨x1, x2, x3, M⟩ := a
  unfold f_X3_firstDayBeyond_c11 at h
  (try dsimp only at h ⊢)
  refine J.iload_n (q := 12) O dX3_firstDayBeyond_11 rfl 3 rfl ?_
  refine J.sipush (q := 15) (v := (1000 : Int32)) O dX3_firstDayBeyond_12 rfl rfl ?_
  refine J.icmp_gt (q := 18) (tgt := 43) O dX3_firstDayBeyond_15 rfl (by decide) (fun z3 => ?_) (fun z3 => ?_)
  · replace h := h.1 z3
    refine J.ldc (q := 45) O dX3_firstDayBeyond_43 rfl wd_5_41 ?_
    exact hR _ _ _ _ dX3_firstDayBeyond_45 h
  · replace h := h.2 z3
    refine J.aload_n (q := 19) O dX3_firstDayBeyond_18 rfl 0 rfl ?_
    refine J.getR (q := 22) (c' := 1) (ci := 3) (k := 2) (r := 3) O dX3_firstDayBeyond_19 rfl wd_1_34 (by decide) if_1_2 ?_
    refine J.iload_n (q := 23) O dX3_firstDayBeyond_22 rfl 3 rfl ?_
    obtain ⟨hv4, h⟩ := h
    refine J.iald (q := 24) (c' := 3) (j := x3.toNatClampNeg) (M 3 x3.toNatClampNeg) rfl O dX3_firstDayBeyond_23 rfl ar_3 hv4 rfl ?_
    refine J.aload_n (q := 25) O dX3_firstDayBeyond_24 rfl 0 rfl ?_
    refine J.getR (q := 28) (c' := 1) (ci := 3) (k := 2) (r := 3) O dX3_firstDayBeyond_25 rfl wd_1_34 (by decide) if_1_2 ?_
    refine J.iload_n (q := 29) O dX3_firstDayBeyond_28 rfl 1 rfl ?_
    obtain ⟨hv5, h⟩ := h
    refine J.iald (q := 30) (c' := 3) (j := x1.toNatClampNeg) (M 3 x1.toNatClampNeg) rfl O dX3_firstDayBeyond_29 rfl ar_3 hv5 rfl ?_
    refine J.isub (q := 31) O dX3_firstDayBeyond_30 rfl ?_
    refine J.iload_n (q := 32) O dX3_firstDayBeyond_31 rfl 2 rfl ?_
    refine J.icmp_le (q := 35) (tgt := 37) O dX3_firstDayBeyond_32 rfl (by decide) (fun z6 => ?_) (fun z6 => ?_)
    · replace h := h.1 z6
      refine J.iinc (q := 40) O dX3_firstDayBeyond_37 rfl [(3, .int (x3 + (1 : Int32))), (0, .ref (ad G 1)), (1, .int x1), (2, .int x2)] 3 rfl rfl (by decide) rfl ?_
      refine J.goto (q := 11) O dX3_firstDayBeyond_40 (by decide) ?_
      exact J.sub [1, 2, 3, 0] rfl (hr11 _ h)
    · replace h := h.2 z6
      refine J.iload_n (q := 36) O dX3_firstDayBeyond_35 rfl 3 rfl ?_
      exact hR _ _ _ _ dX3_firstDayBeyond_36 h
set_option maxHeartbeats 4000000 in
set_option maxRecDepth 20000 in
theorem c_X3_firstDayBeyond {l : Launch} {G : GX} (hG : Gd G) {a1 : Int32} {a2 : Int32} {M : Mem} {K : Int32 → Mem → Prop} (h : f_X3_firstDayBeyond a1 a2 M K) : CI l G yX3_firstDayBeyond cX3_firstDayBeyond 4 (some .int) 1 [.ref (ad G 1), .int a1, .int a2] M K := by
  unfold f_X3_firstDayBeyond at h
  refine CI.mk hG (by decide) [(0, .ref (ad G 1)), (1, .int a1), (2, .int a2)] rfl (Nat.le_of_ble_eq_true rfl) (fun X O hlX hR => ?_)
  subst hlX
  refine J.iload_n (q := 1) O dX3_firstDayBeyond_0 rfl 1 rfl ?_
  refine J.if_ge (q := 4) (tgt := 7) O dX3_firstDayBeyond_1 rfl (by decide) (fun z7 => ?_) (fun z7 => ?_)
  · replace h := h.1 z7
    refine J.iload_n (q := 8) O dX3_firstDayBeyond_7 rfl 1 rfl ?_
    refine J.iconst (q := 9) (v := (1 : Int32)) O dX3_firstDayBeyond_8 rfl rfl ?_
    refine J.iadd (q := 10) O dX3_firstDayBeyond_9 rfl ?_
    refine J.istore_n (q := 11) O dX3_firstDayBeyond_10 rfl [(3, .int (a1 + (1 : Int32))), (0, .ref (ad G 1)), (1, .int a1), (2, .int a2)] (by decide) rfl ?_
    exact J.sub [1, 2, 3, 0] rfl (j_X3_firstDayBeyond_c11 hG O hR h)
  · replace h := h.2 z7
    refine J.ldc (q := 6) O dX3_firstDayBeyond_4 rfl wd_5_41 ?_
    exact hR _ _ _ _ dX3_firstDayBeyond_6 h
set_option maxHeartbeats 4000000 in
set_option maxRecDepth 20000 in
theorem j_X5_nextTurn_b34 {t : Nat} {X : CX} {G : GX} {K : Int32 → Mem → Prop} (hG : Gd G) (O : Ok X G cX5_nextTurn 4 RX5 3) (hR : RetI X G cX5_nextTurn K) (ht : isMat t) {r5 : Nat × Int32 × Int32 × Int32 × Mem → Prop} (hr5 : ∀ a : Nat × Int32 × Int32 × Int32 × Mem, r5 a → J X G a.2.2.2.2 5 [(0, .ref (ad G a.1)), (1, .int a.2.1), (2, .int a.2.2.1), (3, .int a.2.2.2.1)] []) {x0 : Nat} {x1 : Int32} {x2 : Int32} {x3 : Int32} {M : Mem} (h : f_X5_nextTurn_b34 t r5 K x0 x1 x2 x3 M) : J X G M 34 [(0, .ref (ad G x0)), (1, .int x1), (2, .int x2), (3, .int x3)] [] := by
  unfold f_X5_nextTurn_b34 at h
  obtain ⟨hx0, h⟩ := h
  refine J.iinc (q := 37) O dX5_nextTurn_34 rfl [(3, .int (x3 + (1 : Int32))), (0, .ref (ad G x0)), (1, .int x1), (2, .int x2)] 3 rfl rfl (by decide) rfl ?_
  refine J.goto (q := 5) O dX5_nextTurn_37 (by decide) ?_
  exact J.sub [1, 2, 3, 0] rfl (hr5 _ h)
set_option maxHeartbeats 4000000 in
set_option maxRecDepth 20000 in
theorem j_X5_nextTurn_b78 {t : Nat} {X : CX} {G : GX} {K : Int32 → Mem → Prop} (hG : Gd G) (O : Ok X G cX5_nextTurn 4 RX5 3) (hR : RetI X G cX5_nextTurn K) (ht : isMat t) {s0 : Int32} {M : Mem} (h : f_X5_nextTurn_b78 t K s0 M) : J X G M 78 [] [.int s0] := by
  unfold f_X5_nextTurn_b78 at h
  exact hR _ _ _ _ dX5_nextTurn_78 h
set_option maxHeartbeats 4000000 in
set_option maxRecDepth 20000 in
theorem j_X5_nextTurn_c5 {t : Nat} {X : CX} {G : GX} {K : Int32 → Mem → Prop} (hG : Gd G) (O : Ok X G cX5_nextTurn 4 RX5 3) (hR : RetI X G cX5_nextTurn K) (ht : isMat t) {a : Nat × Int32 × Int32 × Int32 × Mem} (h : Lp (fun (r5 : Nat × Int32 × Int32 × Int32 × Mem → Prop) a => f_X5_nextTurn_c5 t K r5 a.1 a.2.1 a.2.2.1 a.2.2.2.1 a.2.2.2.2) a) : J X G a.2.2.2.2 5 [(0, .ref (ad G a.1)), (1, .int a.2.1), (2, .int a.2.2.1), (3, .int a.2.2.2.1)] [] := by
  refine Lp.elim (P := fun a => J X G a.2.2.2.2 5 [(0, .ref (ad G a.1)), (1, .int a.2.1), (2, .int a.2.2.1), (3, .int a.2.2.2.1)] []) ?_ h
  clear h
  intro r5 hr5 a h
  obtain ⟨x0, x1, x2, x3, M⟩ := a
  unfold f_X5_nextTurn_c5 at h
  (try dsimp only at h ⊢)
  obtain ⟨hx0, h⟩ := h
  refine J.iload_n (q := 6) O dX5_nextTurn_5 rfl 3 rfl ?_
  refine J.aload_n (q := 7) O dX5_nextTurn_6 rfl 0 rfl ?_
  refine J.getI (q := 10) (c' := x0) (ci := 5) (k := 11) (M x0 11) rfl O dX5_nextTurn_7 rfl wd_2_206 (by decide) (isMat_F hx0 rfl) ?_
  refine J.icmp_ge (q := 13) (tgt := 40) O dX5_nextTurn_10 rfl (by decide) (fun z3 => ?_) (fun z3 => ?_)
  · replace h := h.1 z3
    refine J.aload_n (q := 41) O dX5_nextTurn_40 rfl 0 rfl ?_
    refine J.getR (q := 44) (c' := x0) (ci := 5) (k := 0) (r := 1) O dX5_nextTurn_41 rfl wd_2_189 (by decide) (isMat_F hx0 rfl) ?_
    refine J.aload_n (q := 45) O dX5_nextTurn_44 rfl 0 rfl ?_
    refine J.iload_n (q := 46) O dX5_nextTurn_45 rfl 1 rfl ?_
    refine J.aload_n (q := 47) O dX5_nextTurn_46 rfl 0 rfl ?_
    refine J.getR (q := 50) (c' := x0) (ci := 5) (k := 0) (r := 1) O dX5_nextTurn_47 rfl wd_2_189 (by decide) (isMat_F hx0 rfl) ?_
    refine J.getI (q := 53) (c' := 1) (ci := 3) (k := 0) (M 1 0) rfl O dX5_nextTurn_50 rfl wd_1_32 (by decide) if_1_0 ?_
    refine J.callVI (q := 56) [.int x1, .int (M 1 0)] [.ref (ad G 1)] [.int (M 1 0), .int x1, .ref (ad G x0), .ref (ad G 1)] rfl O dX5_nextTurn_53 rfl (c_X5_wholeSince hG h) wd_4_76 mw_X5_wholeSince (isMat_O hx0) rfl (by decide) (Nat.le_of_ble_eq_true rfl) (fun v4 M4 h => ?_)
    refine J.aload_n (q := 57) O dX5_nextTurn_56 rfl 0 rfl ?_
    refine J.getI (q := 60) (c' := x0) (ci := 5) (k := 9) (M4 x0 9) rfl O dX5_nextTurn_57 rfl wd_2_204 (by decide) (isMat_F hx0 rfl) ?_
    refine J.callVI (q := 63) [.int v4, .int (M4 x0 9)] [] [.int (M4 x0 9), .int v4, .ref (ad G 1)] rfl O dX5_nextTurn_60 rfl (c_X3_firstDayBeyond hG h) wd_5_37 mw_X3_firstDayBeyond io_1 rfl (by decide) (Nat.le_of_ble_eq_true rfl) (fun v5 M5 h => ?_)
    refine J.istore_n (q := 64) O dX5_nextTurn_63 rfl [(3, .int v5), (0, .ref (ad G x0)), (1, .int x1), (2, .int x2)] (by decide) rfl ?_
    refine J.iload_n (q := 65) O dX5_nextTurn_64 rfl 0 rfl ?_
    refine J.iload_n (q := 66) O dX5_nextTurn_65 rfl 2 rfl ?_
    refine J.icmp_le (q := 69) (tgt := 77) O dX5_nextTurn_66 rfl (by decide) (fun z6 => ?_) (fun z6 => ?_)
    · replace h := h.1 z6
      refine J.iload_n (q := 78) O dX5_nextTurn_77 rfl 3 rfl ?_
      exact J.sub [] rfl (j_X5_nextTurn_b78 hG O hR ht h)
    · replace h := h.2 z6
      refine J.iload_n (q := 70) O dX5_nextTurn_69 rfl 3 rfl ?_
      refine J.iload_n (q := 71) O dX5_nextTurn_70 rfl 0 rfl ?_
      refine J.mmin (q := 74) O dX5_nextTurn_71 rfl wd_5_36 (by decide) (Nat.le_of_ble_eq_true rfl) ?_
      refine J.goto (q := 78) O dX5_nextTurn_74 (by decide) ?_
      exact J.sub [] rfl (j_X5_nextTurn_b78 hG O hR ht h)
  · replace h := h.2 z3
    refine J.aload_n (q := 14) O dX5_nextTurn_13 rfl 0 rfl ?_
    refine J.getR (q := 17) (c' := x0) (ci := 5) (k := 14) (r := (x0 + 3)) O dX5_nextTurn_14 rfl wd_2_210 (by decide) (isMat_F hx0 rfl) ?_
    refine J.iload_n (q := 18) O dX5_nextTurn_17 rfl 3 rfl ?_
    obtain ⟨hv7, h⟩ := h
    refine J.iald (q := 19) (c' := (x0 + 3)) (j := x3.toNatClampNeg) (M (x0 + 3) x3.toNatClampNeg) rfl O dX5_nextTurn_18 rfl (isMat_A hx0 (by decide) (by decide)) hv7 rfl ?_
    refine J.iload_n (q := 20) O dX5_nextTurn_19 rfl 1 rfl ?_
    refine J.icmp_le (q := 23) (tgt := 34) O dX5_nextTurn_20 rfl (by decide) (fun z8 => ?_) (fun z8 => ?_)
    · replace h := h.1 z8
      exact J.sub [0, 1, 2, 3] rfl (j_X5_nextTurn_b34 hG O hR ht hr5 h)
    · replace h := h.2 z8
      refine J.iload_n (q := 24) O dX5_nextTurn_23 rfl 2 rfl ?_
      refine J.aload_n (q := 25) O dX5_nextTurn_24 rfl 0 rfl ?_
      refine J.getR (q := 28) (c' := x0) (ci := 5) (k := 14) (r := (x0 + 3)) O dX5_nextTurn_25 rfl wd_2_210 (by decide) (isMat_F hx0 rfl) ?_
      refine J.iload_n (q := 29) O dX5_nextTurn_28 rfl 3 rfl ?_
      obtain ⟨hv9, h⟩ := h
      refine J.iald (q := 30) (c' := (x0 + 3)) (j := x3.toNatClampNeg) (M (x0 + 3) x3.toNatClampNeg) rfl O dX5_nextTurn_29 rfl (isMat_A hx0 (by decide) (by decide)) hv9 rfl ?_
      refine J.mmin (q := 33) O dX5_nextTurn_30 rfl wd_5_36 (by decide) (Nat.le_of_ble_eq_true rfl) ?_
      refine J.istore_n (q := 34) O dX5_nextTurn_33 rfl [(2, .int (if (M (x0 + 3) x3.toNatClampNeg) < x2 then (M (x0 + 3) x3.toNatClampNeg) else x2)), (0, .ref (ad G x0)), (1, .int x1), (3, .int x3)] (by decide) rfl ?_
      exact J.sub [1, 2, 0, 3] rfl (j_X5_nextTurn_b34 hG O hR ht hr5 h)
set_option maxHeartbeats 4000000 in
set_option maxRecDepth 20000 in
theorem c_X5_nextTurn {l : Launch} {G : GX} (hG : Gd G) {t : Nat} {a1 : Int32} {M : Mem} {K : Int32 → Mem → Prop} (h : f_X5_nextTurn t a1 M K) : CI l G yX5_nextTurn cX5_nextTurn 4 (some .int) 3 [.ref (ad G t), .int a1] M K := by
  unfold f_X5_nextTurn at h
  obtain ⟨ht, h⟩ := h
  refine CI.mk hG (by decide) [(0, .ref (ad G t)), (1, .int a1)] rfl (Nat.le_of_ble_eq_true rfl) (fun X O hlX hR => ?_)
  subst hlX
  refine J.ldc (q := 2) O dX5_nextTurn_0 rfl wd_5_35 ?_
  refine J.istore_n (q := 3) O dX5_nextTurn_2 rfl [(2, .int (1000000 : Int32)), (0, .ref (ad G t)), (1, .int a1)] (by decide) rfl ?_
  refine J.iconst (q := 4) (v := (0 : Int32)) O dX5_nextTurn_3 rfl rfl ?_
  refine J.istore_n (q := 5) O dX5_nextTurn_4 rfl [(3, .int (0 : Int32)), (2, .int (1000000 : Int32)), (0, .ref (ad G t)), (1, .int a1)] (by decide) rfl ?_
  exact J.sub [2, 3, 1, 0] rfl (j_X5_nextTurn_c5 hG O hR ht h)
set_option maxHeartbeats 4000000 in
set_option maxRecDepth 20000 in
theorem j_X5_firstNotLetting_c5 {t : Nat} {X : CX} {G : GX} {K : Int32 → Mem → Prop} (hG : Gd G) (O : Ok X G cX5_firstNotLetting 5 RX5 4) (hR : RetI X G cX5_firstNotLetting K) (ht : isMat t) {a : Nat × Int32 × Int32 × Int32 × Mem} (h : Lp (fun (r5 : Nat × Int32 × Int32 × Int32 × Mem → Prop) a => f_X5_firstNotLetting_c5 t K r5 a.1 a.2.1 a.2.2.1 a.2.2.2.1 a.2.2.2.2) a) : J X G a.2.2.2.2 5 [(0, .ref (ad G a.1)), (2, .int a.2.1), (3, .int a.2.2.1), (4, .int a.2.2.2.1)] [] := by
  refine Lp.elim (P := fun a => J X G a.2.2.2.2 5 [(0, .ref (ad G a.1)), (2, .int a.2.1), (3, .int a.2.2.1), (4, .int a.2.2.2.1)] []) ?_ h
  clear h
  intro r5 hr5 a h
  obtain ⟨x0, x2, x3, x4, M⟩ := a
  unfold f_X5_firstNotLetting_c5 at h
  (try dsimp only at h ⊢)
  obtain ⟨hx0, h⟩ := h
  refine J.iload (q := 7) O dX5_firstNotLetting_5 rfl 3 rfl ?_
  refine J.bipush (q := 9) (v := (62 : Int32)) O dX5_firstNotLetting_7 rfl rfl ?_
  refine J.icmp_gt (q := 12) (tgt := 53) O dX5_firstNotLetting_9 rfl (by decide) (fun z1 => ?_) (fun z1 => ?_)
  · replace h := h.1 z1
    refine J.bipush (q := 55) (v := (-9 : Int32)) O dX5_firstNotLetting_53 rfl rfl ?_
    exact hR _ _ _ _ dX5_firstNotLetting_55 h
  · replace h := h.2 z1
    refine J.iload_n (q := 13) O dX5_firstNotLetting_12 rfl 2 rfl ?_
    refine J.iload_n (q := 14) O dX5_firstNotLetting_13 rfl 1 rfl ?_
    refine J.icmp_le (q := 17) (tgt := 20) O dX5_firstNotLetting_14 rfl (by decide) (fun z2 => ?_) (fun z2 => ?_)
    · replace h := h.1 z2
      refine J.aload_n (q := 21) O dX5_firstNotLetting_20 rfl 0 rfl ?_
      refine J.aload_n (q := 22) O dX5_firstNotLetting_21 rfl 0 rfl ?_
      refine J.iload_n (q := 23) O dX5_firstNotLetting_22 rfl 2 rfl ?_
      refine J.aload_n (q := 24) O dX5_firstNotLetting_23 rfl 0 rfl ?_
      refine J.getR (q := 27) (c' := x0) (ci := 5) (k := 0) (r := 1) O dX5_firstNotLetting_24 rfl wd_2_189 (by decide) (isMat_F hx0 rfl) ?_
      refine J.getI (q := 30) (c' := 1) (ci := 3) (k := 0) (M 1 0) rfl O dX5_firstNotLetting_27 rfl wd_1_32 (by decide) if_1_0 ?_
      refine J.callVI (q := 33) [.int x3, .int (M 1 0)] [.ref (ad G x0)] [.int (M 1 0), .int x3, .ref (ad G x0), .ref (ad G x0)] rfl O dX5_firstNotLetting_30 rfl (c_X5_stateOn hG h) wd_4_94 mw_X5_stateOn (isMat_O hx0) rfl (by decide) (Nat.le_of_ble_eq_true rfl) (fun v3 M3 h => ?_)
      refine J.callVI (q := 36) [.int v3] [] [.int v3, .ref (ad G x0)] rfl O dX5_firstNotLetting_33 rfl (c_X5_lets hG h) wd_4_95 mw_X5_lets (isMat_O hx0) rfl (by decide) (Nat.le_of_ble_eq_true rfl) (fun v4 M4 h => ?_)
      refine J.if_ne (q := 39) (tgt := 41) O dX5_firstNotLetting_36 rfl (by decide) (fun z5 => ?_) (fun z5 => ?_)
      · replace h := h.1 z5
        refine J.aload_n (q := 42) O dX5_firstNotLetting_41 rfl 0 rfl ?_
        refine J.iload_n (q := 43) O dX5_firstNotLetting_42 rfl 2 rfl ?_
        refine J.callVI (q := 46) [.int x3] [] [.int x3, .ref (ad G x0)] rfl O dX5_firstNotLetting_43 rfl (c_X5_nextTurn hG h) wd_5_31 mw_X5_nextTurn (isMat_O hx0) rfl (by decide) (Nat.le_of_ble_eq_true rfl) (fun v6 M6 h => ?_)
        refine J.istore_n (q := 47) O dX5_firstNotLetting_46 rfl [(3, .int v6), (0, .ref (ad G x0)), (2, .int x2), (4, .int x4)] (by decide) rfl ?_
        refine J.iinc (q := 50) O dX5_firstNotLetting_47 rfl [(4, .int (x4 + (1 : Int32))), (3, .int v6), (0, .ref (ad G x0)), (2, .int x2)] 3 rfl rfl (by decide) rfl ?_
        refine J.goto (q := 5) O dX5_firstNotLetting_50 (by decide) ?_
        exact J.sub [2, 3, 1, 0] rfl (hr5 _ h)
      · replace h := h.2 z5
        refine J.iload_n (q := 40) O dX5_firstNotLetting_39 rfl 2 rfl ?_
        exact hR _ _ _ _ dX5_firstNotLetting_40 h
    · replace h := h.2 z2
      refine J.bipush (q := 19) (v := (-9 : Int32)) O dX5_firstNotLetting_17 rfl rfl ?_
      exact hR _ _ _ _ dX5_firstNotLetting_19 h
set_option maxHeartbeats 4000000 in
set_option maxRecDepth 20000 in
theorem c_X5_firstNotLetting {l : Launch} {G : GX} (hG : Gd G) {t : Nat} {a1 : Int32} {a2 : Int32} {M : Mem} {K : Int32 → Mem → Prop} (h : f_X5_firstNotLetting t a1 a2 M K) : CI l G yX5_firstNotLetting cX5_firstNotLetting 5 (some .int) 4 [.ref (ad G t), .int a1, .int a2] M K := by
  unfold f_X5_firstNotLetting at h
  obtain ⟨ht, h⟩ := h
  refine CI.mk hG (by decide) [(0, .ref (ad G t)), (1, .int a1), (2, .int a2)] rfl (Nat.le_of_ble_eq_true rfl) (fun X O hlX hR => ?_)
  subst hlX
  refine J.iload_n (q := 1) O dX5_firstNotLetting_0 rfl 1 rfl ?_
  refine J.istore_n (q := 2) O dX5_firstNotLetting_1 rfl [(3, .int a1), (0, .ref (ad G t)), (1, .int a1), (2, .int a2)] (by decide) rfl ?_
  refine J.iconst (q := 3) (v := (0 : Int32)) O dX5_firstNotLetting_2 rfl rfl ?_
  refine J.istore (q := 5) O dX5_firstNotLetting_3 rfl [(4, .int (0 : Int32)), (3, .int a1), (0, .ref (ad G t)), (1, .int a1), (2, .int a2)] (by decide) rfl ?_
  exact J.sub [2, 4, 1, 0] rfl (j_X5_firstNotLetting_c5 hG O hR ht h)
set_option maxHeartbeats 4000000 in
set_option maxRecDepth 20000 in
theorem j_X11_voidSince_b44 {X : CX} {G : GX} {K : Int32 → Mem → Prop} (hG : Gd G) (O : Ok X G cX11_voidSince 4 RX11 5) (hR : RetI X G cX11_voidSince K) {s0 : Int32} {M : Mem} (h : f_X11_voidSince_b44 K s0 M) : J X G M 44 [] [.int s0] := by
  unfold f_X11_voidSince_b44 at h
  exact hR _ _ _ _ dX11_voidSince_44 h
set_option maxHeartbeats 4000000 in
set_option maxRecDepth 20000 in
theorem j_X11_voidSince_b95 {X : CX} {G : GX} {K : Int32 → Mem → Prop} (hG : Gd G) (O : Ok X G cX11_voidSince 4 RX11 5) (hR : RetI X G cX11_voidSince K) {x2 : Int32} {M : Mem} (h : f_X11_voidSince_b95 K x2 M) : J X G M 95 [(2, .int x2)] [] := by
  unfold f_X11_voidSince_b95 at h
  refine J.iload_n (q := 96) O dX11_voidSince_95 rfl 0 rfl ?_
  exact hR _ _ _ _ dX11_voidSince_96 h
set_option maxHeartbeats 4000000 in
set_option maxRecDepth 20000 in
theorem j_X11_voidSince_b118 {X : CX} {G : GX} {K : Int32 → Mem → Prop} (hG : Gd G) (O : Ok X G cX11_voidSince 4 RX11 5) (hR : RetI X G cX11_voidSince K) {s0 : Int32} {s1 : Int32} {s2 : Nat} {M : Mem} (h : f_X11_voidSince_b118 K s0 s1 s2 M) : J X G M 118 [] [.int s0, .int s1, .ref (ad G s2)] := by
  unfold f_X11_voidSince_b118 at h
  obtain ⟨hs2, h⟩ := h
  refine J.callVI (q := 121) [.int s1, .int s0] [] [.int s0, .int s1, .ref (ad G s2)] rfl O dX11_voidSince_118 rfl (c_X5_firstNotLetting hG h) wd_5_27 mw_X5_firstNotLetting (isMat_O hs2) rfl (by decide) (Nat.le_of_ble_eq_true rfl) (fun v8 M8 h => ?_)
  exact hR _ _ _ _ dX11_voidSince_121 h
set_option maxHeartbeats 4000000 in
set_option maxRecDepth 20000 in
theorem c_X11_voidSince {l : Launch} {G : GX} (hG : Gd G) {a1 : Int32} {M : Mem} {K : Int32 → Mem → Prop} (h : f_X11_voidSince a1 M K) : CI l G yX11_voidSince cX11_voidSince 4 (some .int) 5 [.ref (ad G 0), .int a1] M K := by
  unfold f_X11_voidSince at h
  refine CI.mk hG (by decide) [(0, .ref (ad G 0)), (1, .int a1)] rfl (Nat.le_of_ble_eq_true rfl) (fun X O hlX hR => ?_)
  subst hlX
  refine J.aload_n (q := 1) O dX11_voidSince_0 rfl 0 rfl ?_
  refine J.getR (q := 4) (c' := 0) (ci := 11) (k := 7) (r := 72) O dX11_voidSince_1 rfl wd_3_9 (by decide) if_0_7 ?_
  refine J.getR (q := 7) (c' := 72) (ci := 4) (k := 2) (r := 74) O dX11_voidSince_4 rfl wd_2_34 (by decide) if_72_2 ?_
  refine J.iload_n (q := 8) O dX11_voidSince_7 rfl 1 rfl ?_
  obtain ⟨hv9, h⟩ := h
  refine J.iald (q := 9) (c' := 74) (j := a1.toNatClampNeg) (M 74 a1.toNatClampNeg) rfl O dX11_voidSince_8 rfl ar_74 hv9 rfl ?_
  refine J.istore_n (q := 10) O dX11_voidSince_9 rfl [(2, .int (M 74 a1.toNatClampNeg)), (0, .ref (ad G 0)), (1, .int a1)] (by decide) rfl ?_
  refine J.aload_n (q := 11) O dX11_voidSince_10 rfl 1 rfl ?_
  refine J.aload_n (q := 12) O dX11_voidSince_11 rfl 1 rfl ?_
  refine J.getR (q := 15) (c' := 0) (ci := 11) (k := 7) (r := 72) O dX11_voidSince_12 rfl wd_3_9 (by decide) if_0_7 ?_
  refine J.getR (q := 18) (c' := 72) (ci := 4) (k := 1) (r := 73) O dX11_voidSince_15 rfl wd_2_32 (by decide) if_72_1 ?_
  refine J.iload_n (q := 19) O dX11_voidSince_18 rfl 2 rfl ?_
  obtain ⟨hv10, h⟩ := h
  refine J.iald (q := 20) (c' := 73) (j := a1.toNatClampNeg) (M 73 a1.toNatClampNeg) rfl O dX11_voidSince_19 rfl ar_73 hv10 rfl ?_
  refine J.callVI (q := 23) [.int (M 73 a1.toNatClampNeg)] [] [.int (M 73 a1.toNatClampNeg), .ref (ad G 0)] rfl O dX11_voidSince_20 rfl (c_X11_isMatter hG h) wd_4_31 mw_X11_isMatter io_0 rfl (by decide) (Nat.le_of_ble_eq_true rfl) (fun v11 M11 h => ?_)
  refine J.if_ne (q := 26) (tgt := 45) O dX11_voidSince_23 rfl (by decide) (fun z12 => ?_) (fun z12 => ?_)
  · replace h := h.1 z12
    refine J.aload_n (q := 46) O dX11_voidSince_45 rfl 1 rfl ?_
    refine J.getR (q := 49) (c' := 0) (ci := 11) (k := 4) (r := 61) O dX11_voidSince_46 rfl wd_3_6 (by decide) if_0_4 ?_
    refine J.aload_n (q := 50) O dX11_voidSince_49 rfl 1 rfl ?_
    refine J.getR (q := 53) (c' := 0) (ci := 11) (k := 7) (r := 72) O dX11_voidSince_50 rfl wd_3_9 (by decide) if_0_7 ?_
    refine J.getR (q := 56) (c' := 72) (ci := 4) (k := 1) (r := 73) O dX11_voidSince_53 rfl wd_2_32 (by decide) if_72_1 ?_
    refine J.iload_n (q := 57) O dX11_voidSince_56 rfl 2 rfl ?_
    obtain ⟨hv13, h⟩ := h
    refine J.iald (q := 58) (c' := 73) (j := a1.toNatClampNeg) (M11 73 a1.toNatClampNeg) rfl O dX11_voidSince_57 rfl ar_73 hv13 rfl ?_
    obtain ⟨hv14, h⟩ := h
    refine J.aald (q := 59) (t := 0) (c' := 61) (b := 127) (d := 4) O dX11_voidSince_58 rfl ar_61 hv14 ?_
    refine J.astore_n (q := 60) O dX11_voidSince_59 rfl [(3, .ref (ad G (127 + 4 * ((M11 73 a1.toNatClampNeg).toNatClampNeg)))), (2, .int (M 74 a1.toNatClampNeg)), (0, .ref (ad G 0)), (1, .int a1)] (by decide) rfl ?_
    refine J.aload_n (q := 61) O dX11_voidSince_60 rfl 2 rfl ?_
    refine J.getR (q := 64) (c' := 0) (ci := 11) (k := 7) (r := 72) O dX11_voidSince_61 rfl wd_3_9 (by decide) if_0_7 ?_
    refine J.getR (q := 67) (c' := 72) (ci := 4) (k := 3) (r := 75) O dX11_voidSince_64 rfl wd_2_36 (by decide) if_72_3 ?_
    refine J.iload_n (q := 68) O dX11_voidSince_67 rfl 3 rfl ?_
    obtain ⟨hv15, h⟩ := h
    refine J.iald (q := 69) (c' := 75) (j := a1.toNatClampNeg) (M11 75 a1.toNatClampNeg) rfl O dX11_voidSince_68 rfl ar_75 hv15 rfl ?_
    refine J.aload_n (q := 70) O dX11_voidSince_69 rfl 0 rfl ?_
    refine J.getI (q := 73) (c' := (127 + 4 * ((M11 73 a1.toNatClampNeg).toNatClampNeg))) (ci := 5) (k := 3) (M11 (127 + 4 * ((M11 73 a1.toNatClampNeg).toNatClampNeg)) 3) rfl O dX11_voidSince_70 rfl wd_2_194 (by decide) (isMat_F (isMat_of hv14) rfl) ?_
    refine J.iconst (q := 74) (v := (-1 : Int32)) O dX11_voidSince_73 rfl rfl ?_
    refine J.ixor (q := 75) O dX11_voidSince_74 rfl ?_
    refine J.iand (q := 76) O dX11_voidSince_75 rfl ?_
    refine J.if_ne (q := 79) (tgt := 95) O dX11_voidSince_76 rfl (by decide) (fun z16 => ?_) (fun z16 => ?_)
    · replace h := h.1 z16
      exact J.sub [1] rfl (j_X11_voidSince_b95 hG O hR h)
    · replace h := h.2 z16
      refine J.aload_n (q := 80) O dX11_voidSince_79 rfl 2 rfl ?_
      refine J.getR (q := 83) (c' := 0) (ci := 11) (k := 7) (r := 72) O dX11_voidSince_80 rfl wd_3_9 (by decide) if_0_7 ?_
      refine J.getR (q := 86) (c' := 72) (ci := 4) (k := 4) (r := 76) O dX11_voidSince_83 rfl wd_2_38 (by decide) if_72_4 ?_
      refine J.iload_n (q := 87) O dX11_voidSince_86 rfl 3 rfl ?_
      obtain ⟨hv17, h⟩ := h
      refine J.iald (q := 88) (c' := 76) (j := a1.toNatClampNeg) (M11 76 a1.toNatClampNeg) rfl O dX11_voidSince_87 rfl ar_76 hv17 rfl ?_
      refine J.aload_n (q := 89) O dX11_voidSince_88 rfl 0 rfl ?_
      refine J.getI (q := 92) (c' := (127 + 4 * ((M11 73 a1.toNatClampNeg).toNatClampNeg))) (ci := 5) (k := 4) (M11 (127 + 4 * ((M11 73 a1.toNatClampNeg).toNatClampNeg)) 4) rfl O dX11_voidSince_89 rfl wd_2_196 (by decide) (isMat_F (isMat_of hv14) rfl) ?_
      refine J.icmp_le (q := 95) (tgt := 97) O dX11_voidSince_92 rfl (by decide) (fun z18 => ?_) (fun z18 => ?_)
      · replace h := h.1 z18
        refine J.aload_n (q := 98) O dX11_voidSince_97 rfl 0 rfl ?_
        refine J.iload_n (q := 99) O dX11_voidSince_98 rfl 1 rfl ?_
        refine J.aload_n (q := 100) O dX11_voidSince_99 rfl 0 rfl ?_
        refine J.getI (q := 103) (c' := (127 + 4 * ((M11 73 a1.toNatClampNeg).toNatClampNeg))) (ci := 5) (k := 7) (M11 (127 + 4 * ((M11 73 a1.toNatClampNeg).toNatClampNeg)) 7) rfl O dX11_voidSince_100 rfl wd_2_202 (by decide) (isMat_F (isMat_of hv14) rfl) ?_
        refine J.iconst (q := 104) (v := (4 : Int32)) O dX11_voidSince_103 rfl rfl ?_
        refine J.icmp_ne (q := 107) (tgt := 117) O dX11_voidSince_104 rfl (by decide) (fun z19 => ?_) (fun z19 => ?_)
        · replace h := h.1 z19
          refine J.iload_n (q := 118) O dX11_voidSince_117 rfl 1 rfl ?_
          exact J.sub [] rfl (j_X11_voidSince_b118 hG O hR h)
        · replace h := h.2 z19
          refine J.aload_n (q := 108) O dX11_voidSince_107 rfl 2 rfl ?_
          refine J.getR (q := 111) (c' := 0) (ci := 11) (k := 0) (r := 1) O dX11_voidSince_108 rfl wd_3_2 (by decide) if_0_0 ?_
          refine J.getI (q := 114) (c' := 1) (ci := 3) (k := 0) (M11 1 0) rfl O dX11_voidSince_111 rfl wd_1_31 (by decide) if_1_0 ?_
          refine J.goto (q := 118) O dX11_voidSince_114 (by decide) ?_
          exact J.sub [] rfl (j_X11_voidSince_b118 hG O hR h)
      · replace h := h.2 z18
        exact J.sub [1] rfl (j_X11_voidSince_b95 hG O hR h)
  · replace h := h.2 z12
    refine J.aload_n (q := 27) O dX11_voidSince_26 rfl 1 rfl ?_
    refine J.getR (q := 30) (c' := 0) (ci := 11) (k := 7) (r := 72) O dX11_voidSince_27 rfl wd_3_9 (by decide) if_0_7 ?_
    refine J.getR (q := 33) (c' := 72) (ci := 4) (k := 5) (r := 77) O dX11_voidSince_30 rfl wd_2_40 (by decide) if_72_5 ?_
    refine J.iload_n (q := 34) O dX11_voidSince_33 rfl 2 rfl ?_
    obtain ⟨hv20, h⟩ := h
    refine J.zald (q := 35) (c' := 77) (j := a1.toNatClampNeg) (M11 77 a1.toNatClampNeg) rfl O dX11_voidSince_34 rfl ar_77 hv20 rfl ?_
    refine J.if_eq (q := 38) (tgt := 42) O dX11_voidSince_35 rfl (by decide) (fun z21 => ?_) (fun z21 => ?_)
    · replace h := h.1 z21
      refine J.bipush (q := 44) (v := (-9 : Int32)) O dX11_voidSince_42 rfl rfl ?_
      exact J.sub [] rfl (j_X11_voidSince_b44 hG O hR h)
    · replace h := h.2 z21
      refine J.iload_n (q := 39) O dX11_voidSince_38 rfl 0 rfl ?_
      refine J.goto (q := 44) O dX11_voidSince_39 (by decide) ?_
      exact J.sub [] rfl (j_X11_voidSince_b44 hG O hR h)
set_option maxHeartbeats 4000000 in
set_option maxRecDepth 20000 in
theorem j_X4_hungSince_b46 {X : CX} {G : GX} {K : Int32 → Mem → Prop} (hG : Gd G) (O : Ok X G cX4_hungSince 5 RX4 1) (hR : RetI X G cX4_hungSince K) {r5 : Int32 × Int32 × Int32 × Int32 × Mem → Prop} (hr5 : ∀ a : Int32 × Int32 × Int32 × Int32 × Mem, r5 a → J X G a.2.2.2.2 5 [(0, .ref (ad G 72)), (1, .int a.1), (2, .int a.2.1), (3, .int a.2.2.1), (4, .int a.2.2.2.1)] []) {x1 : Int32} {x2 : Int32} {x3 : Int32} {x4 : Int32} {M : Mem} (h : f_X4_hungSince_b46 r5 K x1 x2 x3 x4 M) : J X G M 46 [(0, .ref (ad G 72)), (1, .int x1), (2, .int x2), (3, .int x3), (4, .int x4)] [] := by
  unfold f_X4_hungSince_b46 at h
  refine J.iinc (q := 49) O dX4_hungSince_46 rfl [(4, .int (x4 + (1 : Int32))), (0, .ref (ad G 72)), (1, .int x1), (2, .int x2), (3, .int x3)] 4 rfl rfl (by decide) rfl ?_
  refine J.goto (q := 5) O dX4_hungSince_49 (by decide) ?_
  exact J.sub [1, 2, 3, 4, 0] rfl (hr5 _ h)
set_option maxHeartbeats 4000000 in
set_option maxRecDepth 20000 in
theorem j_X4_hungSince_c5 {X : CX} {G : GX} {K : Int32 → Mem → Prop} (hG : Gd G) (O : Ok X G cX4_hungSince 5 RX4 1) (hR : RetI X G cX4_hungSince K) {a : Int32 × Int32 × Int32 × Int32 × Mem} (h : Lp (fun (r5 : Int32 × Int32 × Int32 × Int32 × Mem → Prop) a => f_X4_hungSince_c5 K r5 a.1 a.2.1 a.2.2.1 a.2.2.2.1 a.2.2.2.2) a) : J X G a.2.2.2.2 5 [(0, .ref (ad G 72)), (1, .int a.1), (2, .int a.2.1), (3, .int a.2.2.1), (4, .int a.2.2.2.1)] [] := by
  refine Lp.elim (P := fun a => J X G a.2.2.2.2 5 [(0, .ref (ad G 72)), (1, .int a.1), (2, .int a.2.1), (3, .int a.2.2.1), (4, .int a.2.2.2.1)] []) ?_ h
  clear h
  intro r5 hr5 a h
  obtain ⟨x1, x2, x3, x4, M⟩ := a
  unfold f_X4_hungSince_c5 at h
  (try dsimp only at h ⊢)
  refine J.iload (q := 7) O dX4_hungSince_5 rfl 4 rfl ?_
  refine J.aload_n (q := 8) O dX4_hungSince_7 rfl 0 rfl ?_
  refine J.getI (q := 11) (c' := 72) (ci := 4) (k := 6) (M 72 6) rfl O dX4_hungSince_8 rfl wd_2_41 (by decide) if_72_6 ?_
  refine J.icmp_ge (q := 14) (tgt := 52) O dX4_hungSince_11 rfl (by decide) (fun z4 => ?_) (fun z4 => ?_)
  · replace h := h.1 z4
    refine J.iload_n (q := 53) O dX4_hungSince_52 rfl 3 rfl ?_
    exact hR _ _ _ _ dX4_hungSince_53 h
  · replace h := h.2 z4
    refine J.aload_n (q := 15) O dX4_hungSince_14 rfl 0 rfl ?_
    refine J.getR (q := 18) (c' := 72) (ci := 4) (k := 7) (r := 78) O dX4_hungSince_15 rfl wd_2_43 (by decide) if_72_7 ?_
    refine J.iload (q := 20) O dX4_hungSince_18 rfl 4 rfl ?_
    obtain ⟨hv5, h⟩ := h
    refine J.iald (q := 21) (c' := 78) (j := x4.toNatClampNeg) (M 78 x4.toNatClampNeg) rfl O dX4_hungSince_20 rfl ar_78 hv5 rfl ?_
    refine J.iload_n (q := 22) O dX4_hungSince_21 rfl 1 rfl ?_
    refine J.icmp_ne (q := 25) (tgt := 46) O dX4_hungSince_22 rfl (by decide) (fun z6 => ?_) (fun z6 => ?_)
    · replace h := h.1 z6
      exact J.sub [0, 1, 2, 3, 4] rfl (j_X4_hungSince_b46 hG O hR hr5 h)
    · replace h := h.2 z6
      refine J.aload_n (q := 26) O dX4_hungSince_25 rfl 0 rfl ?_
      refine J.getR (q := 29) (c' := 72) (ci := 4) (k := 9) (r := 80) O dX4_hungSince_26 rfl wd_2_45 (by decide) if_72_9 ?_
      refine J.iload (q := 31) O dX4_hungSince_29 rfl 4 rfl ?_
      obtain ⟨hv7, h⟩ := h
      refine J.iald (q := 32) (c' := 80) (j := x4.toNatClampNeg) (M 80 x4.toNatClampNeg) rfl O dX4_hungSince_31 rfl ar_80 hv7 rfl ?_
      refine J.iload_n (q := 33) O dX4_hungSince_32 rfl 2 rfl ?_
      refine J.icmp_lt (q := 36) (tgt := 46) O dX4_hungSince_33 rfl (by decide) (fun z8 => ?_) (fun z8 => ?_)
      · replace h := h.1 z8
        exact J.sub [0, 1, 2, 3, 4] rfl (j_X4_hungSince_b46 hG O hR hr5 h)
      · replace h := h.2 z8
        refine J.iload_n (q := 37) O dX4_hungSince_36 rfl 3 rfl ?_
        refine J.aload_n (q := 38) O dX4_hungSince_37 rfl 0 rfl ?_
        refine J.getR (q := 41) (c' := 72) (ci := 4) (k := 8) (r := 79) O dX4_hungSince_38 rfl wd_2_44 (by decide) if_72_8 ?_
        refine J.iload (q := 43) O dX4_hungSince_41 rfl 4 rfl ?_
        obtain ⟨hv9, h⟩ := h
        refine J.iald (q := 44) (c' := 79) (j := x4.toNatClampNeg) (M 79 x4.toNatClampNeg) rfl O dX4_hungSince_43 rfl ar_79 hv9 rfl ?_
        refine J.iadd (q := 45) O dX4_hungSince_44 rfl ?_
        refine J.istore_n (q := 46) O dX4_hungSince_45 rfl [(3, .int (x3 + (M 79 x4.toNatClampNeg))), (0, .ref (ad G 72)), (1, .int x1), (2, .int x2), (4, .int x4)] (by decide) rfl ?_
        exact J.sub [1, 2, 3, 0, 4] rfl (j_X4_hungSince_b46 hG O hR hr5 h)
set_option maxHeartbeats 4000000 in
set_option maxRecDepth 20000 in
theorem c_X4_hungSince {l : Launch} {G : GX} (hG : Gd G) {a1 : Int32} {a2 : Int32} {M : Mem} {K : Int32 → Mem → Prop} (h : f_X4_hungSince a1 a2 M K) : CI l G yX4_hungSince cX4_hungSince 5 (some .int) 1 [.ref (ad G 72), .int a1, .int a2] M K := by
  unfold f_X4_hungSince at h
  refine CI.mk hG (by decide) [(0, .ref (ad G 72)), (1, .int a1), (2, .int a2)] rfl (Nat.le_of_ble_eq_true rfl) (fun X O hlX hR => ?_)
  subst hlX
  refine J.iconst (q := 1) (v := (0 : Int32)) O dX4_hungSince_0 rfl rfl ?_
  refine J.istore_n (q := 2) O dX4_hungSince_1 rfl [(3, .int (0 : Int32)), (0, .ref (ad G 72)), (1, .int a1), (2, .int a2)] (by decide) rfl ?_
  refine J.iconst (q := 3) (v := (0 : Int32)) O dX4_hungSince_2 rfl rfl ?_
  refine J.istore (q := 5) O dX4_hungSince_3 rfl [(4, .int (0 : Int32)), (3, .int (0 : Int32)), (0, .ref (ad G 72)), (1, .int a1), (2, .int a2)] (by decide) rfl ?_
  exact J.sub [2, 3, 4, 1, 0] rfl (j_X4_hungSince_c5 hG O hR h)
set_option maxHeartbeats 4000000 in
set_option maxRecDepth 20000 in
theorem j_X11_deedOf_b113 {X : CX} {G : GX} {K : Int32 → Mem → Prop} (hG : Gd G) (O : Ok X G cX11_deedOf 4 RX11 6) (hR : RetI X G cX11_deedOf K) {s0 : Int32} {M : Mem} (h : f_X11_deedOf_b113 K s0 M) : J X G M 113 [] [.int s0] := by
  unfold f_X11_deedOf_b113 at h
  exact hR _ _ _ _ dX11_deedOf_113 h
set_option maxHeartbeats 4000000 in
set_option maxRecDepth 20000 in
theorem c_X11_deedOf {l : Launch} {G : GX} (hG : Gd G) {a1 : Int32} {a2 : Int32} {M : Mem} {K : Int32 → Mem → Prop} (h : f_X11_deedOf a1 a2 M K) : CI l G yX11_deedOf cX11_deedOf 4 (some .int) 6 [.ref (ad G 0), .int a1, .int a2] M K := by
  unfold f_X11_deedOf at h
  refine CI.mk hG (by decide) [(0, .ref (ad G 0)), (1, .int a1), (2, .int a2)] rfl (Nat.le_of_ble_eq_true rfl) (fun X O hlX hR => ?_)
  subst hlX
  refine J.aload_n (q := 1) O dX11_deedOf_0 rfl 0 rfl ?_
  refine J.getR (q := 4) (c' := 0) (ci := 11) (k := 7) (r := 72) O dX11_deedOf_1 rfl wd_3_9 (by decide) if_0_7 ?_
  refine J.iload_n (q := 5) O dX11_deedOf_4 rfl 1 rfl ?_
  refine J.callVI (q := 8) [.int a1] [] [.int a1, .ref (ad G 72)] rfl O dX11_deedOf_5 rfl (c_X4_has hG h) wd_5_19 mw_X4_has io_72 rfl (by decide) (Nat.le_of_ble_eq_true rfl) (fun v3 M3 h => ?_)
  refine J.if_ne (q := 11) (tgt := 17) O dX11_deedOf_8 rfl (by decide) (fun z4 => ?_) (fun z4 => ?_)
  · replace h := h.1 z4
    refine J.iload_n (q := 18) O dX11_deedOf_17 rfl 2 rfl ?_
    rcases tsw_cov a2 (0) 4 (by decide) with z6 | ⟨j, hj, z6⟩
    · replace h := h.1 (by omega)
      refine J.tswOut (q := 114) O dX11_deedOf_18 (by omega) (by decide) ?_
      refine J.aload_n (q := 115) O dX11_deedOf_114 rfl 0 rfl ?_
      refine J.bipush (q := 117) (v := (-2 : Int32)) O dX11_deedOf_115 rfl rfl ?_
      refine J.callVI (q := 120) [.int (-2 : Int32)] [] [.int (-2 : Int32), .ref (ad G 0)] rfl O dX11_deedOf_117 rfl (c_X11_refuseFar hG h) wd_4_207 mw_X11_refuseFar io_0 rfl (by decide) (Nat.le_of_ble_eq_true rfl) (fun v5 M5 h => ?_)
      exact hR _ _ _ _ dX11_deedOf_120 h
    · match j, hj, z6 with
      | 0, _, z6 =>
        have z6 : a2 = (0 : Int32) := z6.trans (by decide)
        replace h := h.2.1 z6
        refine J.tswIn (q := 52) O dX11_deedOf_18 (0 : Int32) z6 (by decide) (by decide) rfl (by decide) ?_
        refine J.aload_n (q := 53) O dX11_deedOf_52 rfl 0 rfl ?_
        refine J.getR (q := 56) (c' := 0) (ci := 11) (k := 7) (r := 72) O dX11_deedOf_53 rfl wd_3_9 (by decide) if_0_7 ?_
        refine J.getR (q := 59) (c' := 72) (ci := 4) (k := 1) (r := 73) O dX11_deedOf_56 rfl wd_2_32 (by decide) if_72_1 ?_
        refine J.iload_n (q := 60) O dX11_deedOf_59 rfl 1 rfl ?_
        obtain ⟨hv7, h⟩ := h
        refine J.iald (q := 61) (c' := 73) (j := a1.toNatClampNeg) (M3 73 a1.toNatClampNeg) rfl O dX11_deedOf_60 rfl ar_73 hv7 rfl ?_
        exact hR _ _ _ _ dX11_deedOf_61 h
      | 1, _, z6 =>
        have z6 : a2 = (1 : Int32) := z6.trans (by decide)
        replace h := h.2.2.1 z6
        refine J.tswIn (q := 62) O dX11_deedOf_18 (1 : Int32) z6 (by decide) (by decide) rfl (by decide) ?_
        refine J.aload_n (q := 63) O dX11_deedOf_62 rfl 0 rfl ?_
        refine J.getR (q := 66) (c' := 0) (ci := 11) (k := 7) (r := 72) O dX11_deedOf_63 rfl wd_3_9 (by decide) if_0_7 ?_
        refine J.getR (q := 69) (c' := 72) (ci := 4) (k := 2) (r := 74) O dX11_deedOf_66 rfl wd_2_34 (by decide) if_72_2 ?_
        refine J.iload_n (q := 70) O dX11_deedOf_69 rfl 1 rfl ?_
        obtain ⟨hv8, h⟩ := h
        refine J.iald (q := 71) (c' := 74) (j := a1.toNatClampNeg) (M3 74 a1.toNatClampNeg) rfl O dX11_deedOf_70 rfl ar_74 hv8 rfl ?_
        exact hR _ _ _ _ dX11_deedOf_71 h
      | 2, _, z6 =>
        have z6 : a2 = (2 : Int32) := z6.trans (by decide)
        replace h := h.2.2.2.1 z6
        refine J.tswIn (q := 72) O dX11_deedOf_18 (2 : Int32) z6 (by decide) (by decide) rfl (by decide) ?_
        refine J.aload_n (q := 73) O dX11_deedOf_72 rfl 0 rfl ?_
        refine J.iload_n (q := 74) O dX11_deedOf_73 rfl 1 rfl ?_
        refine J.callVI (q := 77) [.int a1] [] [.int a1, .ref (ad G 0)] rfl O dX11_deedOf_74 rfl (c_X11_voidSince hG h) wd_5_23 mw_X11_voidSince io_0 rfl (by decide) (Nat.le_of_ble_eq_true rfl) (fun v9 M9 h => ?_)
        exact hR _ _ _ _ dX11_deedOf_77 h
      | 3, _, z6 =>
        have z6 : a2 = (3 : Int32) := z6.trans (by decide)
        replace h := h.2.2.2.2.1 z6
        refine J.tswIn (q := 78) O dX11_deedOf_18 (3 : Int32) z6 (by decide) (by decide) rfl (by decide) ?_
        refine J.aload_n (q := 79) O dX11_deedOf_78 rfl 0 rfl ?_
        refine J.getR (q := 82) (c' := 0) (ci := 11) (k := 7) (r := 72) O dX11_deedOf_79 rfl wd_3_9 (by decide) if_0_7 ?_
        refine J.iload_n (q := 83) O dX11_deedOf_82 rfl 1 rfl ?_
        refine J.iconst (q := 84) (v := (0 : Int32)) O dX11_deedOf_83 rfl rfl ?_
        refine J.callVI (q := 87) [.int a1, .int (0 : Int32)] [] [.int (0 : Int32), .int a1, .ref (ad G 72)] rfl O dX11_deedOf_84 rfl (c_X4_hungSince hG h) wd_5_42 mw_X4_hungSince io_72 rfl (by decide) (Nat.le_of_ble_eq_true rfl) (fun v10 M10 h => ?_)
        exact hR _ _ _ _ dX11_deedOf_87 h
      | 4, _, z6 =>
        have z6 : a2 = (4 : Int32) := z6.trans (by decide)
        replace h := h.2.2.2.2.2 z6
        refine J.tswIn (q := 88) O dX11_deedOf_18 (4 : Int32) z6 (by decide) (by decide) rfl (by decide) ?_
        refine J.aload_n (q := 89) O dX11_deedOf_88 rfl 0 rfl ?_
        refine J.iload_n (q := 90) O dX11_deedOf_89 rfl 1 rfl ?_
        refine J.callVI (q := 93) [.int a1] [] [.int a1, .ref (ad G 0)] rfl O dX11_deedOf_90 rfl (c_X11_voidSince hG h) wd_5_23 mw_X11_voidSince io_0 rfl (by decide) (Nat.le_of_ble_eq_true rfl) (fun v11 M11 h => ?_)
        refine J.istore_n (q := 94) O dX11_deedOf_93 rfl [(3, .int v11), (0, .ref (ad G 0)), (1, .int a1), (2, .int a2)] (by decide) rfl ?_
        refine J.iload_n (q := 95) O dX11_deedOf_94 rfl 0 rfl ?_
        refine J.bipush (q := 97) (v := (-9 : Int32)) O dX11_deedOf_95 rfl rfl ?_
        refine J.icmp_ne (q := 100) (tgt := 104) O dX11_deedOf_97 rfl (by decide) (fun z12 => ?_) (fun z12 => ?_)
        · replace h := h.1 z12
          refine J.aload_n (q := 105) O dX11_deedOf_104 rfl 1 rfl ?_
          refine J.getR (q := 108) (c' := 0) (ci := 11) (k := 7) (r := 72) O dX11_deedOf_105 rfl wd_3_9 (by decide) if_0_7 ?_
          refine J.iload_n (q := 109) O dX11_deedOf_108 rfl 2 rfl ?_
          refine J.iload_n (q := 110) O dX11_deedOf_109 rfl 0 rfl ?_
          refine J.callVI (q := 113) [.int a1, .int v11] [] [.int v11, .int a1, .ref (ad G 72)] rfl O dX11_deedOf_110 rfl (c_X4_hungSince hG h) wd_5_42 mw_X4_hungSince io_72 rfl (by decide) (Nat.le_of_ble_eq_true rfl) (fun v13 M13 h => ?_)
          exact J.sub [] rfl (j_X11_deedOf_b113 hG O hR h)
        · replace h := h.2 z12
          refine J.iconst (q := 101) (v := (0 : Int32)) O dX11_deedOf_100 rfl rfl ?_
          refine J.goto (q := 113) O dX11_deedOf_101 (by decide) ?_
          exact J.sub [] rfl (j_X11_deedOf_b113 hG O hR h)
      | j + 5, hj, _ => exact absurd hj (by omega)
  · replace h := h.2 z4
    refine J.aload_n (q := 12) O dX11_deedOf_11 rfl 0 rfl ?_
    refine J.iconst (q := 13) (v := (-1 : Int32)) O dX11_deedOf_12 rfl rfl ?_
    refine J.callVI (q := 16) [.int (-1 : Int32)] [] [.int (-1 : Int32), .ref (ad G 0)] rfl O dX11_deedOf_13 rfl (c_X11_refuseFar hG h) wd_4_207 mw_X11_refuseFar io_0 rfl (by decide) (Nat.le_of_ble_eq_true rfl) (fun v14 M14 h => ?_)
    exact hR _ _ _ _ dX11_deedOf_16 h
set_option maxHeartbeats 4000000 in
set_option maxRecDepth 20000 in
theorem j_X4_hangOn_b85 {X : CX} {G : GX} {K : Int32 → Mem → Prop} (hG : Gd G) (O : Ok X G cX4_hangOn 6 RX4 1) (hR : RetI X G cX4_hangOn K) {r58 : Int32 × Int32 × Int32 × Mem → Prop} (hr58 : ∀ a : Int32 × Int32 × Int32 × Mem, r58 a → J X G a.2.2.2 58 [(0, .ref (ad G 72)), (1, .int a.1), (4, .int a.2.1), (5, .int a.2.2.1)] []) {x1 : Int32} {x5 : Int32} {s0 : Int32} {s1 : Int32} {M : Mem} (h : f_X4_hangOn_b85 r58 K x1 x5 s0 s1 M) : J X G M 85 [(0, .ref (ad G 72)), (1, .int x1), (5, .int x5)] [.int s0, .int s1] := by
  unfold f_X4_hangOn_b85 at h
  refine J.iadd (q := 86) O dX4_hangOn_85 rfl ?_
  refine J.istore (q := 88) O dX4_hangOn_86 rfl [(4, .int (s1 + s0)), (0, .ref (ad G 72)), (1, .int x1), (5, .int x5)] (by decide) rfl ?_
  refine J.iinc (q := 91) O dX4_hangOn_88 rfl [(5, .int (x5 + (1 : Int32))), (4, .int (s1 + s0)), (0, .ref (ad G 72)), (1, .int x1)] 3 rfl rfl (by decide) rfl ?_
  refine J.goto (q := 58) O dX4_hangOn_91 (by decide) ?_
  exact J.sub [2, 3, 1, 0] rfl (hr58 _ h)
set_option maxHeartbeats 4000000 in
set_option maxRecDepth 20000 in
theorem j_X4_hangOn_c58 {X : CX} {G : GX} {K : Int32 → Mem → Prop} (hG : Gd G) (O : Ok X G cX4_hangOn 6 RX4 1) (hR : RetI X G cX4_hangOn K) {a : Int32 × Int32 × Int32 × Mem} (h : Lp (fun (r58 : Int32 × Int32 × Int32 × Mem → Prop) a => f_X4_hangOn_c58 K r58 a.1 a.2.1 a.2.2.1 a.2.2.2) a) : J X G a.2.2.2 58 [(0, .ref (ad G 72)), (1, .int a.1), (4, .int a.2.1), (5, .int a.2.2.1)] [] := by
  refine Lp.elim (P := fun a => J X G a.2.2.2 58 [(0, .ref (ad G 72)), (1, .int a.1), (4, .int a.2.1), (5, .int a.2.2.1)] []) ?_ h
  clear h
  intro r58 hr58 a h
  obtain ⟨x1, x4, x5, M⟩ := a
  unfold f_X4_hangOn_c58 at h
  (try dsimp only at h ⊢)
  refine J.iload (q := 60) O dX4_hangOn_58 rfl 3 rfl ?_
  refine J.aload_n (q := 61) O dX4_hangOn_60 rfl 0 rfl ?_
  refine J.getI (q := 64) (c' := 72) (ci := 4) (k := 6) (M 72 6) rfl O dX4_hangOn_61 rfl wd_2_41 (by decide) if_72_6 ?_
  refine J.icmp_ge (q := 67) (tgt := 94) O dX4_hangOn_64 rfl (by decide) (fun z5 => ?_) (fun z5 => ?_)
  · replace h := h.1 z5
    refine J.iload (q := 96) O dX4_hangOn_94 rfl 2 rfl ?_
    exact hR _ _ _ _ dX4_hangOn_96 h
  · replace h := h.2 z5
    refine J.iload (q := 69) O dX4_hangOn_67 rfl 2 rfl ?_
    refine J.aload_n (q := 70) O dX4_hangOn_69 rfl 0 rfl ?_
    refine J.getR (q := 73) (c' := 72) (ci := 4) (k := 7) (r := 78) O dX4_hangOn_70 rfl wd_2_43 (by decide) if_72_7 ?_
    refine J.iload (q := 75) O dX4_hangOn_73 rfl 3 rfl ?_
    obtain ⟨hv6, h⟩ := h
    refine J.iald (q := 76) (c' := 78) (j := x5.toNatClampNeg) (M 78 x5.toNatClampNeg) rfl O dX4_hangOn_75 rfl ar_78 hv6 rfl ?_
    refine J.iload_n (q := 77) O dX4_hangOn_76 rfl 1 rfl ?_
    refine J.icmp_ne (q := 80) (tgt := 84) O dX4_hangOn_77 rfl (by decide) (fun z7 => ?_) (fun z7 => ?_)
    · replace h := h.1 z7
      refine J.iconst (q := 85) (v := (0 : Int32)) O dX4_hangOn_84 rfl rfl ?_
      exact J.sub [0, 1, 3] rfl (j_X4_hangOn_b85 hG O hR hr58 h)
    · replace h := h.2 z7
      refine J.iconst (q := 81) (v := (1 : Int32)) O dX4_hangOn_80 rfl rfl ?_
      refine J.goto (q := 85) O dX4_hangOn_81 (by decide) ?_
      exact J.sub [0, 1, 3] rfl (j_X4_hangOn_b85 hG O hR hr58 h)
set_option maxHeartbeats 4000000 in
set_option maxRecDepth 20000 in
theorem c_X4_hangOn {l : Launch} {G : GX} (hG : Gd G) {a1 : Int32} {a2 : Int32} {a3 : Int32} {M : Mem} {K : Int32 → Mem → Prop} (h : f_X4_hangOn a1 a2 a3 M K) : CI l G yX4_hangOn cX4_hangOn 6 (some .int) 1 [.ref (ad G 72), .int a1, .int a2, .int a3] M K := by
  unfold f_X4_hangOn at h
  refine CI.mk hG (by decide) [(0, .ref (ad G 72)), (1, .int a1), (2, .int a2), (3, .int a3)] rfl (Nat.le_of_ble_eq_true rfl) (fun X O hlX hR => ?_)
  subst hlX
  refine J.aload_n (q := 1) O dX4_hangOn_0 rfl 0 rfl ?_
  refine J.getI (q := 4) (c' := 72) (ci := 4) (k := 6) (M 72 6) rfl O dX4_hangOn_1 rfl wd_2_41 (by decide) if_72_6 ?_
  refine J.bipush (q := 6) (v := (100 : Int32)) O dX4_hangOn_4 rfl rfl ?_
  refine J.icmp_lt (q := 9) (tgt := 12) O dX4_hangOn_6 rfl (by decide) (fun z8 => ?_) (fun z8 => ?_)
  · replace h := h.1 z8
    refine J.aload_n (q := 13) O dX4_hangOn_12 rfl 0 rfl ?_
    refine J.getR (q := 16) (c' := 72) (ci := 4) (k := 7) (r := 78) O dX4_hangOn_13 rfl wd_2_43 (by decide) if_72_7 ?_
    refine J.aload_n (q := 17) O dX4_hangOn_16 rfl 0 rfl ?_
    refine J.getI (q := 20) (c' := 72) (ci := 4) (k := 6) (M 72 6) rfl O dX4_hangOn_17 rfl wd_2_41 (by decide) if_72_6 ?_
    refine J.iload_n (q := 21) O dX4_hangOn_20 rfl 1 rfl ?_
    obtain ⟨hv9, h⟩ := h
    refine J.iast (q := 22) (c' := 78) (j := (M 72 6).toNatClampNeg) O dX4_hangOn_21 rfl ar_78 hv9 rfl ?_
    refine J.aload_n (q := 23) O dX4_hangOn_22 rfl 0 rfl ?_
    refine J.getR (q := 26) (c' := 72) (ci := 4) (k := 8) (r := 79) O dX4_hangOn_23 rfl wd_2_44 (by decide) if_72_8 ?_
    refine J.aload_n (q := 27) O dX4_hangOn_26 rfl 0 rfl ?_
    refine J.getI (q := 30) (c' := 72) (ci := 4) (k := 6) (M 72 6) rfl O dX4_hangOn_27 rfl wd_2_41 (by decide) if_72_6 ?_
    refine J.iload_n (q := 31) O dX4_hangOn_30 rfl 2 rfl ?_
    obtain ⟨hv10, h⟩ := h
    refine J.iast (q := 32) (c' := 79) (j := (M 72 6).toNatClampNeg) O dX4_hangOn_31 rfl ar_79 hv10 rfl ?_
    refine J.aload_n (q := 33) O dX4_hangOn_32 rfl 0 rfl ?_
    refine J.getR (q := 36) (c' := 72) (ci := 4) (k := 9) (r := 80) O dX4_hangOn_33 rfl wd_2_45 (by decide) if_72_9 ?_
    refine J.aload_n (q := 37) O dX4_hangOn_36 rfl 0 rfl ?_
    refine J.getI (q := 40) (c' := 72) (ci := 4) (k := 6) (M 72 6) rfl O dX4_hangOn_37 rfl wd_2_41 (by decide) if_72_6 ?_
    refine J.iload_n (q := 41) O dX4_hangOn_40 rfl 3 rfl ?_
    obtain ⟨hv11, h⟩ := h
    refine J.iast (q := 42) (c' := 80) (j := (M 72 6).toNatClampNeg) O dX4_hangOn_41 rfl ar_80 hv11 rfl ?_
    refine J.aload_n (q := 43) O dX4_hangOn_42 rfl 0 rfl ?_
    refine J.dup (q := 44) O dX4_hangOn_43 rfl rfl ?_
    refine J.getI (q := 47) (c' := 72) (ci := 4) (k := 6) (M 72 6) rfl O dX4_hangOn_44 rfl wd_2_41 (by decide) if_72_6 ?_
    refine J.iconst (q := 48) (v := (1 : Int32)) O dX4_hangOn_47 rfl rfl ?_
    refine J.iadd (q := 49) O dX4_hangOn_48 rfl ?_
    refine J.putI (q := 52) (c' := 72) (ci := 4) (k := 6) O dX4_hangOn_49 rfl wd_2_41 (by decide) if_72_6 rfl rfl ?_
    refine J.iconst (q := 53) (v := (0 : Int32)) O dX4_hangOn_52 rfl rfl ?_
    refine J.istore (q := 55) O dX4_hangOn_53 rfl [(4, .int (0 : Int32)), (0, .ref (ad G 72)), (1, .int a1), (2, .int a2), (3, .int a3)] (by decide) rfl ?_
    refine J.iconst (q := 56) (v := (0 : Int32)) O dX4_hangOn_55 rfl rfl ?_
    refine J.istore (q := 58) O dX4_hangOn_56 rfl [(5, .int (0 : Int32)), (4, .int (0 : Int32)), (0, .ref (ad G 72)), (1, .int a1), (2, .int a2), (3, .int a3)] (by decide) rfl ?_
    exact J.sub [2, 3, 1, 0] rfl (j_X4_hangOn_c58 hG O hR h)
  · replace h := h.2 z8
    refine J.bipush (q := 11) (v := (-6 : Int32)) O dX4_hangOn_9 rfl rfl ?_
    exact hR _ _ _ _ dX4_hangOn_11 h
