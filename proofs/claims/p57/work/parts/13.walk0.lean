set_option maxHeartbeats 4000000 in
set_option maxRecDepth 20000 in
theorem j_X11_refuse_b21 {X : CX} {G : GX} {K : Int32 → Mem → Prop} (hG : Gd G) (O : Ok X G cX11_refuse 2 RX11 1) (hR : RetI X G cX11_refuse K) {x1 : Int32} {M : Mem} (h : f_X11_refuse_b21 K x1 M) : J X G M 21 [(1, .int x1)] [] := by
  unfold f_X11_refuse_b21 at h
  refine J.iload_n (q := 22) O dX11_refuse_21 rfl 0 rfl ?_
  exact hR _ _ _ _ dX11_refuse_22 h
set_option maxHeartbeats 4000000 in
set_option maxRecDepth 20000 in
theorem c_X11_refuse {l : Launch} {G : GX} (hG : Gd G) {a1 : Int32} {M : Mem} {K : Int32 → Mem → Prop} (h : f_X11_refuse a1 M K) : CI l G yX11_refuse cX11_refuse 2 (some .int) 1 [.ref (ad G 0), .int a1] M K := by
  unfold f_X11_refuse at h
  refine CI.mk hG (by decide) [(0, .ref (ad G 0)), (1, .int a1)] rfl (Nat.le_of_ble_eq_true rfl) (fun X O hlX hR => ?_)
  subst hlX
  refine J.iload_n (q := 1) O dX11_refuse_0 rfl 1 rfl ?_
  refine J.if_ge (q := 4) (tgt := 21) O dX11_refuse_1 rfl (by decide) (fun z3 => ?_) (fun z3 => ?_)
  · replace h := h.1 z3
    exact J.sub [1] rfl (j_X11_refuse_b21 hG O hR h)
  · replace h := h.2 z3
    refine J.iload_n (q := 5) O dX11_refuse_4 rfl 1 rfl ?_
    refine J.bipush (q := 7) (v := (-6 : Int32)) O dX11_refuse_5 rfl rfl ?_
    refine J.icmp_lt (q := 10) (tgt := 21) O dX11_refuse_7 rfl (by decide) (fun z4 => ?_) (fun z4 => ?_)
    · replace h := h.1 z4
      exact J.sub [1] rfl (j_X11_refuse_b21 hG O hR h)
    · replace h := h.2 z4
      refine J.aload_n (q := 11) O dX11_refuse_10 rfl 0 rfl ?_
      refine J.getR (q := 14) (c' := 0) (ci := 11) (k := 15) (r := 126) O dX11_refuse_11 rfl wd_2_229 (by decide) if_0_15 ?_
      refine J.iload_n (q := 15) O dX11_refuse_14 rfl 1 rfl ?_
      refine J.ineg (q := 16) O dX11_refuse_15 rfl ?_
      refine J.dup2 (q := 17) O dX11_refuse_16 rfl rfl rfl ?_
      obtain ⟨hv5, h⟩ := h
      refine J.iald (q := 18) (c' := 126) (j := (-a1).toNatClampNeg) (M 126 ((-a1).toNatClampNeg)) rfl O dX11_refuse_17 rfl ar_126 hv5 rfl ?_
      refine J.iconst (q := 19) (v := (1 : Int32)) O dX11_refuse_18 rfl rfl ?_
      refine J.iadd (q := 20) O dX11_refuse_19 rfl ?_
      obtain ⟨hv6, h⟩ := h
      refine J.iast (q := 21) (c' := 126) (j := (-a1).toNatClampNeg) O dX11_refuse_20 rfl ar_126 hv6 rfl ?_
      exact J.sub [1] rfl (j_X11_refuse_b21 hG O hR h)
set_option maxHeartbeats 4000000 in
set_option maxRecDepth 20000 in
theorem c_X11_days {l : Launch} {G : GX} (hG : Gd G) {a1 : Int32} {M : Mem} {K : Int32 → Mem → Prop} (h : f_X11_days a1 M K) : CI l G yX11_days cX11_days 2 (some .int) 2 [.ref (ad G 0), .int a1] M K := by
  unfold f_X11_days at h
  refine CI.mk hG (by decide) [(0, .ref (ad G 0)), (1, .int a1)] rfl (Nat.le_of_ble_eq_true rfl) (fun X O hlX hR => ?_)
  subst hlX
  refine J.iload_n (q := 1) O dX11_days_0 rfl 1 rfl ?_
  refine J.iconst (q := 2) (v := (1 : Int32)) O dX11_days_1 rfl rfl ?_
  refine J.icmp_ge (q := 5) (tgt := 12) O dX11_days_2 rfl (by decide) (fun z1 => ?_) (fun z1 => ?_)
  · replace h := h.1 z1
    refine J.iload_n (q := 13) O dX11_days_12 rfl 1 rfl ?_
    refine J.sipush (q := 16) (v := (1000 : Int32)) O dX11_days_13 rfl rfl ?_
    refine J.aload_n (q := 17) O dX11_days_16 rfl 0 rfl ?_
    refine J.getR (q := 20) (c' := 0) (ci := 11) (k := 0) (r := 1) O dX11_days_17 rfl wd_2_214 (by decide) if_0_0 ?_
    refine J.getI (q := 23) (c' := 1) (ci := 3) (k := 0) (M 1 0) rfl O dX11_days_20 rfl wd_1_30 (by decide) if_1_0 ?_
    refine J.isub (q := 24) O dX11_days_23 rfl ?_
    refine J.icmp_le (q := 27) (tgt := 34) O dX11_days_24 rfl (by decide) (fun z2 => ?_) (fun z2 => ?_)
    · replace h := h.1 z2
      refine J.aload_n (q := 35) O dX11_days_34 rfl 0 rfl ?_
      refine J.getR (q := 38) (c' := 0) (ci := 11) (k := 0) (r := 1) O dX11_days_35 rfl wd_2_214 (by decide) if_0_0 ?_
      refine J.dup (q := 39) O dX11_days_38 rfl rfl ?_
      refine J.getI (q := 42) (c' := 1) (ci := 3) (k := 0) (M 1 0) rfl O dX11_days_39 rfl wd_1_30 (by decide) if_1_0 ?_
      refine J.iload_n (q := 43) O dX11_days_42 rfl 1 rfl ?_
      refine J.iadd (q := 44) O dX11_days_43 rfl ?_
      refine J.putI (q := 47) (c' := 1) (ci := 3) (k := 0) O dX11_days_44 rfl wd_1_30 (by decide) if_1_0 rfl rfl ?_
      refine J.aload_n (q := 48) O dX11_days_47 rfl 0 rfl ?_
      refine J.getR (q := 51) (c' := 0) (ci := 11) (k := 0) (r := 1) O dX11_days_48 rfl wd_2_214 (by decide) if_0_0 ?_
      refine J.getI (q := 54) (c' := 1) (ci := 3) (k := 0) ((M 1 0) + a1) rfl O dX11_days_51 rfl wd_1_30 (by decide) if_1_0 ?_
      exact hR _ _ _ _ dX11_days_54 h
    · replace h := h.2 z2
      refine J.aload_n (q := 28) O dX11_days_27 rfl 0 rfl ?_
      refine J.bipush (q := 30) (v := (-6 : Int32)) O dX11_days_28 rfl rfl ?_
      refine J.callVI (q := 33) [.int (-6 : Int32)] [] [.int (-6 : Int32), .ref (ad G 0)] rfl O dX11_days_30 rfl (c_X11_refuse hG h) wd_3_27 mw_X11_refuse io_0 rfl (by decide) (Nat.le_of_ble_eq_true rfl) (fun v3 M3 h => ?_)
      exact hR _ _ _ _ dX11_days_33 h
  · replace h := h.2 z1
    refine J.aload_n (q := 6) O dX11_days_5 rfl 0 rfl ?_
    refine J.bipush (q := 8) (v := (-4 : Int32)) O dX11_days_6 rfl rfl ?_
    refine J.callVI (q := 11) [.int (-4 : Int32)] [] [.int (-4 : Int32), .ref (ad G 0)] rfl O dX11_days_8 rfl (c_X11_refuse hG h) wd_3_27 mw_X11_refuse io_0 rfl (by decide) (Nat.le_of_ble_eq_true rfl) (fun v4 M4 h => ?_)
    exact hR _ _ _ _ dX11_days_11 h
set_option maxHeartbeats 4000000 in
set_option maxRecDepth 20000 in
theorem c_X0_fed {l : Launch} {G : GX} (hG : Gd G) {M : Mem} {K : Int32 → Mem → Prop} (h : f_X0_fed  M K) : CI l G yX0_fed cX0_fed 1 (some .int) 1 [.ref (ad G 15)] M K := by
  unfold f_X0_fed at h
  refine CI.mk hG (by decide) [(0, .ref (ad G 15))] rfl (Nat.le_of_ble_eq_true rfl) (fun X O hlX hR => ?_)
  subst hlX
  refine J.aload_n (q := 1) O dX0_fed_0 rfl 0 rfl ?_
  refine J.getR (q := 4) (c' := 15) (ci := 0) (k := 2) (r := 42) O dX0_fed_1 rfl wd_1_136 (by decide) if_15_2 ?_
  refine J.aload_n (q := 5) O dX0_fed_4 rfl 0 rfl ?_
  refine J.getI (q := 8) (c' := 15) (ci := 0) (k := 0) (M 15 0) rfl O dX0_fed_5 rfl wd_1_133 (by decide) if_15_0 ?_
  obtain ⟨hv2, h⟩ := h
  refine J.iald (q := 9) (c' := 42) (j := (M 15 0).toNatClampNeg) (M 42 ((M 15 0).toNatClampNeg)) rfl O dX0_fed_8 rfl ar_42 hv2 rfl ?_
  exact hR _ _ _ _ dX0_fed_9 h
set_option maxHeartbeats 4000000 in
set_option maxRecDepth 20000 in
theorem j_X0_feedText_b77 {X : CX} {G : GX} {K : Int32 → Mem → Prop} (hG : Gd G) (O : Ok X G cX0_feedText 5 RX0 1) (hR : RetI X G cX0_feedText K) {M : Mem} (h : f_X0_feedText_b77 K  M) : J X G M 77 [(0, .ref (ad G 15))] [] := by
  unfold f_X0_feedText_b77 at h
  refine J.aload_n (q := 78) O dX0_feedText_77 rfl 0 rfl ?_
  refine J.getR (q := 81) (c' := 15) (ci := 0) (k := 2) (r := 42) O dX0_feedText_78 rfl wd_1_136 (by decide) if_15_2 ?_
  refine J.aload_n (q := 82) O dX0_feedText_81 rfl 0 rfl ?_
  refine J.getI (q := 85) (c' := 15) (ci := 0) (k := 0) (M 15 0) rfl O dX0_feedText_82 rfl wd_1_133 (by decide) if_15_0 ?_
  obtain ⟨hv8, h⟩ := h
  refine J.iald (q := 86) (c' := 42) (j := (M 15 0).toNatClampNeg) (M 42 ((M 15 0).toNatClampNeg)) rfl O dX0_feedText_85 rfl ar_42 hv8 rfl ?_
  exact hR _ _ _ _ dX0_feedText_86 h
set_option maxHeartbeats 4000000 in
set_option maxRecDepth 20000 in
theorem j_X0_feedText_c3 {X : CX} {G : GX} {K : Int32 → Mem → Prop} (hG : Gd G) (O : Ok X G cX0_feedText 5 RX0 1) (hR : RetI X G cX0_feedText K) {a : Int32 × Int64 × Int32 × Mem} (h : Lp (fun (r3 : Int32 × Int64 × Int32 × Mem → Prop) a => f_X0_feedText_c3 K r3 a.1 a.2.1 a.2.2.1 a.2.2.2) a) : J X G a.2.2.2 3 [(0, .ref (ad G 15)), (1, .int a.1), (2, .long a.2.1), (4, .int a.2.2.1)] [] := by
  refine Lp.elim (P := fun a => J X G a.2.2.2 3 [(0, .ref (ad G 15)), (1, .int a.1), (2, .long a.2.1), (4, .int a.2.2.1)] []) ?_ h
  clear h
  intro r3 hr3 a h
  obtain ⟨x1, x2, x4, M⟩ := a
  unfold f_X0_feedText_c3 at h
  (try dsimp only at h ⊢)
  refine J.iload (q := 5) O dX0_feedText_3 rfl 3 rfl ?_
  refine J.iload_n (q := 6) O dX0_feedText_5 rfl 1 rfl ?_
  refine J.icmp_ge (q := 9) (tgt := 77) O dX0_feedText_6 rfl (by decide) (fun z9 => ?_) (fun z9 => ?_)
  · replace h := h.1 z9
    exact J.sub [0] rfl (j_X0_feedText_b77 hG O hR h)
  · replace h := h.2 z9
    refine J.iload (q := 11) O dX0_feedText_9 rfl 3 rfl ?_
    refine J.bipush (q := 13) (v := (8 : Int32)) O dX0_feedText_11 rfl rfl ?_
    refine J.icmp_ge (q := 16) (tgt := 77) O dX0_feedText_13 rfl (by decide) (fun z10 => ?_) (fun z10 => ?_)
    · replace h := h.1 z10
      exact J.sub [0] rfl (j_X0_feedText_b77 hG O hR h)
    · replace h := h.2 z10
      refine J.aload_n (q := 17) O dX0_feedText_16 rfl 0 rfl ?_
      refine J.getR (q := 20) (c' := 15) (ci := 0) (k := 2) (r := 42) O dX0_feedText_17 rfl wd_1_136 (by decide) if_15_2 ?_
      refine J.aload_n (q := 21) O dX0_feedText_20 rfl 0 rfl ?_
      refine J.getI (q := 24) (c' := 15) (ci := 0) (k := 0) (M 15 0) rfl O dX0_feedText_21 rfl wd_1_133 (by decide) if_15_0 ?_
      obtain ⟨hv11, h⟩ := h
      refine J.iald (q := 25) (c' := 42) (j := (M 15 0).toNatClampNeg) (M 42 ((M 15 0).toNatClampNeg)) rfl O dX0_feedText_24 rfl ar_42 hv11 rfl ?_
      refine J.bipush (q := 27) (v := (60 : Int32)) O dX0_feedText_25 rfl rfl ?_
      refine J.icmp_ge (q := 30) (tgt := 77) O dX0_feedText_27 rfl (by decide) (fun z12 => ?_) (fun z12 => ?_)
      · replace h := h.1 z12
        exact J.sub [0] rfl (j_X0_feedText_b77 hG O hR h)
      · replace h := h.2 z12
        refine J.aload_n (q := 31) O dX0_feedText_30 rfl 0 rfl ?_
        refine J.getR (q := 34) (c' := 15) (ci := 0) (k := 1) (r := 16) O dX0_feedText_31 rfl wd_1_135 (by decide) if_15_1 ?_
        refine J.aload_n (q := 35) O dX0_feedText_34 rfl 0 rfl ?_
        refine J.getI (q := 38) (c' := 15) (ci := 0) (k := 0) (M 15 0) rfl O dX0_feedText_35 rfl wd_1_133 (by decide) if_15_0 ?_
        obtain ⟨hv13, h⟩ := h
        refine J.aald (q := 39) (t := 1) (c' := 16) (b := 17) (d := 1) O dX0_feedText_38 rfl ar_16 hv13 ?_
        refine J.aload_n (q := 40) O dX0_feedText_39 rfl 0 rfl ?_
        refine J.getR (q := 43) (c' := 15) (ci := 0) (k := 2) (r := 42) O dX0_feedText_40 rfl wd_1_136 (by decide) if_15_2 ?_
        refine J.aload_n (q := 44) O dX0_feedText_43 rfl 0 rfl ?_
        refine J.getI (q := 47) (c' := 15) (ci := 0) (k := 0) (M 15 0) rfl O dX0_feedText_44 rfl wd_1_133 (by decide) if_15_0 ?_
        obtain ⟨hv14, h⟩ := h
        refine J.iald (q := 48) (c' := 42) (j := (M 15 0).toNatClampNeg) (M 42 ((M 15 0).toNatClampNeg)) rfl O dX0_feedText_47 rfl ar_42 hv14 rfl ?_
        refine J.lload_n (q := 49) O dX0_feedText_48 rfl 2 rfl ?_
        refine J.bipush (q := 51) (v := (8 : Int32)) O dX0_feedText_49 rfl rfl ?_
        refine J.iload (q := 53) O dX0_feedText_51 rfl 3 rfl ?_
        refine J.imul (q := 54) O dX0_feedText_53 rfl ?_
        refine J.lshr (q := 55) O dX0_feedText_54 rfl ?_
        refine J.l2i (q := 56) O dX0_feedText_55 rfl ?_
        refine J.i2b (q := 57) O dX0_feedText_56 rfl ?_
        obtain ⟨hv15, h⟩ := h
        refine J.bast (q := 58) (c' := (17 + 1 * ((M 15 0).toNatClampNeg))) (j := (M 42 ((M 15 0).toNatClampNeg)).toNatClampNeg) O dX0_feedText_57 rfl (row_16 hv13) hv15 rfl ?_
        refine J.aload_n (q := 59) O dX0_feedText_58 rfl 0 rfl ?_
        refine J.getR (q := 62) (c' := 15) (ci := 0) (k := 2) (r := 42) O dX0_feedText_59 rfl wd_1_136 (by decide) if_15_2 ?_
        refine J.aload_n (q := 63) O dX0_feedText_62 rfl 0 rfl ?_
        refine J.getI (q := 66) (c' := 15) (ci := 0) (k := 0) ((mset M (17 + 1 * ((M 15 0).toNatClampNeg)) ((M 42 ((M 15 0).toNatClampNeg)).toNatClampNeg) (vp_nar .byte ((x2 >>> (((8 : Int32) * x4).toInt64 &&& 63)).toInt32.toInt8.toInt32))) 15 0) rfl O dX0_feedText_63 rfl wd_1_133 (by decide) if_15_0 ?_
        refine J.dup2 (q := 67) O dX0_feedText_66 rfl rfl rfl ?_
        obtain ⟨hv16, h⟩ := h
        refine J.iald (q := 68) (c' := 42) (j := ((mset M (17 + 1 * ((M 15 0).toNatClampNeg)) ((M 42 ((M 15 0).toNatClampNeg)).toNatClampNeg) (vp_nar .byte ((x2 >>> (((8 : Int32) * x4).toInt64 &&& 63)).toInt32.toInt8.toInt32))) 15 0).toNatClampNeg) ((mset M (17 + 1 * ((M 15 0).toNatClampNeg)) ((M 42 ((M 15 0).toNatClampNeg)).toNatClampNeg) (vp_nar .byte ((x2 >>> (((8 : Int32) * x4).toInt64 &&& 63)).toInt32.toInt8.toInt32))) 42 (((mset M (17 + 1 * ((M 15 0).toNatClampNeg)) ((M 42 ((M 15 0).toNatClampNeg)).toNatClampNeg) (vp_nar .byte ((x2 >>> (((8 : Int32) * x4).toInt64 &&& 63)).toInt32.toInt8.toInt32))) 15 0).toNatClampNeg)) rfl O dX0_feedText_67 rfl ar_42 hv16 rfl ?_
        refine J.iconst (q := 69) (v := (1 : Int32)) O dX0_feedText_68 rfl rfl ?_
        refine J.iadd (q := 70) O dX0_feedText_69 rfl ?_
        obtain ⟨hv17, h⟩ := h
        refine J.iast (q := 71) (c' := 42) (j := ((mset M (17 + 1 * ((M 15 0).toNatClampNeg)) ((M 42 ((M 15 0).toNatClampNeg)).toNatClampNeg) (vp_nar .byte ((x2 >>> (((8 : Int32) * x4).toInt64 &&& 63)).toInt32.toInt8.toInt32))) 15 0).toNatClampNeg) O dX0_feedText_70 rfl ar_42 hv17 rfl ?_
        refine J.iinc (q := 74) O dX0_feedText_71 rfl [(4, .int (x4 + (1 : Int32))), (0, .ref (ad G 15)), (1, .int x1), (2, .long x2)] 3 rfl rfl (by decide) rfl ?_
        refine J.goto (q := 3) O dX0_feedText_74 (by decide) ?_
        exact J.sub [1, 2, 3, 0] rfl (hr3 _ h)
set_option maxHeartbeats 4000000 in
set_option maxRecDepth 20000 in
theorem c_X0_feedText {l : Launch} {G : GX} (hG : Gd G) {a1 : Int32} {a2 : Int64} {M : Mem} {K : Int32 → Mem → Prop} (h : f_X0_feedText a1 a2 M K) : CI l G yX0_feedText cX0_feedText 5 (some .int) 1 [.ref (ad G 15), .int a1, .long a2] M K := by
  unfold f_X0_feedText at h
  refine CI.mk hG (by decide) [(0, .ref (ad G 15)), (1, .int a1), (2, .long a2)] rfl (Nat.le_of_ble_eq_true rfl) (fun X O hlX hR => ?_)
  subst hlX
  refine J.iconst (q := 1) (v := (0 : Int32)) O dX0_feedText_0 rfl rfl ?_
  refine J.istore (q := 3) O dX0_feedText_1 rfl [(4, .int (0 : Int32)), (0, .ref (ad G 15)), (1, .int a1), (2, .long a2)] (by decide) rfl ?_
  exact J.sub [1, 2, 3, 0] rfl (j_X0_feedText_c3 hG O hR h)
set_option maxHeartbeats 4000000 in
set_option maxRecDepth 20000 in
theorem j_X11_feed_b32 {X : CX} {G : GX} {K : Int32 → Mem → Prop} (hG : Gd G) (O : Ok X G cX11_feed 4 RX11 2) (hR : RetI X G cX11_feed K) {M : Mem} (h : f_X11_feed_b32 K  M) : J X G M 32 [(0, .ref (ad G 0))] [] := by
  unfold f_X11_feed_b32 at h
  refine J.aload_n (q := 33) O dX11_feed_32 rfl 0 rfl ?_
  refine J.bipush (q := 35) (v := (-6 : Int32)) O dX11_feed_33 rfl rfl ?_
  refine J.callVI (q := 38) [.int (-6 : Int32)] [] [.int (-6 : Int32), .ref (ad G 0)] rfl O dX11_feed_35 rfl (c_X11_refuse hG h) wd_3_27 mw_X11_refuse io_0 rfl (by decide) (Nat.le_of_ble_eq_true rfl) (fun v1 M1 h => ?_)
  exact hR _ _ _ _ dX11_feed_38 h
set_option maxHeartbeats 4000000 in
set_option maxRecDepth 20000 in
theorem c_X11_feed {l : Launch} {G : GX} (hG : Gd G) {a1 : Int32} {a2 : Int64} {M : Mem} {K : Int32 → Mem → Prop} (h : f_X11_feed a1 a2 M K) : CI l G yX11_feed cX11_feed 4 (some .int) 2 [.ref (ad G 0), .int a1, .long a2] M K := by
  unfold f_X11_feed at h
  refine CI.mk hG (by decide) [(0, .ref (ad G 0)), (1, .int a1), (2, .long a2)] rfl (Nat.le_of_ble_eq_true rfl) (fun X O hlX hR => ?_)
  subst hlX
  refine J.iload_n (q := 1) O dX11_feed_0 rfl 1 rfl ?_
  refine J.iconst (q := 2) (v := (1 : Int32)) O dX11_feed_1 rfl rfl ?_
  refine J.icmp_ge (q := 5) (tgt := 12) O dX11_feed_2 rfl (by decide) (fun z2 => ?_) (fun z2 => ?_)
  · replace h := h.1 z2
    refine J.iload_n (q := 13) O dX11_feed_12 rfl 1 rfl ?_
    refine J.bipush (q := 15) (v := (8 : Int32)) O dX11_feed_13 rfl rfl ?_
    refine J.icmp_gt (q := 18) (tgt := 32) O dX11_feed_15 rfl (by decide) (fun z3 => ?_) (fun z3 => ?_)
    · replace h := h.1 z3
      exact J.sub [0] rfl (j_X11_feed_b32 hG O hR h)
    · replace h := h.2 z3
      refine J.aload_n (q := 19) O dX11_feed_18 rfl 0 rfl ?_
      refine J.getR (q := 22) (c' := 0) (ci := 11) (k := 2) (r := 15) O dX11_feed_19 rfl wd_2_216 (by decide) if_0_2 ?_
      refine J.callVI (q := 25) [] [] [.ref (ad G 15)] rfl O dX11_feed_22 rfl (c_X0_fed hG h) wd_4_80 mw_X0_fed io_15 rfl (by decide) (Nat.le_of_ble_eq_true rfl) (fun v4 M4 h => ?_)
      refine J.iload_n (q := 26) O dX11_feed_25 rfl 1 rfl ?_
      refine J.iadd (q := 27) O dX11_feed_26 rfl ?_
      refine J.bipush (q := 29) (v := (60 : Int32)) O dX11_feed_27 rfl rfl ?_
      refine J.icmp_le (q := 32) (tgt := 39) O dX11_feed_29 rfl (by decide) (fun z5 => ?_) (fun z5 => ?_)
      · replace h := h.1 z5
        refine J.aload_n (q := 40) O dX11_feed_39 rfl 0 rfl ?_
        refine J.getR (q := 43) (c' := 0) (ci := 11) (k := 2) (r := 15) O dX11_feed_40 rfl wd_2_216 (by decide) if_0_2 ?_
        refine J.iload_n (q := 44) O dX11_feed_43 rfl 1 rfl ?_
        refine J.lload_n (q := 45) O dX11_feed_44 rfl 2 rfl ?_
        refine J.callVI (q := 48) [.int a1, .long a2] [] [.long a2, .int a1, .ref (ad G 15)] rfl O dX11_feed_45 rfl (c_X0_feedText hG h) wd_4_95 mw_X0_feedText io_15 rfl (by decide) (Nat.le_of_ble_eq_true rfl) (fun v6 M6 h => ?_)
        exact hR _ _ _ _ dX11_feed_48 h
      · replace h := h.2 z5
        exact J.sub [0] rfl (j_X11_feed_b32 hG O hR h)
  · replace h := h.2 z2
    refine J.aload_n (q := 6) O dX11_feed_5 rfl 0 rfl ?_
    refine J.bipush (q := 8) (v := (-4 : Int32)) O dX11_feed_6 rfl rfl ?_
    refine J.callVI (q := 11) [.int (-4 : Int32)] [] [.int (-4 : Int32), .ref (ad G 0)] rfl O dX11_feed_8 rfl (c_X11_refuse hG h) wd_3_27 mw_X11_refuse io_0 rfl (by decide) (Nat.le_of_ble_eq_true rfl) (fun v7 M7 h => ?_)
    exact hR _ _ _ _ dX11_feed_11 h
set_option maxHeartbeats 4000000 in
set_option maxRecDepth 20000 in
theorem j_X11_outside_b21 {X : CX} {G : GX} {K : Int32 → Mem → Prop} (hG : Gd G) (O : Ok X G cX11_outside 3 RX11 1) (hR : RetI X G cX11_outside K) {s0 : Int32} {M : Mem} (h : f_X11_outside_b21 K s0 M) : J X G M 21 [] [.int s0] := by
  unfold f_X11_outside_b21 at h
  exact hR _ _ _ _ dX11_outside_21 h
set_option maxHeartbeats 4000000 in
set_option maxRecDepth 20000 in
theorem c_X11_outside {l : Launch} {G : GX} (hG : Gd G) {a1 : Int32} {a2 : Int32} {a3 : Int32} {M : Mem} {K : Int32 → Mem → Prop} (h : f_X11_outside a1 a2 a3 M K) : CI l G yX11_outside cX11_outside 3 (some .int) 1 [.int a1, .int a2, .int a3] M K := by
  unfold f_X11_outside at h
  refine CI.mk hG (by decide) [(0, .int a1), (1, .int a2), (2, .int a3)] rfl (Nat.le_of_ble_eq_true rfl) (fun X O hlX hR => ?_)
  subst hlX
  refine J.iload_n (q := 1) O dX11_outside_0 rfl 0 rfl ?_
  refine J.iload_n (q := 2) O dX11_outside_1 rfl 1 rfl ?_
  refine J.icmp_ge (q := 5) (tgt := 10) O dX11_outside_2 rfl (by decide) (fun z1 => ?_) (fun z1 => ?_)
  · replace h := h.1 z1
    refine J.iload_n (q := 11) O dX11_outside_10 rfl 0 rfl ?_
    refine J.iload_n (q := 12) O dX11_outside_11 rfl 2 rfl ?_
    refine J.icmp_le (q := 15) (tgt := 20) O dX11_outside_12 rfl (by decide) (fun z2 => ?_) (fun z2 => ?_)
    · replace h := h.1 z2
      refine J.iconst (q := 21) (v := (0 : Int32)) O dX11_outside_20 rfl rfl ?_
      exact J.sub [] rfl (j_X11_outside_b21 hG O hR h)
    · replace h := h.2 z2
      refine J.bipush (q := 17) (v := (-6 : Int32)) O dX11_outside_15 rfl rfl ?_
      refine J.goto (q := 21) O dX11_outside_17 (by decide) ?_
      exact J.sub [] rfl (j_X11_outside_b21 hG O hR h)
  · replace h := h.2 z1
    refine J.bipush (q := 7) (v := (-4 : Int32)) O dX11_outside_5 rfl rfl ?_
    refine J.goto (q := 21) O dX11_outside_7 (by decide) ?_
    exact J.sub [] rfl (j_X11_outside_b21 hG O hR h)
set_option maxHeartbeats 4000000 in
set_option maxRecDepth 20000 in
theorem j_X11_fullAt_b11 {X : CX} {G : GX} {K : Int32 → Mem → Prop} (hG : Gd G) (O : Ok X G cX11_fullAt 2 RX11 1) (hR : RetI X G cX11_fullAt K) {s0 : Int32} {M : Mem} (h : f_X11_fullAt_b11 K s0 M) : J X G M 11 [] [.int s0] := by
  unfold f_X11_fullAt_b11 at h
  exact hR _ _ _ _ dX11_fullAt_11 h
set_option maxHeartbeats 4000000 in
set_option maxRecDepth 20000 in
theorem c_X11_fullAt {l : Launch} {G : GX} (hG : Gd G) {a1 : Int32} {a2 : Int32} {M : Mem} {K : Int32 → Mem → Prop} (h : f_X11_fullAt a1 a2 M K) : CI l G yX11_fullAt cX11_fullAt 2 (some .int) 1 [.int a1, .int a2] M K := by
  unfold f_X11_fullAt at h
  refine CI.mk hG (by decide) [(0, .int a1), (1, .int a2)] rfl (Nat.le_of_ble_eq_true rfl) (fun X O hlX hR => ?_)
  subst hlX
  refine J.iload_n (q := 1) O dX11_fullAt_0 rfl 0 rfl ?_
  refine J.iload_n (q := 2) O dX11_fullAt_1 rfl 1 rfl ?_
  refine J.icmp_lt (q := 5) (tgt := 10) O dX11_fullAt_2 rfl (by decide) (fun z1 => ?_) (fun z1 => ?_)
  · replace h := h.1 z1
    refine J.iconst (q := 11) (v := (0 : Int32)) O dX11_fullAt_10 rfl rfl ?_
    exact J.sub [] rfl (j_X11_fullAt_b11 hG O hR h)
  · replace h := h.2 z1
    refine J.bipush (q := 7) (v := (-6 : Int32)) O dX11_fullAt_5 rfl rfl ?_
    refine J.goto (q := 11) O dX11_fullAt_7 (by decide) ?_
    exact J.sub [] rfl (j_X11_fullAt_b11 hG O hR h)
set_option maxHeartbeats 4000000 in
set_option maxRecDepth 20000 in
theorem j_X11_worse_b22 {X : CX} {G : GX} {K : Int32 → Mem → Prop} (hG : Gd G) (O : Ok X G cX11_worse 2 RX11 1) (hR : RetI X G cX11_worse K) {s0 : Int32} {M : Mem} (h : f_X11_worse_b22 K s0 M) : J X G M 22 [] [.int s0] := by
  unfold f_X11_worse_b22 at h
  exact hR _ _ _ _ dX11_worse_22 h
set_option maxHeartbeats 4000000 in
set_option maxRecDepth 20000 in
theorem j_X11_worse_b12 {X : CX} {G : GX} {K : Int32 → Mem → Prop} (hG : Gd G) (O : Ok X G cX11_worse 2 RX11 1) (hR : RetI X G cX11_worse K) {M : Mem} (h : f_X11_worse_b12 K  M) : J X G M 12 [] [] := by
  unfold f_X11_worse_b12 at h
  refine J.bipush (q := 14) (v := (-4 : Int32)) O dX11_worse_12 rfl rfl ?_
  refine J.goto (q := 22) O dX11_worse_14 (by decide) ?_
  exact J.sub [] rfl (j_X11_worse_b22 hG O hR h)
set_option maxHeartbeats 4000000 in
set_option maxRecDepth 20000 in
theorem c_X11_worse {l : Launch} {G : GX} (hG : Gd G) {a1 : Int32} {a2 : Int32} {M : Mem} {K : Int32 → Mem → Prop} (h : f_X11_worse a1 a2 M K) : CI l G yX11_worse cX11_worse 2 (some .int) 1 [.int a1, .int a2] M K := by
  unfold f_X11_worse at h
  refine CI.mk hG (by decide) [(0, .int a1), (1, .int a2)] rfl (Nat.le_of_ble_eq_true rfl) (fun X O hlX hR => ?_)
  subst hlX
  refine J.iload_n (q := 1) O dX11_worse_0 rfl 0 rfl ?_
  refine J.bipush (q := 3) (v := (-4 : Int32)) O dX11_worse_1 rfl rfl ?_
  refine J.icmp_eq (q := 6) (tgt := 12) O dX11_worse_3 rfl (by decide) (fun z1 => ?_) (fun z1 => ?_)
  · replace h := h.1 z1
    exact J.sub [] rfl (j_X11_worse_b12 hG O hR h)
  · replace h := h.2 z1
    refine J.iload_n (q := 7) O dX11_worse_6 rfl 1 rfl ?_
    refine J.bipush (q := 9) (v := (-4 : Int32)) O dX11_worse_7 rfl rfl ?_
    refine J.icmp_ne (q := 12) (tgt := 17) O dX11_worse_9 rfl (by decide) (fun z2 => ?_) (fun z2 => ?_)
    · replace h := h.1 z2
      refine J.iload_n (q := 18) O dX11_worse_17 rfl 0 rfl ?_
      refine J.iload_n (q := 19) O dX11_worse_18 rfl 1 rfl ?_
      refine J.mmin (q := 22) O dX11_worse_19 rfl wd_3_44 (by decide) (Nat.le_of_ble_eq_true rfl) ?_
      exact J.sub [] rfl (j_X11_worse_b22 hG O hR h)
    · replace h := h.2 z2
      exact J.sub [] rfl (j_X11_worse_b12 hG O hR h)
set_option maxHeartbeats 4000000 in
set_option maxRecDepth 20000 in
theorem c_X7_openLevel {l : Launch} {G : GX} (hG : Gd G) {a1 : Int32} {M : Mem} {K : Mem → Prop} (h : f_X7_openLevel a1 M K) : CV l G yX7_openLevel cX7_openLevel 2 1 [.ref (ad G 45), .int a1] M K := by
  unfold f_X7_openLevel at h
  refine CV.mk hG (by decide) [(0, .ref (ad G 45)), (1, .int a1)] rfl (Nat.le_of_ble_eq_true rfl) (fun X O hlX hR => ?_)
  subst hlX
  refine J.aload_n (q := 1) O dX7_openLevel_0 rfl 0 rfl ?_
  refine J.iload_n (q := 2) O dX7_openLevel_1 rfl 1 rfl ?_
  refine J.putI (q := 5) (c' := 45) (ci := 7) (k := 6) O dX7_openLevel_2 rfl wd_1_107 (by decide) if_45_6 rfl rfl ?_
  refine J.aload_n (q := 6) O dX7_openLevel_5 rfl 0 rfl ?_
  refine J.getR (q := 9) (c' := 45) (ci := 7) (k := 7) (r := 48) O dX7_openLevel_6 rfl wd_1_108 (by decide) if_45_7 ?_
  refine J.aload_n (q := 10) O dX7_openLevel_9 rfl 0 rfl ?_
  refine J.getI (q := 13) (c' := 45) (ci := 7) (k := 6) a1 rfl O dX7_openLevel_10 rfl wd_1_107 (by decide) if_45_6 ?_
  refine J.iconst (q := 14) (v := (0 : Int32)) O dX7_openLevel_13 rfl rfl ?_
  obtain ⟨hv4, h⟩ := h
  refine J.zast (q := 15) (c' := 48) (j := a1.toNatClampNeg) O dX7_openLevel_14 rfl ar_48 hv4 rfl (Or.inl rfl) ?_
  refine J.aload_n (q := 16) O dX7_openLevel_15 rfl 0 rfl ?_
  refine J.getR (q := 19) (c' := 45) (ci := 7) (k := 8) (r := 49) O dX7_openLevel_16 rfl wd_1_109 (by decide) if_45_8 ?_
  refine J.aload_n (q := 20) O dX7_openLevel_19 rfl 0 rfl ?_
  refine J.getI (q := 23) (c' := 45) (ci := 7) (k := 6) a1 rfl O dX7_openLevel_20 rfl wd_1_107 (by decide) if_45_6 ?_
  refine J.iconst (q := 24) (v := (1 : Int32)) O dX7_openLevel_23 rfl rfl ?_
  obtain ⟨hv5, h⟩ := h
  refine J.zast (q := 25) (c' := 49) (j := a1.toNatClampNeg) O dX7_openLevel_24 rfl ar_49 hv5 rfl (Or.inr rfl) ?_
  refine J.aload_n (q := 26) O dX7_openLevel_25 rfl 0 rfl ?_
  refine J.getR (q := 29) (c' := 45) (ci := 7) (k := 9) (r := 50) O dX7_openLevel_26 rfl wd_1_110 (by decide) if_45_9 ?_
  refine J.aload_n (q := 30) O dX7_openLevel_29 rfl 0 rfl ?_
  refine J.getI (q := 33) (c' := 45) (ci := 7) (k := 6) a1 rfl O dX7_openLevel_30 rfl wd_1_107 (by decide) if_45_6 ?_
  refine J.iconst (q := 34) (v := (0 : Int32)) O dX7_openLevel_33 rfl rfl ?_
  obtain ⟨hv6, h⟩ := h
  refine J.iast (q := 35) (c' := 50) (j := a1.toNatClampNeg) O dX7_openLevel_34 rfl ar_50 hv6 rfl ?_
  exact hR _ _ _ dX7_openLevel_35 h
set_option maxHeartbeats 4000000 in
set_option maxRecDepth 20000 in
theorem c_X7_begin {l : Launch} {G : GX} (hG : Gd G) {tx : Nat} {a2 : Int32} {a3 : Int32} {M : Mem} {K : Mem → Prop} (h : f_X7_begin tx a2 a3 M K) : CV l G yX7_begin cX7_begin 4 2 [.ref (ad G 45), .ref (ad G tx), .int a2, .int a3] M K := by
  unfold f_X7_begin at h
  obtain ⟨htx, h⟩ := h
  refine CV.mk hG (by decide) [(0, .ref (ad G 45)), (1, .ref (ad G tx)), (2, .int a2), (3, .int a3)] rfl (Nat.le_of_ble_eq_true rfl) (fun X O hlX hR => ?_)
  subst hlX
  refine J.aload_n (q := 1) O dX7_begin_0 rfl 0 rfl ?_
  refine J.aload_n (q := 2) O dX7_begin_1 rfl 1 rfl ?_
  refine J.putV (q := 5) (c' := 45) (ci := 7) (k := 1) O dX7_begin_2 rfl wd_1_102 (by decide) if_45_1 rfl rfl htx.1 ?_
  refine J.aload_n (q := 6) O dX7_begin_5 rfl 0 rfl ?_
  refine J.iload_n (q := 7) O dX7_begin_6 rfl 2 rfl ?_
  refine J.aload_n (q := 8) O dX7_begin_7 rfl 1 rfl ?_
  refine J.alenB (q := 9) (c' := tx) O dX7_begin_8 rfl htx ?_
  refine J.mmin (q := 12) O dX7_begin_9 rfl wd_3_59 (by decide) (Nat.le_of_ble_eq_true rfl) ?_
  refine J.putI (q := 15) (c' := 45) (ci := 7) (k := 2) O dX7_begin_12 rfl wd_1_103 (by decide) if_45_2 rfl rfl ?_
  refine J.aload_n (q := 16) O dX7_begin_15 rfl 0 rfl ?_
  refine J.iload_n (q := 17) O dX7_begin_16 rfl 3 rfl ?_
  refine J.putI (q := 20) (c' := 45) (ci := 7) (k := 3) O dX7_begin_17 rfl wd_1_104 (by decide) if_45_3 rfl rfl ?_
  refine J.aload_n (q := 21) O dX7_begin_20 rfl 0 rfl ?_
  refine J.bipush (q := 23) (v := (-9 : Int32)) O dX7_begin_21 rfl rfl ?_
  refine J.putI (q := 26) (c' := 45) (ci := 7) (k := 4) O dX7_begin_23 rfl wd_1_105 (by decide) if_45_4 rfl rfl ?_
  refine J.aload_n (q := 27) O dX7_begin_26 rfl 0 rfl ?_
  refine J.iconst (q := 28) (v := (0 : Int32)) O dX7_begin_27 rfl rfl ?_
  refine J.putI (q := 31) (c' := 45) (ci := 7) (k := 5) O dX7_begin_28 rfl wd_1_106 (by decide) if_45_5 rfl rfl ?_
  refine J.aload_n (q := 32) O dX7_begin_31 rfl 0 rfl ?_
  refine J.iconst (q := 33) (v := (0 : Int32)) O dX7_begin_32 rfl rfl ?_
  refine J.callVV (q := 36) [.int (0 : Int32)] [] [.int (0 : Int32), .ref (ad G 45)] rfl O dX7_begin_33 rfl (c_X7_openLevel hG h) wd_3_60 mw_X7_openLevel io_45 rfl (by decide) (Nat.le_of_ble_eq_true rfl) (fun M1 h => ?_)
  exact hR _ _ _ dX7_begin_36 h
set_option maxHeartbeats 4000000 in
set_option maxRecDepth 20000 in
theorem j_X7_sign_b37 {X : CX} {G : GX} {K : Int32 → Mem → Prop} (hG : Gd G) (O : Ok X G cX7_sign 1 RX7 1) (hR : RetI X G cX7_sign K) {s0 : Int32} {M : Mem} (h : f_X7_sign_b37 K s0 M) : J X G M 37 [] [.int s0] := by
  unfold f_X7_sign_b37 at h
  exact hR _ _ _ _ dX7_sign_37 h
set_option maxHeartbeats 4000000 in
set_option maxRecDepth 20000 in
theorem j_X7_sign_b20 {X : CX} {G : GX} {K : Int32 → Mem → Prop} (hG : Gd G) (O : Ok X G cX7_sign 1 RX7 1) (hR : RetI X G cX7_sign K) {M : Mem} (h : f_X7_sign_b20 K  M) : J X G M 20 [] [] := by
  unfold f_X7_sign_b20 at h
  refine J.iconst (q := 21) (v := (-1 : Int32)) O dX7_sign_20 rfl rfl ?_
  refine J.goto (q := 37) O dX7_sign_21 (by decide) ?_
  exact J.sub [] rfl (j_X7_sign_b37 hG O hR h)
set_option maxHeartbeats 4000000 in
set_option maxRecDepth 20000 in
theorem c_X7_sign {l : Launch} {G : GX} (hG : Gd G) {M : Mem} {K : Int32 → Mem → Prop} (h : f_X7_sign  M K) : CI l G yX7_sign cX7_sign 1 (some .int) 1 [.ref (ad G 45)] M K := by
  unfold f_X7_sign at h
  refine CI.mk hG (by decide) [(0, .ref (ad G 45))] rfl (Nat.le_of_ble_eq_true rfl) (fun X O hlX hR => ?_)
  subst hlX
  refine J.aload_n (q := 1) O dX7_sign_0 rfl 0 rfl ?_
  refine J.getI (q := 4) (c' := 45) (ci := 7) (k := 4) (M 45 4) rfl O dX7_sign_1 rfl wd_1_105 (by decide) if_45_4 ?_
  refine J.bipush (q := 6) (v := (-9 : Int32)) O dX7_sign_4 rfl rfl ?_
  refine J.icmp_ne (q := 9) (tgt := 20) O dX7_sign_6 rfl (by decide) (fun z3 => ?_) (fun z3 => ?_)
  · replace h := h.1 z3
    exact J.sub [] rfl (j_X7_sign_b20 hG O hR h)
  · replace h := h.2 z3
    refine J.aload_n (q := 10) O dX7_sign_9 rfl 0 rfl ?_
    refine J.getI (q := 13) (c' := 45) (ci := 7) (k := 3) (M 45 3) rfl O dX7_sign_10 rfl wd_1_104 (by decide) if_45_3 ?_
    refine J.aload_n (q := 14) O dX7_sign_13 rfl 0 rfl ?_
    refine J.getI (q := 17) (c' := 45) (ci := 7) (k := 2) (M 45 2) rfl O dX7_sign_14 rfl wd_1_103 (by decide) if_45_2 ?_
    refine J.icmp_lt (q := 20) (tgt := 24) O dX7_sign_17 rfl (by decide) (fun z4 => ?_) (fun z4 => ?_)
    · replace h := h.1 z4
      refine J.aload_n (q := 25) O dX7_sign_24 rfl 0 rfl ?_
      refine J.getV (q := 28) (c' := 45) (ci := 7) (k := 1) O dX7_sign_25 rfl wd_1_102 (by decide) if_45_1 ?_
      refine J.aload_n (q := 29) O dX7_sign_28 rfl 0 rfl ?_
      refine J.getI (q := 32) (c' := 45) (ci := 7) (k := 3) (M 45 3) rfl O dX7_sign_29 rfl wd_1_104 (by decide) if_45_3 ?_
      obtain ⟨ha5, h⟩ := h
      obtain ⟨hv6, h⟩ := h
      refine J.bald (q := 33) (c' := (M 45 1).toNatClampNeg) (j := (M 45 3).toNatClampNeg) (M ((M 45 1).toNatClampNeg) ((M 45 3).toNatClampNeg)) rfl O dX7_sign_32 rfl ha5 hv6 rfl ?_
      refine J.sipush (q := 36) (v := (255 : Int32)) O dX7_sign_33 rfl rfl ?_
      refine J.iand (q := 37) O dX7_sign_36 rfl ?_
      exact J.sub [] rfl (j_X7_sign_b37 hG O hR h)
    · replace h := h.2 z4
      exact J.sub [] rfl (j_X7_sign_b20 hG O hR h)
set_option maxHeartbeats 4000000 in
set_option maxRecDepth 20000 in
theorem c_X7_fail {l : Launch} {G : GX} (hG : Gd G) {M : Mem} {K : Mem → Prop} (h : f_X7_fail  M K) : CV l G yX7_fail cX7_fail 1 1 [.ref (ad G 45)] M K := by
  unfold f_X7_fail at h
  refine CV.mk hG (by decide) [(0, .ref (ad G 45))] rfl (Nat.le_of_ble_eq_true rfl) (fun X O hlX hR => ?_)
  subst hlX
  refine J.aload_n (q := 1) O dX7_fail_0 rfl 0 rfl ?_
  refine J.getI (q := 4) (c' := 45) (ci := 7) (k := 4) (M 45 4) rfl O dX7_fail_1 rfl wd_1_105 (by decide) if_45_4 ?_
  refine J.bipush (q := 6) (v := (-9 : Int32)) O dX7_fail_4 rfl rfl ?_
  refine J.icmp_ne (q := 9) (tgt := 17) O dX7_fail_6 rfl (by decide) (fun z1 => ?_) (fun z1 => ?_)
  · replace h := h.1 z1
    exact hR _ _ _ dX7_fail_17 h
  · replace h := h.2 z1
    refine J.aload_n (q := 10) O dX7_fail_9 rfl 0 rfl ?_
    refine J.aload_n (q := 11) O dX7_fail_10 rfl 0 rfl ?_
    refine J.getI (q := 14) (c' := 45) (ci := 7) (k := 3) (M 45 3) rfl O dX7_fail_11 rfl wd_1_104 (by decide) if_45_3 ?_
    refine J.putI (q := 17) (c' := 45) (ci := 7) (k := 4) O dX7_fail_14 rfl wd_1_105 (by decide) if_45_4 rfl rfl ?_
    exact hR _ _ _ dX7_fail_17 h
set_option maxHeartbeats 4000000 in
set_option maxRecDepth 20000 in
theorem j_X7_expect_b15 {X : CX} {G : GX} {K : Mem → Prop} (hG : Gd G) (O : Ok X G cX7_expect 4 RX7 2) (hR : RetV X G cX7_expect K) {M : Mem} (h : f_X7_expect_b15 K  M) : J X G M 15 [(0, .ref (ad G 45))] [] := by
  unfold f_X7_expect_b15 at h
  refine J.aload_n (q := 16) O dX7_expect_15 rfl 0 rfl ?_
  refine J.callVV (q := 19) [] [] [.ref (ad G 45)] rfl O dX7_expect_16 rfl (c_X7_fail hG h) wd_3_72 mw_X7_fail io_45 rfl (by decide) (Nat.le_of_ble_eq_true rfl) (fun M1 h => ?_)
  refine J.goto (q := 32) O dX7_expect_19 (by decide) ?_
  exact hR _ _ _ dX7_expect_32 h
set_option maxHeartbeats 4000000 in
set_option maxRecDepth 20000 in
theorem c_X7_expect {l : Launch} {G : GX} (hG : Gd G) {a1 : Int32} {a2 : Int32} {M : Mem} {K : Mem → Prop} (h : f_X7_expect a1 a2 M K) : CV l G yX7_expect cX7_expect 4 2 [.ref (ad G 45), .int a1, .int a2] M K := by
  unfold f_X7_expect at h
  refine CV.mk hG (by decide) [(0, .ref (ad G 45)), (1, .int a1), (2, .int a2)] rfl (Nat.le_of_ble_eq_true rfl) (fun X O hlX hR => ?_)
  subst hlX
  refine J.aload_n (q := 1) O dX7_expect_0 rfl 0 rfl ?_
  refine J.callVI (q := 4) [] [] [.ref (ad G 45)] rfl O dX7_expect_1 rfl (c_X7_sign hG h) wd_3_68 mw_X7_sign io_45 rfl (by decide) (Nat.le_of_ble_eq_true rfl) (fun v2 M2 h => ?_)
  refine J.istore_n (q := 5) O dX7_expect_4 rfl [(3, .int v2), (0, .ref (ad G 45)), (1, .int a1), (2, .int a2)] (by decide) rfl ?_
  refine J.iload_n (q := 6) O dX7_expect_5 rfl 0 rfl ?_
  refine J.iload_n (q := 7) O dX7_expect_6 rfl 2 rfl ?_
  refine J.icmp_lt (q := 10) (tgt := 15) O dX7_expect_7 rfl (by decide) (fun z3 => ?_) (fun z3 => ?_)
  · replace h := h.1 z3
    exact J.sub [1] rfl (j_X7_expect_b15 hG O hR h)
  · replace h := h.2 z3
    refine J.iload_n (q := 11) O dX7_expect_10 rfl 0 rfl ?_
    refine J.iload_n (q := 12) O dX7_expect_11 rfl 3 rfl ?_
    refine J.icmp_le (q := 15) (tgt := 22) O dX7_expect_12 rfl (by decide) (fun z4 => ?_) (fun z4 => ?_)
    · replace h := h.1 z4
      refine J.aload_n (q := 23) O dX7_expect_22 rfl 1 rfl ?_
      refine J.dup (q := 24) O dX7_expect_23 rfl rfl ?_
      refine J.getI (q := 27) (c' := 45) (ci := 7) (k := 3) (M2 45 3) rfl O dX7_expect_24 rfl wd_1_104 (by decide) if_45_3 ?_
      refine J.iconst (q := 28) (v := (1 : Int32)) O dX7_expect_27 rfl rfl ?_
      refine J.iadd (q := 29) O dX7_expect_28 rfl ?_
      refine J.putI (q := 32) (c' := 45) (ci := 7) (k := 3) O dX7_expect_29 rfl wd_1_104 (by decide) if_45_3 rfl rfl ?_
      exact hR _ _ _ dX7_expect_32 h
    · replace h := h.2 z4
      exact J.sub [1] rfl (j_X7_expect_b15 hG O hR h)
set_option maxHeartbeats 4000000 in
set_option maxRecDepth 20000 in
theorem j_X7_readOpenings_b90 {X : CX} {G : GX} {K : Mem → Prop} (hG : Gd G) (O : Ok X G cX7_readOpenings 3 RX7 2) (hR : RetV X G cX7_readOpenings K) {r2 : Int32 × Mem → Prop} (hr2 : ∀ a : Int32 × Mem, r2 a → J X G a.2 2 [(0, .ref (ad G 45)), (1, .int a.1)] []) {x1 : Int32} {M : Mem} (h : f_X7_readOpenings_b90 r2 K x1 M) : J X G M 90 [(0, .ref (ad G 45)), (1, .int x1)] [] := by
  unfold f_X7_readOpenings_b90 at h
  refine J.iinc (q := 93) O dX7_readOpenings_90 rfl [(1, .int (x1 + (1 : Int32))), (0, .ref (ad G 45))] 1 rfl rfl (by decide) rfl ?_
  refine J.goto (q := 2) O dX7_readOpenings_93 (by decide) ?_
  exact J.sub [1, 0] rfl (hr2 _ h)
set_option maxHeartbeats 4000000 in
set_option maxRecDepth 20000 in
theorem j_X7_readOpenings_b25 {X : CX} {G : GX} {K : Mem → Prop} (hG : Gd G) (O : Ok X G cX7_readOpenings 3 RX7 2) (hR : RetV X G cX7_readOpenings K) {r2 : Int32 × Mem → Prop} (hr2 : ∀ a : Int32 × Mem, r2 a → J X G a.2 2 [(0, .ref (ad G 45)), (1, .int a.1)] []) {x1 : Int32} {x2 : Int32} {M : Mem} (h : f_X7_readOpenings_b25 r2 K x1 x2 M) : J X G M 25 [(0, .ref (ad G 45)), (1, .int x1), (2, .int x2)] [] := by
  unfold f_X7_readOpenings_b25 at h
  refine J.aload_n (q := 26) O dX7_readOpenings_25 rfl 0 rfl ?_
  refine J.getI (q := 29) (c' := 45) (ci := 7) (k := 5) (M 45 5) rfl O dX7_readOpenings_26 rfl wd_1_106 (by decide) if_45_5 ?_
  refine J.iconst (q := 30) (v := (5 : Int32)) O dX7_readOpenings_29 rfl rfl ?_
  refine J.icmp_lt (q := 33) (tgt := 38) O dX7_readOpenings_30 rfl (by decide) (fun z3 => ?_) (fun z3 => ?_)
  · replace h := h.1 z3
    refine J.aload_n (q := 39) O dX7_readOpenings_38 rfl 0 rfl ?_
    refine J.dup (q := 40) O dX7_readOpenings_39 rfl rfl ?_
    refine J.getI (q := 43) (c' := 45) (ci := 7) (k := 3) (M 45 3) rfl O dX7_readOpenings_40 rfl wd_1_104 (by decide) if_45_3 ?_
    refine J.iconst (q := 44) (v := (1 : Int32)) O dX7_readOpenings_43 rfl rfl ?_
    refine J.iadd (q := 45) O dX7_readOpenings_44 rfl ?_
    refine J.putI (q := 48) (c' := 45) (ci := 7) (k := 3) O dX7_readOpenings_45 rfl wd_1_104 (by decide) if_45_3 rfl rfl ?_
    refine J.aload_n (q := 49) O dX7_readOpenings_48 rfl 0 rfl ?_
    refine J.dup (q := 50) O dX7_readOpenings_49 rfl rfl ?_
    refine J.getI (q := 53) (c' := 45) (ci := 7) (k := 5) (M 45 5) rfl O dX7_readOpenings_50 rfl wd_1_106 (by decide) if_45_5 ?_
    refine J.iconst (q := 54) (v := (1 : Int32)) O dX7_readOpenings_53 rfl rfl ?_
    refine J.iadd (q := 55) O dX7_readOpenings_54 rfl ?_
    refine J.putI (q := 58) (c' := 45) (ci := 7) (k := 5) O dX7_readOpenings_55 rfl wd_1_106 (by decide) if_45_5 rfl rfl ?_
    refine J.iload_n (q := 59) O dX7_readOpenings_58 rfl 2 rfl ?_
    refine J.bipush (q := 61) (v := (33 : Int32)) O dX7_readOpenings_59 rfl rfl ?_
    refine J.icmp_ne (q := 64) (tgt := 80) O dX7_readOpenings_61 rfl (by decide) (fun z4 => ?_) (fun z4 => ?_)
    · replace h := h.1 z4
      refine J.aload_n (q := 81) O dX7_readOpenings_80 rfl 0 rfl ?_
      refine J.aload_n (q := 82) O dX7_readOpenings_81 rfl 0 rfl ?_
      refine J.getI (q := 85) (c' := 45) (ci := 7) (k := 6) (M 45 6) rfl O dX7_readOpenings_82 rfl wd_1_107 (by decide) if_45_6 ?_
      refine J.iconst (q := 86) (v := (1 : Int32)) O dX7_readOpenings_85 rfl rfl ?_
      refine J.iadd (q := 87) O dX7_readOpenings_86 rfl ?_
      refine J.callVV (q := 90) [.int ((M 45 6) + (1 : Int32))] [] [.int ((M 45 6) + (1 : Int32)), .ref (ad G 45)] rfl O dX7_readOpenings_87 rfl (c_X7_openLevel hG h) wd_3_60 mw_X7_openLevel io_45 rfl (by decide) (Nat.le_of_ble_eq_true rfl) (fun M5 h => ?_)
      exact J.sub [0, 1] rfl (j_X7_readOpenings_b90 hG O hR hr2 h)
    · replace h := h.2 z4
      refine J.aload_n (q := 65) O dX7_readOpenings_64 rfl 0 rfl ?_
      refine J.getR (q := 68) (c' := 45) (ci := 7) (k := 9) (r := 50) O dX7_readOpenings_65 rfl wd_1_110 (by decide) if_45_9 ?_
      refine J.aload_n (q := 69) O dX7_readOpenings_68 rfl 0 rfl ?_
      refine J.getI (q := 72) (c' := 45) (ci := 7) (k := 6) (M 45 6) rfl O dX7_readOpenings_69 rfl wd_1_107 (by decide) if_45_6 ?_
      refine J.dup2 (q := 73) O dX7_readOpenings_72 rfl rfl rfl ?_
      obtain ⟨hv6, h⟩ := h
      refine J.iald (q := 74) (c' := 50) (j := (M 45 6).toNatClampNeg) (M 50 ((M 45 6).toNatClampNeg)) rfl O dX7_readOpenings_73 rfl ar_50 hv6 rfl ?_
      refine J.iconst (q := 75) (v := (1 : Int32)) O dX7_readOpenings_74 rfl rfl ?_
      refine J.iadd (q := 76) O dX7_readOpenings_75 rfl ?_
      obtain ⟨hv7, h⟩ := h
      refine J.iast (q := 77) (c' := 50) (j := (M 45 6).toNatClampNeg) O dX7_readOpenings_76 rfl ar_50 hv7 rfl ?_
      refine J.goto (q := 90) O dX7_readOpenings_77 (by decide) ?_
      exact J.sub [0, 1] rfl (j_X7_readOpenings_b90 hG O hR hr2 h)
  · replace h := h.2 z3
    refine J.aload_n (q := 34) O dX7_readOpenings_33 rfl 0 rfl ?_
    refine J.callVV (q := 37) [] [] [.ref (ad G 45)] rfl O dX7_readOpenings_34 rfl (c_X7_fail hG h) wd_3_72 mw_X7_fail io_45 rfl (by decide) (Nat.le_of_ble_eq_true rfl) (fun M8 h => ?_)
    exact hR _ _ _ dX7_readOpenings_37 h
set_option maxHeartbeats 4000000 in
set_option maxRecDepth 20000 in
theorem j_X7_readOpenings_c2 {X : CX} {G : GX} {K : Mem → Prop} (hG : Gd G) (O : Ok X G cX7_readOpenings 3 RX7 2) (hR : RetV X G cX7_readOpenings K) {a : Int32 × Mem} (h : Lp (fun (r2 : Int32 × Mem → Prop) a => f_X7_readOpenings_c2 K r2 a.1 a.2) a) : J X G a.2 2 [(0, .ref (ad G 45)), (1, .int a.1)] [] := by
  refine Lp.elim (P := fun a => J X G a.2 2 [(0, .ref (ad G 45)), (1, .int a.1)] []) ?_ h
  clear h
  intro r2 hr2 a h
  obtain ⟨x1, M⟩ := a
  unfold f_X7_readOpenings_c2 at h
  (try dsimp only at h ⊢)
  refine J.iload_n (q := 3) O dX7_readOpenings_2 rfl 1 rfl ?_
  refine J.iconst (q := 4) (v := (5 : Int32)) O dX7_readOpenings_3 rfl rfl ?_
  refine J.icmp_gt (q := 7) (tgt := 96) O dX7_readOpenings_4 rfl (by decide) (fun z9 => ?_) (fun z9 => ?_)
  · replace h := h.1 z9
    exact hR _ _ _ dX7_readOpenings_96 h
  · replace h := h.2 z9
    refine J.aload_n (q := 8) O dX7_readOpenings_7 rfl 0 rfl ?_
    refine J.callVI (q := 11) [] [] [.ref (ad G 45)] rfl O dX7_readOpenings_8 rfl (c_X7_sign hG h) wd_3_68 mw_X7_sign io_45 rfl (by decide) (Nat.le_of_ble_eq_true rfl) (fun v10 M10 h => ?_)
    refine J.istore_n (q := 12) O dX7_readOpenings_11 rfl [(2, .int v10), (0, .ref (ad G 45)), (1, .int x1)] (by decide) rfl ?_
    refine J.iload_n (q := 13) O dX7_readOpenings_12 rfl 0 rfl ?_
    refine J.bipush (q := 15) (v := (33 : Int32)) O dX7_readOpenings_13 rfl rfl ?_
    refine J.icmp_eq (q := 18) (tgt := 25) O dX7_readOpenings_15 rfl (by decide) (fun z11 => ?_) (fun z11 => ?_)
    · replace h := h.1 z11
      exact J.sub [1, 2, 0] rfl (j_X7_readOpenings_b25 hG O hR hr2 h)
    · replace h := h.2 z11
      refine J.iload_n (q := 19) O dX7_readOpenings_18 rfl 0 rfl ?_
      refine J.bipush (q := 21) (v := (40 : Int32)) O dX7_readOpenings_19 rfl rfl ?_
      refine J.icmp_eq (q := 24) (tgt := 25) O dX7_readOpenings_21 rfl (by decide) (fun z12 => ?_) (fun z12 => ?_)
      · replace h := h.1 z12
        exact J.sub [1, 2, 0] rfl (j_X7_readOpenings_b25 hG O hR hr2 h)
      · replace h := h.2 z12
        exact hR _ _ _ dX7_readOpenings_24 h
set_option maxHeartbeats 4000000 in
set_option maxRecDepth 20000 in
theorem c_X7_readOpenings {l : Launch} {G : GX} (hG : Gd G) {M : Mem} {K : Mem → Prop} (h : f_X7_readOpenings  M K) : CV l G yX7_readOpenings cX7_readOpenings 3 2 [.ref (ad G 45)] M K := by
  unfold f_X7_readOpenings at h
  refine CV.mk hG (by decide) [(0, .ref (ad G 45))] rfl (Nat.le_of_ble_eq_true rfl) (fun X O hlX hR => ?_)
  subst hlX
  refine J.iconst (q := 1) (v := (0 : Int32)) O dX7_readOpenings_0 rfl rfl ?_
  refine J.istore_n (q := 2) O dX7_readOpenings_1 rfl [(1, .int (0 : Int32)), (0, .ref (ad G 45))] (by decide) rfl ?_
  exact J.sub [1, 0] rfl (j_X7_readOpenings_c2 hG O hR h)
set_option maxHeartbeats 4000000 in
set_option maxRecDepth 20000 in
theorem c_X7_factOf {l : Launch} {G : GX} (hG : Gd G) {a1 : Int32} {M : Mem} {K : Int32 → Mem → Prop} (h : f_X7_factOf a1 M K) : CI l G yX7_factOf cX7_factOf 1 (some .int) 1 [.int a1] M K := by
  unfold f_X7_factOf at h
  refine CI.mk hG (by decide) [(0, .int a1)] rfl (Nat.le_of_ble_eq_true rfl) (fun X O hlX hR => ?_)
  subst hlX
  refine J.iload_n (q := 1) O dX7_factOf_0 rfl 0 rfl ?_
  by_cases z1 : a1 = (99 : Int32)
  · replace h := h.1 z1
    refine J.lsw (q := 68) O dX7_factOf_1 (by decide) (by rw [z1]) (by decide) ?_
    refine J.iconst (q := 69) (v := (4 : Int32)) O dX7_factOf_68 rfl rfl ?_
    exact hR _ _ _ _ dX7_factOf_69 h
  · replace h := h.2 z1
    by_cases z2 : a1 = (109 : Int32)
    · replace h := h.1 z2
      refine J.lsw (q := 66) O dX7_factOf_1 (by decide) (by rw [z2]) (by decide) ?_
      refine J.iconst (q := 67) (v := (3 : Int32)) O dX7_factOf_66 rfl rfl ?_
      exact hR _ _ _ _ dX7_factOf_67 h
    · replace h := h.2 z2
      by_cases z3 : a1 = (110 : Int32)
      · replace h := h.1 z3
        refine J.lsw (q := 60) O dX7_factOf_1 (by decide) (by rw [z3]) (by decide) ?_
        refine J.iconst (q := 61) (v := (0 : Int32)) O dX7_factOf_60 rfl rfl ?_
        exact hR _ _ _ _ dX7_factOf_61 h
      · replace h := h.2 z3
        by_cases z4 : a1 = (115 : Int32)
        · replace h := h.1 z4
          refine J.lsw (q := 64) O dX7_factOf_1 (by decide) (by rw [z4]) (by decide) ?_
          refine J.iconst (q := 65) (v := (2 : Int32)) O dX7_factOf_64 rfl rfl ?_
          exact hR _ _ _ _ dX7_factOf_65 h
        · replace h := h.2 z4
          by_cases z5 : a1 = (117 : Int32)
          · replace h := h.1 z5
            refine J.lsw (q := 70) O dX7_factOf_1 (by decide) (by rw [z5]) (by decide) ?_
            refine J.iconst (q := 71) (v := (5 : Int32)) O dX7_factOf_70 rfl rfl ?_
            exact hR _ _ _ _ dX7_factOf_71 h
          · replace h := h.2 z5
            by_cases z6 : a1 = (119 : Int32)
            · replace h := h.1 z6
              refine J.lsw (q := 62) O dX7_factOf_1 (by decide) (by rw [z6]) (by decide) ?_
              refine J.iconst (q := 63) (v := (1 : Int32)) O dX7_factOf_62 rfl rfl ?_
              exact hR _ _ _ _ dX7_factOf_63 h
            · replace h := h.2 z6
              refine J.lsw (q := 72) (off := 71) O dX7_factOf_1 (by decide) ((lv_osw z1 (by decide)).trans ((lv_osw z2 (by decide)).trans ((lv_osw z3 (by decide)).trans ((lv_osw z4 (by decide)).trans ((lv_osw z5 (by decide)).trans ((lv_osw z6 (by decide)).trans rfl)))))) (by decide) ?_
              refine J.bipush (q := 74) (v := (-9 : Int32)) O dX7_factOf_72 rfl rfl ?_
              exact hR _ _ _ _ dX7_factOf_74 h
set_option maxHeartbeats 4000000 in
set_option maxRecDepth 20000 in
theorem j_X7_unit_b35 {X : CX} {G : GX} {K : Int32 → Mem → Prop} (hG : Gd G) (O : Ok X G cX7_unit 4 RX7 2) (hR : RetI X G cX7_unit K) {M : Mem} (h : f_X7_unit_b35 K  M) : J X G M 35 [(0, .ref (ad G 45))] [] := by
  unfold f_X7_unit_b35 at h
  refine J.aload_n (q := 36) O dX7_unit_35 rfl 0 rfl ?_
  refine J.callVV (q := 39) [] [] [.ref (ad G 45)] rfl O dX7_unit_36 rfl (c_X7_fail hG h) wd_3_72 mw_X7_fail io_45 rfl (by decide) (Nat.le_of_ble_eq_true rfl) (fun M2 h => ?_)
  refine J.iconst (q := 40) (v := (0 : Int32)) O dX7_unit_39 rfl rfl ?_
  exact hR _ _ _ _ dX7_unit_40 h
set_option maxHeartbeats 4000000 in
set_option maxRecDepth 20000 in
theorem j_X7_unit_b17 {X : CX} {G : GX} {K : Int32 → Mem → Prop} (hG : Gd G) (O : Ok X G cX7_unit 4 RX7 2) (hR : RetI X G cX7_unit K) {x1 : Int32} {M : Mem} (h : f_X7_unit_b17 K x1 M) : J X G M 17 [(0, .ref (ad G 45)), (1, .int x1)] [] := by
  unfold f_X7_unit_b17 at h
  refine J.iload_n (q := 18) O dX7_unit_17 rfl 1 rfl ?_
  refine J.callSI (q := 21) [.int x1] [] [.int x1] rfl O dX7_unit_18 rfl (c_X7_factOf hG h) wd_3_96 mw_X7_factOf rfl (by decide) (Nat.le_of_ble_eq_true rfl) (fun v3 M3 h => ?_)
  refine J.istore_n (q := 22) O dX7_unit_21 rfl [(2, .int v3), (0, .ref (ad G 45)), (1, .int x1)] (by decide) rfl ?_
  refine J.iload_n (q := 23) O dX7_unit_22 rfl 0 rfl ?_
  refine J.if_lt (q := 26) (tgt := 35) O dX7_unit_23 rfl (by decide) (fun z4 => ?_) (fun z4 => ?_)
  · replace h := h.1 z4
    exact J.sub [1] rfl (j_X7_unit_b35 hG O hR h)
  · replace h := h.2 z4
    refine J.iload_n (q := 27) O dX7_unit_26 rfl 0 rfl ?_
    refine J.aload_n (q := 28) O dX7_unit_27 rfl 1 rfl ?_
    refine J.getR (q := 31) (c' := 45) (ci := 7) (k := 0) (r := 46) O dX7_unit_28 rfl wd_1_100 (by decide) if_45_0 ?_
    refine J.alenI (q := 32) (c' := 46) O dX7_unit_31 rfl ar_46 ?_
    refine J.icmp_lt (q := 35) (tgt := 41) O dX7_unit_32 rfl (by decide) (fun z5 => ?_) (fun z5 => ?_)
    · replace h := h.1 z5
      refine J.aload_n (q := 42) O dX7_unit_41 rfl 1 rfl ?_
      refine J.dup (q := 43) O dX7_unit_42 rfl rfl ?_
      refine J.getI (q := 46) (c' := 45) (ci := 7) (k := 3) (M3 45 3) rfl O dX7_unit_43 rfl wd_1_104 (by decide) if_45_3 ?_
      refine J.iconst (q := 47) (v := (1 : Int32)) O dX7_unit_46 rfl rfl ?_
      refine J.iadd (q := 48) O dX7_unit_47 rfl ?_
      refine J.putI (q := 51) (c' := 45) (ci := 7) (k := 3) O dX7_unit_48 rfl wd_1_104 (by decide) if_45_3 rfl rfl ?_
      refine J.aload_n (q := 52) O dX7_unit_51 rfl 1 rfl ?_
      refine J.getR (q := 55) (c' := 45) (ci := 7) (k := 0) (r := 46) O dX7_unit_52 rfl wd_1_100 (by decide) if_45_0 ?_
      refine J.iload_n (q := 56) O dX7_unit_55 rfl 0 rfl ?_
      obtain ⟨hv6, h⟩ := h
      refine J.iald (q := 57) (c' := 46) (j := v3.toNatClampNeg) (M3 46 v3.toNatClampNeg) rfl O dX7_unit_56 rfl ar_46 hv6 rfl ?_
      exact hR _ _ _ _ dX7_unit_57 h
    · replace h := h.2 z5
      exact J.sub [1] rfl (j_X7_unit_b35 hG O hR h)
set_option maxHeartbeats 4000000 in
set_option maxRecDepth 20000 in
theorem j_X7_unit_b110 {X : CX} {G : GX} {K : Int32 → Mem → Prop} (hG : Gd G) (O : Ok X G cX7_unit 4 RX7 2) (hR : RetI X G cX7_unit K) {x2 : Int32} {M : Mem} (h : f_X7_unit_b110 K x2 M) : J X G M 110 [(2, .int x2)] [] := by
  unfold f_X7_unit_b110 at h
  refine J.iload_n (q := 111) O dX7_unit_110 rfl 0 rfl ?_
  exact hR _ _ _ _ dX7_unit_111 h
set_option maxHeartbeats 4000000 in
set_option maxRecDepth 20000 in
theorem j_X7_unit_c62 {X : CX} {G : GX} {K : Int32 → Mem → Prop} (hG : Gd G) (O : Ok X G cX7_unit 4 RX7 2) (hR : RetI X G cX7_unit K) {a : Int32 × Int32 × Int32 × Mem} (h : Lp (fun (r62 : Int32 × Int32 × Int32 × Mem → Prop) a => f_X7_unit_c62 K r62 a.1 a.2.1 a.2.2.1 a.2.2.2) a) : J X G a.2.2.2 62 [(0, .ref (ad G 45)), (1, .int a.1), (2, .int a.2.1), (3, .int a.2.2.1)] [] := by
  refine Lp.elim (P := fun a => J X G a.2.2.2 62 [(0, .ref (ad G 45)), (1, .int a.1), (2, .int a.2.1), (3, .int a.2.2.1)] []) ?_ h
  clear h
  intro r62 hr62 a h
  obtain ⟨x1, x2, x3, M⟩ := a
  unfold f_X7_unit_c62 at h
  (try dsimp only at h ⊢)
  refine J.iload_n (q := 63) O dX7_unit_62 rfl 3 rfl ?_
  refine J.iconst (q := 64) (v := (4 : Int32)) O dX7_unit_63 rfl rfl ?_
  refine J.icmp_ge (q := 67) (tgt := 110) O dX7_unit_64 rfl (by decide) (fun z7 => ?_) (fun z7 => ?_)
  · replace h := h.1 z7
    exact J.sub [2] rfl (j_X7_unit_b110 hG O hR h)
  · replace h := h.2 z7
    refine J.iload_n (q := 68) O dX7_unit_67 rfl 1 rfl ?_
    refine J.bipush (q := 70) (v := (48 : Int32)) O dX7_unit_68 rfl rfl ?_
    refine J.icmp_lt (q := 73) (tgt := 110) O dX7_unit_70 rfl (by decide) (fun z8 => ?_) (fun z8 => ?_)
    · replace h := h.1 z8
      exact J.sub [2] rfl (j_X7_unit_b110 hG O hR h)
    · replace h := h.2 z8
      refine J.iload_n (q := 74) O dX7_unit_73 rfl 1 rfl ?_
      refine J.bipush (q := 76) (v := (57 : Int32)) O dX7_unit_74 rfl rfl ?_
      refine J.icmp_gt (q := 79) (tgt := 110) O dX7_unit_76 rfl (by decide) (fun z9 => ?_) (fun z9 => ?_)
      · replace h := h.1 z9
        exact J.sub [2] rfl (j_X7_unit_b110 hG O hR h)
      · replace h := h.2 z9
        refine J.bipush (q := 81) (v := (10 : Int32)) O dX7_unit_79 rfl rfl ?_
        refine J.iload_n (q := 82) O dX7_unit_81 rfl 2 rfl ?_
        refine J.imul (q := 83) O dX7_unit_82 rfl ?_
        refine J.iload_n (q := 84) O dX7_unit_83 rfl 1 rfl ?_
        refine J.iadd (q := 85) O dX7_unit_84 rfl ?_
        refine J.bipush (q := 87) (v := (48 : Int32)) O dX7_unit_85 rfl rfl ?_
        refine J.isub (q := 88) O dX7_unit_87 rfl ?_
        refine J.istore_n (q := 89) O dX7_unit_88 rfl [(2, .int ((((10 : Int32) * x2) + x1) - (48 : Int32))), (0, .ref (ad G 45)), (1, .int x1), (3, .int x3)] (by decide) rfl ?_
        refine J.aload_n (q := 90) O dX7_unit_89 rfl 1 rfl ?_
        refine J.dup (q := 91) O dX7_unit_90 rfl rfl ?_
        refine J.getI (q := 94) (c' := 45) (ci := 7) (k := 3) (M 45 3) rfl O dX7_unit_91 rfl wd_1_104 (by decide) if_45_3 ?_
        refine J.iconst (q := 95) (v := (1 : Int32)) O dX7_unit_94 rfl rfl ?_
        refine J.iadd (q := 96) O dX7_unit_95 rfl ?_
        refine J.putI (q := 99) (c' := 45) (ci := 7) (k := 3) O dX7_unit_96 rfl wd_1_104 (by decide) if_45_3 rfl rfl ?_
        refine J.aload_n (q := 100) O dX7_unit_99 rfl 1 rfl ?_
        refine J.callVI (q := 103) [] [] [.ref (ad G 45)] rfl O dX7_unit_100 rfl (c_X7_sign hG h) wd_3_68 mw_X7_sign io_45 rfl (by decide) (Nat.le_of_ble_eq_true rfl) (fun v10 M10 h => ?_)
        refine J.istore_n (q := 104) O dX7_unit_103 rfl [(1, .int v10), (2, .int ((((10 : Int32) * x2) + x1) - (48 : Int32))), (0, .ref (ad G 45)), (3, .int x3)] (by decide) rfl ?_
        refine J.iinc (q := 107) O dX7_unit_104 rfl [(3, .int (x3 + (1 : Int32))), (1, .int v10), (2, .int ((((10 : Int32) * x2) + x1) - (48 : Int32))), (0, .ref (ad G 45))] 3 rfl rfl (by decide) rfl ?_
        refine J.goto (q := 62) O dX7_unit_107 (by decide) ?_
        exact J.sub [3, 1, 2, 0] rfl (hr62 _ h)
set_option maxHeartbeats 4000000 in
set_option maxRecDepth 20000 in
theorem c_X7_unit {l : Launch} {G : GX} (hG : Gd G) {M : Mem} {K : Int32 → Mem → Prop} (h : f_X7_unit  M K) : CI l G yX7_unit cX7_unit 4 (some .int) 2 [.ref (ad G 45)] M K := by
  unfold f_X7_unit at h
  refine CI.mk hG (by decide) [(0, .ref (ad G 45))] rfl (Nat.le_of_ble_eq_true rfl) (fun X O hlX hR => ?_)
  subst hlX
  refine J.aload_n (q := 1) O dX7_unit_0 rfl 0 rfl ?_
  refine J.callVI (q := 4) [] [] [.ref (ad G 45)] rfl O dX7_unit_1 rfl (c_X7_sign hG h) wd_3_68 mw_X7_sign io_45 rfl (by decide) (Nat.le_of_ble_eq_true rfl) (fun v11 M11 h => ?_)
  refine J.istore_n (q := 5) O dX7_unit_4 rfl [(1, .int v11), (0, .ref (ad G 45))] (by decide) rfl ?_
  refine J.iload_n (q := 6) O dX7_unit_5 rfl 0 rfl ?_
  refine J.bipush (q := 8) (v := (48 : Int32)) O dX7_unit_6 rfl rfl ?_
  refine J.icmp_lt (q := 11) (tgt := 17) O dX7_unit_8 rfl (by decide) (fun z12 => ?_) (fun z12 => ?_)
  · replace h := h.1 z12
    exact J.sub [1, 0] rfl (j_X7_unit_b17 hG O hR h)
  · replace h := h.2 z12
    refine J.iload_n (q := 12) O dX7_unit_11 rfl 0 rfl ?_
    refine J.bipush (q := 14) (v := (57 : Int32)) O dX7_unit_12 rfl rfl ?_
    refine J.icmp_le (q := 17) (tgt := 58) O dX7_unit_14 rfl (by decide) (fun z13 => ?_) (fun z13 => ?_)
    · replace h := h.1 z13
      refine J.iconst (q := 59) (v := (0 : Int32)) O dX7_unit_58 rfl rfl ?_
      refine J.istore_n (q := 60) O dX7_unit_59 rfl [(2, .int (0 : Int32)), (1, .int v11), (0, .ref (ad G 45))] (by decide) rfl ?_
      refine J.iconst (q := 61) (v := (0 : Int32)) O dX7_unit_60 rfl rfl ?_
      refine J.istore_n (q := 62) O dX7_unit_61 rfl [(3, .int (0 : Int32)), (2, .int (0 : Int32)), (1, .int v11), (0, .ref (ad G 45))] (by decide) rfl ?_
      exact J.sub [3, 2, 1, 0] rfl (j_X7_unit_c62 hG O hR h)
    · replace h := h.2 z13
      exact J.sub [1, 0] rfl (j_X7_unit_b17 hG O hR h)
set_option maxHeartbeats 4000000 in
set_option maxRecDepth 20000 in
theorem j_X7_sum_b84 {X : CX} {G : GX} {K : Int32 → Mem → Prop} (hG : Gd G) (O : Ok X G cX7_sum 5 RX7 3) (hR : RetI X G cX7_sum K) {r7 : Int32 × Int32 × Mem → Prop} (hr7 : ∀ a : Int32 × Int32 × Mem, r7 a → J X G a.2.2 7 [(0, .ref (ad G 45)), (1, .int a.1), (2, .int a.2.1)] []) {x2 : Int32} {s0 : Int32} {M : Mem} (h : f_X7_sum_b84 r7 K x2 s0 M) : J X G M 84 [(0, .ref (ad G 45)), (2, .int x2)] [.int s0] := by
  unfold f_X7_sum_b84 at h
  refine J.istore_n (q := 85) O dX7_sum_84 rfl [(1, .int s0), (0, .ref (ad G 45)), (2, .int x2)] (by decide) rfl ?_
  refine J.iinc (q := 88) O dX7_sum_85 rfl [(2, .int (x2 + (1 : Int32))), (1, .int s0), (0, .ref (ad G 45))] 2 rfl rfl (by decide) rfl ?_
  refine J.goto (q := 7) O dX7_sum_88 (by decide) ?_
  exact J.sub [2, 1, 0] rfl (hr7 _ h)
set_option maxHeartbeats 4000000 in
set_option maxRecDepth 20000 in
theorem j_X7_sum_b38 {X : CX} {G : GX} {K : Int32 → Mem → Prop} (hG : Gd G) (O : Ok X G cX7_sum 5 RX7 3) (hR : RetI X G cX7_sum K) {r7 : Int32 × Int32 × Mem → Prop} (hr7 : ∀ a : Int32 × Int32 × Mem, r7 a → J X G a.2.2 7 [(0, .ref (ad G 45)), (1, .int a.1), (2, .int a.2.1)] []) {x1 : Int32} {x2 : Int32} {x3 : Int32} {M : Mem} (h : f_X7_sum_b38 r7 K x1 x2 x3 M) : J X G M 38 [(0, .ref (ad G 45)), (1, .int x1), (2, .int x2), (3, .int x3)] [] := by
  unfold f_X7_sum_b38 at h
  refine J.aload_n (q := 39) O dX7_sum_38 rfl 0 rfl ?_
  refine J.dup (q := 40) O dX7_sum_39 rfl rfl ?_
  refine J.getI (q := 43) (c' := 45) (ci := 7) (k := 3) (M 45 3) rfl O dX7_sum_40 rfl wd_1_104 (by decide) if_45_3 ?_
  refine J.iconst (q := 44) (v := (1 : Int32)) O dX7_sum_43 rfl rfl ?_
  refine J.iadd (q := 45) O dX7_sum_44 rfl ?_
  refine J.putI (q := 48) (c' := 45) (ci := 7) (k := 3) O dX7_sum_45 rfl wd_1_104 (by decide) if_45_3 rfl rfl ?_
  refine J.aload_n (q := 49) O dX7_sum_48 rfl 0 rfl ?_
  refine J.callVI (q := 52) [] [] [.ref (ad G 45)] rfl O dX7_sum_49 rfl (c_X7_unit hG h) wd_3_92 mw_X7_unit io_45 rfl (by decide) (Nat.le_of_ble_eq_true rfl) (fun v1 M1 h => ?_)
  refine J.istore (q := 54) O dX7_sum_52 rfl [(4, .int v1), (0, .ref (ad G 45)), (1, .int x1), (2, .int x2), (3, .int x3)] (by decide) rfl ?_
  refine J.iload_n (q := 55) O dX7_sum_54 rfl 4 rfl ?_
  refine J.bipush (q := 57) (v := (43 : Int32)) O dX7_sum_55 rfl rfl ?_
  refine J.icmp_ne (q := 60) (tgt := 67) O dX7_sum_57 rfl (by decide) (fun z2 => ?_) (fun z2 => ?_)
  · replace h := h.1 z2
    refine J.iload_n (q := 68) O dX7_sum_67 rfl 4 rfl ?_
    refine J.bipush (q := 70) (v := (45 : Int32)) O dX7_sum_68 rfl rfl ?_
    refine J.icmp_ne (q := 73) (tgt := 80) O dX7_sum_70 rfl (by decide) (fun z3 => ?_) (fun z3 => ?_)
    · replace h := h.1 z3
      refine J.iload_n (q := 81) O dX7_sum_80 rfl 2 rfl ?_
      refine J.iload (q := 83) O dX7_sum_81 rfl 0 rfl ?_
      refine J.imul (q := 84) O dX7_sum_83 rfl ?_
      exact J.sub [1, 3] rfl (j_X7_sum_b84 hG O hR hr7 h)
    · replace h := h.2 z3
      refine J.iload_n (q := 74) O dX7_sum_73 rfl 2 rfl ?_
      refine J.iload (q := 76) O dX7_sum_74 rfl 0 rfl ?_
      refine J.isub (q := 77) O dX7_sum_76 rfl ?_
      refine J.goto (q := 84) O dX7_sum_77 (by decide) ?_
      exact J.sub [1, 3] rfl (j_X7_sum_b84 hG O hR hr7 h)
  · replace h := h.2 z2
    refine J.iload_n (q := 61) O dX7_sum_60 rfl 2 rfl ?_
    refine J.iload (q := 63) O dX7_sum_61 rfl 0 rfl ?_
    refine J.iadd (q := 64) O dX7_sum_63 rfl ?_
    refine J.goto (q := 84) O dX7_sum_64 (by decide) ?_
    exact J.sub [1, 3] rfl (j_X7_sum_b84 hG O hR hr7 h)
set_option maxHeartbeats 4000000 in
set_option maxRecDepth 20000 in
theorem j_X7_sum_c7 {X : CX} {G : GX} {K : Int32 → Mem → Prop} (hG : Gd G) (O : Ok X G cX7_sum 5 RX7 3) (hR : RetI X G cX7_sum K) {a : Int32 × Int32 × Mem} (h : Lp (fun (r7 : Int32 × Int32 × Mem → Prop) a => f_X7_sum_c7 K r7 a.1 a.2.1 a.2.2) a) : J X G a.2.2 7 [(0, .ref (ad G 45)), (1, .int a.1), (2, .int a.2.1)] [] := by
  refine Lp.elim (P := fun a => J X G a.2.2 7 [(0, .ref (ad G 45)), (1, .int a.1), (2, .int a.2.1)] []) ?_ h
  clear h
  intro r7 hr7 a h
  obtain ⟨x1, x2, M⟩ := a
  unfold f_X7_sum_c7 at h
  (try dsimp only at h ⊢)
  refine J.iload_n (q := 8) O dX7_sum_7 rfl 2 rfl ?_
  refine J.bipush (q := 10) (v := (60 : Int32)) O dX7_sum_8 rfl rfl ?_
  refine J.icmp_ge (q := 13) (tgt := 91) O dX7_sum_10 rfl (by decide) (fun z4 => ?_) (fun z4 => ?_)
  · replace h := h.1 z4
    refine J.iload_n (q := 92) O dX7_sum_91 rfl 1 rfl ?_
    exact hR _ _ _ _ dX7_sum_92 h
  · replace h := h.2 z4
    refine J.aload_n (q := 14) O dX7_sum_13 rfl 0 rfl ?_
    refine J.callVI (q := 17) [] [] [.ref (ad G 45)] rfl O dX7_sum_14 rfl (c_X7_sign hG h) wd_3_68 mw_X7_sign io_45 rfl (by decide) (Nat.le_of_ble_eq_true rfl) (fun v5 M5 h => ?_)
    refine J.istore_n (q := 18) O dX7_sum_17 rfl [(3, .int v5), (0, .ref (ad G 45)), (1, .int x1), (2, .int x2)] (by decide) rfl ?_
    refine J.iload_n (q := 19) O dX7_sum_18 rfl 0 rfl ?_
    refine J.bipush (q := 21) (v := (43 : Int32)) O dX7_sum_19 rfl rfl ?_
    refine J.icmp_eq (q := 24) (tgt := 38) O dX7_sum_21 rfl (by decide) (fun z6 => ?_) (fun z6 => ?_)
    · replace h := h.1 z6
      exact J.sub [1, 2, 3, 0] rfl (j_X7_sum_b38 hG O hR hr7 h)
    · replace h := h.2 z6
      refine J.iload_n (q := 25) O dX7_sum_24 rfl 0 rfl ?_
      refine J.bipush (q := 27) (v := (45 : Int32)) O dX7_sum_25 rfl rfl ?_
      refine J.icmp_eq (q := 30) (tgt := 38) O dX7_sum_27 rfl (by decide) (fun z7 => ?_) (fun z7 => ?_)
      · replace h := h.1 z7
        exact J.sub [1, 2, 3, 0] rfl (j_X7_sum_b38 hG O hR hr7 h)
      · replace h := h.2 z7
        refine J.iload_n (q := 31) O dX7_sum_30 rfl 0 rfl ?_
        refine J.bipush (q := 33) (v := (42 : Int32)) O dX7_sum_31 rfl rfl ?_
        refine J.icmp_eq (q := 36) (tgt := 38) O dX7_sum_33 rfl (by decide) (fun z8 => ?_) (fun z8 => ?_)
        · replace h := h.1 z8
          exact J.sub [1, 2, 3, 0] rfl (j_X7_sum_b38 hG O hR hr7 h)
        · replace h := h.2 z8
          refine J.iload_n (q := 37) O dX7_sum_36 rfl 2 rfl ?_
          exact hR _ _ _ _ dX7_sum_37 h
set_option maxHeartbeats 4000000 in
set_option maxRecDepth 20000 in
theorem c_X7_sum {l : Launch} {G : GX} (hG : Gd G) {M : Mem} {K : Int32 → Mem → Prop} (h : f_X7_sum  M K) : CI l G yX7_sum cX7_sum 5 (some .int) 3 [.ref (ad G 45)] M K := by
  unfold f_X7_sum at h
  refine CI.mk hG (by decide) [(0, .ref (ad G 45))] rfl (Nat.le_of_ble_eq_true rfl) (fun X O hlX hR => ?_)
  subst hlX
  refine J.aload_n (q := 1) O dX7_sum_0 rfl 0 rfl ?_
  refine J.callVI (q := 4) [] [] [.ref (ad G 45)] rfl O dX7_sum_1 rfl (c_X7_unit hG h) wd_3_92 mw_X7_unit io_45 rfl (by decide) (Nat.le_of_ble_eq_true rfl) (fun v9 M9 h => ?_)
  refine J.istore_n (q := 5) O dX7_sum_4 rfl [(1, .int v9), (0, .ref (ad G 45))] (by decide) rfl ?_
  refine J.iconst (q := 6) (v := (0 : Int32)) O dX7_sum_5 rfl rfl ?_
  refine J.istore_n (q := 7) O dX7_sum_6 rfl [(2, .int (0 : Int32)), (1, .int v9), (0, .ref (ad G 45))] (by decide) rfl ?_
  exact J.sub [2, 1, 0] rfl (j_X7_sum_c7 hG O hR h)
set_option maxHeartbeats 4000000 in
set_option maxRecDepth 20000 in
theorem j_X7_comparisonHolds_b71 {X : CX} {G : GX} {K : Int32 → Mem → Prop} (hG : Gd G) (O : Ok X G cX7_comparisonHolds 4 RX7 4) (hR : RetZ X G cX7_comparisonHolds K) {s0 : Int32} {M : Mem} (h : f_X7_comparisonHolds_b71 K s0 M) : J X G M 71 [] [.int s0] := by
  unfold f_X7_comparisonHolds_b71 at h
  exact hR _ _ _ _ dX7_comparisonHolds_71 h.1 h.2
set_option maxHeartbeats 4000000 in
set_option maxRecDepth 20000 in
theorem c_X7_comparisonHolds {l : Launch} {G : GX} (hG : Gd G) {M : Mem} {K : Int32 → Mem → Prop} (h : f_X7_comparisonHolds  M K) : CI l G yX7_comparisonHolds cX7_comparisonHolds 4 (some .boolean) 4 [.ref (ad G 45)] M K := by
  unfold f_X7_comparisonHolds at h
  refine CZ.mk hG (by decide) [(0, .ref (ad G 45))] rfl (Nat.le_of_ble_eq_true rfl) (fun X O hlX hR => ?_)
  subst hlX
  refine J.aload_n (q := 1) O dX7_comparisonHolds_0 rfl 0 rfl ?_
  refine J.callVI (q := 4) [] [] [.ref (ad G 45)] rfl O dX7_comparisonHolds_1 rfl (c_X7_sum hG h) wd_3_88 mw_X7_sum io_45 rfl (by decide) (Nat.le_of_ble_eq_true rfl) (fun v2 M2 h => ?_)
  refine J.istore_n (q := 5) O dX7_comparisonHolds_4 rfl [(1, .int v2), (0, .ref (ad G 45))] (by decide) rfl ?_
  refine J.aload_n (q := 6) O dX7_comparisonHolds_5 rfl 1 rfl ?_
  refine J.callVI (q := 9) [] [] [.ref (ad G 45)] rfl O dX7_comparisonHolds_6 rfl (c_X7_sign hG h) wd_3_68 mw_X7_sign io_45 rfl (by decide) (Nat.le_of_ble_eq_true rfl) (fun v3 M3 h => ?_)
  refine J.istore_n (q := 10) O dX7_comparisonHolds_9 rfl [(2, .int v3), (1, .int v2), (0, .ref (ad G 45))] (by decide) rfl ?_
  refine J.aload_n (q := 11) O dX7_comparisonHolds_10 rfl 2 rfl ?_
  refine J.bipush (q := 13) (v := (60 : Int32)) O dX7_comparisonHolds_11 rfl rfl ?_
  refine J.bipush (q := 15) (v := (62 : Int32)) O dX7_comparisonHolds_13 rfl rfl ?_
  refine J.callVV (q := 18) [.int (60 : Int32), .int (62 : Int32)] [] [.int (62 : Int32), .int (60 : Int32), .ref (ad G 45)] rfl O dX7_comparisonHolds_15 rfl (c_X7_expect hG h) wd_3_64 mw_X7_expect io_45 rfl (by decide) (Nat.le_of_ble_eq_true rfl) (fun M4 h => ?_)
  refine J.aload_n (q := 19) O dX7_comparisonHolds_18 rfl 2 rfl ?_
  refine J.callVI (q := 22) [] [] [.ref (ad G 45)] rfl O dX7_comparisonHolds_19 rfl (c_X7_sum hG h) wd_3_88 mw_X7_sum io_45 rfl (by decide) (Nat.le_of_ble_eq_true rfl) (fun v5 M5 h => ?_)
  refine J.istore_n (q := 23) O dX7_comparisonHolds_22 rfl [(3, .int v5), (2, .int v3), (1, .int v2), (0, .ref (ad G 45))] (by decide) rfl ?_
  refine J.iload_n (q := 24) O dX7_comparisonHolds_23 rfl 1 rfl ?_
  refine J.bipush (q := 26) (v := (60 : Int32)) O dX7_comparisonHolds_24 rfl rfl ?_
  refine J.icmp_ne (q := 29) (tgt := 42) O dX7_comparisonHolds_26 rfl (by decide) (fun z6 => ?_) (fun z6 => ?_)
  · replace h := h.1 z6
    refine J.iload_n (q := 43) O dX7_comparisonHolds_42 rfl 1 rfl ?_
    refine J.bipush (q := 45) (v := (61 : Int32)) O dX7_comparisonHolds_43 rfl rfl ?_
    refine J.icmp_ne (q := 48) (tgt := 61) O dX7_comparisonHolds_45 rfl (by decide) (fun z7 => ?_) (fun z7 => ?_)
    · replace h := h.1 z7
      refine J.iload_n (q := 62) O dX7_comparisonHolds_61 rfl 2 rfl ?_
      refine J.iload_n (q := 63) O dX7_comparisonHolds_62 rfl 0 rfl ?_
      refine J.icmp_le (q := 66) (tgt := 70) O dX7_comparisonHolds_63 rfl (by decide) (fun z8 => ?_) (fun z8 => ?_)
      · replace h := h.1 z8
        refine J.iconst (q := 71) (v := (0 : Int32)) O dX7_comparisonHolds_70 rfl rfl ?_
        exact J.sub [] rfl (j_X7_comparisonHolds_b71 hG O hR h)
      · replace h := h.2 z8
        refine J.iconst (q := 67) (v := (1 : Int32)) O dX7_comparisonHolds_66 rfl rfl ?_
        refine J.goto (q := 71) O dX7_comparisonHolds_67 (by decide) ?_
        exact J.sub [] rfl (j_X7_comparisonHolds_b71 hG O hR h)
    · replace h := h.2 z7
      refine J.iload_n (q := 49) O dX7_comparisonHolds_48 rfl 2 rfl ?_
      refine J.iload_n (q := 50) O dX7_comparisonHolds_49 rfl 0 rfl ?_
      refine J.icmp_ne (q := 53) (tgt := 57) O dX7_comparisonHolds_50 rfl (by decide) (fun z9 => ?_) (fun z9 => ?_)
      · replace h := h.1 z9
        refine J.iconst (q := 58) (v := (0 : Int32)) O dX7_comparisonHolds_57 rfl rfl ?_
        refine J.goto (q := 71) O dX7_comparisonHolds_58 (by decide) ?_
        exact J.sub [] rfl (j_X7_comparisonHolds_b71 hG O hR h)
      · replace h := h.2 z9
        refine J.iconst (q := 54) (v := (1 : Int32)) O dX7_comparisonHolds_53 rfl rfl ?_
        refine J.goto (q := 71) O dX7_comparisonHolds_54 (by decide) ?_
        exact J.sub [] rfl (j_X7_comparisonHolds_b71 hG O hR h)
  · replace h := h.2 z6
    refine J.iload_n (q := 30) O dX7_comparisonHolds_29 rfl 2 rfl ?_
    refine J.iload_n (q := 31) O dX7_comparisonHolds_30 rfl 0 rfl ?_
    refine J.icmp_ge (q := 34) (tgt := 38) O dX7_comparisonHolds_31 rfl (by decide) (fun z10 => ?_) (fun z10 => ?_)
    · replace h := h.1 z10
      refine J.iconst (q := 39) (v := (0 : Int32)) O dX7_comparisonHolds_38 rfl rfl ?_
      refine J.goto (q := 71) O dX7_comparisonHolds_39 (by decide) ?_
      exact J.sub [] rfl (j_X7_comparisonHolds_b71 hG O hR h)
    · replace h := h.2 z10
      refine J.iconst (q := 35) (v := (1 : Int32)) O dX7_comparisonHolds_34 rfl rfl ?_
      refine J.goto (q := 71) O dX7_comparisonHolds_35 (by decide) ?_
      exact J.sub [] rfl (j_X7_comparisonHolds_b71 hG O hR h)
set_option maxHeartbeats 4000000 in
set_option maxRecDepth 20000 in
theorem j_X7_endPart_b51 {X : CX} {G : GX} {K : Mem → Prop} (hG : Gd G) (O : Ok X G cX7_endPart 3 RX7 1) (hR : RetV X G cX7_endPart K) {s0 : Int32} {s1 : Int32} {M : Mem} (h : f_X7_endPart_b51 K s0 s1 M) : J X G M 51 [(0, .ref (ad G 45))] [.int s0, .int s1, .ref (ad G 49)] := by
  unfold f_X7_endPart_b51 at h
  obtain ⟨hv7, h⟩ := h
  obtain ⟨hb8, h⟩ := h
  refine J.zast (q := 52) (c' := 49) (j := s1.toNatClampNeg) O dX7_endPart_51 rfl ar_49 hv7 rfl hb8 ?_
  refine J.aload_n (q := 53) O dX7_endPart_52 rfl 0 rfl ?_
  refine J.dup (q := 54) O dX7_endPart_53 rfl rfl ?_
  refine J.getI (q := 57) (c' := 45) (ci := 7) (k := 5) (M 45 5) rfl O dX7_endPart_54 rfl wd_1_106 (by decide) if_45_5 ?_
  refine J.aload_n (q := 58) O dX7_endPart_57 rfl 0 rfl ?_
  refine J.getR (q := 61) (c' := 45) (ci := 7) (k := 9) (r := 50) O dX7_endPart_58 rfl wd_1_110 (by decide) if_45_9 ?_
  refine J.aload_n (q := 62) O dX7_endPart_61 rfl 0 rfl ?_
  refine J.getI (q := 65) (c' := 45) (ci := 7) (k := 6) (M 45 6) rfl O dX7_endPart_62 rfl wd_1_107 (by decide) if_45_6 ?_
  obtain ⟨hv9, h⟩ := h
  refine J.iald (q := 66) (c' := 50) (j := (M 45 6).toNatClampNeg) (M 50 ((M 45 6).toNatClampNeg)) rfl O dX7_endPart_65 rfl ar_50 hv9 rfl ?_
  refine J.isub (q := 67) O dX7_endPart_66 rfl ?_
  refine J.putI (q := 70) (c' := 45) (ci := 7) (k := 5) O dX7_endPart_67 rfl wd_1_106 (by decide) if_45_5 rfl rfl ?_
  refine J.aload_n (q := 71) O dX7_endPart_70 rfl 0 rfl ?_
  refine J.getR (q := 74) (c' := 45) (ci := 7) (k := 9) (r := 50) O dX7_endPart_71 rfl wd_1_110 (by decide) if_45_9 ?_
  refine J.aload_n (q := 75) O dX7_endPart_74 rfl 0 rfl ?_
  refine J.getI (q := 78) (c' := 45) (ci := 7) (k := 6) (M 45 6) rfl O dX7_endPart_75 rfl wd_1_107 (by decide) if_45_6 ?_
  refine J.iconst (q := 79) (v := (0 : Int32)) O dX7_endPart_78 rfl rfl ?_
  obtain ⟨hv10, h⟩ := h
  refine J.iast (q := 80) (c' := 50) (j := (M 45 6).toNatClampNeg) O dX7_endPart_79 rfl ar_50 hv10 rfl ?_
  exact hR _ _ _ dX7_endPart_80 h
set_option maxHeartbeats 4000000 in
set_option maxRecDepth 20000 in
theorem j_X7_endPart_b50 {X : CX} {G : GX} {K : Mem → Prop} (hG : Gd G) (O : Ok X G cX7_endPart 3 RX7 1) (hR : RetV X G cX7_endPart K) {s0 : Int32} {M : Mem} (h : f_X7_endPart_b50 K s0 M) : J X G M 50 [(0, .ref (ad G 45))] [.int s0, .ref (ad G 49)] := by
  unfold f_X7_endPart_b50 at h
  refine J.iconst (q := 51) (v := (0 : Int32)) O dX7_endPart_50 rfl rfl ?_
  exact J.sub [0] rfl (j_X7_endPart_b51 hG O hR h)
set_option maxHeartbeats 4000000 in
set_option maxRecDepth 20000 in
theorem j_X7_endPart_b20 {X : CX} {G : GX} {K : Mem → Prop} (hG : Gd G) (O : Ok X G cX7_endPart 3 RX7 1) (hR : RetV X G cX7_endPart K) {x1 : Int32} {s0 : Int32} {M : Mem} (h : f_X7_endPart_b20 K x1 s0 M) : J X G M 20 [(0, .ref (ad G 45)), (1, .int x1)] [.int s0] := by
  unfold f_X7_endPart_b20 at h
  refine J.istore_n (q := 21) O dX7_endPart_20 rfl [(2, .int s0), (0, .ref (ad G 45)), (1, .int x1)] (by decide) rfl ?_
  refine J.aload_n (q := 22) O dX7_endPart_21 rfl 1 rfl ?_
  refine J.getR (q := 25) (c' := 45) (ci := 7) (k := 8) (r := 49) O dX7_endPart_22 rfl wd_1_109 (by decide) if_45_8 ?_
  refine J.aload_n (q := 26) O dX7_endPart_25 rfl 1 rfl ?_
  refine J.getI (q := 29) (c' := 45) (ci := 7) (k := 6) (M 45 6) rfl O dX7_endPart_26 rfl wd_1_107 (by decide) if_45_6 ?_
  refine J.aload_n (q := 30) O dX7_endPart_29 rfl 1 rfl ?_
  refine J.getR (q := 33) (c' := 45) (ci := 7) (k := 8) (r := 49) O dX7_endPart_30 rfl wd_1_109 (by decide) if_45_8 ?_
  refine J.aload_n (q := 34) O dX7_endPart_33 rfl 1 rfl ?_
  refine J.getI (q := 37) (c' := 45) (ci := 7) (k := 6) (M 45 6) rfl O dX7_endPart_34 rfl wd_1_107 (by decide) if_45_6 ?_
  obtain ⟨hv11, h⟩ := h
  refine J.zald (q := 38) (c' := 49) (j := (M 45 6).toNatClampNeg) (M 49 ((M 45 6).toNatClampNeg)) rfl O dX7_endPart_37 rfl ar_49 hv11 rfl ?_
  refine J.if_eq (q := 41) (tgt := 50) O dX7_endPart_38 rfl (by decide) (fun z12 => ?_) (fun z12 => ?_)
  · replace h := h.1 z12
    exact J.sub [1] rfl (j_X7_endPart_b50 hG O hR h)
  · replace h := h.2 z12
    refine J.iload_n (q := 42) O dX7_endPart_41 rfl 2 rfl ?_
    refine J.iload_n (q := 43) O dX7_endPart_42 rfl 0 rfl ?_
    refine J.icmp_eq (q := 46) (tgt := 50) O dX7_endPart_43 rfl (by decide) (fun z13 => ?_) (fun z13 => ?_)
    · replace h := h.1 z13
      exact J.sub [1] rfl (j_X7_endPart_b50 hG O hR h)
    · replace h := h.2 z13
      refine J.iconst (q := 47) (v := (1 : Int32)) O dX7_endPart_46 rfl rfl ?_
      refine J.goto (q := 51) O dX7_endPart_47 (by decide) ?_
      exact J.sub [1] rfl (j_X7_endPart_b51 hG O hR h)
set_option maxHeartbeats 4000000 in
set_option maxRecDepth 20000 in
theorem c_X7_endPart {l : Launch} {G : GX} (hG : Gd G) {a1 : Int32} {M : Mem} {K : Mem → Prop} (h : f_X7_endPart a1 M K) : CV l G yX7_endPart cX7_endPart 3 1 [.ref (ad G 45), .int a1] M K := by
  unfold f_X7_endPart at h
  refine CV.mk hG (by decide) [(0, .ref (ad G 45)), (1, .int a1)] rfl (Nat.le_of_ble_eq_true rfl) (fun X O hlX hR => ?_)
  subst hlX
  refine J.aload_n (q := 1) O dX7_endPart_0 rfl 0 rfl ?_
  refine J.getR (q := 4) (c' := 45) (ci := 7) (k := 9) (r := 50) O dX7_endPart_1 rfl wd_1_110 (by decide) if_45_9 ?_
  refine J.aload_n (q := 5) O dX7_endPart_4 rfl 0 rfl ?_
  refine J.getI (q := 8) (c' := 45) (ci := 7) (k := 6) (M 45 6) rfl O dX7_endPart_5 rfl wd_1_107 (by decide) if_45_6 ?_
  obtain ⟨hv14, h⟩ := h
  refine J.iald (q := 9) (c' := 50) (j := (M 45 6).toNatClampNeg) (M 50 ((M 45 6).toNatClampNeg)) rfl O dX7_endPart_8 rfl ar_50 hv14 rfl ?_
  refine J.iconst (q := 10) (v := (2 : Int32)) O dX7_endPart_9 rfl rfl ?_
  refine J.irem (q := 11) O dX7_endPart_10 rfl (by decide) ?_
  refine J.iconst (q := 12) (v := (1 : Int32)) O dX7_endPart_11 rfl rfl ?_
  refine J.icmp_ne (q := 15) (tgt := 19) O dX7_endPart_12 rfl (by decide) (fun z15 => ?_) (fun z15 => ?_)
  · replace h := h.1 z15
    refine J.iconst (q := 20) (v := (0 : Int32)) O dX7_endPart_19 rfl rfl ?_
    exact J.sub [0, 1] rfl (j_X7_endPart_b20 hG O hR h)
  · replace h := h.2 z15
    refine J.iconst (q := 16) (v := (1 : Int32)) O dX7_endPart_15 rfl rfl ?_
    refine J.goto (q := 20) O dX7_endPart_16 (by decide) ?_
    exact J.sub [0, 1] rfl (j_X7_endPart_b20 hG O hR h)
set_option maxHeartbeats 4000000 in
set_option maxRecDepth 20000 in
theorem j_X7_readClosings_b52 {X : CX} {G : GX} {K : Mem → Prop} (hG : Gd G) (O : Ok X G cX7_readClosings 3 RX7 2) (hR : RetV X G cX7_readClosings K) {r2 : Int32 × Mem → Prop} (hr2 : ∀ a : Int32 × Mem, r2 a → J X G a.2 2 [(0, .ref (ad G 45)), (1, .int a.1)] []) {x1 : Int32} {s0 : Int32} {M : Mem} (h : f_X7_readClosings_b52 r2 K x1 s0 M) : J X G M 52 [(0, .ref (ad G 45)), (1, .int x1)] [.int s0] := by
  unfold f_X7_readClosings_b52 at h
  refine J.istore_n (q := 53) O dX7_readClosings_52 rfl [(2, .int s0), (0, .ref (ad G 45)), (1, .int x1)] (by decide) rfl ?_
  refine J.aload_n (q := 54) O dX7_readClosings_53 rfl 1 rfl ?_
  refine J.dup (q := 55) O dX7_readClosings_54 rfl rfl ?_
  refine J.getI (q := 58) (c' := 45) (ci := 7) (k := 3) (M 45 3) rfl O dX7_readClosings_55 rfl wd_1_104 (by decide) if_45_3 ?_
  refine J.iconst (q := 59) (v := (1 : Int32)) O dX7_readClosings_58 rfl rfl ?_
  refine J.iadd (q := 60) O dX7_readClosings_59 rfl ?_
  refine J.putI (q := 63) (c' := 45) (ci := 7) (k := 3) O dX7_readClosings_60 rfl wd_1_104 (by decide) if_45_3 rfl rfl ?_
  refine J.aload_n (q := 64) O dX7_readClosings_63 rfl 1 rfl ?_
  refine J.dup (q := 65) O dX7_readClosings_64 rfl rfl ?_
  refine J.getI (q := 68) (c' := 45) (ci := 7) (k := 5) (M 45 5) rfl O dX7_readClosings_65 rfl wd_1_106 (by decide) if_45_5 ?_
  refine J.iconst (q := 69) (v := (1 : Int32)) O dX7_readClosings_68 rfl rfl ?_
  refine J.isub (q := 70) O dX7_readClosings_69 rfl ?_
  refine J.putI (q := 73) (c' := 45) (ci := 7) (k := 5) O dX7_readClosings_70 rfl wd_1_106 (by decide) if_45_5 rfl rfl ?_
  refine J.aload_n (q := 74) O dX7_readClosings_73 rfl 1 rfl ?_
  refine J.dup (q := 75) O dX7_readClosings_74 rfl rfl ?_
  refine J.getI (q := 78) (c' := 45) (ci := 7) (k := 6) (M 45 6) rfl O dX7_readClosings_75 rfl wd_1_107 (by decide) if_45_6 ?_
  refine J.iconst (q := 79) (v := (1 : Int32)) O dX7_readClosings_78 rfl rfl ?_
  refine J.isub (q := 80) O dX7_readClosings_79 rfl ?_
  refine J.putI (q := 83) (c' := 45) (ci := 7) (k := 6) O dX7_readClosings_80 rfl wd_1_107 (by decide) if_45_6 rfl rfl ?_
  refine J.aload_n (q := 84) O dX7_readClosings_83 rfl 1 rfl ?_
  refine J.iload_n (q := 85) O dX7_readClosings_84 rfl 0 rfl ?_
  refine J.callVV (q := 88) [.int s0] [] [.int s0, .ref (ad G 45)] rfl O dX7_readClosings_85 rfl (c_X7_endPart hG h) wd_3_99 mw_X7_endPart io_45 rfl (by decide) (Nat.le_of_ble_eq_true rfl) (fun M3 h => ?_)
  refine J.iinc (q := 91) O dX7_readClosings_88 rfl [(1, .int (x1 + (1 : Int32))), (2, .int s0), (0, .ref (ad G 45))] 2 rfl rfl (by decide) rfl ?_
  refine J.goto (q := 2) O dX7_readClosings_91 (by decide) ?_
  exact J.sub [2, 0] rfl (hr2 _ h)
set_option maxHeartbeats 4000000 in
set_option maxRecDepth 20000 in
theorem j_X7_readClosings_b47 {X : CX} {G : GX} {K : Mem → Prop} (hG : Gd G) (O : Ok X G cX7_readClosings 3 RX7 2) (hR : RetV X G cX7_readClosings K) {r2 : Int32 × Mem → Prop} (hr2 : ∀ a : Int32 × Mem, r2 a → J X G a.2 2 [(0, .ref (ad G 45)), (1, .int a.1)] []) {x1 : Int32} {M : Mem} (h : f_X7_readClosings_b47 r2 K x1 M) : J X G M 47 [(0, .ref (ad G 45)), (1, .int x1)] [] := by
  unfold f_X7_readClosings_b47 at h
  refine J.iconst (q := 48) (v := (1 : Int32)) O dX7_readClosings_47 rfl rfl ?_
  refine J.goto (q := 52) O dX7_readClosings_48 (by decide) ?_
  exact J.sub [0, 1] rfl (j_X7_readClosings_b52 hG O hR hr2 h)
set_option maxHeartbeats 4000000 in
set_option maxRecDepth 20000 in
theorem j_X7_readClosings_c2 {X : CX} {G : GX} {K : Mem → Prop} (hG : Gd G) (O : Ok X G cX7_readClosings 3 RX7 2) (hR : RetV X G cX7_readClosings K) {a : Int32 × Mem} (h : Lp (fun (r2 : Int32 × Mem → Prop) a => f_X7_readClosings_c2 K r2 a.1 a.2) a) : J X G a.2 2 [(0, .ref (ad G 45)), (1, .int a.1)] [] := by
  refine Lp.elim (P := fun a => J X G a.2 2 [(0, .ref (ad G 45)), (1, .int a.1)] []) ?_ h
  clear h
  intro r2 hr2 a h
  obtain ⟨x1, M⟩ := a
  unfold f_X7_readClosings_c2 at h
  (try dsimp only at h ⊢)
  refine J.iload_n (q := 3) O dX7_readClosings_2 rfl 1 rfl ?_
  refine J.iconst (q := 4) (v := (5 : Int32)) O dX7_readClosings_3 rfl rfl ?_
  refine J.icmp_ge (q := 7) (tgt := 94) O dX7_readClosings_4 rfl (by decide) (fun z4 => ?_) (fun z4 => ?_)
  · replace h := h.1 z4
    exact hR _ _ _ dX7_readClosings_94 h
  · replace h := h.2 z4
    refine J.aload_n (q := 8) O dX7_readClosings_7 rfl 0 rfl ?_
    refine J.getI (q := 11) (c' := 45) (ci := 7) (k := 6) (M 45 6) rfl O dX7_readClosings_8 rfl wd_1_107 (by decide) if_45_6 ?_
    refine J.if_le (q := 14) (tgt := 94) O dX7_readClosings_11 rfl (by decide) (fun z5 => ?_) (fun z5 => ?_)
    · replace h := h.1 z5
      exact hR _ _ _ dX7_readClosings_94 h
    · replace h := h.2 z5
      refine J.aload_n (q := 15) O dX7_readClosings_14 rfl 0 rfl ?_
      refine J.callVI (q := 18) [] [] [.ref (ad G 45)] rfl O dX7_readClosings_15 rfl (c_X7_sign hG h) wd_3_68 mw_X7_sign io_45 rfl (by decide) (Nat.le_of_ble_eq_true rfl) (fun v6 M6 h => ?_)
      refine J.bipush (q := 20) (v := (41 : Int32)) O dX7_readClosings_18 rfl rfl ?_
      refine J.icmp_ne (q := 23) (tgt := 94) O dX7_readClosings_20 rfl (by decide) (fun z7 => ?_) (fun z7 => ?_)
      · replace h := h.1 z7
        exact hR _ _ _ dX7_readClosings_94 h
      · replace h := h.2 z7
        refine J.aload_n (q := 24) O dX7_readClosings_23 rfl 0 rfl ?_
        refine J.getR (q := 27) (c' := 45) (ci := 7) (k := 7) (r := 48) O dX7_readClosings_24 rfl wd_1_108 (by decide) if_45_7 ?_
        refine J.aload_n (q := 28) O dX7_readClosings_27 rfl 0 rfl ?_
        refine J.getI (q := 31) (c' := 45) (ci := 7) (k := 6) (M6 45 6) rfl O dX7_readClosings_28 rfl wd_1_107 (by decide) if_45_6 ?_
        obtain ⟨hv8, h⟩ := h
        refine J.zald (q := 32) (c' := 48) (j := (M6 45 6).toNatClampNeg) (M6 48 ((M6 45 6).toNatClampNeg)) rfl O dX7_readClosings_31 rfl ar_48 hv8 rfl ?_
        refine J.if_ne (q := 35) (tgt := 47) O dX7_readClosings_32 rfl (by decide) (fun z9 => ?_) (fun z9 => ?_)
        · replace h := h.1 z9
          exact J.sub [0, 1] rfl (j_X7_readClosings_b47 hG O hR hr2 h)
        · replace h := h.2 z9
          refine J.aload_n (q := 36) O dX7_readClosings_35 rfl 0 rfl ?_
          refine J.getR (q := 39) (c' := 45) (ci := 7) (k := 8) (r := 49) O dX7_readClosings_36 rfl wd_1_109 (by decide) if_45_8 ?_
          refine J.aload_n (q := 40) O dX7_readClosings_39 rfl 0 rfl ?_
          refine J.getI (q := 43) (c' := 45) (ci := 7) (k := 6) (M6 45 6) rfl O dX7_readClosings_40 rfl wd_1_107 (by decide) if_45_6 ?_
          obtain ⟨hv10, h⟩ := h
          refine J.zald (q := 44) (c' := 49) (j := (M6 45 6).toNatClampNeg) (M6 49 ((M6 45 6).toNatClampNeg)) rfl O dX7_readClosings_43 rfl ar_49 hv10 rfl ?_
          refine J.if_eq (q := 47) (tgt := 51) O dX7_readClosings_44 rfl (by decide) (fun z11 => ?_) (fun z11 => ?_)
          · replace h := h.1 z11
            refine J.iconst (q := 52) (v := (0 : Int32)) O dX7_readClosings_51 rfl rfl ?_
            exact J.sub [0, 1] rfl (j_X7_readClosings_b52 hG O hR hr2 h)
          · replace h := h.2 z11
            exact J.sub [0, 1] rfl (j_X7_readClosings_b47 hG O hR hr2 h)
set_option maxHeartbeats 4000000 in
set_option maxRecDepth 20000 in
theorem c_X7_readClosings {l : Launch} {G : GX} (hG : Gd G) {M : Mem} {K : Mem → Prop} (h : f_X7_readClosings  M K) : CV l G yX7_readClosings cX7_readClosings 3 2 [.ref (ad G 45)] M K := by
  unfold f_X7_readClosings at h
  refine CV.mk hG (by decide) [(0, .ref (ad G 45))] rfl (Nat.le_of_ble_eq_true rfl) (fun X O hlX hR => ?_)
  subst hlX
  refine J.iconst (q := 1) (v := (0 : Int32)) O dX7_readClosings_0 rfl rfl ?_
  refine J.istore_n (q := 2) O dX7_readClosings_1 rfl [(1, .int (0 : Int32)), (0, .ref (ad G 45))] (by decide) rfl ?_
  exact J.sub [1, 0] rfl (j_X7_readClosings_c2 hG O hR h)
set_option maxHeartbeats 4000000 in
set_option maxRecDepth 20000 in
theorem j_X7_joinsNext_b83 {X : CX} {G : GX} {K : Int32 → Mem → Prop} (hG : Gd G) (O : Ok X G cX7_joinsNext 2 RX7 2) (hR : RetZ X G cX7_joinsNext K) {M : Mem} (h : f_X7_joinsNext_b83 K  M) : J X G M 83 [] [] := by
  unfold f_X7_joinsNext_b83 at h
  refine J.iconst (q := 84) (v := (1 : Int32)) O dX7_joinsNext_83 rfl rfl ?_
  exact hR _ _ _ _ dX7_joinsNext_84 (Or.inr rfl) h
set_option maxHeartbeats 4000000 in
set_option maxRecDepth 20000 in
theorem j_X7_joinsNext_b72 {X : CX} {G : GX} {K : Int32 → Mem → Prop} (hG : Gd G) (O : Ok X G cX7_joinsNext 2 RX7 2) (hR : RetZ X G cX7_joinsNext K) {s0 : Int32} {s1 : Int32} {M : Mem} (h : f_X7_joinsNext_b72 K s0 s1 M) : J X G M 72 [(0, .ref (ad G 45))] [.int s0, .int s1, .ref (ad G 48)] := by
  unfold f_X7_joinsNext_b72 at h
  obtain ⟨hv6, h⟩ := h
  obtain ⟨hb7, h⟩ := h
  refine J.zast (q := 73) (c' := 48) (j := s1.toNatClampNeg) O dX7_joinsNext_72 rfl ar_48 hv6 rfl hb7 ?_
  refine J.aload_n (q := 74) O dX7_joinsNext_73 rfl 0 rfl ?_
  refine J.getR (q := 77) (c' := 45) (ci := 7) (k := 8) (r := 49) O dX7_joinsNext_74 rfl wd_1_109 (by decide) if_45_8 ?_
  refine J.aload_n (q := 78) O dX7_joinsNext_77 rfl 0 rfl ?_
  refine J.getI (q := 81) (c' := 45) (ci := 7) (k := 6) (M 45 6) rfl O dX7_joinsNext_78 rfl wd_1_107 (by decide) if_45_6 ?_
  refine J.iconst (q := 82) (v := (1 : Int32)) O dX7_joinsNext_81 rfl rfl ?_
  obtain ⟨hv8, h⟩ := h
  refine J.zast (q := 83) (c' := 49) (j := (M 45 6).toNatClampNeg) O dX7_joinsNext_82 rfl ar_49 hv8 rfl (Or.inr rfl) ?_
  exact J.sub [] rfl (j_X7_joinsNext_b83 hG O hR h)
set_option maxHeartbeats 4000000 in
set_option maxRecDepth 20000 in
theorem j_X7_joinsNext_b67 {X : CX} {G : GX} {K : Int32 → Mem → Prop} (hG : Gd G) (O : Ok X G cX7_joinsNext 2 RX7 2) (hR : RetZ X G cX7_joinsNext K) {s0 : Int32} {M : Mem} (h : f_X7_joinsNext_b67 K s0 M) : J X G M 67 [(0, .ref (ad G 45))] [.int s0, .ref (ad G 48)] := by
  unfold f_X7_joinsNext_b67 at h
  refine J.iconst (q := 68) (v := (1 : Int32)) O dX7_joinsNext_67 rfl rfl ?_
  refine J.goto (q := 72) O dX7_joinsNext_68 (by decide) ?_
  exact J.sub [0] rfl (j_X7_joinsNext_b72 hG O hR h)
set_option maxHeartbeats 4000000 in
set_option maxRecDepth 20000 in
theorem j_X7_joinsNext_b19 {X : CX} {G : GX} {K : Int32 → Mem → Prop} (hG : Gd G) (O : Ok X G cX7_joinsNext 2 RX7 2) (hR : RetZ X G cX7_joinsNext K) {x1 : Int32} {M : Mem} (h : f_X7_joinsNext_b19 K x1 M) : J X G M 19 [(0, .ref (ad G 45)), (1, .int x1)] [] := by
  unfold f_X7_joinsNext_b19 at h
  refine J.aload_n (q := 20) O dX7_joinsNext_19 rfl 0 rfl ?_
  refine J.dup (q := 21) O dX7_joinsNext_20 rfl rfl ?_
  refine J.getI (q := 24) (c' := 45) (ci := 7) (k := 3) (M 45 3) rfl O dX7_joinsNext_21 rfl wd_1_104 (by decide) if_45_3 ?_
  refine J.iconst (q := 25) (v := (1 : Int32)) O dX7_joinsNext_24 rfl rfl ?_
  refine J.iadd (q := 26) O dX7_joinsNext_25 rfl ?_
  refine J.putI (q := 29) (c' := 45) (ci := 7) (k := 3) O dX7_joinsNext_26 rfl wd_1_104 (by decide) if_45_3 rfl rfl ?_
  refine J.iload_n (q := 30) O dX7_joinsNext_29 rfl 1 rfl ?_
  refine J.bipush (q := 32) (v := (124 : Int32)) O dX7_joinsNext_30 rfl rfl ?_
  refine J.icmp_ne (q := 35) (tgt := 83) O dX7_joinsNext_32 rfl (by decide) (fun z9 => ?_) (fun z9 => ?_)
  · replace h := h.1 z9
    exact J.sub [] rfl (j_X7_joinsNext_b83 hG O hR h)
  · replace h := h.2 z9
    refine J.aload_n (q := 36) O dX7_joinsNext_35 rfl 0 rfl ?_
    refine J.getR (q := 39) (c' := 45) (ci := 7) (k := 7) (r := 48) O dX7_joinsNext_36 rfl wd_1_108 (by decide) if_45_7 ?_
    refine J.aload_n (q := 40) O dX7_joinsNext_39 rfl 0 rfl ?_
    refine J.getI (q := 43) (c' := 45) (ci := 7) (k := 6) (M 45 6) rfl O dX7_joinsNext_40 rfl wd_1_107 (by decide) if_45_6 ?_
    refine J.aload_n (q := 44) O dX7_joinsNext_43 rfl 0 rfl ?_
    refine J.getR (q := 47) (c' := 45) (ci := 7) (k := 7) (r := 48) O dX7_joinsNext_44 rfl wd_1_108 (by decide) if_45_7 ?_
    refine J.aload_n (q := 48) O dX7_joinsNext_47 rfl 0 rfl ?_
    refine J.getI (q := 51) (c' := 45) (ci := 7) (k := 6) (M 45 6) rfl O dX7_joinsNext_48 rfl wd_1_107 (by decide) if_45_6 ?_
    obtain ⟨hv10, h⟩ := h
    refine J.zald (q := 52) (c' := 48) (j := (M 45 6).toNatClampNeg) (M 48 ((M 45 6).toNatClampNeg)) rfl O dX7_joinsNext_51 rfl ar_48 hv10 rfl ?_
    refine J.if_ne (q := 55) (tgt := 67) O dX7_joinsNext_52 rfl (by decide) (fun z11 => ?_) (fun z11 => ?_)
    · replace h := h.1 z11
      exact J.sub [0] rfl (j_X7_joinsNext_b67 hG O hR h)
    · replace h := h.2 z11
      refine J.aload_n (q := 56) O dX7_joinsNext_55 rfl 0 rfl ?_
      refine J.getR (q := 59) (c' := 45) (ci := 7) (k := 8) (r := 49) O dX7_joinsNext_56 rfl wd_1_109 (by decide) if_45_8 ?_
      refine J.aload_n (q := 60) O dX7_joinsNext_59 rfl 0 rfl ?_
      refine J.getI (q := 63) (c' := 45) (ci := 7) (k := 6) (M 45 6) rfl O dX7_joinsNext_60 rfl wd_1_107 (by decide) if_45_6 ?_
      obtain ⟨hv12, h⟩ := h
      refine J.zald (q := 64) (c' := 49) (j := (M 45 6).toNatClampNeg) (M 49 ((M 45 6).toNatClampNeg)) rfl O dX7_joinsNext_63 rfl ar_49 hv12 rfl ?_
      refine J.if_eq (q := 67) (tgt := 71) O dX7_joinsNext_64 rfl (by decide) (fun z13 => ?_) (fun z13 => ?_)
      · replace h := h.1 z13
        refine J.iconst (q := 72) (v := (0 : Int32)) O dX7_joinsNext_71 rfl rfl ?_
        exact J.sub [0] rfl (j_X7_joinsNext_b72 hG O hR h)
      · replace h := h.2 z13
        exact J.sub [0] rfl (j_X7_joinsNext_b67 hG O hR h)
set_option maxHeartbeats 4000000 in
set_option maxRecDepth 20000 in
theorem c_X7_joinsNext {l : Launch} {G : GX} (hG : Gd G) {M : Mem} {K : Int32 → Mem → Prop} (h : f_X7_joinsNext  M K) : CI l G yX7_joinsNext cX7_joinsNext 2 (some .boolean) 2 [.ref (ad G 45)] M K := by
  unfold f_X7_joinsNext at h
  refine CZ.mk hG (by decide) [(0, .ref (ad G 45))] rfl (Nat.le_of_ble_eq_true rfl) (fun X O hlX hR => ?_)
  subst hlX
  refine J.aload_n (q := 1) O dX7_joinsNext_0 rfl 0 rfl ?_
  refine J.callVI (q := 4) [] [] [.ref (ad G 45)] rfl O dX7_joinsNext_1 rfl (c_X7_sign hG h) wd_3_68 mw_X7_sign io_45 rfl (by decide) (Nat.le_of_ble_eq_true rfl) (fun v14 M14 h => ?_)
  refine J.istore_n (q := 5) O dX7_joinsNext_4 rfl [(1, .int v14), (0, .ref (ad G 45))] (by decide) rfl ?_
  refine J.iload_n (q := 6) O dX7_joinsNext_5 rfl 0 rfl ?_
  refine J.bipush (q := 8) (v := (38 : Int32)) O dX7_joinsNext_6 rfl rfl ?_
  refine J.icmp_eq (q := 11) (tgt := 19) O dX7_joinsNext_8 rfl (by decide) (fun z15 => ?_) (fun z15 => ?_)
  · replace h := h.1 z15
    exact J.sub [1, 0] rfl (j_X7_joinsNext_b19 hG O hR h)
  · replace h := h.2 z15
    refine J.iload_n (q := 12) O dX7_joinsNext_11 rfl 0 rfl ?_
    refine J.bipush (q := 14) (v := (124 : Int32)) O dX7_joinsNext_12 rfl rfl ?_
    refine J.icmp_eq (q := 17) (tgt := 19) O dX7_joinsNext_14 rfl (by decide) (fun z16 => ?_) (fun z16 => ?_)
    · replace h := h.1 z16
      exact J.sub [1, 0] rfl (j_X7_joinsNext_b19 hG O hR h)
    · replace h := h.2 z16
      refine J.iconst (q := 18) (v := (0 : Int32)) O dX7_joinsNext_17 rfl rfl ?_
      exact hR _ _ _ _ dX7_joinsNext_18 (Or.inl rfl) h
set_option maxHeartbeats 4000000 in
set_option maxRecDepth 20000 in
theorem j_X7_ruleHolds_b75 {X : CX} {G : GX} {K : Int32 → Mem → Prop} (hG : Gd G) (O : Ok X G cX7_ruleHolds 3 RX7 5) (hR : RetZ X G cX7_ruleHolds K) {s0 : Int32} {M : Mem} (h : f_X7_ruleHolds_b75 K s0 M) : J X G M 75 [] [.int s0] := by
  unfold f_X7_ruleHolds_b75 at h
  exact hR _ _ _ _ dX7_ruleHolds_75 h.1 h.2
set_option maxHeartbeats 4000000 in
set_option maxRecDepth 20000 in
theorem j_X7_ruleHolds_b70 {X : CX} {G : GX} {K : Int32 → Mem → Prop} (hG : Gd G) (O : Ok X G cX7_ruleHolds 3 RX7 5) (hR : RetZ X G cX7_ruleHolds K) {M : Mem} (h : f_X7_ruleHolds_b70 K  M) : J X G M 70 [] [] := by
  unfold f_X7_ruleHolds_b70 at h
  refine J.iconst (q := 71) (v := (1 : Int32)) O dX7_ruleHolds_70 rfl rfl ?_
  refine J.goto (q := 75) O dX7_ruleHolds_71 (by decide) ?_
  exact J.sub [] rfl (j_X7_ruleHolds_b75 hG O hR h)
set_option maxHeartbeats 4000000 in
set_option maxRecDepth 20000 in
theorem j_X7_ruleHolds_b52 {X : CX} {G : GX} {K : Int32 → Mem → Prop} (hG : Gd G) (O : Ok X G cX7_ruleHolds 3 RX7 5) (hR : RetZ X G cX7_ruleHolds K) {M : Mem} (h : f_X7_ruleHolds_b52 K  M) : J X G M 52 [(0, .ref (ad G 45))] [] := by
  unfold f_X7_ruleHolds_b52 at h
  refine J.aload_n (q := 53) O dX7_ruleHolds_52 rfl 0 rfl ?_
  refine J.getR (q := 56) (c' := 45) (ci := 7) (k := 7) (r := 48) O dX7_ruleHolds_53 rfl wd_1_108 (by decide) if_45_7 ?_
  refine J.iconst (q := 57) (v := (0 : Int32)) O dX7_ruleHolds_56 rfl rfl ?_
  refine J.zald (q := 58) (c' := 48) (j := 0) (M 48 0) rfl O dX7_ruleHolds_57 rfl ar_48 (vin_lit (by decide)) (by decide) ?_
  refine J.if_ne (q := 61) (tgt := 70) O dX7_ruleHolds_58 rfl (by decide) (fun z2 => ?_) (fun z2 => ?_)
  · replace h := h.1 z2
    exact J.sub [] rfl (j_X7_ruleHolds_b70 hG O hR h)
  · replace h := h.2 z2
    refine J.aload_n (q := 62) O dX7_ruleHolds_61 rfl 0 rfl ?_
    refine J.getR (q := 65) (c' := 45) (ci := 7) (k := 8) (r := 49) O dX7_ruleHolds_62 rfl wd_1_109 (by decide) if_45_8 ?_
    refine J.iconst (q := 66) (v := (0 : Int32)) O dX7_ruleHolds_65 rfl rfl ?_
    refine J.zald (q := 67) (c' := 49) (j := 0) (M 49 0) rfl O dX7_ruleHolds_66 rfl ar_49 (vin_lit (by decide)) (by decide) ?_
    refine J.if_eq (q := 70) (tgt := 74) O dX7_ruleHolds_67 rfl (by decide) (fun z3 => ?_) (fun z3 => ?_)
    · replace h := h.1 z3
      refine J.iconst (q := 75) (v := (0 : Int32)) O dX7_ruleHolds_74 rfl rfl ?_
      exact J.sub [] rfl (j_X7_ruleHolds_b75 hG O hR h)
    · replace h := h.2 z3
      exact J.sub [] rfl (j_X7_ruleHolds_b70 hG O hR h)
set_option maxHeartbeats 4000000 in
set_option maxRecDepth 20000 in
theorem j_X7_ruleHolds_b41 {X : CX} {G : GX} {K : Int32 → Mem → Prop} (hG : Gd G) (O : Ok X G cX7_ruleHolds 3 RX7 5) (hR : RetZ X G cX7_ruleHolds K) {M : Mem} (h : f_X7_ruleHolds_b41 K  M) : J X G M 41 [(0, .ref (ad G 45))] [] := by
  unfold f_X7_ruleHolds_b41 at h
  refine J.aload_n (q := 42) O dX7_ruleHolds_41 rfl 0 rfl ?_
  refine J.getI (q := 45) (c' := 45) (ci := 7) (k := 6) (M 45 6) rfl O dX7_ruleHolds_42 rfl wd_1_107 (by decide) if_45_6 ?_
  refine J.if_le (q := 48) (tgt := 52) O dX7_ruleHolds_45 rfl (by decide) (fun z4 => ?_) (fun z4 => ?_)
  · replace h := h.1 z4
    exact J.sub [0] rfl (j_X7_ruleHolds_b52 hG O hR h)
  · replace h := h.2 z4
    refine J.aload_n (q := 49) O dX7_ruleHolds_48 rfl 0 rfl ?_
    refine J.callVV (q := 52) [] [] [.ref (ad G 45)] rfl O dX7_ruleHolds_49 rfl (c_X7_fail hG h) wd_3_72 mw_X7_fail io_45 rfl (by decide) (Nat.le_of_ble_eq_true rfl) (fun M5 h => ?_)
    exact J.sub [0] rfl (j_X7_ruleHolds_b52 hG O hR h)
set_option maxHeartbeats 4000000 in
set_option maxRecDepth 20000 in
theorem j_X7_ruleHolds_c4 {X : CX} {G : GX} {K : Int32 → Mem → Prop} (hG : Gd G) (O : Ok X G cX7_ruleHolds 3 RX7 5) (hR : RetZ X G cX7_ruleHolds K) {a : Int32 × Int32 × Mem} (h : Lp (fun (r4 : Int32 × Int32 × Mem → Prop) a => f_X7_ruleHolds_c4 K r4 a.1 a.2.1 a.2.2) a) : J X G a.2.2 4 [(0, .ref (ad G 45)), (1, .int a.1), (2, .int a.2.1)] [] := by
  refine Lp.elim (P := fun a => J X G a.2.2 4 [(0, .ref (ad G 45)), (1, .int a.1), (2, .int a.2.1)] []) ?_ h
  clear h
  intro r4 hr4 a h
  obtain ⟨x1, x2, M⟩ := a
  unfold f_X7_ruleHolds_c4 at h
  (try dsimp only at h ⊢)
  refine J.iload_n (q := 5) O dX7_ruleHolds_4 rfl 2 rfl ?_
  refine J.bipush (q := 7) (v := (60 : Int32)) O dX7_ruleHolds_5 rfl rfl ?_
  refine J.icmp_gt (q := 10) (tgt := 41) O dX7_ruleHolds_7 rfl (by decide) (fun z6 => ?_) (fun z6 => ?_)
  · replace h := h.1 z6
    exact J.sub [0] rfl (j_X7_ruleHolds_b41 hG O hR h)
  · replace h := h.2 z6
    refine J.iload_n (q := 11) O dX7_ruleHolds_10 rfl 1 rfl ?_
    refine J.if_eq (q := 14) (tgt := 41) O dX7_ruleHolds_11 rfl (by decide) (fun z7 => ?_) (fun z7 => ?_)
    · replace h := h.1 z7
      exact J.sub [0] rfl (j_X7_ruleHolds_b41 hG O hR h)
    · replace h := h.2 z7
      refine J.aload_n (q := 15) O dX7_ruleHolds_14 rfl 0 rfl ?_
      refine J.callVV (q := 18) [] [] [.ref (ad G 45)] rfl O dX7_ruleHolds_15 rfl (c_X7_readOpenings hG h) wd_3_80 mw_X7_readOpenings io_45 rfl (by decide) (Nat.le_of_ble_eq_true rfl) (fun M8 h => ?_)
      refine J.aload_n (q := 19) O dX7_ruleHolds_18 rfl 0 rfl ?_
      refine J.aload_n (q := 20) O dX7_ruleHolds_19 rfl 0 rfl ?_
      refine J.callVI (q := 23) [] [.ref (ad G 45)] [.ref (ad G 45), .ref (ad G 45)] rfl O dX7_ruleHolds_20 rfl (c_X7_comparisonHolds hG h) wd_3_84 mw_X7_comparisonHolds io_45 rfl (by decide) (Nat.le_of_ble_eq_true rfl) (fun v9 M9 h => ?_)
      refine J.callVV (q := 26) [.int v9] [] [.int v9, .ref (ad G 45)] rfl O dX7_ruleHolds_23 rfl (c_X7_endPart hG h) wd_3_99 mw_X7_endPart io_45 rfl (by decide) (Nat.le_of_ble_eq_true rfl) (fun M10 h => ?_)
      refine J.aload_n (q := 27) O dX7_ruleHolds_26 rfl 0 rfl ?_
      refine J.callVV (q := 30) [] [] [.ref (ad G 45)] rfl O dX7_ruleHolds_27 rfl (c_X7_readClosings hG h) wd_3_103 mw_X7_readClosings io_45 rfl (by decide) (Nat.le_of_ble_eq_true rfl) (fun M11 h => ?_)
      refine J.aload_n (q := 31) O dX7_ruleHolds_30 rfl 0 rfl ?_
      refine J.callVI (q := 34) [] [] [.ref (ad G 45)] rfl O dX7_ruleHolds_31 rfl (c_X7_joinsNext hG h) wd_3_107 mw_X7_joinsNext io_45 rfl (by decide) (Nat.le_of_ble_eq_true rfl) (fun v12 M12 h => ?_)
      refine J.istore_n (q := 35) O dX7_ruleHolds_34 rfl [(1, .int v12), (0, .ref (ad G 45)), (2, .int x2)] (by decide) rfl ?_
      refine J.iinc (q := 38) O dX7_ruleHolds_35 rfl [(2, .int (x2 + (1 : Int32))), (1, .int v12), (0, .ref (ad G 45))] 2 rfl rfl (by decide) rfl ?_
      refine J.goto (q := 4) O dX7_ruleHolds_38 (by decide) ?_
      exact J.sub [2, 1, 0] rfl (hr4 _ h)
set_option maxHeartbeats 4000000 in
set_option maxRecDepth 20000 in
theorem c_X7_ruleHolds {l : Launch} {G : GX} (hG : Gd G) {M : Mem} {K : Int32 → Mem → Prop} (h : f_X7_ruleHolds  M K) : CI l G yX7_ruleHolds cX7_ruleHolds 3 (some .boolean) 5 [.ref (ad G 45)] M K := by
  unfold f_X7_ruleHolds at h
  refine CZ.mk hG (by decide) [(0, .ref (ad G 45))] rfl (Nat.le_of_ble_eq_true rfl) (fun X O hlX hR => ?_)
  subst hlX
  refine J.iconst (q := 1) (v := (1 : Int32)) O dX7_ruleHolds_0 rfl rfl ?_
  refine J.istore_n (q := 2) O dX7_ruleHolds_1 rfl [(1, .int (1 : Int32)), (0, .ref (ad G 45))] (by decide) rfl ?_
  refine J.iconst (q := 3) (v := (0 : Int32)) O dX7_ruleHolds_2 rfl rfl ?_
  refine J.istore_n (q := 4) O dX7_ruleHolds_3 rfl [(2, .int (0 : Int32)), (1, .int (1 : Int32)), (0, .ref (ad G 45))] (by decide) rfl ?_
  exact J.sub [2, 1, 0] rfl (j_X7_ruleHolds_c4 hG O hR h)
set_option maxHeartbeats 4000000 in
set_option maxRecDepth 20000 in
theorem j_X7_faultOf_b51 {X : CX} {G : GX} {K : Int32 → Mem → Prop} (hG : Gd G) (O : Ok X G cX7_faultOf 3 RX7 6) (hR : RetI X G cX7_faultOf K) {M : Mem} (h : f_X7_faultOf_b51 K  M) : J X G M 51 [(0, .ref (ad G 45))] [] := by
  unfold f_X7_faultOf_b51 at h
  refine J.aload_n (q := 52) O dX7_faultOf_51 rfl 0 rfl ?_
  refine J.getI (q := 55) (c' := 45) (ci := 7) (k := 4) (M 45 4) rfl O dX7_faultOf_52 rfl wd_1_105 (by decide) if_45_4 ?_
  exact hR _ _ _ _ dX7_faultOf_55 h
set_option maxHeartbeats 4000000 in
set_option maxRecDepth 20000 in
theorem c_X7_faultOf {l : Launch} {G : GX} (hG : Gd G) {tx : Nat} {a2 : Int32} {M : Mem} {K : Int32 → Mem → Prop} (h : f_X7_faultOf tx a2 M K) : CI l G yX7_faultOf cX7_faultOf 3 (some .int) 6 [.ref (ad G 45), .ref (ad G tx), .int a2] M K := by
  unfold f_X7_faultOf at h
  obtain ⟨htx, h⟩ := h
  refine CI.mk hG (by decide) [(0, .ref (ad G 45)), (1, .ref (ad G tx)), (2, .int a2)] rfl (Nat.le_of_ble_eq_true rfl) (fun X O hlX hR => ?_)
  subst hlX
  refine J.aload_n (q := 1) O dX7_faultOf_0 rfl 0 rfl ?_
  refine J.aload_n (q := 2) O dX7_faultOf_1 rfl 1 rfl ?_
  refine J.iload_n (q := 3) O dX7_faultOf_2 rfl 2 rfl ?_
  refine J.iconst (q := 4) (v := (0 : Int32)) O dX7_faultOf_3 rfl rfl ?_
  refine J.callVV (q := 7) [.ref (ad G tx), .int a2, .int (0 : Int32)] [] [.int (0 : Int32), .int a2, .ref (ad G tx), .ref (ad G 45)] rfl O dX7_faultOf_4 rfl (c_X7_begin hG h) wd_3_55 mw_X7_begin io_45 rfl (by decide) (Nat.le_of_ble_eq_true rfl) (fun M1 h => ?_)
  refine J.aload_n (q := 8) O dX7_faultOf_7 rfl 0 rfl ?_
  refine J.bipush (q := 10) (v := (65 : Int32)) O dX7_faultOf_8 rfl rfl ?_
  refine J.bipush (q := 12) (v := (72 : Int32)) O dX7_faultOf_10 rfl rfl ?_
  refine J.callVV (q := 15) [.int (65 : Int32), .int (72 : Int32)] [] [.int (72 : Int32), .int (65 : Int32), .ref (ad G 45)] rfl O dX7_faultOf_12 rfl (c_X7_expect hG h) wd_3_64 mw_X7_expect io_45 rfl (by decide) (Nat.le_of_ble_eq_true rfl) (fun M2 h => ?_)
  refine J.aload_n (q := 16) O dX7_faultOf_15 rfl 0 rfl ?_
  refine J.bipush (q := 18) (v := (48 : Int32)) O dX7_faultOf_16 rfl rfl ?_
  refine J.bipush (q := 20) (v := (52 : Int32)) O dX7_faultOf_18 rfl rfl ?_
  refine J.callVV (q := 23) [.int (48 : Int32), .int (52 : Int32)] [] [.int (52 : Int32), .int (48 : Int32), .ref (ad G 45)] rfl O dX7_faultOf_20 rfl (c_X7_expect hG h) wd_3_64 mw_X7_expect io_45 rfl (by decide) (Nat.le_of_ble_eq_true rfl) (fun M3 h => ?_)
  refine J.aload_n (q := 24) O dX7_faultOf_23 rfl 0 rfl ?_
  refine J.bipush (q := 26) (v := (58 : Int32)) O dX7_faultOf_24 rfl rfl ?_
  refine J.bipush (q := 28) (v := (58 : Int32)) O dX7_faultOf_26 rfl rfl ?_
  refine J.callVV (q := 31) [.int (58 : Int32), .int (58 : Int32)] [] [.int (58 : Int32), .int (58 : Int32), .ref (ad G 45)] rfl O dX7_faultOf_28 rfl (c_X7_expect hG h) wd_3_64 mw_X7_expect io_45 rfl (by decide) (Nat.le_of_ble_eq_true rfl) (fun M4 h => ?_)
  refine J.aload_n (q := 32) O dX7_faultOf_31 rfl 0 rfl ?_
  refine J.callVI (q := 35) [] [] [.ref (ad G 45)] rfl O dX7_faultOf_32 rfl (c_X7_ruleHolds hG h) wd_3_76 mw_X7_ruleHolds io_45 rfl (by decide) (Nat.le_of_ble_eq_true rfl) (fun v5 M5 h => ?_)
  refine J.pop (q := 36) O dX7_faultOf_35 rfl rfl ?_
  refine J.aload_n (q := 37) O dX7_faultOf_36 rfl 0 rfl ?_
  refine J.getI (q := 40) (c' := 45) (ci := 7) (k := 3) (M5 45 3) rfl O dX7_faultOf_37 rfl wd_1_104 (by decide) if_45_3 ?_
  refine J.aload_n (q := 41) O dX7_faultOf_40 rfl 0 rfl ?_
  refine J.getI (q := 44) (c' := 45) (ci := 7) (k := 2) (M5 45 2) rfl O dX7_faultOf_41 rfl wd_1_103 (by decide) if_45_2 ?_
  refine J.icmp_ge (q := 47) (tgt := 51) O dX7_faultOf_44 rfl (by decide) (fun z6 => ?_) (fun z6 => ?_)
  · replace h := h.1 z6
    exact J.sub [0] rfl (j_X7_faultOf_b51 hG O hR h)
  · replace h := h.2 z6
    refine J.aload_n (q := 48) O dX7_faultOf_47 rfl 0 rfl ?_
    refine J.callVV (q := 51) [] [] [.ref (ad G 45)] rfl O dX7_faultOf_48 rfl (c_X7_fail hG h) wd_3_72 mw_X7_fail io_45 rfl (by decide) (Nat.le_of_ble_eq_true rfl) (fun M7 h => ?_)
    exact J.sub [0] rfl (j_X7_faultOf_b51 hG O hR h)
set_option maxHeartbeats 4000000 in
set_option maxRecDepth 20000 in
theorem c_X0_faultOfText {l : Launch} {G : GX} (hG : Gd G) {M : Mem} {K : Int32 → Mem → Prop} (h : f_X0_faultOfText  M K) : CI l G yX0_faultOfText cX0_faultOfText 1 (some .int) 7 [.ref (ad G 15)] M K := by
  unfold f_X0_faultOfText at h
  refine CI.mk hG (by decide) [(0, .ref (ad G 15))] rfl (Nat.le_of_ble_eq_true rfl) (fun X O hlX hR => ?_)
  subst hlX
  refine J.aload_n (q := 1) O dX0_faultOfText_0 rfl 0 rfl ?_
  refine J.getR (q := 4) (c' := 15) (ci := 0) (k := 5) (r := 45) O dX0_faultOfText_1 rfl wd_1_139 (by decide) if_15_5 ?_
  refine J.aload_n (q := 5) O dX0_faultOfText_4 rfl 0 rfl ?_
  refine J.getR (q := 8) (c' := 15) (ci := 0) (k := 1) (r := 16) O dX0_faultOfText_5 rfl wd_1_135 (by decide) if_15_1 ?_
  refine J.aload_n (q := 9) O dX0_faultOfText_8 rfl 0 rfl ?_
  refine J.getI (q := 12) (c' := 15) (ci := 0) (k := 0) (M 15 0) rfl O dX0_faultOfText_9 rfl wd_1_133 (by decide) if_15_0 ?_
  obtain ⟨hv3, h⟩ := h
  refine J.aald (q := 13) (t := 1) (c' := 16) (b := 17) (d := 1) O dX0_faultOfText_12 rfl ar_16 hv3 ?_
  refine J.aload_n (q := 14) O dX0_faultOfText_13 rfl 0 rfl ?_
  refine J.getR (q := 17) (c' := 15) (ci := 0) (k := 2) (r := 42) O dX0_faultOfText_14 rfl wd_1_136 (by decide) if_15_2 ?_
  refine J.aload_n (q := 18) O dX0_faultOfText_17 rfl 0 rfl ?_
  refine J.getI (q := 21) (c' := 15) (ci := 0) (k := 0) (M 15 0) rfl O dX0_faultOfText_18 rfl wd_1_133 (by decide) if_15_0 ?_
  obtain ⟨hv4, h⟩ := h
  refine J.iald (q := 22) (c' := 42) (j := (M 15 0).toNatClampNeg) (M 42 ((M 15 0).toNatClampNeg)) rfl O dX0_faultOfText_21 rfl ar_42 hv4 rfl ?_
  refine J.callVI (q := 25) [.ref (ad G (17 + 1 * ((M 15 0).toNatClampNeg))), .int (M 42 ((M 15 0).toNatClampNeg))] [] [.int (M 42 ((M 15 0).toNatClampNeg)), .ref (ad G (17 + 1 * ((M 15 0).toNatClampNeg))), .ref (ad G 45)] rfl O dX0_faultOfText_22 rfl (c_X7_faultOf hG h) wd_3_51 mw_X7_faultOf io_45 rfl (by decide) (Nat.le_of_ble_eq_true rfl) (fun v5 M5 h => ?_)
  exact hR _ _ _ _ dX0_faultOfText_25 h
set_option maxHeartbeats 4000000 in
set_option maxRecDepth 20000 in
theorem c_X0_dropText {l : Launch} {G : GX} (hG : Gd G) {M : Mem} {K : Mem → Prop} (h : f_X0_dropText  M K) : CV l G yX0_dropText cX0_dropText 1 1 [.ref (ad G 15)] M K := by
  unfold f_X0_dropText at h
  refine CV.mk hG (by decide) [(0, .ref (ad G 15))] rfl (Nat.le_of_ble_eq_true rfl) (fun X O hlX hR => ?_)
  subst hlX
  refine J.aload_n (q := 1) O dX0_dropText_0 rfl 0 rfl ?_
  refine J.getR (q := 4) (c' := 15) (ci := 0) (k := 2) (r := 42) O dX0_dropText_1 rfl wd_1_136 (by decide) if_15_2 ?_
  refine J.aload_n (q := 5) O dX0_dropText_4 rfl 0 rfl ?_
  refine J.getI (q := 8) (c' := 15) (ci := 0) (k := 0) (M 15 0) rfl O dX0_dropText_5 rfl wd_1_133 (by decide) if_15_0 ?_
  refine J.iconst (q := 9) (v := (0 : Int32)) O dX0_dropText_8 rfl rfl ?_
  obtain ⟨hv2, h⟩ := h
  refine J.iast (q := 10) (c' := 42) (j := (M 15 0).toNatClampNeg) O dX0_dropText_9 rfl ar_42 hv2 rfl ?_
  exact hR _ _ _ dX0_dropText_10 h
set_option maxHeartbeats 4000000 in
set_option maxRecDepth 20000 in
theorem c_X0_takeText {l : Launch} {G : GX} (hG : Gd G) {a1 : Int32} {M : Mem} {K : Int32 → Mem → Prop} (h : f_X0_takeText a1 M K) : CI l G yX0_takeText cX0_takeText 2 (some .int) 1 [.ref (ad G 15), .int a1] M K := by
  unfold f_X0_takeText at h
  refine CI.mk hG (by decide) [(0, .ref (ad G 15)), (1, .int a1)] rfl (Nat.le_of_ble_eq_true rfl) (fun X O hlX hR => ?_)
  subst hlX
  refine J.aload_n (q := 1) O dX0_takeText_0 rfl 0 rfl ?_
  refine J.getI (q := 4) (c' := 15) (ci := 0) (k := 0) (M 15 0) rfl O dX0_takeText_1 rfl wd_1_133 (by decide) if_15_0 ?_
  refine J.bipush (q := 6) (v := (24 : Int32)) O dX0_takeText_4 rfl rfl ?_
  refine J.icmp_lt (q := 9) (tgt := 12) O dX0_takeText_6 rfl (by decide) (fun z4 => ?_) (fun z4 => ?_)
  · replace h := h.1 z4
    refine J.aload_n (q := 13) O dX0_takeText_12 rfl 0 rfl ?_
    refine J.getR (q := 16) (c' := 15) (ci := 0) (k := 3) (r := 43) O dX0_takeText_13 rfl wd_1_137 (by decide) if_15_3 ?_
    refine J.aload_n (q := 17) O dX0_takeText_16 rfl 0 rfl ?_
    refine J.getI (q := 20) (c' := 15) (ci := 0) (k := 0) (M 15 0) rfl O dX0_takeText_17 rfl wd_1_133 (by decide) if_15_0 ?_
    refine J.iload_n (q := 21) O dX0_takeText_20 rfl 1 rfl ?_
    obtain ⟨hv5, h⟩ := h
    refine J.iast (q := 22) (c' := 43) (j := (M 15 0).toNatClampNeg) O dX0_takeText_21 rfl ar_43 hv5 rfl ?_
    refine J.aload_n (q := 23) O dX0_takeText_22 rfl 0 rfl ?_
    refine J.getR (q := 26) (c' := 15) (ci := 0) (k := 4) (r := 44) O dX0_takeText_23 rfl wd_1_138 (by decide) if_15_4 ?_
    refine J.aload_n (q := 27) O dX0_takeText_26 rfl 0 rfl ?_
    refine J.getI (q := 30) (c' := 15) (ci := 0) (k := 0) (M 15 0) rfl O dX0_takeText_27 rfl wd_1_133 (by decide) if_15_0 ?_
    refine J.ldc (q := 32) O dX0_takeText_30 rfl wd_3_119 ?_
    obtain ⟨hv6, h⟩ := h
    refine J.iast (q := 33) (c' := 44) (j := (M 15 0).toNatClampNeg) O dX0_takeText_32 rfl ar_44 hv6 rfl ?_
    refine J.aload_n (q := 34) O dX0_takeText_33 rfl 0 rfl ?_
    refine J.dup (q := 35) O dX0_takeText_34 rfl rfl ?_
    refine J.getI (q := 38) (c' := 15) (ci := 0) (k := 0) (M 15 0) rfl O dX0_takeText_35 rfl wd_1_133 (by decide) if_15_0 ?_
    refine J.iconst (q := 39) (v := (1 : Int32)) O dX0_takeText_38 rfl rfl ?_
    refine J.iadd (q := 40) O dX0_takeText_39 rfl ?_
    refine J.putI (q := 43) (c' := 15) (ci := 0) (k := 0) O dX0_takeText_40 rfl wd_1_133 (by decide) if_15_0 rfl rfl ?_
    refine J.aload_n (q := 44) O dX0_takeText_43 rfl 0 rfl ?_
    refine J.getR (q := 47) (c' := 15) (ci := 0) (k := 2) (r := 42) O dX0_takeText_44 rfl wd_1_136 (by decide) if_15_2 ?_
    refine J.aload_n (q := 48) O dX0_takeText_47 rfl 0 rfl ?_
    refine J.getI (q := 51) (c' := 15) (ci := 0) (k := 0) ((M 15 0) + (1 : Int32)) rfl O dX0_takeText_48 rfl wd_1_133 (by decide) if_15_0 ?_
    refine J.iconst (q := 52) (v := (0 : Int32)) O dX0_takeText_51 rfl rfl ?_
    obtain ⟨hv7, h⟩ := h
    refine J.iast (q := 53) (c' := 42) (j := ((M 15 0) + (1 : Int32)).toNatClampNeg) O dX0_takeText_52 rfl ar_42 hv7 rfl ?_
    refine J.aload_n (q := 54) O dX0_takeText_53 rfl 0 rfl ?_
    refine J.getI (q := 57) (c' := 15) (ci := 0) (k := 0) ((M 15 0) + (1 : Int32)) rfl O dX0_takeText_54 rfl wd_1_133 (by decide) if_15_0 ?_
    refine J.iconst (q := 58) (v := (1 : Int32)) O dX0_takeText_57 rfl rfl ?_
    refine J.isub (q := 59) O dX0_takeText_58 rfl ?_
    exact hR _ _ _ _ dX0_takeText_59 h
  · replace h := h.2 z4
    refine J.bipush (q := 11) (v := (-6 : Int32)) O dX0_takeText_9 rfl rfl ?_
    exact hR _ _ _ _ dX0_takeText_11 h
set_option maxHeartbeats 4000000 in
set_option maxRecDepth 20000 in
theorem c_X11_act {l : Launch} {G : GX} (hG : Gd G) {a1 : Int32} {M : Mem} {K : Int32 → Mem → Prop} (h : f_X11_act a1 M K) : CI l G yX11_act cX11_act 4 (some .int) 8 [.ref (ad G 0), .int a1] M K := by
  unfold f_X11_act at h
  refine CI.mk hG (by decide) [(0, .ref (ad G 0)), (1, .int a1)] rfl (Nat.le_of_ble_eq_true rfl) (fun X O hlX hR => ?_)
  subst hlX
  refine J.iload_n (q := 1) O dX11_act_0 rfl 1 rfl ?_
  refine J.aload_n (q := 2) O dX11_act_1 rfl 0 rfl ?_
  refine J.getR (q := 5) (c' := 0) (ci := 11) (k := 0) (r := 1) O dX11_act_2 rfl wd_2_214 (by decide) if_0_0 ?_
  refine J.getI (q := 8) (c' := 1) (ci := 3) (k := 0) (M 1 0) rfl O dX11_act_5 rfl wd_1_30 (by decide) if_1_0 ?_
  refine J.sipush (q := 11) (v := (1000 : Int32)) O dX11_act_8 rfl rfl ?_
  refine J.callSI (q := 14) [.int a1, .int (M 1 0), .int (1000 : Int32)] [] [.int (1000 : Int32), .int (M 1 0), .int a1] rfl O dX11_act_11 rfl (c_X11_outside hG h) wd_3_35 mw_X11_outside rfl (by decide) (Nat.le_of_ble_eq_true rfl) (fun v1 M1 h => ?_)
  refine J.aload_n (q := 15) O dX11_act_14 rfl 0 rfl ?_
  refine J.getR (q := 18) (c' := 0) (ci := 11) (k := 2) (r := 15) O dX11_act_15 rfl wd_2_216 (by decide) if_0_2 ?_
  refine J.getI (q := 21) (c' := 15) (ci := 0) (k := 0) (M1 15 0) rfl O dX11_act_18 rfl wd_1_134 (by decide) if_15_0 ?_
  refine J.bipush (q := 23) (v := (24 : Int32)) O dX11_act_21 rfl rfl ?_
  refine J.callSI (q := 26) [.int (M1 15 0), .int (24 : Int32)] [.int v1] [.int (24 : Int32), .int (M1 15 0), .int v1] rfl O dX11_act_23 rfl (c_X11_fullAt hG h) wd_3_38 mw_X11_fullAt rfl (by decide) (Nat.le_of_ble_eq_true rfl) (fun v2 M2 h => ?_)
  refine J.callSI (q := 29) [.int v1, .int v2] [] [.int v2, .int v1] rfl O dX11_act_26 rfl (c_X11_worse hG h) wd_3_41 mw_X11_worse rfl (by decide) (Nat.le_of_ble_eq_true rfl) (fun v3 M3 h => ?_)
  refine J.istore_n (q := 30) O dX11_act_29 rfl [(2, .int v3), (0, .ref (ad G 0)), (1, .int a1)] (by decide) rfl ?_
  refine J.iload_n (q := 31) O dX11_act_30 rfl 0 rfl ?_
  refine J.if_eq (q := 34) (tgt := 40) O dX11_act_31 rfl (by decide) (fun z4 => ?_) (fun z4 => ?_)
  · replace h := h.1 z4
    refine J.aload_n (q := 41) O dX11_act_40 rfl 1 rfl ?_
    refine J.getR (q := 44) (c' := 0) (ci := 11) (k := 2) (r := 15) O dX11_act_41 rfl wd_2_216 (by decide) if_0_2 ?_
    refine J.callVI (q := 47) [] [] [.ref (ad G 15)] rfl O dX11_act_44 rfl (c_X0_faultOfText hG h) wd_3_47 mw_X0_faultOfText io_15 rfl (by decide) (Nat.le_of_ble_eq_true rfl) (fun v5 M5 h => ?_)
    refine J.istore_n (q := 48) O dX11_act_47 rfl [(3, .int v5), (2, .int v3), (0, .ref (ad G 0)), (1, .int a1)] (by decide) rfl ?_
    refine J.iload_n (q := 49) O dX11_act_48 rfl 0 rfl ?_
    refine J.bipush (q := 51) (v := (-9 : Int32)) O dX11_act_49 rfl rfl ?_
    refine J.icmp_eq (q := 54) (tgt := 66) O dX11_act_51 rfl (by decide) (fun z6 => ?_) (fun z6 => ?_)
    · replace h := h.1 z6
      refine J.aload_n (q := 67) O dX11_act_66 rfl 2 rfl ?_
      refine J.getR (q := 70) (c' := 0) (ci := 11) (k := 2) (r := 15) O dX11_act_67 rfl wd_2_216 (by decide) if_0_2 ?_
      refine J.iload_n (q := 71) O dX11_act_70 rfl 3 rfl ?_
      refine J.callVI (q := 74) [.int a1] [] [.int a1, .ref (ad G 15)] rfl O dX11_act_71 rfl (c_X0_takeText hG h) wd_3_115 mw_X0_takeText io_15 rfl (by decide) (Nat.le_of_ble_eq_true rfl) (fun v7 M7 h => ?_)
      exact hR _ _ _ _ dX11_act_74 h
    · replace h := h.2 z6
      refine J.aload_n (q := 55) O dX11_act_54 rfl 2 rfl ?_
      refine J.getR (q := 58) (c' := 0) (ci := 11) (k := 2) (r := 15) O dX11_act_55 rfl wd_2_216 (by decide) if_0_2 ?_
      refine J.callVV (q := 61) [] [] [.ref (ad G 15)] rfl O dX11_act_58 rfl (c_X0_dropText hG h) wd_3_111 mw_X0_dropText io_15 rfl (by decide) (Nat.le_of_ble_eq_true rfl) (fun M8 h => ?_)
      refine J.bipush (q := 63) (v := (-20 : Int32)) O dX11_act_61 rfl rfl ?_
      refine J.iload_n (q := 64) O dX11_act_63 rfl 0 rfl ?_
      refine J.isub (q := 65) O dX11_act_64 rfl ?_
      exact hR _ _ _ _ dX11_act_65 h
  · replace h := h.2 z4
    refine J.aload_n (q := 35) O dX11_act_34 rfl 1 rfl ?_
    refine J.iload_n (q := 36) O dX11_act_35 rfl 0 rfl ?_
    refine J.callVI (q := 39) [.int v3] [] [.int v3, .ref (ad G 0)] rfl O dX11_act_36 rfl (c_X11_refuse hG h) wd_3_27 mw_X11_refuse io_0 rfl (by decide) (Nat.le_of_ble_eq_true rfl) (fun v9 M9 h => ?_)
    exact hR _ _ _ _ dX11_act_39 h
set_option maxHeartbeats 4000000 in
set_option maxRecDepth 20000 in
theorem j_X11_term_b18 {X : CX} {G : GX} {K : Int32 → Mem → Prop} (hG : Gd G) (O : Ok X G cX11_term 6 RX11 2) (hR : RetI X G cX11_term K) {M : Mem} (h : f_X11_term_b18 K  M) : J X G M 18 [(0, .ref (ad G 0))] [] := by
  unfold f_X11_term_b18 at h
  refine J.aload_n (q := 19) O dX11_term_18 rfl 0 rfl ?_
  refine J.bipush (q := 21) (v := (-2 : Int32)) O dX11_term_19 rfl rfl ?_
  refine J.callVI (q := 24) [.int (-2 : Int32)] [] [.int (-2 : Int32), .ref (ad G 0)] rfl O dX11_term_21 rfl (c_X11_refuse hG h) wd_3_27 mw_X11_refuse io_0 rfl (by decide) (Nat.le_of_ble_eq_true rfl) (fun v6 M6 h => ?_)
  exact hR _ _ _ _ dX11_term_24 h
set_option maxHeartbeats 4000000 in
set_option maxRecDepth 20000 in
theorem c_X11_term {l : Launch} {G : GX} (hG : Gd G) {a1 : Int32} {a2 : Int32} {a3 : Int32} {M : Mem} {K : Int32 → Mem → Prop} (h : f_X11_term a1 a2 a3 M K) : CI l G yX11_term cX11_term 6 (some .int) 2 [.ref (ad G 0), .int a1, .int a2, .int a3] M K := by
  unfold f_X11_term at h
  refine CI.mk hG (by decide) [(0, .ref (ad G 0)), (1, .int a1), (2, .int a2), (3, .int a3)] rfl (Nat.le_of_ble_eq_true rfl) (fun X O hlX hR => ?_)
  subst hlX
  refine J.iload_n (q := 1) O dX11_term_0 rfl 1 rfl ?_
  refine J.if_lt (q := 4) (tgt := 18) O dX11_term_1 rfl (by decide) (fun z7 => ?_) (fun z7 => ?_)
  · replace h := h.1 z7
    exact J.sub [0] rfl (j_X11_term_b18 hG O hR h)
  · replace h := h.2 z7
    refine J.iload_n (q := 5) O dX11_term_4 rfl 1 rfl ?_
    refine J.iconst (q := 6) (v := (5 : Int32)) O dX11_term_5 rfl rfl ?_
    refine J.icmp_ge (q := 9) (tgt := 18) O dX11_term_6 rfl (by decide) (fun z8 => ?_) (fun z8 => ?_)
    · replace h := h.1 z8
      exact J.sub [0] rfl (j_X11_term_b18 hG O hR h)
    · replace h := h.2 z8
      refine J.iload_n (q := 10) O dX11_term_9 rfl 2 rfl ?_
      refine J.if_lt (q := 13) (tgt := 18) O dX11_term_10 rfl (by decide) (fun z9 => ?_) (fun z9 => ?_)
      · replace h := h.1 z9
        exact J.sub [0] rfl (j_X11_term_b18 hG O hR h)
      · replace h := h.2 z9
        refine J.iload_n (q := 14) O dX11_term_13 rfl 2 rfl ?_
        refine J.iconst (q := 15) (v := (2 : Int32)) O dX11_term_14 rfl rfl ?_
        refine J.icmp_le (q := 18) (tgt := 25) O dX11_term_15 rfl (by decide) (fun z10 => ?_) (fun z10 => ?_)
        · replace h := h.1 z10
          refine J.iload_n (q := 26) O dX11_term_25 rfl 3 rfl ?_
          refine J.iconst (q := 27) (v := (0 : Int32)) O dX11_term_26 rfl rfl ?_
          refine J.gets (q := 30) O dX11_term_27 rfl wd_3_124 ?_
          refine J.iload_n (q := 31) O dX11_term_30 rfl 2 rfl ?_
          obtain ⟨hv11, h⟩ := h
          refine J.sald (q := 32) O dX11_term_31 rfl hv11 ?_
          refine J.callSI (q := 35) [.int a3, .int (0 : Int32), .int (sv 0 a2.toNatClampNeg)] [] [.int (sv 0 a2.toNatClampNeg), .int (0 : Int32), .int a3] rfl O dX11_term_32 rfl (c_X11_outside hG h) wd_3_35 mw_X11_outside rfl (by decide) (Nat.le_of_ble_eq_true rfl) (fun v12 M12 h => ?_)
          refine J.istore (q := 37) O dX11_term_35 rfl [(4, .int v12), (0, .ref (ad G 0)), (1, .int a1), (2, .int a2), (3, .int a3)] (by decide) rfl ?_
          refine J.iload (q := 39) O dX11_term_37 rfl 0 rfl ?_
          refine J.if_eq (q := 42) (tgt := 49) O dX11_term_39 rfl (by decide) (fun z13 => ?_) (fun z13 => ?_)
          · replace h := h.1 z13
            refine J.aload_n (q := 50) O dX11_term_49 rfl 1 rfl ?_
            refine J.getR (q := 53) (c' := 0) (ci := 11) (k := 11) (r := 118) O dX11_term_50 rfl wd_2_225 (by decide) if_0_11 ?_
            refine J.iload_n (q := 54) O dX11_term_53 rfl 2 rfl ?_
            obtain ⟨hv14, h⟩ := h
            refine J.aald (q := 55) (t := 2) (c' := 118) (b := 119) (d := 1) O dX11_term_54 rfl ar_118 hv14 ?_
            refine J.iload_n (q := 56) O dX11_term_55 rfl 3 rfl ?_
            obtain ⟨hv15, h⟩ := h
            refine J.iald (q := 57) (c' := (119 + 1 * a1.toNatClampNeg)) (j := a2.toNatClampNeg) (M12 (119 + 1 * a1.toNatClampNeg) a2.toNatClampNeg) rfl O dX11_term_56 rfl (row_118 hv14) hv15 rfl ?_
            refine J.istore (q := 59) O dX11_term_57 rfl [(5, .int (M12 (119 + 1 * a1.toNatClampNeg) a2.toNatClampNeg)), (4, .int v12), (0, .ref (ad G 0)), (1, .int a1), (2, .int a2), (3, .int a3)] (by decide) rfl ?_
            refine J.aload_n (q := 60) O dX11_term_59 rfl 2 rfl ?_
            refine J.getR (q := 63) (c' := 0) (ci := 11) (k := 11) (r := 118) O dX11_term_60 rfl wd_2_225 (by decide) if_0_11 ?_
            refine J.iload_n (q := 64) O dX11_term_63 rfl 3 rfl ?_
            obtain ⟨hv16, h⟩ := h
            refine J.aald (q := 65) (t := 2) (c' := 118) (b := 119) (d := 1) O dX11_term_64 rfl ar_118 hv16 ?_
            refine J.iload_n (q := 66) O dX11_term_65 rfl 4 rfl ?_
            refine J.iload_n (q := 67) O dX11_term_66 rfl 5 rfl ?_
            obtain ⟨hv17, h⟩ := h
            refine J.iast (q := 68) (c' := (119 + 1 * a1.toNatClampNeg)) (j := a2.toNatClampNeg) O dX11_term_67 rfl (row_118 hv16) hv17 rfl ?_
            refine J.iload (q := 70) O dX11_term_68 rfl 0 rfl ?_
            exact hR _ _ _ _ dX11_term_70 h
          · replace h := h.2 z13
            refine J.aload_n (q := 43) O dX11_term_42 rfl 1 rfl ?_
            refine J.iload (q := 45) O dX11_term_43 rfl 0 rfl ?_
            refine J.callVI (q := 48) [.int v12] [] [.int v12, .ref (ad G 0)] rfl O dX11_term_45 rfl (c_X11_refuse hG h) wd_3_27 mw_X11_refuse io_0 rfl (by decide) (Nat.le_of_ble_eq_true rfl) (fun v18 M18 h => ?_)
            exact hR _ _ _ _ dX11_term_48 h
        · replace h := h.2 z10
          exact J.sub [0] rfl (j_X11_term_b18 hG O hR h)
set_option maxHeartbeats 4000000 in
set_option maxRecDepth 20000 in
theorem j_X11_isWhat_b15 {X : CX} {G : GX} {K : Int32 → Mem → Prop} (hG : Gd G) (O : Ok X G cX11_isWhat 1 RX11 1) (hR : RetZ X G cX11_isWhat K) {s0 : Int32} {M : Mem} (h : f_X11_isWhat_b15 K s0 M) : J X G M 15 [] [.int s0] := by
  unfold f_X11_isWhat_b15 at h
  exact hR _ _ _ _ dX11_isWhat_15 h.1 h.2
set_option maxHeartbeats 4000000 in
set_option maxRecDepth 20000 in
theorem j_X11_isWhat_b14 {X : CX} {G : GX} {K : Int32 → Mem → Prop} (hG : Gd G) (O : Ok X G cX11_isWhat 1 RX11 1) (hR : RetZ X G cX11_isWhat K) {M : Mem} (h : f_X11_isWhat_b14 K  M) : J X G M 14 [] [] := by
  unfold f_X11_isWhat_b14 at h
  refine J.iconst (q := 15) (v := (0 : Int32)) O dX11_isWhat_14 rfl rfl ?_
  exact J.sub [] rfl (j_X11_isWhat_b15 hG O hR h)
set_option maxHeartbeats 4000000 in
set_option maxRecDepth 20000 in
theorem c_X11_isWhat {l : Launch} {G : GX} (hG : Gd G) {a1 : Int32} {M : Mem} {K : Int32 → Mem → Prop} (h : f_X11_isWhat a1 M K) : CI l G yX11_isWhat cX11_isWhat 1 (some .boolean) 1 [.int a1] M K := by
  unfold f_X11_isWhat at h
  refine CZ.mk hG (by decide) [(0, .int a1)] rfl (Nat.le_of_ble_eq_true rfl) (fun X O hlX hR => ?_)
  subst hlX
  refine J.iload_n (q := 1) O dX11_isWhat_0 rfl 0 rfl ?_
  refine J.if_lt (q := 4) (tgt := 14) O dX11_isWhat_1 rfl (by decide) (fun z2 => ?_) (fun z2 => ?_)
  · replace h := h.1 z2
    exact J.sub [] rfl (j_X11_isWhat_b14 hG O hR h)
  · replace h := h.2 z2
    refine J.iload_n (q := 5) O dX11_isWhat_4 rfl 0 rfl ?_
    refine J.bipush (q := 7) (v := (8 : Int32)) O dX11_isWhat_5 rfl rfl ?_
    refine J.icmp_ge (q := 10) (tgt := 14) O dX11_isWhat_7 rfl (by decide) (fun z3 => ?_) (fun z3 => ?_)
    · replace h := h.1 z3
      exact J.sub [] rfl (j_X11_isWhat_b14 hG O hR h)
    · replace h := h.2 z3
      refine J.iconst (q := 11) (v := (1 : Int32)) O dX11_isWhat_10 rfl rfl ?_
      refine J.goto (q := 15) O dX11_isWhat_11 (by decide) ?_
      exact J.sub [] rfl (j_X11_isWhat_b15 hG O hR h)
set_option maxHeartbeats 4000000 in
set_option maxRecDepth 20000 in
theorem c_X11_wrongTopic {l : Launch} {G : GX} (hG : Gd G) {a1 : Int32} {a2 : Int32} {M : Mem} {K : Int32 → Mem → Prop} (h : f_X11_wrongTopic a1 a2 M K) : CI l G yX11_wrongTopic cX11_wrongTopic 2 (some .int) 2 [.int a1, .int a2] M K := by
  unfold f_X11_wrongTopic at h
  refine CI.mk hG (by decide) [(0, .int a1), (1, .int a2)] rfl (Nat.le_of_ble_eq_true rfl) (fun X O hlX hR => ?_)
  subst hlX
  refine J.iload_n (q := 1) O dX11_wrongTopic_0 rfl 0 rfl ?_
  refine J.iconst (q := 2) (v := (1 : Int32)) O dX11_wrongTopic_1 rfl rfl ?_
  refine J.bipush (q := 4) (v := (63 : Int32)) O dX11_wrongTopic_2 rfl rfl ?_
  refine J.callSI (q := 7) [.int a1, .int (1 : Int32), .int (63 : Int32)] [] [.int (63 : Int32), .int (1 : Int32), .int a1] rfl O dX11_wrongTopic_4 rfl (c_X11_outside hG h) wd_3_35 mw_X11_outside rfl (by decide) (Nat.le_of_ble_eq_true rfl) (fun v1 M1 h => ?_)
  refine J.iload_n (q := 8) O dX11_wrongTopic_7 rfl 1 rfl ?_
  refine J.iconst (q := 9) (v := (0 : Int32)) O dX11_wrongTopic_8 rfl rfl ?_
  refine J.sipush (q := 12) (v := (9999 : Int32)) O dX11_wrongTopic_9 rfl rfl ?_
  refine J.callSI (q := 15) [.int a2, .int (0 : Int32), .int (9999 : Int32)] [.int v1] [.int (9999 : Int32), .int (0 : Int32), .int a2, .int v1] rfl O dX11_wrongTopic_12 rfl (c_X11_outside hG h) wd_3_35 mw_X11_outside rfl (by decide) (Nat.le_of_ble_eq_true rfl) (fun v2 M2 h => ?_)
  refine J.callSI (q := 18) [.int v1, .int v2] [] [.int v2, .int v1] rfl O dX11_wrongTopic_15 rfl (c_X11_worse hG h) wd_3_41 mw_X11_worse rfl (by decide) (Nat.le_of_ble_eq_true rfl) (fun v3 M3 h => ?_)
  exact hR _ _ _ _ dX11_wrongTopic_18 h
set_option maxHeartbeats 4000000 in
set_option maxRecDepth 20000 in
theorem j_X9_hereIn_b38 {X : CX} {G : GX} {K : Int32 → Mem → Prop} (hG : Gd G) (O : Ok X G cX9_hereIn 4 RX9 1) (hR : RetI X G cX9_hereIn K) {r4 : Int32 × Int32 × Int32 × Mem → Prop} (hr4 : ∀ a : Int32 × Int32 × Int32 × Mem, r4 a → J X G a.2.2.2 4 [(0, .ref (ad G 4)), (1, .int a.1), (2, .int a.2.1), (3, .int a.2.2.1)] []) {x1 : Int32} {x2 : Int32} {x3 : Int32} {M : Mem} (h : f_X9_hereIn_b38 r4 K x1 x2 x3 M) : J X G M 38 [(0, .ref (ad G 4)), (1, .int x1), (2, .int x2), (3, .int x3)] [] := by
  unfold f_X9_hereIn_b38 at h
  refine J.iinc (q := 41) O dX9_hereIn_38 rfl [(3, .int (x3 + (1 : Int32))), (0, .ref (ad G 4)), (1, .int x1), (2, .int x2)] 3 rfl rfl (by decide) rfl ?_
  refine J.goto (q := 4) O dX9_hereIn_41 (by decide) ?_
  exact J.sub [1, 2, 3, 0] rfl (hr4 _ h)
set_option maxHeartbeats 4000000 in
set_option maxRecDepth 20000 in
theorem j_X9_hereIn_c4 {X : CX} {G : GX} {K : Int32 → Mem → Prop} (hG : Gd G) (O : Ok X G cX9_hereIn 4 RX9 1) (hR : RetI X G cX9_hereIn K) {a : Int32 × Int32 × Int32 × Mem} (h : Lp (fun (r4 : Int32 × Int32 × Int32 × Mem → Prop) a => f_X9_hereIn_c4 K r4 a.1 a.2.1 a.2.2.1 a.2.2.2) a) : J X G a.2.2.2 4 [(0, .ref (ad G 4)), (1, .int a.1), (2, .int a.2.1), (3, .int a.2.2.1)] [] := by
  refine Lp.elim (P := fun a => J X G a.2.2.2 4 [(0, .ref (ad G 4)), (1, .int a.1), (2, .int a.2.1), (3, .int a.2.2.1)] []) ?_ h
  clear h
  intro r4 hr4 a h
  obtain ⟨x1, x2, x3, M⟩ := a
  unfold f_X9_hereIn_c4 at h
  (try dsimp only at h ⊢)
  refine J.iload_n (q := 5) O dX9_hereIn_4 rfl 3 rfl ?_
  refine J.aload_n (q := 6) O dX9_hereIn_5 rfl 0 rfl ?_
  refine J.getI (q := 9) (c' := 4) (ci := 9) (k := 0) (M 4 0) rfl O dX9_hereIn_6 rfl wd_1_49 (by decide) if_4_0 ?_
  refine J.icmp_ge (q := 12) (tgt := 44) O dX9_hereIn_9 rfl (by decide) (fun z3 => ?_) (fun z3 => ?_)
  · replace h := h.1 z3
    refine J.iload_n (q := 45) O dX9_hereIn_44 rfl 2 rfl ?_
    exact hR _ _ _ _ dX9_hereIn_45 h
  · replace h := h.2 z3
    refine J.aload_n (q := 13) O dX9_hereIn_12 rfl 0 rfl ?_
    refine J.getR (q := 16) (c' := 4) (ci := 9) (k := 2) (r := 6) O dX9_hereIn_13 rfl wd_1_51 (by decide) if_4_2 ?_
    refine J.iload_n (q := 17) O dX9_hereIn_16 rfl 3 rfl ?_
    obtain ⟨hv4, h⟩ := h
    refine J.zald (q := 18) (c' := 6) (j := x3.toNatClampNeg) (M 6 x3.toNatClampNeg) rfl O dX9_hereIn_17 rfl ar_6 hv4 rfl ?_
    refine J.if_eq (q := 21) (tgt := 38) O dX9_hereIn_18 rfl (by decide) (fun z5 => ?_) (fun z5 => ?_)
    · replace h := h.1 z5
      exact J.sub [0, 1, 2, 3] rfl (j_X9_hereIn_b38 hG O hR hr4 h)
    · replace h := h.2 z5
      refine J.iload_n (q := 22) O dX9_hereIn_21 rfl 1 rfl ?_
      refine J.aload_n (q := 23) O dX9_hereIn_22 rfl 0 rfl ?_
      refine J.getR (q := 26) (c' := 4) (ci := 9) (k := 1) (r := 5) O dX9_hereIn_23 rfl wd_1_50 (by decide) if_4_1 ?_
      refine J.iload_n (q := 27) O dX9_hereIn_26 rfl 3 rfl ?_
      obtain ⟨hv6, h⟩ := h
      refine J.iald (q := 28) (c' := 5) (j := x3.toNatClampNeg) (M 5 x3.toNatClampNeg) rfl O dX9_hereIn_27 rfl ar_5 hv6 rfl ?_
      refine J.ishr (q := 29) O dX9_hereIn_28 rfl ?_
      refine J.iconst (q := 30) (v := (1 : Int32)) O dX9_hereIn_29 rfl rfl ?_
      refine J.iand (q := 31) O dX9_hereIn_30 rfl ?_
      refine J.iconst (q := 32) (v := (1 : Int32)) O dX9_hereIn_31 rfl rfl ?_
      refine J.icmp_ne (q := 35) (tgt := 38) O dX9_hereIn_32 rfl (by decide) (fun z7 => ?_) (fun z7 => ?_)
      · replace h := h.1 z7
        exact J.sub [0, 1, 2, 3] rfl (j_X9_hereIn_b38 hG O hR hr4 h)
      · replace h := h.2 z7
        refine J.iinc (q := 38) O dX9_hereIn_35 rfl [(2, .int (x2 + (1 : Int32))), (0, .ref (ad G 4)), (1, .int x1), (3, .int x3)] 2 rfl rfl (by decide) rfl ?_
        exact J.sub [1, 2, 0, 3] rfl (j_X9_hereIn_b38 hG O hR hr4 h)
set_option maxHeartbeats 4000000 in
set_option maxRecDepth 20000 in
theorem c_X9_hereIn {l : Launch} {G : GX} (hG : Gd G) {a1 : Int32} {M : Mem} {K : Int32 → Mem → Prop} (h : f_X9_hereIn a1 M K) : CI l G yX9_hereIn cX9_hereIn 4 (some .int) 1 [.ref (ad G 4), .int a1] M K := by
  unfold f_X9_hereIn at h
  refine CI.mk hG (by decide) [(0, .ref (ad G 4)), (1, .int a1)] rfl (Nat.le_of_ble_eq_true rfl) (fun X O hlX hR => ?_)
  subst hlX
  refine J.iconst (q := 1) (v := (0 : Int32)) O dX9_hereIn_0 rfl rfl ?_
  refine J.istore_n (q := 2) O dX9_hereIn_1 rfl [(2, .int (0 : Int32)), (0, .ref (ad G 4)), (1, .int a1)] (by decide) rfl ?_
  refine J.iconst (q := 3) (v := (0 : Int32)) O dX9_hereIn_2 rfl rfl ?_
  refine J.istore_n (q := 4) O dX9_hereIn_3 rfl [(3, .int (0 : Int32)), (2, .int (0 : Int32)), (0, .ref (ad G 4)), (1, .int a1)] (by decide) rfl ?_
  exact J.sub [2, 3, 1, 0] rfl (j_X9_hereIn_c4 hG O hR h)
set_option maxHeartbeats 4000000 in
set_option maxRecDepth 20000 in
theorem c_J6_bitCount_0f7a4 {l : Launch} {G : GX} (hG : Gd G) {a1 : Int32} {M : Mem} {K : Int32 → Mem → Prop} (h : f_J6_bitCount_0f7a4 a1 M K) : CI l G yJ6_bitCount_0f7a4 cJ6_bitCount_0f7a4 1 (some .int) 1 [.int a1] M K := by
  unfold f_J6_bitCount_0f7a4 at h
  refine CI.mk hG (by decide) [(0, .int a1)] rfl (Nat.le_of_ble_eq_true rfl) (fun X O hlX hR => ?_)
  subst hlX
  refine J.iload_n (q := 1) O dJ6_bitCount_0f7a4_0 rfl 0 rfl ?_
  refine J.iload_n (q := 2) O dJ6_bitCount_0f7a4_1 rfl 0 rfl ?_
  refine J.iconst (q := 3) (v := (1 : Int32)) O dJ6_bitCount_0f7a4_2 rfl rfl ?_
  refine J.iushr (q := 4) O dJ6_bitCount_0f7a4_3 rfl ?_
  refine J.ldcw (q := 7) O dJ6_bitCount_0f7a4_4 rfl wd_3_147 ?_
  refine J.iand (q := 8) O dJ6_bitCount_0f7a4_7 rfl ?_
  refine J.isub (q := 9) O dJ6_bitCount_0f7a4_8 rfl ?_
  refine J.istore_n (q := 10) O dJ6_bitCount_0f7a4_9 rfl [(0, .int (a1 - ((a1.toUInt32 >>> ((1 : Int32).toUInt32 &&& Int32.toUInt32 31)).toInt32 &&& (1431655765 : Int32))))] (by decide) rfl ?_
  refine J.iload_n (q := 11) O dJ6_bitCount_0f7a4_10 rfl 0 rfl ?_
  refine J.ldcw (q := 14) O dJ6_bitCount_0f7a4_11 rfl wd_3_148 ?_
  refine J.iand (q := 15) O dJ6_bitCount_0f7a4_14 rfl ?_
  refine J.iload_n (q := 16) O dJ6_bitCount_0f7a4_15 rfl 0 rfl ?_
  refine J.iconst (q := 17) (v := (2 : Int32)) O dJ6_bitCount_0f7a4_16 rfl rfl ?_
  refine J.iushr (q := 18) O dJ6_bitCount_0f7a4_17 rfl ?_
  refine J.ldcw (q := 21) O dJ6_bitCount_0f7a4_18 rfl wd_3_148 ?_
  refine J.iand (q := 22) O dJ6_bitCount_0f7a4_21 rfl ?_
  refine J.iadd (q := 23) O dJ6_bitCount_0f7a4_22 rfl ?_
  refine J.istore_n (q := 24) O dJ6_bitCount_0f7a4_23 rfl [(0, .int (((a1 - ((a1.toUInt32 >>> ((1 : Int32).toUInt32 &&& Int32.toUInt32 31)).toInt32 &&& (1431655765 : Int32))) &&& (858993459 : Int32)) + (((a1 - ((a1.toUInt32 >>> ((1 : Int32).toUInt32 &&& Int32.toUInt32 31)).toInt32 &&& (1431655765 : Int32))).toUInt32 >>> ((2 : Int32).toUInt32 &&& Int32.toUInt32 31)).toInt32 &&& (858993459 : Int32))))] (by decide) rfl ?_
  refine J.iload_n (q := 25) O dJ6_bitCount_0f7a4_24 rfl 0 rfl ?_
  refine J.iload_n (q := 26) O dJ6_bitCount_0f7a4_25 rfl 0 rfl ?_
  refine J.iconst (q := 27) (v := (4 : Int32)) O dJ6_bitCount_0f7a4_26 rfl rfl ?_
  refine J.iushr (q := 28) O dJ6_bitCount_0f7a4_27 rfl ?_
  refine J.iadd (q := 29) O dJ6_bitCount_0f7a4_28 rfl ?_
  refine J.ldcw (q := 32) O dJ6_bitCount_0f7a4_29 rfl wd_3_149 ?_
  refine J.iand (q := 33) O dJ6_bitCount_0f7a4_32 rfl ?_
  refine J.istore_n (q := 34) O dJ6_bitCount_0f7a4_33 rfl [(0, .int (((((a1 - ((a1.toUInt32 >>> ((1 : Int32).toUInt32 &&& Int32.toUInt32 31)).toInt32 &&& (1431655765 : Int32))) &&& (858993459 : Int32)) + (((a1 - ((a1.toUInt32 >>> ((1 : Int32).toUInt32 &&& Int32.toUInt32 31)).toInt32 &&& (1431655765 : Int32))).toUInt32 >>> ((2 : Int32).toUInt32 &&& Int32.toUInt32 31)).toInt32 &&& (858993459 : Int32))) + ((((a1 - ((a1.toUInt32 >>> ((1 : Int32).toUInt32 &&& Int32.toUInt32 31)).toInt32 &&& (1431655765 : Int32))) &&& (858993459 : Int32)) + (((a1 - ((a1.toUInt32 >>> ((1 : Int32).toUInt32 &&& Int32.toUInt32 31)).toInt32 &&& (1431655765 : Int32))).toUInt32 >>> ((2 : Int32).toUInt32 &&& Int32.toUInt32 31)).toInt32 &&& (858993459 : Int32))).toUInt32 >>> ((4 : Int32).toUInt32 &&& Int32.toUInt32 31)).toInt32) &&& (252645135 : Int32)))] (by decide) rfl ?_
  refine J.iload_n (q := 35) O dJ6_bitCount_0f7a4_34 rfl 0 rfl ?_
  refine J.iload_n (q := 36) O dJ6_bitCount_0f7a4_35 rfl 0 rfl ?_
  refine J.bipush (q := 38) (v := (8 : Int32)) O dJ6_bitCount_0f7a4_36 rfl rfl ?_
  refine J.iushr (q := 39) O dJ6_bitCount_0f7a4_38 rfl ?_
  refine J.iadd (q := 40) O dJ6_bitCount_0f7a4_39 rfl ?_
  refine J.istore_n (q := 41) O dJ6_bitCount_0f7a4_40 rfl [(0, .int ((((((a1 - ((a1.toUInt32 >>> ((1 : Int32).toUInt32 &&& Int32.toUInt32 31)).toInt32 &&& (1431655765 : Int32))) &&& (858993459 : Int32)) + (((a1 - ((a1.toUInt32 >>> ((1 : Int32).toUInt32 &&& Int32.toUInt32 31)).toInt32 &&& (1431655765 : Int32))).toUInt32 >>> ((2 : Int32).toUInt32 &&& Int32.toUInt32 31)).toInt32 &&& (858993459 : Int32))) + ((((a1 - ((a1.toUInt32 >>> ((1 : Int32).toUInt32 &&& Int32.toUInt32 31)).toInt32 &&& (1431655765 : Int32))) &&& (858993459 : Int32)) + (((a1 - ((a1.toUInt32 >>> ((1 : Int32).toUInt32 &&& Int32.toUInt32 31)).toInt32 &&& (1431655765 : Int32))).toUInt32 >>> ((2 : Int32).toUInt32 &&& Int32.toUInt32 31)).toInt32 &&& (858993459 : Int32))).toUInt32 >>> ((4 : Int32).toUInt32 &&& Int32.toUInt32 31)).toInt32) &&& (252645135 : Int32)) + ((((((a1 - ((a1.toUInt32 >>> ((1 : Int32).toUInt32 &&& Int32.toUInt32 31)).toInt32 &&& (1431655765 : Int32))) &&& (858993459 : Int32)) + (((a1 - ((a1.toUInt32 >>> ((1 : Int32).toUInt32 &&& Int32.toUInt32 31)).toInt32 &&& (1431655765 : Int32))).toUInt32 >>> ((2 : Int32).toUInt32 &&& Int32.toUInt32 31)).toInt32 &&& (858993459 : Int32))) + ((((a1 - ((a1.toUInt32 >>> ((1 : Int32).toUInt32 &&& Int32.toUInt32 31)).toInt32 &&& (1431655765 : Int32))) &&& (858993459 : Int32)) + (((a1 - ((a1.toUInt32 >>> ((1 : Int32).toUInt32 &&& Int32.toUInt32 31)).toInt32 &&& (1431655765 : Int32))).toUInt32 >>> ((2 : Int32).toUInt32 &&& Int32.toUInt32 31)).toInt32 &&& (858993459 : Int32))).toUInt32 >>> ((4 : Int32).toUInt32 &&& Int32.toUInt32 31)).toInt32) &&& (252645135 : Int32)).toUInt32 >>> ((8 : Int32).toUInt32 &&& Int32.toUInt32 31)).toInt32))] (by decide) rfl ?_
  refine J.iload_n (q := 42) O dJ6_bitCount_0f7a4_41 rfl 0 rfl ?_
  refine J.iload_n (q := 43) O dJ6_bitCount_0f7a4_42 rfl 0 rfl ?_
  refine J.bipush (q := 45) (v := (16 : Int32)) O dJ6_bitCount_0f7a4_43 rfl rfl ?_
  refine J.iushr (q := 46) O dJ6_bitCount_0f7a4_45 rfl ?_
  refine J.iadd (q := 47) O dJ6_bitCount_0f7a4_46 rfl ?_
  refine J.istore_n (q := 48) O dJ6_bitCount_0f7a4_47 rfl [(0, .int (((((((a1 - ((a1.toUInt32 >>> ((1 : Int32).toUInt32 &&& Int32.toUInt32 31)).toInt32 &&& (1431655765 : Int32))) &&& (858993459 : Int32)) + (((a1 - ((a1.toUInt32 >>> ((1 : Int32).toUInt32 &&& Int32.toUInt32 31)).toInt32 &&& (1431655765 : Int32))).toUInt32 >>> ((2 : Int32).toUInt32 &&& Int32.toUInt32 31)).toInt32 &&& (858993459 : Int32))) + ((((a1 - ((a1.toUInt32 >>> ((1 : Int32).toUInt32 &&& Int32.toUInt32 31)).toInt32 &&& (1431655765 : Int32))) &&& (858993459 : Int32)) + (((a1 - ((a1.toUInt32 >>> ((1 : Int32).toUInt32 &&& Int32.toUInt32 31)).toInt32 &&& (1431655765 : Int32))).toUInt32 >>> ((2 : Int32).toUInt32 &&& Int32.toUInt32 31)).toInt32 &&& (858993459 : Int32))).toUInt32 >>> ((4 : Int32).toUInt32 &&& Int32.toUInt32 31)).toInt32) &&& (252645135 : Int32)) + ((((((a1 - ((a1.toUInt32 >>> ((1 : Int32).toUInt32 &&& Int32.toUInt32 31)).toInt32 &&& (1431655765 : Int32))) &&& (858993459 : Int32)) + (((a1 - ((a1.toUInt32 >>> ((1 : Int32).toUInt32 &&& Int32.toUInt32 31)).toInt32 &&& (1431655765 : Int32))).toUInt32 >>> ((2 : Int32).toUInt32 &&& Int32.toUInt32 31)).toInt32 &&& (858993459 : Int32))) + ((((a1 - ((a1.toUInt32 >>> ((1 : Int32).toUInt32 &&& Int32.toUInt32 31)).toInt32 &&& (1431655765 : Int32))) &&& (858993459 : Int32)) + (((a1 - ((a1.toUInt32 >>> ((1 : Int32).toUInt32 &&& Int32.toUInt32 31)).toInt32 &&& (1431655765 : Int32))).toUInt32 >>> ((2 : Int32).toUInt32 &&& Int32.toUInt32 31)).toInt32 &&& (858993459 : Int32))).toUInt32 >>> ((4 : Int32).toUInt32 &&& Int32.toUInt32 31)).toInt32) &&& (252645135 : Int32)).toUInt32 >>> ((8 : Int32).toUInt32 &&& Int32.toUInt32 31)).toInt32) + (((((((a1 - ((a1.toUInt32 >>> ((1 : Int32).toUInt32 &&& Int32.toUInt32 31)).toInt32 &&& (1431655765 : Int32))) &&& (858993459 : Int32)) + (((a1 - ((a1.toUInt32 >>> ((1 : Int32).toUInt32 &&& Int32.toUInt32 31)).toInt32 &&& (1431655765 : Int32))).toUInt32 >>> ((2 : Int32).toUInt32 &&& Int32.toUInt32 31)).toInt32 &&& (858993459 : Int32))) + ((((a1 - ((a1.toUInt32 >>> ((1 : Int32).toUInt32 &&& Int32.toUInt32 31)).toInt32 &&& (1431655765 : Int32))) &&& (858993459 : Int32)) + (((a1 - ((a1.toUInt32 >>> ((1 : Int32).toUInt32 &&& Int32.toUInt32 31)).toInt32 &&& (1431655765 : Int32))).toUInt32 >>> ((2 : Int32).toUInt32 &&& Int32.toUInt32 31)).toInt32 &&& (858993459 : Int32))).toUInt32 >>> ((4 : Int32).toUInt32 &&& Int32.toUInt32 31)).toInt32) &&& (252645135 : Int32)) + ((((((a1 - ((a1.toUInt32 >>> ((1 : Int32).toUInt32 &&& Int32.toUInt32 31)).toInt32 &&& (1431655765 : Int32))) &&& (858993459 : Int32)) + (((a1 - ((a1.toUInt32 >>> ((1 : Int32).toUInt32 &&& Int32.toUInt32 31)).toInt32 &&& (1431655765 : Int32))).toUInt32 >>> ((2 : Int32).toUInt32 &&& Int32.toUInt32 31)).toInt32 &&& (858993459 : Int32))) + ((((a1 - ((a1.toUInt32 >>> ((1 : Int32).toUInt32 &&& Int32.toUInt32 31)).toInt32 &&& (1431655765 : Int32))) &&& (858993459 : Int32)) + (((a1 - ((a1.toUInt32 >>> ((1 : Int32).toUInt32 &&& Int32.toUInt32 31)).toInt32 &&& (1431655765 : Int32))).toUInt32 >>> ((2 : Int32).toUInt32 &&& Int32.toUInt32 31)).toInt32 &&& (858993459 : Int32))).toUInt32 >>> ((4 : Int32).toUInt32 &&& Int32.toUInt32 31)).toInt32) &&& (252645135 : Int32)).toUInt32 >>> ((8 : Int32).toUInt32 &&& Int32.toUInt32 31)).toInt32).toUInt32 >>> ((16 : Int32).toUInt32 &&& Int32.toUInt32 31)).toInt32))] (by decide) rfl ?_
  refine J.iload_n (q := 49) O dJ6_bitCount_0f7a4_48 rfl 0 rfl ?_
  refine J.bipush (q := 51) (v := (63 : Int32)) O dJ6_bitCount_0f7a4_49 rfl rfl ?_
  refine J.iand (q := 52) O dJ6_bitCount_0f7a4_51 rfl ?_
  exact hR _ _ _ _ dJ6_bitCount_0f7a4_52 h
set_option maxHeartbeats 4000000 in
set_option maxRecDepth 20000 in
theorem j_X11_tellFacts_b73 {X : CX} {G : GX} {K : Mem → Prop} (hG : Gd G) (O : Ok X G cX11_tellFacts 5 RX11 2) (hR : RetV X G cX11_tellFacts K) {s0 : Int32} {s1 : Int32} {M : Mem} (h : f_X11_tellFacts_b73 K s0 s1 M) : J X G M 73 [] [.int s0, .int s1, .ref (ad G 46)] := by
  unfold f_X11_tellFacts_b73 at h
  obtain ⟨hv2, h⟩ := h
  refine J.iast (q := 74) (c' := 46) (j := s1.toNatClampNeg) O dX11_tellFacts_73 rfl ar_46 hv2 rfl ?_
  exact hR _ _ _ dX11_tellFacts_74 h
set_option maxHeartbeats 4000000 in
set_option maxRecDepth 20000 in
theorem c_X11_tellFacts {l : Launch} {G : GX} (hG : Gd G) {a1 : Int32} {a2 : Int32} {a3 : Int32} {M : Mem} {K : Mem → Prop} (h : f_X11_tellFacts a1 a2 a3 M K) : CV l G yX11_tellFacts cX11_tellFacts 5 2 [.ref (ad G 0), .int a1, .int a2, .int a3] M K := by
  unfold f_X11_tellFacts at h
  refine CV.mk hG (by decide) [(0, .ref (ad G 0)), (1, .int a1), (2, .int a2), (3, .int a3)] rfl (Nat.le_of_ble_eq_true rfl) (fun X O hlX hR => ?_)
  subst hlX
  refine J.aload_n (q := 1) O dX11_tellFacts_0 rfl 0 rfl ?_
  refine J.getR (q := 4) (c' := 0) (ci := 11) (k := 2) (r := 15) O dX11_tellFacts_1 rfl wd_2_216 (by decide) if_0_2 ?_
  refine J.getR (q := 7) (c' := 15) (ci := 0) (k := 5) (r := 45) O dX11_tellFacts_4 rfl wd_1_140 (by decide) if_15_5 ?_
  refine J.getR (q := 10) (c' := 45) (ci := 7) (k := 0) (r := 46) O dX11_tellFacts_7 rfl wd_1_101 (by decide) if_45_0 ?_
  refine J.astore (q := 12) O dX11_tellFacts_10 rfl [(4, .ref (ad G 46)), (0, .ref (ad G 0)), (1, .int a1), (2, .int a2), (3, .int a3)] (by decide) rfl ?_
  refine J.aload (q := 14) O dX11_tellFacts_12 rfl 0 rfl ?_
  refine J.iconst (q := 15) (v := (0 : Int32)) O dX11_tellFacts_14 rfl rfl ?_
  refine J.aload_n (q := 16) O dX11_tellFacts_15 rfl 1 rfl ?_
  refine J.getR (q := 19) (c' := 0) (ci := 11) (k := 1) (r := 4) O dX11_tellFacts_16 rfl wd_2_215 (by decide) if_0_1 ?_
  refine J.iload_n (q := 20) O dX11_tellFacts_19 rfl 2 rfl ?_
  refine J.callVI (q := 23) [.int a1] [.int (0 : Int32), .ref (ad G 46)] [.int a1, .ref (ad G 4), .int (0 : Int32), .ref (ad G 46)] rfl O dX11_tellFacts_20 rfl (c_X9_hereIn hG h) wd_3_140 mw_X9_hereIn io_4 rfl (by decide) (Nat.le_of_ble_eq_true rfl) (fun v3 M3 h => ?_)
  refine J.iast (q := 24) (c' := 46) (j := 0) O dX11_tellFacts_23 rfl ar_46 (vin_lit (by decide)) (by decide) ?_
  refine J.aload (q := 26) O dX11_tellFacts_24 rfl 0 rfl ?_
  refine J.iconst (q := 27) (v := (1 : Int32)) O dX11_tellFacts_26 rfl rfl ?_
  refine J.aload_n (q := 28) O dX11_tellFacts_27 rfl 1 rfl ?_
  refine J.getR (q := 31) (c' := 0) (ci := 11) (k := 1) (r := 4) O dX11_tellFacts_28 rfl wd_2_215 (by decide) if_0_1 ?_
  refine J.bipush (q := 33) (v := (63 : Int32)) O dX11_tellFacts_31 rfl rfl ?_
  refine J.callVI (q := 36) [.int (63 : Int32)] [.int (1 : Int32), .ref (ad G 46)] [.int (63 : Int32), .ref (ad G 4), .int (1 : Int32), .ref (ad G 46)] rfl O dX11_tellFacts_33 rfl (c_X9_hereIn hG h) wd_3_140 mw_X9_hereIn io_4 rfl (by decide) (Nat.le_of_ble_eq_true rfl) (fun v4 M4 h => ?_)
  refine J.iast (q := 37) (c' := 46) (j := 1) O dX11_tellFacts_36 rfl ar_46 (vin_lit (by decide)) (by decide) ?_
  refine J.aload (q := 39) O dX11_tellFacts_37 rfl 0 rfl ?_
  refine J.iconst (q := 40) (v := (2 : Int32)) O dX11_tellFacts_39 rfl rfl ?_
  refine J.iload_n (q := 41) O dX11_tellFacts_40 rfl 2 rfl ?_
  refine J.callSI (q := 44) [.int a1] [.int (2 : Int32), .ref (ad G 46)] [.int a1, .int (2 : Int32), .ref (ad G 46)] rfl O dX11_tellFacts_41 rfl (c_J6_bitCount_0f7a4 hG h) wd_3_144 mw_J6_bitCount_0f7a4 rfl (by decide) (Nat.le_of_ble_eq_true rfl) (fun v5 M5 h => ?_)
  refine J.iast (q := 45) (c' := 46) (j := 2) O dX11_tellFacts_44 rfl ar_46 (vin_lit (by decide)) (by decide) ?_
  refine J.aload (q := 47) O dX11_tellFacts_45 rfl 0 rfl ?_
  refine J.iconst (q := 48) (v := (3 : Int32)) O dX11_tellFacts_47 rfl rfl ?_
  refine J.iload_n (q := 49) O dX11_tellFacts_48 rfl 3 rfl ?_
  refine J.iast (q := 50) (c' := 46) (j := 3) O dX11_tellFacts_49 rfl ar_46 (vin_lit (by decide)) (by decide) ?_
  refine J.aload (q := 52) O dX11_tellFacts_50 rfl 0 rfl ?_
  refine J.iconst (q := 53) (v := (4 : Int32)) O dX11_tellFacts_52 rfl rfl ?_
  refine J.aload_n (q := 54) O dX11_tellFacts_53 rfl 1 rfl ?_
  refine J.getR (q := 57) (c' := 0) (ci := 11) (k := 3) (r := 51) O dX11_tellFacts_54 rfl wd_2_217 (by decide) if_0_3 ?_
  refine J.getI (q := 60) (c' := 51) (ci := 2) (k := 1) (M5 51 1) rfl O dX11_tellFacts_57 rfl wd_1_163 (by decide) if_51_1 ?_
  refine J.iast (q := 61) (c' := 46) (j := 4) O dX11_tellFacts_60 rfl ar_46 (vin_lit (by decide)) (by decide) ?_
  refine J.aload (q := 63) O dX11_tellFacts_61 rfl 0 rfl ?_
  refine J.iconst (q := 64) (v := (5 : Int32)) O dX11_tellFacts_63 rfl rfl ?_
  refine J.iload_n (q := 65) O dX11_tellFacts_64 rfl 4 rfl ?_
  refine J.if_eq (q := 68) (tgt := 72) O dX11_tellFacts_65 rfl (by decide) (fun z6 => ?_) (fun z6 => ?_)
  · replace h := h.1 z6
    refine J.iconst (q := 73) (v := (0 : Int32)) O dX11_tellFacts_72 rfl rfl ?_
    exact J.sub [] rfl (j_X11_tellFacts_b73 hG O hR h)
  · replace h := h.2 z6
    refine J.iconst (q := 69) (v := (1 : Int32)) O dX11_tellFacts_68 rfl rfl ?_
    refine J.goto (q := 73) O dX11_tellFacts_69 (by decide) ?_
    exact J.sub [] rfl (j_X11_tellFacts_b73 hG O hR h)
set_option maxHeartbeats 4000000 in
set_option maxRecDepth 20000 in
theorem c_X7_holds {l : Launch} {G : GX} (hG : Gd G) {tx : Nat} {a2 : Int32} {M : Mem} {K : Int32 → Mem → Prop} (h : f_X7_holds tx a2 M K) : CI l G yX7_holds cX7_holds 3 (some .boolean) 6 [.ref (ad G 45), .ref (ad G tx), .int a2] M K := by
  unfold f_X7_holds at h
  obtain ⟨htx, h⟩ := h
  refine CZ.mk hG (by decide) [(0, .ref (ad G 45)), (1, .ref (ad G tx)), (2, .int a2)] rfl (Nat.le_of_ble_eq_true rfl) (fun X O hlX hR => ?_)
  subst hlX
  refine J.aload_n (q := 1) O dX7_holds_0 rfl 0 rfl ?_
  refine J.aload_n (q := 2) O dX7_holds_1 rfl 1 rfl ?_
  refine J.iload_n (q := 3) O dX7_holds_2 rfl 2 rfl ?_
  refine J.iconst (q := 4) (v := (3 : Int32)) O dX7_holds_3 rfl rfl ?_
  refine J.callVV (q := 7) [.ref (ad G tx), .int a2, .int (3 : Int32)] [] [.int (3 : Int32), .int a2, .ref (ad G tx), .ref (ad G 45)] rfl O dX7_holds_4 rfl (c_X7_begin hG h) wd_3_55 mw_X7_begin io_45 rfl (by decide) (Nat.le_of_ble_eq_true rfl) (fun M1 h => ?_)
  refine J.aload_n (q := 8) O dX7_holds_7 rfl 0 rfl ?_
  refine J.callVI (q := 11) [] [] [.ref (ad G 45)] rfl O dX7_holds_8 rfl (c_X7_ruleHolds hG h) wd_3_76 mw_X7_ruleHolds io_45 rfl (by decide) (Nat.le_of_ble_eq_true rfl) (fun v2 M2 h => ?_)
  exact hR _ _ _ _ dX7_holds_11 h.1 h.2
set_option maxHeartbeats 4000000 in
set_option maxRecDepth 20000 in
theorem j_X0_bearingOn_b83 {X : CX} {G : GX} {K : Int32 → Mem → Prop} (hG : Gd G) (O : Ok X G cX0_bearingOn 5 RX0 7) (hR : RetI X G cX0_bearingOn K) {r5 : Int32 × Int32 × Int32 × Int32 × Mem → Prop} (hr5 : ∀ a : Int32 × Int32 × Int32 × Int32 × Mem, r5 a → J X G a.2.2.2.2 5 [(0, .ref (ad G 15)), (1, .int a.1), (2, .int a.2.1), (3, .int a.2.2.1), (4, .int a.2.2.2.1)] []) {x1 : Int32} {x2 : Int32} {x3 : Int32} {x4 : Int32} {M : Mem} (h : f_X0_bearingOn_b83 r5 K x1 x2 x3 x4 M) : J X G M 83 [(0, .ref (ad G 15)), (1, .int x1), (2, .int x2), (3, .int x3), (4, .int x4)] [] := by
  unfold f_X0_bearingOn_b83 at h
  refine J.iinc (q := 86) O dX0_bearingOn_83 rfl [(4, .int (x4 + (1 : Int32))), (0, .ref (ad G 15)), (1, .int x1), (2, .int x2), (3, .int x3)] 4 rfl rfl (by decide) rfl ?_
  refine J.goto (q := 5) O dX0_bearingOn_86 (by decide) ?_
  exact J.sub [1, 2, 3, 4, 0] rfl (hr5 _ h)
set_option maxHeartbeats 4000000 in
set_option maxRecDepth 20000 in
theorem j_X0_bearingOn_c5 {X : CX} {G : GX} {K : Int32 → Mem → Prop} (hG : Gd G) (O : Ok X G cX0_bearingOn 5 RX0 7) (hR : RetI X G cX0_bearingOn K) {a : Int32 × Int32 × Int32 × Int32 × Mem} (h : Lp (fun (r5 : Int32 × Int32 × Int32 × Int32 × Mem → Prop) a => f_X0_bearingOn_c5 K r5 a.1 a.2.1 a.2.2.1 a.2.2.2.1 a.2.2.2.2) a) : J X G a.2.2.2.2 5 [(0, .ref (ad G 15)), (1, .int a.1), (2, .int a.2.1), (3, .int a.2.2.1), (4, .int a.2.2.2.1)] [] := by
  refine Lp.elim (P := fun a => J X G a.2.2.2.2 5 [(0, .ref (ad G 15)), (1, .int a.1), (2, .int a.2.1), (3, .int a.2.2.1), (4, .int a.2.2.2.1)] []) ?_ h
  clear h
  intro r5 hr5 a h
  obtain ⟨x1, x2, x3, x4, M⟩ := a
  unfold f_X0_bearingOn_c5 at h
  (try dsimp only at h ⊢)
  refine J.iload (q := 7) O dX0_bearingOn_5 rfl 4 rfl ?_
  refine J.aload_n (q := 8) O dX0_bearingOn_7 rfl 0 rfl ?_
  refine J.getI (q := 11) (c' := 15) (ci := 0) (k := 0) (M 15 0) rfl O dX0_bearingOn_8 rfl wd_1_133 (by decide) if_15_0 ?_
  refine J.icmp_ge (q := 14) (tgt := 89) O dX0_bearingOn_11 rfl (by decide) (fun z6 => ?_) (fun z6 => ?_)
  · replace h := h.1 z6
    refine J.iload_n (q := 90) O dX0_bearingOn_89 rfl 3 rfl ?_
    exact hR _ _ _ _ dX0_bearingOn_90 h
  · replace h := h.2 z6
    refine J.aload_n (q := 15) O dX0_bearingOn_14 rfl 0 rfl ?_
    refine J.getR (q := 18) (c' := 15) (ci := 0) (k := 1) (r := 16) O dX0_bearingOn_15 rfl wd_1_135 (by decide) if_15_1 ?_
    refine J.iload (q := 20) O dX0_bearingOn_18 rfl 4 rfl ?_
    obtain ⟨hv7, h⟩ := h
    refine J.aald (q := 21) (t := 1) (c' := 16) (b := 17) (d := 1) O dX0_bearingOn_20 rfl ar_16 hv7 ?_
    refine J.iconst (q := 22) (v := (0 : Int32)) O dX0_bearingOn_21 rfl rfl ?_
    refine J.bald (q := 23) (c' := (17 + 1 * x4.toNatClampNeg)) (j := 0) (M (17 + 1 * x4.toNatClampNeg) 0) rfl O dX0_bearingOn_22 rfl (row_16 hv7) (vin_lit (by decide)) (by decide) ?_
    refine J.bipush (q := 25) (v := (65 : Int32)) O dX0_bearingOn_23 rfl rfl ?_
    refine J.isub (q := 26) O dX0_bearingOn_25 rfl ?_
    refine J.iload_n (q := 27) O dX0_bearingOn_26 rfl 1 rfl ?_
    refine J.icmp_ne (q := 30) (tgt := 83) O dX0_bearingOn_27 rfl (by decide) (fun z8 => ?_) (fun z8 => ?_)
    · replace h := h.1 z8
      exact J.sub [0, 1, 2, 3, 4] rfl (j_X0_bearingOn_b83 hG O hR hr5 h)
    · replace h := h.2 z8
      refine J.aload_n (q := 31) O dX0_bearingOn_30 rfl 0 rfl ?_
      refine J.getR (q := 34) (c' := 15) (ci := 0) (k := 3) (r := 43) O dX0_bearingOn_31 rfl wd_1_137 (by decide) if_15_3 ?_
      refine J.iload (q := 36) O dX0_bearingOn_34 rfl 4 rfl ?_
      obtain ⟨hv9, h⟩ := h
      refine J.iald (q := 37) (c' := 43) (j := x4.toNatClampNeg) (M 43 x4.toNatClampNeg) rfl O dX0_bearingOn_36 rfl ar_43 hv9 rfl ?_
      refine J.iload_n (q := 38) O dX0_bearingOn_37 rfl 2 rfl ?_
      refine J.icmp_gt (q := 41) (tgt := 83) O dX0_bearingOn_38 rfl (by decide) (fun z10 => ?_) (fun z10 => ?_)
      · replace h := h.1 z10
        exact J.sub [0, 1, 2, 3, 4] rfl (j_X0_bearingOn_b83 hG O hR hr5 h)
      · replace h := h.2 z10
        refine J.iload_n (q := 42) O dX0_bearingOn_41 rfl 2 rfl ?_
        refine J.aload_n (q := 43) O dX0_bearingOn_42 rfl 0 rfl ?_
        refine J.getR (q := 46) (c' := 15) (ci := 0) (k := 4) (r := 44) O dX0_bearingOn_43 rfl wd_1_138 (by decide) if_15_4 ?_
        refine J.iload (q := 48) O dX0_bearingOn_46 rfl 4 rfl ?_
        obtain ⟨hv11, h⟩ := h
        refine J.iald (q := 49) (c' := 44) (j := x4.toNatClampNeg) (M 44 x4.toNatClampNeg) rfl O dX0_bearingOn_48 rfl ar_44 hv11 rfl ?_
        refine J.icmp_ge (q := 52) (tgt := 83) O dX0_bearingOn_49 rfl (by decide) (fun z12 => ?_) (fun z12 => ?_)
        · replace h := h.1 z12
          exact J.sub [0, 1, 2, 3, 4] rfl (j_X0_bearingOn_b83 hG O hR hr5 h)
        · replace h := h.2 z12
          refine J.aload_n (q := 53) O dX0_bearingOn_52 rfl 0 rfl ?_
          refine J.getR (q := 56) (c' := 15) (ci := 0) (k := 5) (r := 45) O dX0_bearingOn_53 rfl wd_1_139 (by decide) if_15_5 ?_
          refine J.aload_n (q := 57) O dX0_bearingOn_56 rfl 0 rfl ?_
          refine J.getR (q := 60) (c' := 15) (ci := 0) (k := 1) (r := 16) O dX0_bearingOn_57 rfl wd_1_135 (by decide) if_15_1 ?_
          refine J.iload (q := 62) O dX0_bearingOn_60 rfl 4 rfl ?_
          obtain ⟨hv13, h⟩ := h
          refine J.aald (q := 63) (t := 1) (c' := 16) (b := 17) (d := 1) O dX0_bearingOn_62 rfl ar_16 hv13 ?_
          refine J.aload_n (q := 64) O dX0_bearingOn_63 rfl 0 rfl ?_
          refine J.getR (q := 67) (c' := 15) (ci := 0) (k := 2) (r := 42) O dX0_bearingOn_64 rfl wd_1_136 (by decide) if_15_2 ?_
          refine J.iload (q := 69) O dX0_bearingOn_67 rfl 4 rfl ?_
          obtain ⟨hv14, h⟩ := h
          refine J.iald (q := 70) (c' := 42) (j := x4.toNatClampNeg) (M 42 x4.toNatClampNeg) rfl O dX0_bearingOn_69 rfl ar_42 hv14 rfl ?_
          refine J.callVI (q := 73) [.ref (ad G (17 + 1 * x4.toNatClampNeg)), .int (M 42 x4.toNatClampNeg)] [] [.int (M 42 x4.toNatClampNeg), .ref (ad G (17 + 1 * x4.toNatClampNeg)), .ref (ad G 45)] rfl O dX0_bearingOn_70 rfl (c_X7_holds hG h) wd_3_154 mw_X7_holds io_45 rfl (by decide) (Nat.le_of_ble_eq_true rfl) (fun v15 M15 h => ?_)
          refine J.if_eq (q := 76) (tgt := 83) O dX0_bearingOn_73 rfl (by decide) (fun z16 => ?_) (fun z16 => ?_)
          · replace h := h.1 z16
            exact J.sub [0, 1, 2, 3, 4] rfl (j_X0_bearingOn_b83 hG O hR hr5 h)
          · replace h := h.2 z16
            refine J.iload_n (q := 77) O dX0_bearingOn_76 rfl 3 rfl ?_
            refine J.iconst (q := 78) (v := (1 : Int32)) O dX0_bearingOn_77 rfl rfl ?_
            refine J.iload (q := 80) O dX0_bearingOn_78 rfl 4 rfl ?_
            refine J.ishl (q := 81) O dX0_bearingOn_80 rfl ?_
            refine J.ior (q := 82) O dX0_bearingOn_81 rfl ?_
            refine J.istore_n (q := 83) O dX0_bearingOn_82 rfl [(3, .int (x3 ||| ((1 : Int32) <<< (x4 &&& 31)))), (0, .ref (ad G 15)), (1, .int x1), (2, .int x2), (4, .int x4)] (by decide) rfl ?_
            exact J.sub [1, 2, 3, 0, 4] rfl (j_X0_bearingOn_b83 hG O hR hr5 h)
set_option maxHeartbeats 4000000 in
set_option maxRecDepth 20000 in
theorem c_X0_bearingOn {l : Launch} {G : GX} (hG : Gd G) {a1 : Int32} {a2 : Int32} {M : Mem} {K : Int32 → Mem → Prop} (h : f_X0_bearingOn a1 a2 M K) : CI l G yX0_bearingOn cX0_bearingOn 5 (some .int) 7 [.ref (ad G 15), .int a1, .int a2] M K := by
  unfold f_X0_bearingOn at h
  refine CI.mk hG (by decide) [(0, .ref (ad G 15)), (1, .int a1), (2, .int a2)] rfl (Nat.le_of_ble_eq_true rfl) (fun X O hlX hR => ?_)
  subst hlX
  refine J.iconst (q := 1) (v := (0 : Int32)) O dX0_bearingOn_0 rfl rfl ?_
  refine J.istore_n (q := 2) O dX0_bearingOn_1 rfl [(3, .int (0 : Int32)), (0, .ref (ad G 15)), (1, .int a1), (2, .int a2)] (by decide) rfl ?_
  refine J.iconst (q := 3) (v := (0 : Int32)) O dX0_bearingOn_2 rfl rfl ?_
  refine J.istore (q := 5) O dX0_bearingOn_3 rfl [(4, .int (0 : Int32)), (3, .int (0 : Int32)), (0, .ref (ad G 15)), (1, .int a1), (2, .int a2)] (by decide) rfl ?_
  exact J.sub [2, 3, 4, 1, 0] rfl (j_X0_bearingOn_c5 hG O hR h)
set_option maxHeartbeats 4000000 in
set_option maxRecDepth 20000 in
theorem j_X0_giverAmong_b45 {X : CX} {G : GX} {K : Int32 → Mem → Prop} (hG : Gd G) (O : Ok X G cX0_giverAmong 4 RX0 1) (hR : RetI X G cX0_giverAmong K) {r5 : Int32 × Int32 × Int32 × Mem → Prop} (hr5 : ∀ a : Int32 × Int32 × Int32 × Mem, r5 a → J X G a.2.2.2 5 [(0, .ref (ad G 15)), (1, .int a.1), (2, .int a.2.1), (3, .int a.2.2.1)] []) {x1 : Int32} {x2 : Int32} {x3 : Int32} {M : Mem} (h : f_X0_giverAmong_b45 r5 K x1 x2 x3 M) : J X G M 45 [(0, .ref (ad G 15)), (1, .int x1), (2, .int x2), (3, .int x3)] [] := by
  unfold f_X0_giverAmong_b45 at h
  refine J.iinc (q := 48) O dX0_giverAmong_45 rfl [(3, .int (x3 + (1 : Int32))), (0, .ref (ad G 15)), (1, .int x1), (2, .int x2)] 3 rfl rfl (by decide) rfl ?_
  refine J.goto (q := 5) O dX0_giverAmong_48 (by decide) ?_
  exact J.sub [1, 2, 3, 0] rfl (hr5 _ h)
set_option maxHeartbeats 4000000 in
set_option maxRecDepth 20000 in
theorem j_X0_giverAmong_b43 {X : CX} {G : GX} {K : Int32 → Mem → Prop} (hG : Gd G) (O : Ok X G cX0_giverAmong 4 RX0 1) (hR : RetI X G cX0_giverAmong K) {r5 : Int32 × Int32 × Int32 × Mem → Prop} (hr5 : ∀ a : Int32 × Int32 × Int32 × Mem, r5 a → J X G a.2.2.2 5 [(0, .ref (ad G 15)), (1, .int a.1), (2, .int a.2.1), (3, .int a.2.2.1)] []) {x1 : Int32} {x3 : Int32} {M : Mem} (h : f_X0_giverAmong_b43 r5 K x1 x3 M) : J X G M 43 [(0, .ref (ad G 15)), (1, .int x1), (3, .int x3)] [] := by
  unfold f_X0_giverAmong_b43 at h
  refine J.iload_n (q := 44) O dX0_giverAmong_43 rfl 2 rfl ?_
  refine J.istore_n (q := 45) O dX0_giverAmong_44 rfl [(2, .int x3), (0, .ref (ad G 15)), (1, .int x1), (3, .int x3)] (by decide) rfl ?_
  exact J.sub [1, 2, 0, 3] rfl (j_X0_giverAmong_b45 hG O hR hr5 h)
set_option maxHeartbeats 4000000 in
set_option maxRecDepth 20000 in
theorem j_X0_giverAmong_c5 {X : CX} {G : GX} {K : Int32 → Mem → Prop} (hG : Gd G) (O : Ok X G cX0_giverAmong 4 RX0 1) (hR : RetI X G cX0_giverAmong K) {a : Int32 × Int32 × Int32 × Mem} (h : Lp (fun (r5 : Int32 × Int32 × Int32 × Mem → Prop) a => f_X0_giverAmong_c5 K r5 a.1 a.2.1 a.2.2.1 a.2.2.2) a) : J X G a.2.2.2 5 [(0, .ref (ad G 15)), (1, .int a.1), (2, .int a.2.1), (3, .int a.2.2.1)] [] := by
  refine Lp.elim (P := fun a => J X G a.2.2.2 5 [(0, .ref (ad G 15)), (1, .int a.1), (2, .int a.2.1), (3, .int a.2.2.1)] []) ?_ h
  clear h
  intro r5 hr5 a h
  obtain ⟨x1, x2, x3, M⟩ := a
  unfold f_X0_giverAmong_c5 at h
  (try dsimp only at h ⊢)
  refine J.iload_n (q := 6) O dX0_giverAmong_5 rfl 3 rfl ?_
  refine J.aload_n (q := 7) O dX0_giverAmong_6 rfl 0 rfl ?_
  refine J.getI (q := 10) (c' := 15) (ci := 0) (k := 0) (M 15 0) rfl O dX0_giverAmong_7 rfl wd_1_133 (by decide) if_15_0 ?_
  refine J.icmp_ge (q := 13) (tgt := 51) O dX0_giverAmong_10 rfl (by decide) (fun z3 => ?_) (fun z3 => ?_)
  · replace h := h.1 z3
    refine J.iload_n (q := 52) O dX0_giverAmong_51 rfl 2 rfl ?_
    exact hR _ _ _ _ dX0_giverAmong_52 h
  · replace h := h.2 z3
    refine J.iload_n (q := 14) O dX0_giverAmong_13 rfl 1 rfl ?_
    refine J.iload_n (q := 15) O dX0_giverAmong_14 rfl 3 rfl ?_
    refine J.ishr (q := 16) O dX0_giverAmong_15 rfl ?_
    refine J.iconst (q := 17) (v := (1 : Int32)) O dX0_giverAmong_16 rfl rfl ?_
    refine J.iand (q := 18) O dX0_giverAmong_17 rfl ?_
    refine J.iconst (q := 19) (v := (1 : Int32)) O dX0_giverAmong_18 rfl rfl ?_
    refine J.icmp_ne (q := 22) (tgt := 45) O dX0_giverAmong_19 rfl (by decide) (fun z4 => ?_) (fun z4 => ?_)
    · replace h := h.1 z4
      exact J.sub [0, 1, 2, 3] rfl (j_X0_giverAmong_b45 hG O hR hr5 h)
    · replace h := h.2 z4
      refine J.iload_n (q := 23) O dX0_giverAmong_22 rfl 2 rfl ?_
      refine J.bipush (q := 25) (v := (-9 : Int32)) O dX0_giverAmong_23 rfl rfl ?_
      refine J.icmp_eq (q := 28) (tgt := 43) O dX0_giverAmong_25 rfl (by decide) (fun z5 => ?_) (fun z5 => ?_)
      · replace h := h.1 z5
        exact J.sub [0, 1, 3] rfl (j_X0_giverAmong_b43 hG O hR hr5 h)
      · replace h := h.2 z5
        refine J.aload_n (q := 29) O dX0_giverAmong_28 rfl 0 rfl ?_
        refine J.getR (q := 32) (c' := 15) (ci := 0) (k := 3) (r := 43) O dX0_giverAmong_29 rfl wd_1_137 (by decide) if_15_3 ?_
        refine J.iload_n (q := 33) O dX0_giverAmong_32 rfl 3 rfl ?_
        obtain ⟨hv6, h⟩ := h
        refine J.iald (q := 34) (c' := 43) (j := x3.toNatClampNeg) (M 43 x3.toNatClampNeg) rfl O dX0_giverAmong_33 rfl ar_43 hv6 rfl ?_
        refine J.aload_n (q := 35) O dX0_giverAmong_34 rfl 0 rfl ?_
        refine J.getR (q := 38) (c' := 15) (ci := 0) (k := 3) (r := 43) O dX0_giverAmong_35 rfl wd_1_137 (by decide) if_15_3 ?_
        refine J.iload_n (q := 39) O dX0_giverAmong_38 rfl 2 rfl ?_
        obtain ⟨hv7, h⟩ := h
        refine J.iald (q := 40) (c' := 43) (j := x2.toNatClampNeg) (M 43 x2.toNatClampNeg) rfl O dX0_giverAmong_39 rfl ar_43 hv7 rfl ?_
        refine J.icmp_lt (q := 43) (tgt := 45) O dX0_giverAmong_40 rfl (by decide) (fun z8 => ?_) (fun z8 => ?_)
        · replace h := h.1 z8
          exact J.sub [0, 1, 2, 3] rfl (j_X0_giverAmong_b45 hG O hR hr5 h)
        · replace h := h.2 z8
          exact J.sub [0, 1, 3] rfl (j_X0_giverAmong_b43 hG O hR hr5 h)
set_option maxHeartbeats 4000000 in
set_option maxRecDepth 20000 in
theorem c_X0_giverAmong {l : Launch} {G : GX} (hG : Gd G) {a1 : Int32} {M : Mem} {K : Int32 → Mem → Prop} (h : f_X0_giverAmong a1 M K) : CI l G yX0_giverAmong cX0_giverAmong 4 (some .int) 1 [.ref (ad G 15), .int a1] M K := by
  unfold f_X0_giverAmong at h
  refine CI.mk hG (by decide) [(0, .ref (ad G 15)), (1, .int a1)] rfl (Nat.le_of_ble_eq_true rfl) (fun X O hlX hR => ?_)
  subst hlX
  refine J.bipush (q := 2) (v := (-9 : Int32)) O dX0_giverAmong_0 rfl rfl ?_
  refine J.istore_n (q := 3) O dX0_giverAmong_2 rfl [(2, .int (-9 : Int32)), (0, .ref (ad G 15)), (1, .int a1)] (by decide) rfl ?_
  refine J.iconst (q := 4) (v := (0 : Int32)) O dX0_giverAmong_3 rfl rfl ?_
  refine J.istore_n (q := 5) O dX0_giverAmong_4 rfl [(3, .int (0 : Int32)), (2, .int (-9 : Int32)), (0, .ref (ad G 15)), (1, .int a1)] (by decide) rfl ?_
  exact J.sub [2, 3, 1, 0] rfl (j_X0_giverAmong_c5 hG O hR h)
set_option maxHeartbeats 4000000 in
set_option maxRecDepth 20000 in
theorem j_X0_kindOf_b27 {X : CX} {G : GX} {K : Int32 → Mem → Prop} (hG : Gd G) (O : Ok X G cX0_kindOf 2 RX0 1) (hR : RetI X G cX0_kindOf K) {s0 : Int32} {M : Mem} (h : f_X0_kindOf_b27 K s0 M) : J X G M 27 [] [.int s0] := by
  unfold f_X0_kindOf_b27 at h
  exact hR _ _ _ _ dX0_kindOf_27 h
set_option maxHeartbeats 4000000 in
set_option maxRecDepth 20000 in
theorem j_X0_kindOf_b12 {X : CX} {G : GX} {K : Int32 → Mem → Prop} (hG : Gd G) (O : Ok X G cX0_kindOf 2 RX0 1) (hR : RetI X G cX0_kindOf K) {M : Mem} (h : f_X0_kindOf_b12 K  M) : J X G M 12 [] [] := by
  unfold f_X0_kindOf_b12 at h
  refine J.iconst (q := 13) (v := (0 : Int32)) O dX0_kindOf_12 rfl rfl ?_
  refine J.goto (q := 27) O dX0_kindOf_13 (by decide) ?_
  exact J.sub [] rfl (j_X0_kindOf_b27 hG O hR h)
set_option maxHeartbeats 4000000 in
set_option maxRecDepth 20000 in
theorem c_X0_kindOf {l : Launch} {G : GX} (hG : Gd G) {a1 : Int32} {M : Mem} {K : Int32 → Mem → Prop} (h : f_X0_kindOf a1 M K) : CI l G yX0_kindOf cX0_kindOf 2 (some .int) 1 [.ref (ad G 15), .int a1] M K := by
  unfold f_X0_kindOf at h
  refine CI.mk hG (by decide) [(0, .ref (ad G 15)), (1, .int a1)] rfl (Nat.le_of_ble_eq_true rfl) (fun X O hlX hR => ?_)
  subst hlX
  refine J.iload_n (q := 1) O dX0_kindOf_0 rfl 1 rfl ?_
  refine J.if_lt (q := 4) (tgt := 12) O dX0_kindOf_1 rfl (by decide) (fun z2 => ?_) (fun z2 => ?_)
  · replace h := h.1 z2
    exact J.sub [] rfl (j_X0_kindOf_b12 hG O hR h)
  · replace h := h.2 z2
    refine J.iload_n (q := 5) O dX0_kindOf_4 rfl 1 rfl ?_
    refine J.aload_n (q := 6) O dX0_kindOf_5 rfl 0 rfl ?_
    refine J.getI (q := 9) (c' := 15) (ci := 0) (k := 0) (M 15 0) rfl O dX0_kindOf_6 rfl wd_1_133 (by decide) if_15_0 ?_
    refine J.icmp_lt (q := 12) (tgt := 16) O dX0_kindOf_9 rfl (by decide) (fun z3 => ?_) (fun z3 => ?_)
    · replace h := h.1 z3
      refine J.aload_n (q := 17) O dX0_kindOf_16 rfl 0 rfl ?_
      refine J.getR (q := 20) (c' := 15) (ci := 0) (k := 1) (r := 16) O dX0_kindOf_17 rfl wd_1_135 (by decide) if_15_1 ?_
      refine J.iload_n (q := 21) O dX0_kindOf_20 rfl 1 rfl ?_
      obtain ⟨hv4, h⟩ := h
      refine J.aald (q := 22) (t := 1) (c' := 16) (b := 17) (d := 1) O dX0_kindOf_21 rfl ar_16 hv4 ?_
      refine J.iconst (q := 23) (v := (1 : Int32)) O dX0_kindOf_22 rfl rfl ?_
      refine J.bald (q := 24) (c' := (17 + 1 * a1.toNatClampNeg)) (j := 1) (M (17 + 1 * a1.toNatClampNeg) 1) rfl O dX0_kindOf_23 rfl (row_16 hv4) (vin_lit (by decide)) (by decide) ?_
      refine J.bipush (q := 26) (v := (48 : Int32)) O dX0_kindOf_24 rfl rfl ?_
      refine J.isub (q := 27) O dX0_kindOf_26 rfl ?_
      exact J.sub [] rfl (j_X0_kindOf_b27 hG O hR h)
    · replace h := h.2 z3
      exact J.sub [] rfl (j_X0_kindOf_b12 hG O hR h)
set_option maxHeartbeats 4000000 in
set_option maxRecDepth 20000 in
theorem c_X5_begin {l : Launch} {G : GX} (hG : Gd G) {t : Nat} {a1 : Int32} {a2 : Int32} {a3 : Int32} {a4 : Int32} {M : Mem} {K : Mem → Prop} (h : f_X5_begin t a1 a2 a3 a4 M K) : CV l G yX5_begin cX5_begin 5 1 [.ref (ad G t), .int a1, .int a2, .int a3, .int a4] M K := by
  unfold f_X5_begin at h
  obtain ⟨ht, h⟩ := h
  refine CV.mk hG (by decide) [(0, .ref (ad G t)), (1, .int a1), (2, .int a2), (3, .int a3), (4, .int a4)] rfl (Nat.le_of_ble_eq_true rfl) (fun X O hlX hR => ?_)
  subst hlX
  refine J.aload_n (q := 1) O dX5_begin_0 rfl 0 rfl ?_
  refine J.iload_n (q := 2) O dX5_begin_1 rfl 1 rfl ?_
  refine J.putI (q := 5) (c' := t) (ci := 5) (k := 2) O dX5_begin_2 rfl wd_2_164 (by decide) (isMat_F ht rfl) rfl rfl ?_
  refine J.aload_n (q := 6) O dX5_begin_5 rfl 0 rfl ?_
  refine J.iload_n (q := 7) O dX5_begin_6 rfl 2 rfl ?_
  refine J.putI (q := 10) (c' := t) (ci := 5) (k := 3) O dX5_begin_7 rfl wd_2_165 (by decide) (isMat_F ht rfl) rfl rfl ?_
  refine J.aload_n (q := 11) O dX5_begin_10 rfl 0 rfl ?_
  refine J.iload_n (q := 12) O dX5_begin_11 rfl 3 rfl ?_
  refine J.putI (q := 15) (c' := t) (ci := 5) (k := 4) O dX5_begin_12 rfl wd_2_167 (by decide) (isMat_F ht rfl) rfl rfl ?_
  refine J.aload_n (q := 16) O dX5_begin_15 rfl 0 rfl ?_
  refine J.iload (q := 18) O dX5_begin_16 rfl 4 rfl ?_
  refine J.putI (q := 21) (c' := t) (ci := 5) (k := 5) O dX5_begin_18 rfl wd_2_169 (by decide) (isMat_F ht rfl) rfl rfl ?_
  refine J.aload_n (q := 22) O dX5_begin_21 rfl 0 rfl ?_
  refine J.aload_n (q := 23) O dX5_begin_22 rfl 0 rfl ?_
  refine J.getR (q := 26) (c' := t) (ci := 5) (k := 0) (r := 1) O dX5_begin_23 rfl wd_2_162 (by decide) (isMat_F ht rfl) ?_
  refine J.getI (q := 29) (c' := 1) (ci := 3) (k := 0) ((mset (mset (mset (mset M t 2 a1) t 3 a2) t 4 a3) t 5 a4) 1 0) rfl O dX5_begin_26 rfl wd_1_31 (by decide) if_1_0 ?_
  refine J.putI (q := 32) (c' := t) (ci := 5) (k := 6) O dX5_begin_29 rfl wd_2_171 (by decide) (isMat_F ht rfl) rfl rfl ?_
  exact hR _ _ _ dX5_begin_32 h
set_option maxHeartbeats 4000000 in
set_option maxRecDepth 20000 in
theorem c_X5_takeTerms {l : Launch} {G : GX} (hG : Gd G) {t : Nat} {a1 : Int32} {a2 : Int32} {a3 : Int32} {a4 : Int32} {M : Mem} {K : Mem → Prop} (h : f_X5_takeTerms t a1 a2 a3 a4 M K) : CV l G yX5_takeTerms cX5_takeTerms 5 1 [.ref (ad G t), .int a1, .int a2, .int a3, .int a4] M K := by
  unfold f_X5_takeTerms at h
  obtain ⟨ht, h⟩ := h
  refine CV.mk hG (by decide) [(0, .ref (ad G t)), (1, .int a1), (2, .int a2), (3, .int a3), (4, .int a4)] rfl (Nat.le_of_ble_eq_true rfl) (fun X O hlX hR => ?_)
  subst hlX
  refine J.aload_n (q := 1) O dX5_takeTerms_0 rfl 0 rfl ?_
  refine J.iload_n (q := 2) O dX5_takeTerms_1 rfl 1 rfl ?_
  refine J.putI (q := 5) (c' := t) (ci := 5) (k := 7) O dX5_takeTerms_2 rfl wd_2_173 (by decide) (isMat_F ht rfl) rfl rfl ?_
  refine J.aload_n (q := 6) O dX5_takeTerms_5 rfl 0 rfl ?_
  refine J.iload_n (q := 7) O dX5_takeTerms_6 rfl 2 rfl ?_
  refine J.putI (q := 10) (c' := t) (ci := 5) (k := 8) O dX5_takeTerms_7 rfl wd_2_175 (by decide) (isMat_F ht rfl) rfl rfl ?_
  refine J.aload_n (q := 11) O dX5_takeTerms_10 rfl 0 rfl ?_
  refine J.iload_n (q := 12) O dX5_takeTerms_11 rfl 3 rfl ?_
  refine J.putI (q := 15) (c' := t) (ci := 5) (k := 9) O dX5_takeTerms_12 rfl wd_2_176 (by decide) (isMat_F ht rfl) rfl rfl ?_
  refine J.aload_n (q := 16) O dX5_takeTerms_15 rfl 0 rfl ?_
  refine J.iload (q := 18) O dX5_takeTerms_16 rfl 4 rfl ?_
  obtain ⟨hb2, h⟩ := h
  refine J.putZ (q := 21) (c' := t) (ci := 5) (k := 10) O dX5_takeTerms_18 rfl wd_2_177 (by decide) (isMat_F ht rfl) rfl rfl hb2 ?_
  exact hR _ _ _ dX5_takeTerms_21 h
set_option maxHeartbeats 4000000 in
set_option maxRecDepth 20000 in
theorem j_X11_open_b152 {X : CX} {G : GX} {K : Int32 → Mem → Prop} (hG : Gd G) (O : Ok X G cX11_open 8 RX11 8) (hR : RetI X G cX11_open K) {s0 : Int32} {s1 : Int32} {s2 : Int32} {s3 : Int32} {s4 : Nat} {M : Mem} (h : f_X11_open_b152 K s0 s1 s2 s3 s4 M) : J X G M 152 [(0, .ref (ad G 0))] [.int s0, .int s1, .int s2, .int s3, .ref (ad G s4)] := by
  unfold f_X11_open_b152 at h
  obtain ⟨hs4, h⟩ := h
  refine J.callVV (q := 155) [.int s3, .int s2, .int s1, .int s0] [] [.int s0, .int s1, .int s2, .int s3, .ref (ad G s4)] rfl O dX11_open_152 rfl (c_X5_takeTerms hG h) wd_3_170 mw_X5_takeTerms (isMat_O hs4) rfl (by decide) (Nat.le_of_ble_eq_true rfl) (fun M6 h => ?_)
  refine J.aload_n (q := 156) O dX11_open_155 rfl 0 rfl ?_
  refine J.dup (q := 157) O dX11_open_156 rfl rfl ?_
  refine J.getI (q := 160) (c' := 0) (ci := 11) (k := 5) (M6 0 5) rfl O dX11_open_157 rfl wd_2_219 (by decide) if_0_5 ?_
  refine J.iconst (q := 161) (v := (1 : Int32)) O dX11_open_160 rfl rfl ?_
  refine J.iadd (q := 162) O dX11_open_161 rfl ?_
  refine J.putI (q := 165) (c' := 0) (ci := 11) (k := 5) O dX11_open_162 rfl wd_2_219 (by decide) if_0_5 rfl rfl ?_
  refine J.aload_n (q := 166) O dX11_open_165 rfl 0 rfl ?_
  refine J.getI (q := 169) (c' := 0) (ci := 11) (k := 5) ((M6 0 5) + (1 : Int32)) rfl O dX11_open_166 rfl wd_2_219 (by decide) if_0_5 ?_
  refine J.iconst (q := 170) (v := (1 : Int32)) O dX11_open_169 rfl rfl ?_
  refine J.isub (q := 171) O dX11_open_170 rfl ?_
  exact hR _ _ _ _ dX11_open_171 h
set_option maxHeartbeats 4000000 in
set_option maxRecDepth 20000 in
theorem c_X11_open {l : Launch} {G : GX} (hG : Gd G) {a1 : Int32} {a2 : Int32} {a3 : Int32} {a4 : Int32} {M : Mem} {K : Int32 → Mem → Prop} (h : f_X11_open a1 a2 a3 a4 M K) : CI l G yX11_open cX11_open 8 (some .int) 8 [.ref (ad G 0), .int a1, .int a2, .int a3, .int a4] M K := by
  unfold f_X11_open at h
  refine CI.mk hG (by decide) [(0, .ref (ad G 0)), (1, .int a1), (2, .int a2), (3, .int a3), (4, .int a4)] rfl (Nat.le_of_ble_eq_true rfl) (fun X O hlX hR => ?_)
  subst hlX
  refine J.iload_n (q := 1) O dX11_open_0 rfl 1 rfl ?_
  refine J.callSI (q := 4) [.int a1] [] [.int a1] rfl O dX11_open_1 rfl (c_X11_isWhat hG h) wd_3_130 mw_X11_isWhat rfl (by decide) (Nat.le_of_ble_eq_true rfl) (fun v7 M7 h => ?_)
  refine J.if_ne (q := 7) (tgt := 14) O dX11_open_4 rfl (by decide) (fun z8 => ?_) (fun z8 => ?_)
  · replace h := h.1 z8
    refine J.iload_n (q := 15) O dX11_open_14 rfl 2 rfl ?_
    refine J.iload_n (q := 16) O dX11_open_15 rfl 3 rfl ?_
    refine J.callSI (q := 19) [.int a2, .int a3] [] [.int a3, .int a2] rfl O dX11_open_16 rfl (c_X11_wrongTopic hG h) wd_3_133 mw_X11_wrongTopic rfl (by decide) (Nat.le_of_ble_eq_true rfl) (fun v9 M9 h => ?_)
    refine J.aload_n (q := 20) O dX11_open_19 rfl 0 rfl ?_
    refine J.getI (q := 23) (c' := 0) (ci := 11) (k := 5) (M9 0 5) rfl O dX11_open_20 rfl wd_2_219 (by decide) if_0_5 ?_
    refine J.bipush (q := 25) (v := (40 : Int32)) O dX11_open_23 rfl rfl ?_
    refine J.callSI (q := 28) [.int (M9 0 5), .int (40 : Int32)] [.int v9] [.int (40 : Int32), .int (M9 0 5), .int v9] rfl O dX11_open_25 rfl (c_X11_fullAt hG h) wd_3_38 mw_X11_fullAt rfl (by decide) (Nat.le_of_ble_eq_true rfl) (fun v10 M10 h => ?_)
    refine J.callSI (q := 31) [.int v9, .int v10] [] [.int v10, .int v9] rfl O dX11_open_28 rfl (c_X11_worse hG h) wd_3_41 mw_X11_worse rfl (by decide) (Nat.le_of_ble_eq_true rfl) (fun v11 M11 h => ?_)
    refine J.istore (q := 33) O dX11_open_31 rfl [(5, .int v11), (0, .ref (ad G 0)), (1, .int a1), (2, .int a2), (3, .int a3), (4, .int a4)] (by decide) rfl ?_
    refine J.iload (q := 35) O dX11_open_33 rfl 0 rfl ?_
    refine J.if_eq (q := 38) (tgt := 45) O dX11_open_35 rfl (by decide) (fun z12 => ?_) (fun z12 => ?_)
    · replace h := h.1 z12
      refine J.aload_n (q := 46) O dX11_open_45 rfl 1 rfl ?_
      refine J.iload_n (q := 47) O dX11_open_46 rfl 3 rfl ?_
      refine J.iload_n (q := 48) O dX11_open_47 rfl 4 rfl ?_
      refine J.iload (q := 50) O dX11_open_48 rfl 5 rfl ?_
      refine J.callVV (q := 53) [.int a2, .int a3, .int a4] [] [.int a4, .int a3, .int a2, .ref (ad G 0)] rfl O dX11_open_50 rfl (c_X11_tellFacts hG h) wd_3_136 mw_X11_tellFacts io_0 rfl (by decide) (Nat.le_of_ble_eq_true rfl) (fun M13 h => ?_)
      refine J.aload_n (q := 54) O dX11_open_53 rfl 1 rfl ?_
      refine J.getR (q := 57) (c' := 0) (ci := 11) (k := 2) (r := 15) O dX11_open_54 rfl wd_2_216 (by decide) if_0_2 ?_
      refine J.aload_n (q := 58) O dX11_open_57 rfl 1 rfl ?_
      refine J.getR (q := 61) (c' := 0) (ci := 11) (k := 2) (r := 15) O dX11_open_58 rfl wd_2_216 (by decide) if_0_2 ?_
      refine J.iload_n (q := 62) O dX11_open_61 rfl 2 rfl ?_
      refine J.aload_n (q := 63) O dX11_open_62 rfl 1 rfl ?_
      refine J.getR (q := 66) (c' := 0) (ci := 11) (k := 0) (r := 1) O dX11_open_63 rfl wd_2_214 (by decide) if_0_0 ?_
      refine J.getI (q := 69) (c' := 1) (ci := 3) (k := 0) (M13 1 0) rfl O dX11_open_66 rfl wd_1_30 (by decide) if_1_0 ?_
      refine J.callVI (q := 72) [.int a1, .int (M13 1 0)] [.ref (ad G 15)] [.int (M13 1 0), .int a1, .ref (ad G 15), .ref (ad G 15)] rfl O dX11_open_69 rfl (c_X0_bearingOn hG h) wd_3_150 mw_X0_bearingOn io_15 rfl (by decide) (Nat.le_of_ble_eq_true rfl) (fun v14 M14 h => ?_)
      refine J.callVI (q := 75) [.int v14] [] [.int v14, .ref (ad G 15)] rfl O dX11_open_72 rfl (c_X0_giverAmong hG h) wd_3_158 mw_X0_giverAmong io_15 rfl (by decide) (Nat.le_of_ble_eq_true rfl) (fun v15 M15 h => ?_)
      refine J.istore (q := 77) O dX11_open_75 rfl [(6, .int v15), (5, .int v11), (0, .ref (ad G 0)), (1, .int a1), (2, .int a2), (3, .int a3), (4, .int a4)] (by decide) rfl ?_
      refine J.aload_n (q := 78) O dX11_open_77 rfl 2 rfl ?_
      refine J.getR (q := 81) (c' := 0) (ci := 11) (k := 2) (r := 15) O dX11_open_78 rfl wd_2_216 (by decide) if_0_2 ?_
      refine J.iload (q := 83) O dX11_open_81 rfl 0 rfl ?_
      refine J.callVI (q := 86) [.int v15] [] [.int v15, .ref (ad G 15)] rfl O dX11_open_83 rfl (c_X0_kindOf hG h) wd_3_162 mw_X0_kindOf io_15 rfl (by decide) (Nat.le_of_ble_eq_true rfl) (fun v16 M16 h => ?_)
      refine J.istore (q := 88) O dX11_open_86 rfl [(7, .int v16), (6, .int v15), (5, .int v11), (0, .ref (ad G 0)), (1, .int a1), (2, .int a2), (3, .int a3), (4, .int a4)] (by decide) rfl ?_
      refine J.aload_n (q := 89) O dX11_open_88 rfl 3 rfl ?_
      refine J.getR (q := 92) (c' := 0) (ci := 11) (k := 4) (r := 61) O dX11_open_89 rfl wd_2_218 (by decide) if_0_4 ?_
      refine J.aload_n (q := 93) O dX11_open_92 rfl 3 rfl ?_
      refine J.getI (q := 96) (c' := 0) (ci := 11) (k := 5) (M16 0 5) rfl O dX11_open_93 rfl wd_2_219 (by decide) if_0_5 ?_
      obtain ⟨hv17, h⟩ := h
      refine J.aald (q := 97) (t := 0) (c' := 61) (b := 127) (d := 4) O dX11_open_96 rfl ar_61 hv17 ?_
      refine J.iload_n (q := 98) O dX11_open_97 rfl 4 rfl ?_
      refine J.iload_n (q := 99) O dX11_open_98 rfl 5 rfl ?_
      refine J.iload_n (q := 100) O dX11_open_99 rfl 6 rfl ?_
      refine J.iload (q := 102) O dX11_open_100 rfl 1 rfl ?_
      refine J.callVV (q := 105) [.int a1, .int a2, .int a3, .int v15] [] [.int v15, .int a3, .int a2, .int a1, .ref (ad G (127 + 4 * ((M16 0 5).toNatClampNeg)))] rfl O dX11_open_102 rfl (c_X5_begin hG h) wd_3_166 mw_X5_begin (isMat_O (isMat_of hv17)) rfl (by decide) (Nat.le_of_ble_eq_true rfl) (fun M18 h => ?_)
      refine J.aload_n (q := 106) O dX11_open_105 rfl 3 rfl ?_
      refine J.getR (q := 109) (c' := 0) (ci := 11) (k := 4) (r := 61) O dX11_open_106 rfl wd_2_218 (by decide) if_0_4 ?_
      refine J.aload_n (q := 110) O dX11_open_109 rfl 3 rfl ?_
      refine J.getI (q := 113) (c' := 0) (ci := 11) (k := 5) (M18 0 5) rfl O dX11_open_110 rfl wd_2_219 (by decide) if_0_5 ?_
      obtain ⟨hv19, h⟩ := h
      refine J.aald (q := 114) (t := 0) (c' := 61) (b := 127) (d := 4) O dX11_open_113 rfl ar_61 hv19 ?_
      refine J.iload (q := 116) O dX11_open_114 rfl 0 rfl ?_
      refine J.aload_n (q := 117) O dX11_open_116 rfl 3 rfl ?_
      refine J.getR (q := 120) (c' := 0) (ci := 11) (k := 11) (r := 118) O dX11_open_117 rfl wd_2_225 (by decide) if_0_11 ?_
      refine J.iload (q := 122) O dX11_open_120 rfl 0 rfl ?_
      obtain ⟨hv20, h⟩ := h
      refine J.aald (q := 123) (t := 2) (c' := 118) (b := 119) (d := 1) O dX11_open_122 rfl ar_118 hv20 ?_
      refine J.iconst (q := 124) (v := (0 : Int32)) O dX11_open_123 rfl rfl ?_
      refine J.iald (q := 125) (c' := (119 + 1 * v16.toNatClampNeg)) (j := 0) (M18 (119 + 1 * v16.toNatClampNeg) 0) rfl O dX11_open_124 rfl (row_118 hv20) (vin_lit (by decide)) (by decide) ?_
      refine J.aload_n (q := 126) O dX11_open_125 rfl 3 rfl ?_
      refine J.getR (q := 129) (c' := 0) (ci := 11) (k := 11) (r := 118) O dX11_open_126 rfl wd_2_225 (by decide) if_0_11 ?_
      refine J.iload (q := 131) O dX11_open_129 rfl 0 rfl ?_
      obtain ⟨hv21, h⟩ := h
      refine J.aald (q := 132) (t := 2) (c' := 118) (b := 119) (d := 1) O dX11_open_131 rfl ar_118 hv21 ?_
      refine J.iconst (q := 133) (v := (1 : Int32)) O dX11_open_132 rfl rfl ?_
      refine J.iald (q := 134) (c' := (119 + 1 * v16.toNatClampNeg)) (j := 1) (M18 (119 + 1 * v16.toNatClampNeg) 1) rfl O dX11_open_133 rfl (row_118 hv21) (vin_lit (by decide)) (by decide) ?_
      refine J.aload_n (q := 135) O dX11_open_134 rfl 3 rfl ?_
      refine J.getR (q := 138) (c' := 0) (ci := 11) (k := 11) (r := 118) O dX11_open_135 rfl wd_2_225 (by decide) if_0_11 ?_
      refine J.iload (q := 140) O dX11_open_138 rfl 0 rfl ?_
      obtain ⟨hv22, h⟩ := h
      refine J.aald (q := 141) (t := 2) (c' := 118) (b := 119) (d := 1) O dX11_open_140 rfl ar_118 hv22 ?_
      refine J.iconst (q := 142) (v := (2 : Int32)) O dX11_open_141 rfl rfl ?_
      refine J.iald (q := 143) (c' := (119 + 1 * v16.toNatClampNeg)) (j := 2) (M18 (119 + 1 * v16.toNatClampNeg) 2) rfl O dX11_open_142 rfl (row_118 hv22) (vin_lit (by decide)) (by decide) ?_
      refine J.iconst (q := 144) (v := (1 : Int32)) O dX11_open_143 rfl rfl ?_
      refine J.icmp_ne (q := 147) (tgt := 151) O dX11_open_144 rfl (by decide) (fun z23 => ?_) (fun z23 => ?_)
      · replace h := h.1 z23
        refine J.iconst (q := 152) (v := (0 : Int32)) O dX11_open_151 rfl rfl ?_
        exact J.sub [3] rfl (j_X11_open_b152 hG O hR h)
      · replace h := h.2 z23
        refine J.iconst (q := 148) (v := (1 : Int32)) O dX11_open_147 rfl rfl ?_
        refine J.goto (q := 152) O dX11_open_148 (by decide) ?_
        exact J.sub [3] rfl (j_X11_open_b152 hG O hR h)
    · replace h := h.2 z12
      refine J.aload_n (q := 39) O dX11_open_38 rfl 1 rfl ?_
      refine J.iload (q := 41) O dX11_open_39 rfl 0 rfl ?_
      refine J.callVI (q := 44) [.int v11] [] [.int v11, .ref (ad G 0)] rfl O dX11_open_41 rfl (c_X11_refuse hG h) wd_3_27 mw_X11_refuse io_0 rfl (by decide) (Nat.le_of_ble_eq_true rfl) (fun v24 M24 h => ?_)
      exact hR _ _ _ _ dX11_open_44 h
  · replace h := h.2 z8
    refine J.aload_n (q := 8) O dX11_open_7 rfl 0 rfl ?_
    refine J.bipush (q := 10) (v := (-2 : Int32)) O dX11_open_8 rfl rfl ?_
    refine J.callVI (q := 13) [.int (-2 : Int32)] [] [.int (-2 : Int32), .ref (ad G 0)] rfl O dX11_open_10 rfl (c_X11_refuse hG h) wd_3_27 mw_X11_refuse io_0 rfl (by decide) (Nat.le_of_ble_eq_true rfl) (fun v25 M25 h => ?_)
    exact hR _ _ _ _ dX11_open_13 h
set_option maxHeartbeats 4000000 in
set_option maxRecDepth 20000 in
theorem j_X11_isMatter_b23 {X : CX} {G : GX} {K : Int32 → Mem → Prop} (hG : Gd G) (O : Ok X G cX11_isMatter 2 RX11 1) (hR : RetZ X G cX11_isMatter K) {s0 : Int32} {M : Mem} (h : f_X11_isMatter_b23 K s0 M) : J X G M 23 [] [.int s0] := by
  unfold f_X11_isMatter_b23 at h
  exact hR _ _ _ _ dX11_isMatter_23 h.1 h.2
set_option maxHeartbeats 4000000 in
set_option maxRecDepth 20000 in
theorem j_X11_isMatter_b22 {X : CX} {G : GX} {K : Int32 → Mem → Prop} (hG : Gd G) (O : Ok X G cX11_isMatter 2 RX11 1) (hR : RetZ X G cX11_isMatter K) {M : Mem} (h : f_X11_isMatter_b22 K  M) : J X G M 22 [] [] := by
  unfold f_X11_isMatter_b22 at h
  refine J.iconst (q := 23) (v := (0 : Int32)) O dX11_isMatter_22 rfl rfl ?_
  exact J.sub [] rfl (j_X11_isMatter_b23 hG O hR h)
set_option maxHeartbeats 4000000 in
set_option maxRecDepth 20000 in
theorem c_X11_isMatter {l : Launch} {G : GX} (hG : Gd G) {a1 : Int32} {M : Mem} {K : Int32 → Mem → Prop} (h : f_X11_isMatter a1 M K) : CI l G yX11_isMatter cX11_isMatter 2 (some .boolean) 1 [.ref (ad G 0), .int a1] M K := by
  unfold f_X11_isMatter at h
  refine CZ.mk hG (by decide) [(0, .ref (ad G 0)), (1, .int a1)] rfl (Nat.le_of_ble_eq_true rfl) (fun X O hlX hR => ?_)
  subst hlX
  refine J.iload_n (q := 1) O dX11_isMatter_0 rfl 1 rfl ?_
  refine J.if_lt (q := 4) (tgt := 22) O dX11_isMatter_1 rfl (by decide) (fun z2 => ?_) (fun z2 => ?_)
  · replace h := h.1 z2
    exact J.sub [] rfl (j_X11_isMatter_b22 hG O hR h)
  · replace h := h.2 z2
    refine J.iload_n (q := 5) O dX11_isMatter_4 rfl 1 rfl ?_
    refine J.aload_n (q := 6) O dX11_isMatter_5 rfl 0 rfl ?_
    refine J.getI (q := 9) (c' := 0) (ci := 11) (k := 5) (M 0 5) rfl O dX11_isMatter_6 rfl wd_2_219 (by decide) if_0_5 ?_
    refine J.icmp_ge (q := 12) (tgt := 22) O dX11_isMatter_9 rfl (by decide) (fun z3 => ?_) (fun z3 => ?_)
    · replace h := h.1 z3
      exact J.sub [] rfl (j_X11_isMatter_b22 hG O hR h)
    · replace h := h.2 z3
      refine J.iload_n (q := 13) O dX11_isMatter_12 rfl 1 rfl ?_
      refine J.bipush (q := 15) (v := (40 : Int32)) O dX11_isMatter_13 rfl rfl ?_
      refine J.icmp_ge (q := 18) (tgt := 22) O dX11_isMatter_15 rfl (by decide) (fun z4 => ?_) (fun z4 => ?_)
      · replace h := h.1 z4
        exact J.sub [] rfl (j_X11_isMatter_b22 hG O hR h)
      · replace h := h.2 z4
        refine J.iconst (q := 19) (v := (1 : Int32)) O dX11_isMatter_18 rfl rfl ?_
        refine J.goto (q := 23) O dX11_isMatter_19 (by decide) ?_
        exact J.sub [] rfl (j_X11_isMatter_b23 hG O hR h)
set_option maxHeartbeats 4000000 in
set_option maxRecDepth 20000 in
theorem j_X5_withdrawnBy_b32 {t : Nat} {X : CX} {G : GX} {K : Int32 → Mem → Prop} (hG : Gd G) (O : Ok X G cX5_withdrawnBy 3 RX5 1) (hR : RetZ X G cX5_withdrawnBy K) (ht : isMat t) {r2 : Nat × Int32 × Int32 × Mem → Prop} (hr2 : ∀ a : Nat × Int32 × Int32 × Mem, r2 a → J X G a.2.2.2 2 [(0, .ref (ad G a.1)), (1, .int a.2.1), (2, .int a.2.2.1)] []) {x0 : Nat} {x1 : Int32} {x2 : Int32} {M : Mem} (h : f_X5_withdrawnBy_b32 t r2 K x0 x1 x2 M) : J X G M 32 [(0, .ref (ad G x0)), (1, .int x1), (2, .int x2)] [] := by
  unfold f_X5_withdrawnBy_b32 at h
  obtain ⟨hx0, h⟩ := h
  refine J.iinc (q := 35) O dX5_withdrawnBy_32 rfl [(2, .int (x2 + (1 : Int32))), (0, .ref (ad G x0)), (1, .int x1)] 2 rfl rfl (by decide) rfl ?_
  refine J.goto (q := 2) O dX5_withdrawnBy_35 (by decide) ?_
  exact J.sub [1, 2, 0] rfl (hr2 _ h)
set_option maxHeartbeats 4000000 in
set_option maxRecDepth 20000 in
theorem j_X5_withdrawnBy_c2 {t : Nat} {X : CX} {G : GX} {K : Int32 → Mem → Prop} (hG : Gd G) (O : Ok X G cX5_withdrawnBy 3 RX5 1) (hR : RetZ X G cX5_withdrawnBy K) (ht : isMat t) {a : Nat × Int32 × Int32 × Mem} (h : Lp (fun (r2 : Nat × Int32 × Int32 × Mem → Prop) a => f_X5_withdrawnBy_c2 t K r2 a.1 a.2.1 a.2.2.1 a.2.2.2) a) : J X G a.2.2.2 2 [(0, .ref (ad G a.1)), (1, .int a.2.1), (2, .int a.2.2.1)] [] := by
  refine Lp.elim (P := fun a => J X G a.2.2.2 2 [(0, .ref (ad G a.1)), (1, .int a.2.1), (2, .int a.2.2.1)] []) ?_ h
  clear h
  intro r2 hr2 a h
  obtain ⟨x0, x1, x2, M⟩ := a
  unfold f_X5_withdrawnBy_c2 at h
  (try dsimp only at h ⊢)
  obtain ⟨hx0, h⟩ := h
  refine J.iload_n (q := 3) O dX5_withdrawnBy_2 rfl 2 rfl ?_
  refine J.aload_n (q := 4) O dX5_withdrawnBy_3 rfl 0 rfl ?_
  refine J.getI (q := 7) (c' := x0) (ci := 5) (k := 11) (M x0 11) rfl O dX5_withdrawnBy_4 rfl wd_2_178 (by decide) (isMat_F hx0 rfl) ?_
  refine J.icmp_ge (q := 10) (tgt := 38) O dX5_withdrawnBy_7 rfl (by decide) (fun z3 => ?_) (fun z3 => ?_)
  · replace h := h.1 z3
    refine J.iconst (q := 39) (v := (0 : Int32)) O dX5_withdrawnBy_38 rfl rfl ?_
    exact hR _ _ _ _ dX5_withdrawnBy_39 (Or.inl rfl) h
  · replace h := h.2 z3
    refine J.aload_n (q := 11) O dX5_withdrawnBy_10 rfl 0 rfl ?_
    refine J.getR (q := 14) (c' := x0) (ci := 5) (k := 12) (r := (x0 + 1)) O dX5_withdrawnBy_11 rfl wd_2_180 (by decide) (isMat_F hx0 rfl) ?_
    refine J.iload_n (q := 15) O dX5_withdrawnBy_14 rfl 2 rfl ?_
    obtain ⟨hv4, h⟩ := h
    refine J.iald (q := 16) (c' := (x0 + 1)) (j := x2.toNatClampNeg) (M (x0 + 1) x2.toNatClampNeg) rfl O dX5_withdrawnBy_15 rfl (isMat_A hx0 (by decide) (by decide)) hv4 rfl ?_
    refine J.iconst (q := 17) (v := (2 : Int32)) O dX5_withdrawnBy_16 rfl rfl ?_
    refine J.icmp_ne (q := 20) (tgt := 32) O dX5_withdrawnBy_17 rfl (by decide) (fun z5 => ?_) (fun z5 => ?_)
    · replace h := h.1 z5
      exact J.sub [0, 1, 2] rfl (j_X5_withdrawnBy_b32 hG O hR ht hr2 h)
    · replace h := h.2 z5
      refine J.aload_n (q := 21) O dX5_withdrawnBy_20 rfl 0 rfl ?_
      refine J.getR (q := 24) (c' := x0) (ci := 5) (k := 14) (r := (x0 + 3)) O dX5_withdrawnBy_21 rfl wd_2_182 (by decide) (isMat_F hx0 rfl) ?_
      refine J.iload_n (q := 25) O dX5_withdrawnBy_24 rfl 2 rfl ?_
      obtain ⟨hv6, h⟩ := h
      refine J.iald (q := 26) (c' := (x0 + 3)) (j := x2.toNatClampNeg) (M (x0 + 3) x2.toNatClampNeg) rfl O dX5_withdrawnBy_25 rfl (isMat_A hx0 (by decide) (by decide)) hv6 rfl ?_
      refine J.iload_n (q := 27) O dX5_withdrawnBy_26 rfl 1 rfl ?_
      refine J.icmp_gt (q := 30) (tgt := 32) O dX5_withdrawnBy_27 rfl (by decide) (fun z7 => ?_) (fun z7 => ?_)
      · replace h := h.1 z7
        exact J.sub [0, 1, 2] rfl (j_X5_withdrawnBy_b32 hG O hR ht hr2 h)
      · replace h := h.2 z7
        refine J.iconst (q := 31) (v := (1 : Int32)) O dX5_withdrawnBy_30 rfl rfl ?_
        exact hR _ _ _ _ dX5_withdrawnBy_31 (Or.inr rfl) h
set_option maxHeartbeats 4000000 in
set_option maxRecDepth 20000 in
theorem c_X5_withdrawnBy {l : Launch} {G : GX} (hG : Gd G) {t : Nat} {a1 : Int32} {M : Mem} {K : Int32 → Mem → Prop} (h : f_X5_withdrawnBy t a1 M K) : CI l G yX5_withdrawnBy cX5_withdrawnBy 3 (some .boolean) 1 [.ref (ad G t), .int a1] M K := by
  unfold f_X5_withdrawnBy at h
  obtain ⟨ht, h⟩ := h
  refine CZ.mk hG (by decide) [(0, .ref (ad G t)), (1, .int a1)] rfl (Nat.le_of_ble_eq_true rfl) (fun X O hlX hR => ?_)
  subst hlX
  refine J.iconst (q := 1) (v := (0 : Int32)) O dX5_withdrawnBy_0 rfl rfl ?_
  refine J.istore_n (q := 2) O dX5_withdrawnBy_1 rfl [(2, .int (0 : Int32)), (0, .ref (ad G t)), (1, .int a1)] (by decide) rfl ?_
  exact J.sub [1, 2, 0] rfl (j_X5_withdrawnBy_c2 hG O hR ht h)
set_option maxHeartbeats 4000000 in
set_option maxRecDepth 20000 in
theorem j_X5_paperDay_b94 {t : Nat} {X : CX} {G : GX} {K : Int32 → Mem → Prop} (hG : Gd G) (O : Ok X G cX5_paperDay 6 RX5 1) (hR : RetI X G cX5_paperDay K) (ht : isMat t) {r12 : Nat × Int32 × Int32 × Int32 × Int32 × Int32 × Mem → Prop} (hr12 : ∀ a : Nat × Int32 × Int32 × Int32 × Int32 × Int32 × Mem, r12 a → J X G a.2.2.2.2.2.2 12 [(0, .ref (ad G a.1)), (1, .int a.2.1), (2, .int a.2.2.1), (3, .int a.2.2.2.1), (4, .int a.2.2.2.2.1), (5, .int a.2.2.2.2.2.1)] []) {x0 : Nat} {x1 : Int32} {x2 : Int32} {x3 : Int32} {x4 : Int32} {x5 : Int32} {M : Mem} (h : f_X5_paperDay_b94 t r12 K x0 x1 x2 x3 x4 x5 M) : J X G M 94 [(0, .ref (ad G x0)), (1, .int x1), (2, .int x2), (3, .int x3), (4, .int x4), (5, .int x5)] [] := by
  unfold f_X5_paperDay_b94 at h
  obtain ⟨hx0, h⟩ := h
  refine J.iinc (q := 97) O dX5_paperDay_94 rfl [(5, .int (x5 + (-1 : Int32))), (0, .ref (ad G x0)), (1, .int x1), (2, .int x2), (3, .int x3), (4, .int x4)] 5 rfl rfl (by decide) rfl ?_
  refine J.goto (q := 12) O dX5_paperDay_97 (by decide) ?_
  exact J.sub [1, 2, 3, 4, 5, 0] rfl (hr12 _ h)
set_option maxHeartbeats 4000000 in
set_option maxRecDepth 20000 in
theorem j_X5_paperDay_b53 {t : Nat} {X : CX} {G : GX} {K : Int32 → Mem → Prop} (hG : Gd G) (O : Ok X G cX5_paperDay 6 RX5 1) (hR : RetI X G cX5_paperDay K) (ht : isMat t) {r12 : Nat × Int32 × Int32 × Int32 × Int32 × Int32 × Mem → Prop} (hr12 : ∀ a : Nat × Int32 × Int32 × Int32 × Int32 × Int32 × Mem, r12 a → J X G a.2.2.2.2.2.2 12 [(0, .ref (ad G a.1)), (1, .int a.2.1), (2, .int a.2.2.1), (3, .int a.2.2.2.1), (4, .int a.2.2.2.2.1), (5, .int a.2.2.2.2.2.1)] []) {x0 : Nat} {x1 : Int32} {x2 : Int32} {x3 : Int32} {x4 : Int32} {x5 : Int32} {M : Mem} (h : f_X5_paperDay_b53 t r12 K x0 x1 x2 x3 x4 x5 M) : J X G M 53 [(0, .ref (ad G x0)), (1, .int x1), (2, .int x2), (3, .int x3), (4, .int x4), (5, .int x5)] [] := by
  unfold f_X5_paperDay_b53 at h
  obtain ⟨hx0, h⟩ := h
  refine J.aload_n (q := 54) O dX5_paperDay_53 rfl 0 rfl ?_
  refine J.getR (q := 57) (c' := x0) (ci := 5) (k := 12) (r := (x0 + 1)) O dX5_paperDay_54 rfl wd_2_180 (by decide) (isMat_F hx0 rfl) ?_
  refine J.iload (q := 59) O dX5_paperDay_57 rfl 5 rfl ?_
  obtain ⟨hv8, h⟩ := h
  refine J.iald (q := 60) (c' := (x0 + 1)) (j := x5.toNatClampNeg) (M (x0 + 1) x5.toNatClampNeg) rfl O dX5_paperDay_59 rfl (isMat_A hx0 (by decide) (by decide)) hv8 rfl ?_
  refine J.if_ne (q := 63) (tgt := 94) O dX5_paperDay_60 rfl (by decide) (fun z9 => ?_) (fun z9 => ?_)
  · replace h := h.1 z9
    exact J.sub [0, 1, 2, 3, 4, 5] rfl (j_X5_paperDay_b94 hG O hR ht hr12 h)
  · replace h := h.2 z9
    refine J.aload_n (q := 64) O dX5_paperDay_63 rfl 0 rfl ?_
    refine J.getR (q := 67) (c' := x0) (ci := 5) (k := 13) (r := (x0 + 2)) O dX5_paperDay_64 rfl wd_2_181 (by decide) (isMat_F hx0 rfl) ?_
    refine J.iload (q := 69) O dX5_paperDay_67 rfl 5 rfl ?_
    obtain ⟨hv10, h⟩ := h
    refine J.iald (q := 70) (c' := (x0 + 2)) (j := x5.toNatClampNeg) (M (x0 + 2) x5.toNatClampNeg) rfl O dX5_paperDay_69 rfl (isMat_A hx0 (by decide) (by decide)) hv10 rfl ?_
    refine J.iload_n (q := 71) O dX5_paperDay_70 rfl 1 rfl ?_
    refine J.icmp_ne (q := 74) (tgt := 94) O dX5_paperDay_71 rfl (by decide) (fun z11 => ?_) (fun z11 => ?_)
    · replace h := h.1 z11
      exact J.sub [0, 1, 2, 3, 4, 5] rfl (j_X5_paperDay_b94 hG O hR ht hr12 h)
    · replace h := h.2 z11
      refine J.aload_n (q := 75) O dX5_paperDay_74 rfl 0 rfl ?_
      refine J.getR (q := 78) (c' := x0) (ci := 5) (k := 14) (r := (x0 + 3)) O dX5_paperDay_75 rfl wd_2_182 (by decide) (isMat_F hx0 rfl) ?_
      refine J.iload (q := 80) O dX5_paperDay_78 rfl 5 rfl ?_
      obtain ⟨hv12, h⟩ := h
      refine J.iald (q := 81) (c' := (x0 + 3)) (j := x5.toNatClampNeg) (M (x0 + 3) x5.toNatClampNeg) rfl O dX5_paperDay_80 rfl (isMat_A hx0 (by decide) (by decide)) hv12 rfl ?_
      refine J.iload_n (q := 82) O dX5_paperDay_81 rfl 2 rfl ?_
      refine J.icmp_gt (q := 85) (tgt := 94) O dX5_paperDay_82 rfl (by decide) (fun z13 => ?_) (fun z13 => ?_)
      · replace h := h.1 z13
        exact J.sub [0, 1, 2, 3, 4, 5] rfl (j_X5_paperDay_b94 hG O hR ht hr12 h)
      · replace h := h.2 z13
        refine J.aload_n (q := 86) O dX5_paperDay_85 rfl 0 rfl ?_
        refine J.getR (q := 89) (c' := x0) (ci := 5) (k := 14) (r := (x0 + 3)) O dX5_paperDay_86 rfl wd_2_182 (by decide) (isMat_F hx0 rfl) ?_
        refine J.iload (q := 91) O dX5_paperDay_89 rfl 5 rfl ?_
        obtain ⟨hv14, h⟩ := h
        refine J.iald (q := 92) (c' := (x0 + 3)) (j := x5.toNatClampNeg) (M (x0 + 3) x5.toNatClampNeg) rfl O dX5_paperDay_91 rfl (isMat_A hx0 (by decide) (by decide)) hv14 rfl ?_
        refine J.istore (q := 94) O dX5_paperDay_92 rfl [(4, .int (M (x0 + 3) x5.toNatClampNeg)), (0, .ref (ad G x0)), (1, .int x1), (2, .int x2), (3, .int x3), (5, .int x5)] (by decide) rfl ?_
        exact J.sub [1, 2, 3, 4, 0, 5] rfl (j_X5_paperDay_b94 hG O hR ht hr12 h)
set_option maxHeartbeats 4000000 in
set_option maxRecDepth 20000 in
theorem j_X5_paperDay_c12 {t : Nat} {X : CX} {G : GX} {K : Int32 → Mem → Prop} (hG : Gd G) (O : Ok X G cX5_paperDay 6 RX5 1) (hR : RetI X G cX5_paperDay K) (ht : isMat t) {a : Nat × Int32 × Int32 × Int32 × Int32 × Int32 × Mem} (h : Lp (fun (r12 : Nat × Int32 × Int32 × Int32 × Int32 × Int32 × Mem → Prop) a => f_X5_paperDay_c12 t K r12 a.1 a.2.1 a.2.2.1 a.2.2.2.1 a.2.2.2.2.1 a.2.2.2.2.2.1 a.2.2.2.2.2.2) a) : J X G a.2.2.2.2.2.2 12 [(0, .ref (ad G a.1)), (1, .int a.2.1), (2, .int a.2.2.1), (3, .int a.2.2.2.1), (4, .int a.2.2.2.2.1), (5, .int a.2.2.2.2.2.1)] [] := by
  refine Lp.elim (P := fun a => J X G a.2.2.2.2.2.2 12 [(0, .ref (ad G a.1)), (1, .int a.2.1), (2, .int a.2.2.1), (3, .int a.2.2.2.1), (4, .int a.2.2.2.2.1), (5, .int a.2.2.2.2.2.1)] []) ?_ h
  clear h
  intro r12 hr12 a h
  obtain ⟨x0, x1, x2, x3, x4, x5, M⟩ := a
  unfold f_X5_paperDay_c12 at h
  (try dsimp only at h ⊢)
  obtain ⟨hx0, h⟩ := h
  refine J.iload (q := 14) O dX5_paperDay_12 rfl 5 rfl ?_
  refine J.if_lt (q := 17) (tgt := 100) O dX5_paperDay_14 rfl (by decide) (fun z15 => ?_) (fun z15 => ?_)
  · replace h := h.1 z15
    refine J.iload (q := 102) O dX5_paperDay_100 rfl 4 rfl ?_
    exact hR _ _ _ _ dX5_paperDay_102 h
  · replace h := h.2 z15
    refine J.aload_n (q := 18) O dX5_paperDay_17 rfl 0 rfl ?_
    refine J.getR (q := 21) (c' := x0) (ci := 5) (k := 12) (r := (x0 + 1)) O dX5_paperDay_18 rfl wd_2_180 (by decide) (isMat_F hx0 rfl) ?_
    refine J.iload (q := 23) O dX5_paperDay_21 rfl 5 rfl ?_
    obtain ⟨hv16, h⟩ := h
    refine J.iald (q := 24) (c' := (x0 + 1)) (j := x5.toNatClampNeg) (M (x0 + 1) x5.toNatClampNeg) rfl O dX5_paperDay_23 rfl (isMat_A hx0 (by decide) (by decide)) hv16 rfl ?_
    refine J.iconst (q := 25) (v := (1 : Int32)) O dX5_paperDay_24 rfl rfl ?_
    refine J.icmp_ne (q := 28) (tgt := 53) O dX5_paperDay_25 rfl (by decide) (fun z17 => ?_) (fun z17 => ?_)
    · replace h := h.1 z17
      exact J.sub [0, 1, 2, 3, 4, 5] rfl (j_X5_paperDay_b53 hG O hR ht hr12 h)
    · replace h := h.2 z17
      refine J.aload_n (q := 29) O dX5_paperDay_28 rfl 0 rfl ?_
      refine J.getR (q := 32) (c' := x0) (ci := 5) (k := 13) (r := (x0 + 2)) O dX5_paperDay_29 rfl wd_2_181 (by decide) (isMat_F hx0 rfl) ?_
      refine J.iload (q := 34) O dX5_paperDay_32 rfl 5 rfl ?_
      obtain ⟨hv18, h⟩ := h
      refine J.iald (q := 35) (c' := (x0 + 2)) (j := x5.toNatClampNeg) (M (x0 + 2) x5.toNatClampNeg) rfl O dX5_paperDay_34 rfl (isMat_A hx0 (by decide) (by decide)) hv18 rfl ?_
      refine J.iload_n (q := 36) O dX5_paperDay_35 rfl 1 rfl ?_
      refine J.icmp_ne (q := 39) (tgt := 53) O dX5_paperDay_36 rfl (by decide) (fun z19 => ?_) (fun z19 => ?_)
      · replace h := h.1 z19
        exact J.sub [0, 1, 2, 3, 4, 5] rfl (j_X5_paperDay_b53 hG O hR ht hr12 h)
      · replace h := h.2 z19
        refine J.aload_n (q := 40) O dX5_paperDay_39 rfl 0 rfl ?_
        refine J.getR (q := 43) (c' := x0) (ci := 5) (k := 14) (r := (x0 + 3)) O dX5_paperDay_40 rfl wd_2_182 (by decide) (isMat_F hx0 rfl) ?_
        refine J.iload (q := 45) O dX5_paperDay_43 rfl 5 rfl ?_
        obtain ⟨hv20, h⟩ := h
        refine J.iald (q := 46) (c' := (x0 + 3)) (j := x5.toNatClampNeg) (M (x0 + 3) x5.toNatClampNeg) rfl O dX5_paperDay_45 rfl (isMat_A hx0 (by decide) (by decide)) hv20 rfl ?_
        refine J.iload_n (q := 47) O dX5_paperDay_46 rfl 3 rfl ?_
        refine J.icmp_gt (q := 50) (tgt := 53) O dX5_paperDay_47 rfl (by decide) (fun z21 => ?_) (fun z21 => ?_)
        · replace h := h.1 z21
          exact J.sub [0, 1, 2, 3, 4, 5] rfl (j_X5_paperDay_b53 hG O hR ht hr12 h)
        · replace h := h.2 z21
          refine J.iload (q := 52) O dX5_paperDay_50 rfl 4 rfl ?_
          exact hR _ _ _ _ dX5_paperDay_52 h
set_option maxHeartbeats 4000000 in
set_option maxRecDepth 20000 in
theorem c_X5_paperDay {l : Launch} {G : GX} (hG : Gd G) {t : Nat} {a1 : Int32} {a2 : Int32} {a3 : Int32} {M : Mem} {K : Int32 → Mem → Prop} (h : f_X5_paperDay t a1 a2 a3 M K) : CI l G yX5_paperDay cX5_paperDay 6 (some .int) 1 [.ref (ad G t), .int a1, .int a2, .int a3] M K := by
  unfold f_X5_paperDay at h
  obtain ⟨ht, h⟩ := h
  refine CI.mk hG (by decide) [(0, .ref (ad G t)), (1, .int a1), (2, .int a2), (3, .int a3)] rfl (Nat.le_of_ble_eq_true rfl) (fun X O hlX hR => ?_)
  subst hlX
  refine J.bipush (q := 2) (v := (-9 : Int32)) O dX5_paperDay_0 rfl rfl ?_
  refine J.istore (q := 4) O dX5_paperDay_2 rfl [(4, .int (-9 : Int32)), (0, .ref (ad G t)), (1, .int a1), (2, .int a2), (3, .int a3)] (by decide) rfl ?_
  refine J.aload_n (q := 5) O dX5_paperDay_4 rfl 1 rfl ?_
  refine J.getI (q := 8) (c' := t) (ci := 5) (k := 11) (M t 11) rfl O dX5_paperDay_5 rfl wd_2_178 (by decide) (isMat_F ht rfl) ?_
  refine J.iconst (q := 9) (v := (1 : Int32)) O dX5_paperDay_8 rfl rfl ?_
  refine J.isub (q := 10) O dX5_paperDay_9 rfl ?_
  refine J.istore (q := 12) O dX5_paperDay_10 rfl [(5, .int ((M t 11) - (1 : Int32))), (4, .int (-9 : Int32)), (0, .ref (ad G t)), (1, .int a1), (2, .int a2), (3, .int a3)] (by decide) rfl ?_
  exact J.sub [2, 3, 4, 5, 1, 0] rfl (j_X5_paperDay_c12 hG O hR ht h)
set_option maxHeartbeats 4000000 in
set_option maxRecDepth 20000 in
theorem j_X5_isFull_b14 {t : Nat} {X : CX} {G : GX} {K : Int32 → Mem → Prop} (hG : Gd G) (O : Ok X G cX5_isFull 1 RX5 1) (hR : RetZ X G cX5_isFull K) (ht : isMat t) {s0 : Int32} {M : Mem} (h : f_X5_isFull_b14 t K s0 M) : J X G M 14 [] [.int s0] := by
  unfold f_X5_isFull_b14 at h
  exact hR _ _ _ _ dX5_isFull_14 h.1 h.2
set_option maxHeartbeats 4000000 in
set_option maxRecDepth 20000 in
theorem c_X5_isFull {l : Launch} {G : GX} (hG : Gd G) {t : Nat} {M : Mem} {K : Int32 → Mem → Prop} (h : f_X5_isFull t M K) : CI l G yX5_isFull cX5_isFull 1 (some .boolean) 1 [.ref (ad G t)] M K := by
  unfold f_X5_isFull at h
  obtain ⟨ht, h⟩ := h
  refine CZ.mk hG (by decide) [(0, .ref (ad G t))] rfl (Nat.le_of_ble_eq_true rfl) (fun X O hlX hR => ?_)
  subst hlX
  refine J.aload_n (q := 1) O dX5_isFull_0 rfl 0 rfl ?_
  refine J.getI (q := 4) (c' := t) (ci := 5) (k := 11) (M t 11) rfl O dX5_isFull_1 rfl wd_2_178 (by decide) (isMat_F ht rfl) ?_
  refine J.bipush (q := 6) (v := (30 : Int32)) O dX5_isFull_4 rfl rfl ?_
  refine J.icmp_lt (q := 9) (tgt := 13) O dX5_isFull_6 rfl (by decide) (fun z2 => ?_) (fun z2 => ?_)
  · replace h := h.1 z2
    refine J.iconst (q := 14) (v := (0 : Int32)) O dX5_isFull_13 rfl rfl ?_
    exact J.sub [] rfl (j_X5_isFull_b14 hG O hR ht h)
  · replace h := h.2 z2
    refine J.iconst (q := 10) (v := (1 : Int32)) O dX5_isFull_9 rfl rfl ?_
    refine J.goto (q := 14) O dX5_isFull_10 (by decide) ?_
    exact J.sub [] rfl (j_X5_isFull_b14 hG O hR ht h)
set_option maxHeartbeats 4000000 in
set_option maxRecDepth 20000 in
theorem j_X5_tell_b55 {t : Nat} {X : CX} {G : GX} {K : Int32 → Mem → Prop} (hG : Gd G) (O : Ok X G cX5_tell 3 RX5 1) (hR : RetI X G cX5_tell K) (ht : isMat t) {x0 : Nat} {M : Mem} (h : f_X5_tell_b55 t K x0 M) : J X G M 55 [(0, .ref (ad G x0))] [] := by
  unfold f_X5_tell_b55 at h
  obtain ⟨hx0, h⟩ := h
  refine J.aload_n (q := 56) O dX5_tell_55 rfl 0 rfl ?_
  refine J.getI (q := 59) (c' := x0) (ci := 5) (k := 11) (M x0 11) rfl O dX5_tell_56 rfl wd_2_178 (by decide) (isMat_F hx0 rfl) ?_
  exact hR _ _ _ _ dX5_tell_59 h
set_option maxHeartbeats 4000000 in
set_option maxRecDepth 20000 in
theorem c_X5_tell {l : Launch} {G : GX} (hG : Gd G) {t : Nat} {a1 : Int32} {a2 : Int32} {M : Mem} {K : Int32 → Mem → Prop} (h : f_X5_tell t a1 a2 M K) : CI l G yX5_tell cX5_tell 3 (some .int) 1 [.ref (ad G t), .int a1, .int a2] M K := by
  unfold f_X5_tell at h
  obtain ⟨ht, h⟩ := h
  refine CI.mk hG (by decide) [(0, .ref (ad G t)), (1, .int a1), (2, .int a2)] rfl (Nat.le_of_ble_eq_true rfl) (fun X O hlX hR => ?_)
  subst hlX
  refine J.aload_n (q := 1) O dX5_tell_0 rfl 0 rfl ?_
  refine J.getI (q := 4) (c' := t) (ci := 5) (k := 11) (M t 11) rfl O dX5_tell_1 rfl wd_2_178 (by decide) (isMat_F ht rfl) ?_
  refine J.bipush (q := 6) (v := (30 : Int32)) O dX5_tell_4 rfl rfl ?_
  refine J.icmp_ge (q := 9) (tgt := 55) O dX5_tell_6 rfl (by decide) (fun z4 => ?_) (fun z4 => ?_)
  · replace h := h.1 z4
    exact J.sub [0] rfl (j_X5_tell_b55 hG O hR ht h)
  · replace h := h.2 z4
    refine J.aload_n (q := 10) O dX5_tell_9 rfl 0 rfl ?_
    refine J.getR (q := 13) (c' := t) (ci := 5) (k := 12) (r := (t + 1)) O dX5_tell_10 rfl wd_2_180 (by decide) (isMat_F ht rfl) ?_
    refine J.aload_n (q := 14) O dX5_tell_13 rfl 0 rfl ?_
    refine J.getI (q := 17) (c' := t) (ci := 5) (k := 11) (M t 11) rfl O dX5_tell_14 rfl wd_2_178 (by decide) (isMat_F ht rfl) ?_
    refine J.iload_n (q := 18) O dX5_tell_17 rfl 1 rfl ?_
    obtain ⟨hv5, h⟩ := h
    refine J.iast (q := 19) (c' := (t + 1)) (j := (M t 11).toNatClampNeg) O dX5_tell_18 rfl (isMat_A ht (by decide) (by decide)) hv5 rfl ?_
    refine J.aload_n (q := 20) O dX5_tell_19 rfl 0 rfl ?_
    refine J.getR (q := 23) (c' := t) (ci := 5) (k := 13) (r := (t + 2)) O dX5_tell_20 rfl wd_2_181 (by decide) (isMat_F ht rfl) ?_
    refine J.aload_n (q := 24) O dX5_tell_23 rfl 0 rfl ?_
    refine J.getI (q := 27) (c' := t) (ci := 5) (k := 11) ((mset M (t + 1) ((M t 11).toNatClampNeg) a1) t 11) rfl O dX5_tell_24 rfl wd_2_178 (by decide) (isMat_F ht rfl) ?_
    refine J.iload_n (q := 28) O dX5_tell_27 rfl 2 rfl ?_
    obtain ⟨hv6, h⟩ := h
    refine J.iast (q := 29) (c' := (t + 2)) (j := ((mset M (t + 1) ((M t 11).toNatClampNeg) a1) t 11).toNatClampNeg) O dX5_tell_28 rfl (isMat_A ht (by decide) (by decide)) hv6 rfl ?_
    refine J.aload_n (q := 30) O dX5_tell_29 rfl 0 rfl ?_
    refine J.getR (q := 33) (c' := t) (ci := 5) (k := 14) (r := (t + 3)) O dX5_tell_30 rfl wd_2_182 (by decide) (isMat_F ht rfl) ?_
    refine J.aload_n (q := 34) O dX5_tell_33 rfl 0 rfl ?_
    refine J.getI (q := 37) (c' := t) (ci := 5) (k := 11) ((mset (mset M (t + 1) ((M t 11).toNatClampNeg) a1) (t + 2) (((mset M (t + 1) ((M t 11).toNatClampNeg) a1) t 11).toNatClampNeg) a2) t 11) rfl O dX5_tell_34 rfl wd_2_178 (by decide) (isMat_F ht rfl) ?_
    refine J.aload_n (q := 38) O dX5_tell_37 rfl 0 rfl ?_
    refine J.getR (q := 41) (c' := t) (ci := 5) (k := 0) (r := 1) O dX5_tell_38 rfl wd_2_162 (by decide) (isMat_F ht rfl) ?_
    refine J.getI (q := 44) (c' := 1) (ci := 3) (k := 0) ((mset (mset M (t + 1) ((M t 11).toNatClampNeg) a1) (t + 2) (((mset M (t + 1) ((M t 11).toNatClampNeg) a1) t 11).toNatClampNeg) a2) 1 0) rfl O dX5_tell_41 rfl wd_1_31 (by decide) if_1_0 ?_
    obtain ⟨hv7, h⟩ := h
    refine J.iast (q := 45) (c' := (t + 3)) (j := ((mset (mset M (t + 1) ((M t 11).toNatClampNeg) a1) (t + 2) (((mset M (t + 1) ((M t 11).toNatClampNeg) a1) t 11).toNatClampNeg) a2) t 11).toNatClampNeg) O dX5_tell_44 rfl (isMat_A ht (by decide) (by decide)) hv7 rfl ?_
    refine J.aload_n (q := 46) O dX5_tell_45 rfl 0 rfl ?_
    refine J.dup (q := 47) O dX5_tell_46 rfl rfl ?_
    refine J.getI (q := 50) (c' := t) (ci := 5) (k := 11) ((mset (mset (mset M (t + 1) ((M t 11).toNatClampNeg) a1) (t + 2) (((mset M (t + 1) ((M t 11).toNatClampNeg) a1) t 11).toNatClampNeg) a2) (t + 3) (((mset (mset M (t + 1) ((M t 11).toNatClampNeg) a1) (t + 2) (((mset M (t + 1) ((M t 11).toNatClampNeg) a1) t 11).toNatClampNeg) a2) t 11).toNatClampNeg) ((mset (mset M (t + 1) ((M t 11).toNatClampNeg) a1) (t + 2) (((mset M (t + 1) ((M t 11).toNatClampNeg) a1) t 11).toNatClampNeg) a2) 1 0)) t 11) rfl O dX5_tell_47 rfl wd_2_178 (by decide) (isMat_F ht rfl) ?_
    refine J.iconst (q := 51) (v := (1 : Int32)) O dX5_tell_50 rfl rfl ?_
    refine J.iadd (q := 52) O dX5_tell_51 rfl ?_
    refine J.putI (q := 55) (c' := t) (ci := 5) (k := 11) O dX5_tell_52 rfl wd_2_178 (by decide) (isMat_F ht rfl) rfl rfl ?_
    exact J.sub [0] rfl (j_X5_tell_b55 hG O hR ht h)
set_option maxHeartbeats 4000000 in
set_option maxRecDepth 20000 in
theorem j_X11_paper_b18 {X : CX} {G : GX} {K : Int32 → Mem → Prop} (hG : Gd G) (O : Ok X G cX11_paper 5 RX11 2) (hR : RetI X G cX11_paper K) {M : Mem} (h : f_X11_paper_b18 K  M) : J X G M 18 [(0, .ref (ad G 0))] [] := by
  unfold f_X11_paper_b18 at h
  refine J.aload_n (q := 19) O dX11_paper_18 rfl 0 rfl ?_
  refine J.iconst (q := 20) (v := (-1 : Int32)) O dX11_paper_19 rfl rfl ?_
  refine J.callVI (q := 23) [.int (-1 : Int32)] [] [.int (-1 : Int32), .ref (ad G 0)] rfl O dX11_paper_20 rfl (c_X11_refuse hG h) wd_3_27 mw_X11_refuse io_0 rfl (by decide) (Nat.le_of_ble_eq_true rfl) (fun v2 M2 h => ?_)
  exact hR _ _ _ _ dX11_paper_23 h
set_option maxHeartbeats 4000000 in
set_option maxRecDepth 20000 in
theorem j_X11_paper_b116 {X : CX} {G : GX} {K : Int32 → Mem → Prop} (hG : Gd G) (O : Ok X G cX11_paper 5 RX11 2) (hR : RetI X G cX11_paper K) {x2 : Int32} {s0 : Int32} {s1 : Nat} {M : Mem} (h : f_X11_paper_b116 K x2 s0 s1 M) : J X G M 116 [(2, .int x2)] [.int s0, .ref (ad G s1)] := by
  unfold f_X11_paper_b116 at h
  obtain ⟨hs1, h⟩ := h
  refine J.iload_n (q := 117) O dX11_paper_116 rfl 0 rfl ?_
  refine J.callVI (q := 120) [.int s0, .int x2] [] [.int x2, .int s0, .ref (ad G s1)] rfl O dX11_paper_117 rfl (c_X5_tell hG h) wd_3_194 mw_X5_tell (isMat_O hs1) rfl (by decide) (Nat.le_of_ble_eq_true rfl) (fun v3 M3 h => ?_)
  exact hR _ _ _ _ dX11_paper_120 h
set_option maxHeartbeats 4000000 in
set_option maxRecDepth 20000 in
theorem j_X11_paper_b90 {X : CX} {G : GX} {K : Int32 → Mem → Prop} (hG : Gd G) (O : Ok X G cX11_paper 5 RX11 2) (hR : RetI X G cX11_paper K) {x2 : Int32} {x3 : Int32} {x4 : Nat} {M : Mem} (h : f_X11_paper_b90 K x2 x3 x4 M) : J X G M 90 [(0, .ref (ad G 0)), (2, .int x2), (3, .int x3), (4, .ref (ad G x4))] [] := by
  unfold f_X11_paper_b90 at h
  obtain ⟨hx4, h⟩ := h
  refine J.aload (q := 92) O dX11_paper_90 rfl 3 rfl ?_
  refine J.callVI (q := 95) [] [] [.ref (ad G x4)] rfl O dX11_paper_92 rfl (c_X5_isFull hG h) wd_3_190 mw_X5_isFull (isMat_O hx4) rfl (by decide) (Nat.le_of_ble_eq_true rfl) (fun v4 M4 h => ?_)
  refine J.if_eq (q := 98) (tgt := 105) O dX11_paper_95 rfl (by decide) (fun z5 => ?_) (fun z5 => ?_)
  · replace h := h.1 z5
    refine J.aload (q := 107) O dX11_paper_105 rfl 3 rfl ?_
    refine J.iload_n (q := 108) O dX11_paper_107 rfl 2 rfl ?_
    refine J.if_eq (q := 111) (tgt := 115) O dX11_paper_108 rfl (by decide) (fun z6 => ?_) (fun z6 => ?_)
    · replace h := h.1 z6
      refine J.iconst (q := 116) (v := (1 : Int32)) O dX11_paper_115 rfl rfl ?_
      exact J.sub [1] rfl (j_X11_paper_b116 hG O hR h)
    · replace h := h.2 z6
      refine J.iconst (q := 112) (v := (0 : Int32)) O dX11_paper_111 rfl rfl ?_
      refine J.goto (q := 116) O dX11_paper_112 (by decide) ?_
      exact J.sub [1] rfl (j_X11_paper_b116 hG O hR h)
  · replace h := h.2 z5
    refine J.aload_n (q := 99) O dX11_paper_98 rfl 0 rfl ?_
    refine J.bipush (q := 101) (v := (-6 : Int32)) O dX11_paper_99 rfl rfl ?_
    refine J.callVI (q := 104) [.int (-6 : Int32)] [] [.int (-6 : Int32), .ref (ad G 0)] rfl O dX11_paper_101 rfl (c_X11_refuse hG h) wd_3_27 mw_X11_refuse io_0 rfl (by decide) (Nat.le_of_ble_eq_true rfl) (fun v7 M7 h => ?_)
    exact hR _ _ _ _ dX11_paper_104 h
set_option maxHeartbeats 4000000 in
set_option maxRecDepth 20000 in
theorem c_X11_paper {l : Launch} {G : GX} (hG : Gd G) {a1 : Int32} {a2 : Int32} {a3 : Int32} {M : Mem} {K : Int32 → Mem → Prop} (h : f_X11_paper a1 a2 a3 M K) : CI l G yX11_paper cX11_paper 5 (some .int) 2 [.ref (ad G 0), .int a1, .int a2, .int a3] M K := by
  unfold f_X11_paper at h
  refine CI.mk hG (by decide) [(0, .ref (ad G 0)), (1, .int a1), (2, .int a2), (3, .int a3)] rfl (Nat.le_of_ble_eq_true rfl) (fun X O hlX hR => ?_)
  subst hlX
  refine J.aload_n (q := 1) O dX11_paper_0 rfl 0 rfl ?_
  refine J.iload_n (q := 2) O dX11_paper_1 rfl 1 rfl ?_
  refine J.callVI (q := 5) [.int a1] [] [.int a1, .ref (ad G 0)] rfl O dX11_paper_2 rfl (c_X11_isMatter hG h) wd_3_178 mw_X11_isMatter io_0 rfl (by decide) (Nat.le_of_ble_eq_true rfl) (fun v8 M8 h => ?_)
  refine J.if_eq (q := 8) (tgt := 18) O dX11_paper_5 rfl (by decide) (fun z9 => ?_) (fun z9 => ?_)
  · replace h := h.1 z9
    exact J.sub [0] rfl (j_X11_paper_b18 hG O hR h)
  · replace h := h.2 z9
    refine J.iload_n (q := 9) O dX11_paper_8 rfl 2 rfl ?_
    refine J.if_lt (q := 12) (tgt := 18) O dX11_paper_9 rfl (by decide) (fun z10 => ?_) (fun z10 => ?_)
    · replace h := h.1 z10
      exact J.sub [0] rfl (j_X11_paper_b18 hG O hR h)
    · replace h := h.2 z10
      refine J.iload_n (q := 13) O dX11_paper_12 rfl 2 rfl ?_
      refine J.bipush (q := 15) (v := (8 : Int32)) O dX11_paper_13 rfl rfl ?_
      refine J.icmp_lt (q := 18) (tgt := 24) O dX11_paper_15 rfl (by decide) (fun z11 => ?_) (fun z11 => ?_)
      · replace h := h.1 z11
        refine J.aload_n (q := 25) O dX11_paper_24 rfl 0 rfl ?_
        refine J.getR (q := 28) (c' := 0) (ci := 11) (k := 4) (r := 61) O dX11_paper_25 rfl wd_2_218 (by decide) if_0_4 ?_
        refine J.iload_n (q := 29) O dX11_paper_28 rfl 1 rfl ?_
        obtain ⟨hv12, h⟩ := h
        refine J.aald (q := 30) (t := 0) (c' := 61) (b := 127) (d := 4) O dX11_paper_29 rfl ar_61 hv12 ?_
        refine J.astore (q := 32) O dX11_paper_30 rfl [(4, .ref (ad G (127 + 4 * a1.toNatClampNeg))), (0, .ref (ad G 0)), (1, .int a1), (2, .int a2), (3, .int a3)] (by decide) rfl ?_
        refine J.aload (q := 34) O dX11_paper_32 rfl 0 rfl ?_
        refine J.aload_n (q := 35) O dX11_paper_34 rfl 1 rfl ?_
        refine J.getR (q := 38) (c' := 0) (ci := 11) (k := 0) (r := 1) O dX11_paper_35 rfl wd_2_214 (by decide) if_0_0 ?_
        refine J.getI (q := 41) (c' := 1) (ci := 3) (k := 0) (M8 1 0) rfl O dX11_paper_38 rfl wd_1_30 (by decide) if_1_0 ?_
        refine J.callVI (q := 44) [.int (M8 1 0)] [] [.int (M8 1 0), .ref (ad G (127 + 4 * a1.toNatClampNeg))] rfl O dX11_paper_41 rfl (c_X5_withdrawnBy hG h) wd_3_182 mw_X5_withdrawnBy (isMat_O (isMat_of hv12)) rfl (by decide) (Nat.le_of_ble_eq_true rfl) (fun v13 M13 h => ?_)
        refine J.if_eq (q := 47) (tgt := 54) O dX11_paper_44 rfl (by decide) (fun z14 => ?_) (fun z14 => ?_)
        · replace h := h.1 z14
          refine J.iload_n (q := 55) O dX11_paper_54 rfl 4 rfl ?_
          refine J.if_ne (q := 58) (tgt := 90) O dX11_paper_55 rfl (by decide) (fun z15 => ?_) (fun z15 => ?_)
          · replace h := h.1 z15
            exact J.sub [1, 3, 4, 0] rfl (j_X11_paper_b90 hG O hR h)
          · replace h := h.2 z15
            refine J.aload (q := 60) O dX11_paper_58 rfl 0 rfl ?_
            refine J.iload_n (q := 61) O dX11_paper_60 rfl 3 rfl ?_
            refine J.aload_n (q := 62) O dX11_paper_61 rfl 1 rfl ?_
            refine J.getR (q := 65) (c' := 0) (ci := 11) (k := 0) (r := 1) O dX11_paper_62 rfl wd_2_214 (by decide) if_0_0 ?_
            refine J.getI (q := 68) (c' := 1) (ci := 3) (k := 0) (M13 1 0) rfl O dX11_paper_65 rfl wd_1_30 (by decide) if_1_0 ?_
            refine J.aload_n (q := 69) O dX11_paper_68 rfl 1 rfl ?_
            refine J.getR (q := 72) (c' := 0) (ci := 11) (k := 0) (r := 1) O dX11_paper_69 rfl wd_2_214 (by decide) if_0_0 ?_
            refine J.getI (q := 75) (c' := 1) (ci := 3) (k := 0) (M13 1 0) rfl O dX11_paper_72 rfl wd_1_30 (by decide) if_1_0 ?_
            refine J.callVI (q := 78) [.int a2, .int (M13 1 0), .int (M13 1 0)] [] [.int (M13 1 0), .int (M13 1 0), .int a2, .ref (ad G (127 + 4 * a1.toNatClampNeg))] rfl O dX11_paper_75 rfl (c_X5_paperDay hG h) wd_3_186 mw_X5_paperDay (isMat_O (isMat_of hv12)) rfl (by decide) (Nat.le_of_ble_eq_true rfl) (fun v16 M16 h => ?_)
            refine J.bipush (q := 80) (v := (-9 : Int32)) O dX11_paper_78 rfl rfl ?_
            refine J.icmp_ne (q := 83) (tgt := 90) O dX11_paper_80 rfl (by decide) (fun z17 => ?_) (fun z17 => ?_)
            · replace h := h.1 z17
              exact J.sub [1, 3, 4, 0] rfl (j_X11_paper_b90 hG O hR h)
            · replace h := h.2 z17
              refine J.aload_n (q := 84) O dX11_paper_83 rfl 1 rfl ?_
              refine J.bipush (q := 86) (v := (-3 : Int32)) O dX11_paper_84 rfl rfl ?_
              refine J.callVI (q := 89) [.int (-3 : Int32)] [] [.int (-3 : Int32), .ref (ad G 0)] rfl O dX11_paper_86 rfl (c_X11_refuse hG h) wd_3_27 mw_X11_refuse io_0 rfl (by decide) (Nat.le_of_ble_eq_true rfl) (fun v18 M18 h => ?_)
              exact hR _ _ _ _ dX11_paper_89 h
        · replace h := h.2 z14
          refine J.aload_n (q := 48) O dX11_paper_47 rfl 1 rfl ?_
          refine J.bipush (q := 50) (v := (-3 : Int32)) O dX11_paper_48 rfl rfl ?_
          refine J.callVI (q := 53) [.int (-3 : Int32)] [] [.int (-3 : Int32), .ref (ad G 0)] rfl O dX11_paper_50 rfl (c_X11_refuse hG h) wd_3_27 mw_X11_refuse io_0 rfl (by decide) (Nat.le_of_ble_eq_true rfl) (fun v19 M19 h => ?_)
          exact hR _ _ _ _ dX11_paper_53 h
      · replace h := h.2 z11
        exact J.sub [0] rfl (j_X11_paper_b18 hG O hR h)
set_option maxHeartbeats 4000000 in
set_option maxRecDepth 20000 in
theorem c_X11_withdraw {l : Launch} {G : GX} (hG : Gd G) {a1 : Int32} {M : Mem} {K : Int32 → Mem → Prop} (h : f_X11_withdraw a1 M K) : CI l G yX11_withdraw cX11_withdraw 3 (some .int) 2 [.ref (ad G 0), .int a1] M K := by
  unfold f_X11_withdraw at h
  refine CI.mk hG (by decide) [(0, .ref (ad G 0)), (1, .int a1)] rfl (Nat.le_of_ble_eq_true rfl) (fun X O hlX hR => ?_)
  subst hlX
  refine J.aload_n (q := 1) O dX11_withdraw_0 rfl 0 rfl ?_
  refine J.iload_n (q := 2) O dX11_withdraw_1 rfl 1 rfl ?_
  refine J.callVI (q := 5) [.int a1] [] [.int a1, .ref (ad G 0)] rfl O dX11_withdraw_2 rfl (c_X11_isMatter hG h) wd_3_178 mw_X11_isMatter io_0 rfl (by decide) (Nat.le_of_ble_eq_true rfl) (fun v2 M2 h => ?_)
  refine J.if_ne (q := 8) (tgt := 14) O dX11_withdraw_5 rfl (by decide) (fun z3 => ?_) (fun z3 => ?_)
  · replace h := h.1 z3
    refine J.aload_n (q := 15) O dX11_withdraw_14 rfl 0 rfl ?_
    refine J.getR (q := 18) (c' := 0) (ci := 11) (k := 4) (r := 61) O dX11_withdraw_15 rfl wd_2_218 (by decide) if_0_4 ?_
    refine J.iload_n (q := 19) O dX11_withdraw_18 rfl 1 rfl ?_
    obtain ⟨hv4, h⟩ := h
    refine J.aald (q := 20) (t := 0) (c' := 61) (b := 127) (d := 4) O dX11_withdraw_19 rfl ar_61 hv4 ?_
    refine J.astore_n (q := 21) O dX11_withdraw_20 rfl [(2, .ref (ad G (127 + 4 * a1.toNatClampNeg))), (0, .ref (ad G 0)), (1, .int a1)] (by decide) rfl ?_
    refine J.aload_n (q := 22) O dX11_withdraw_21 rfl 0 rfl ?_
    refine J.aload_n (q := 23) O dX11_withdraw_22 rfl 1 rfl ?_
    refine J.getR (q := 26) (c' := 0) (ci := 11) (k := 0) (r := 1) O dX11_withdraw_23 rfl wd_2_214 (by decide) if_0_0 ?_
    refine J.getI (q := 29) (c' := 1) (ci := 3) (k := 0) (M2 1 0) rfl O dX11_withdraw_26 rfl wd_1_30 (by decide) if_1_0 ?_
    refine J.callVI (q := 32) [.int (M2 1 0)] [] [.int (M2 1 0), .ref (ad G (127 + 4 * a1.toNatClampNeg))] rfl O dX11_withdraw_29 rfl (c_X5_withdrawnBy hG h) wd_3_182 mw_X5_withdrawnBy (isMat_O (isMat_of hv4)) rfl (by decide) (Nat.le_of_ble_eq_true rfl) (fun v5 M5 h => ?_)
    refine J.if_eq (q := 35) (tgt := 42) O dX11_withdraw_32 rfl (by decide) (fun z6 => ?_) (fun z6 => ?_)
    · replace h := h.1 z6
      refine J.aload_n (q := 43) O dX11_withdraw_42 rfl 0 rfl ?_
      refine J.callVI (q := 46) [] [] [.ref (ad G (127 + 4 * a1.toNatClampNeg))] rfl O dX11_withdraw_43 rfl (c_X5_isFull hG h) wd_3_190 mw_X5_isFull (isMat_O (isMat_of hv4)) rfl (by decide) (Nat.le_of_ble_eq_true rfl) (fun v7 M7 h => ?_)
      refine J.if_eq (q := 49) (tgt := 56) O dX11_withdraw_46 rfl (by decide) (fun z8 => ?_) (fun z8 => ?_)
      · replace h := h.1 z8
        refine J.aload_n (q := 57) O dX11_withdraw_56 rfl 0 rfl ?_
        refine J.iconst (q := 58) (v := (2 : Int32)) O dX11_withdraw_57 rfl rfl ?_
        refine J.iconst (q := 59) (v := (0 : Int32)) O dX11_withdraw_58 rfl rfl ?_
        refine J.callVI (q := 62) [.int (2 : Int32), .int (0 : Int32)] [] [.int (0 : Int32), .int (2 : Int32), .ref (ad G (127 + 4 * a1.toNatClampNeg))] rfl O dX11_withdraw_59 rfl (c_X5_tell hG h) wd_3_194 mw_X5_tell (isMat_O (isMat_of hv4)) rfl (by decide) (Nat.le_of_ble_eq_true rfl) (fun v9 M9 h => ?_)
        refine J.pop (q := 63) O dX11_withdraw_62 rfl rfl ?_
        refine J.iconst (q := 64) (v := (1 : Int32)) O dX11_withdraw_63 rfl rfl ?_
        exact hR _ _ _ _ dX11_withdraw_64 h
      · replace h := h.2 z8
        refine J.aload_n (q := 50) O dX11_withdraw_49 rfl 1 rfl ?_
        refine J.bipush (q := 52) (v := (-6 : Int32)) O dX11_withdraw_50 rfl rfl ?_
        refine J.callVI (q := 55) [.int (-6 : Int32)] [] [.int (-6 : Int32), .ref (ad G 0)] rfl O dX11_withdraw_52 rfl (c_X11_refuse hG h) wd_3_27 mw_X11_refuse io_0 rfl (by decide) (Nat.le_of_ble_eq_true rfl) (fun v10 M10 h => ?_)
        exact hR _ _ _ _ dX11_withdraw_55 h
    · replace h := h.2 z6
      refine J.aload_n (q := 36) O dX11_withdraw_35 rfl 1 rfl ?_
      refine J.bipush (q := 38) (v := (-3 : Int32)) O dX11_withdraw_36 rfl rfl ?_
      refine J.callVI (q := 41) [.int (-3 : Int32)] [] [.int (-3 : Int32), .ref (ad G 0)] rfl O dX11_withdraw_38 rfl (c_X11_refuse hG h) wd_3_27 mw_X11_refuse io_0 rfl (by decide) (Nat.le_of_ble_eq_true rfl) (fun v11 M11 h => ?_)
      exact hR _ _ _ _ dX11_withdraw_41 h
  · replace h := h.2 z3
    refine J.aload_n (q := 9) O dX11_withdraw_8 rfl 0 rfl ?_
    refine J.iconst (q := 10) (v := (-1 : Int32)) O dX11_withdraw_9 rfl rfl ?_
    refine J.callVI (q := 13) [.int (-1 : Int32)] [] [.int (-1 : Int32), .ref (ad G 0)] rfl O dX11_withdraw_10 rfl (c_X11_refuse hG h) wd_3_27 mw_X11_refuse io_0 rfl (by decide) (Nat.le_of_ble_eq_true rfl) (fun v12 M12 h => ?_)
    exact hR _ _ _ _ dX11_withdraw_13 h
set_option maxHeartbeats 4000000 in
set_option maxRecDepth 20000 in
theorem j_X5_lastRuling_b61 {t : Nat} {X : CX} {G : GX} {K : Int32 → Mem → Prop} (hG : Gd G) (O : Ok X G cX5_lastRuling 4 RX5 1) (hR : RetI X G cX5_lastRuling K) (ht : isMat t) {r7 : Nat × Int32 × Int32 × Int32 × Mem → Prop} (hr7 : ∀ a : Nat × Int32 × Int32 × Int32 × Mem, r7 a → J X G a.2.2.2.2 7 [(0, .ref (ad G a.1)), (1, .int a.2.1), (2, .int a.2.2.1), (3, .int a.2.2.2.1)] []) {x0 : Nat} {x1 : Int32} {x2 : Int32} {x3 : Int32} {M : Mem} (h : f_X5_lastRuling_b61 t r7 K x0 x1 x2 x3 M) : J X G M 61 [(0, .ref (ad G x0)), (1, .int x1), (2, .int x2), (3, .int x3)] [] := by
  unfold f_X5_lastRuling_b61 at h
  obtain ⟨hx0, h⟩ := h
  refine J.iinc (q := 64) O dX5_lastRuling_61 rfl [(3, .int (x3 + (-1 : Int32))), (0, .ref (ad G x0)), (1, .int x1), (2, .int x2)] 3 rfl rfl (by decide) rfl ?_
  refine J.goto (q := 7) O dX5_lastRuling_64 (by decide) ?_
  exact J.sub [1, 2, 3, 0] rfl (hr7 _ h)
set_option maxHeartbeats 4000000 in
set_option maxRecDepth 20000 in
theorem j_X5_lastRuling_b34 {t : Nat} {X : CX} {G : GX} {K : Int32 → Mem → Prop} (hG : Gd G) (O : Ok X G cX5_lastRuling 4 RX5 1) (hR : RetI X G cX5_lastRuling K) (ht : isMat t) {r7 : Nat × Int32 × Int32 × Int32 × Mem → Prop} (hr7 : ∀ a : Nat × Int32 × Int32 × Int32 × Mem, r7 a → J X G a.2.2.2.2 7 [(0, .ref (ad G a.1)), (1, .int a.2.1), (2, .int a.2.2.1), (3, .int a.2.2.2.1)] []) {x0 : Nat} {x1 : Int32} {x2 : Int32} {x3 : Int32} {M : Mem} (h : f_X5_lastRuling_b34 t r7 K x0 x1 x2 x3 M) : J X G M 34 [(0, .ref (ad G x0)), (1, .int x1), (2, .int x2), (3, .int x3)] [] := by
  unfold f_X5_lastRuling_b34 at h
  obtain ⟨hx0, h⟩ := h
  refine J.aload_n (q := 35) O dX5_lastRuling_34 rfl 0 rfl ?_
  refine J.getR (q := 38) (c' := x0) (ci := 5) (k := 12) (r := (x0 + 1)) O dX5_lastRuling_35 rfl wd_2_180 (by decide) (isMat_F hx0 rfl) ?_
  refine J.iload_n (q := 39) O dX5_lastRuling_38 rfl 3 rfl ?_
  obtain ⟨hv6, h⟩ := h
  refine J.iald (q := 40) (c' := (x0 + 1)) (j := x3.toNatClampNeg) (M (x0 + 1) x3.toNatClampNeg) rfl O dX5_lastRuling_39 rfl (isMat_A hx0 (by decide) (by decide)) hv6 rfl ?_
  refine J.iconst (q := 41) (v := (4 : Int32)) O dX5_lastRuling_40 rfl rfl ?_
  refine J.icmp_ne (q := 44) (tgt := 61) O dX5_lastRuling_41 rfl (by decide) (fun z7 => ?_) (fun z7 => ?_)
  · replace h := h.1 z7
    exact J.sub [0, 1, 2, 3] rfl (j_X5_lastRuling_b61 hG O hR ht hr7 h)
  · replace h := h.2 z7
    refine J.aload_n (q := 45) O dX5_lastRuling_44 rfl 0 rfl ?_
    refine J.getR (q := 48) (c' := x0) (ci := 5) (k := 14) (r := (x0 + 3)) O dX5_lastRuling_45 rfl wd_2_182 (by decide) (isMat_F hx0 rfl) ?_
    refine J.iload_n (q := 49) O dX5_lastRuling_48 rfl 3 rfl ?_
    obtain ⟨hv8, h⟩ := h
    refine J.iald (q := 50) (c' := (x0 + 3)) (j := x3.toNatClampNeg) (M (x0 + 3) x3.toNatClampNeg) rfl O dX5_lastRuling_49 rfl (isMat_A hx0 (by decide) (by decide)) hv8 rfl ?_
    refine J.iload_n (q := 51) O dX5_lastRuling_50 rfl 1 rfl ?_
    refine J.icmp_gt (q := 54) (tgt := 61) O dX5_lastRuling_51 rfl (by decide) (fun z9 => ?_) (fun z9 => ?_)
    · replace h := h.1 z9
      exact J.sub [0, 1, 2, 3] rfl (j_X5_lastRuling_b61 hG O hR ht hr7 h)
    · replace h := h.2 z9
      refine J.aload_n (q := 55) O dX5_lastRuling_54 rfl 0 rfl ?_
      refine J.getR (q := 58) (c' := x0) (ci := 5) (k := 13) (r := (x0 + 2)) O dX5_lastRuling_55 rfl wd_2_181 (by decide) (isMat_F hx0 rfl) ?_
      refine J.iload_n (q := 59) O dX5_lastRuling_58 rfl 3 rfl ?_
      obtain ⟨hv10, h⟩ := h
      refine J.iald (q := 60) (c' := (x0 + 2)) (j := x3.toNatClampNeg) (M (x0 + 2) x3.toNatClampNeg) rfl O dX5_lastRuling_59 rfl (isMat_A hx0 (by decide) (by decide)) hv10 rfl ?_
      exact hR _ _ _ _ dX5_lastRuling_60 h
set_option maxHeartbeats 4000000 in
set_option maxRecDepth 20000 in
theorem j_X5_lastRuling_c7 {t : Nat} {X : CX} {G : GX} {K : Int32 → Mem → Prop} (hG : Gd G) (O : Ok X G cX5_lastRuling 4 RX5 1) (hR : RetI X G cX5_lastRuling K) (ht : isMat t) {a : Nat × Int32 × Int32 × Int32 × Mem} (h : Lp (fun (r7 : Nat × Int32 × Int32 × Int32 × Mem → Prop) a => f_X5_lastRuling_c7 t K r7 a.1 a.2.1 a.2.2.1 a.2.2.2.1 a.2.2.2.2) a) : J X G a.2.2.2.2 7 [(0, .ref (ad G a.1)), (1, .int a.2.1), (2, .int a.2.2.1), (3, .int a.2.2.2.1)] [] := by
  refine Lp.elim (P := fun a => J X G a.2.2.2.2 7 [(0, .ref (ad G a.1)), (1, .int a.2.1), (2, .int a.2.2.1), (3, .int a.2.2.2.1)] []) ?_ h
  clear h
  intro r7 hr7 a h
  obtain ⟨x0, x1, x2, x3, M⟩ := a
  unfold f_X5_lastRuling_c7 at h
  (try dsimp only at h ⊢)
  obtain ⟨hx0, h⟩ := h
  refine J.iload_n (q := 8) O dX5_lastRuling_7 rfl 3 rfl ?_
  refine J.if_lt (q := 11) (tgt := 67) O dX5_lastRuling_8 rfl (by decide) (fun z11 => ?_) (fun z11 => ?_)
  · replace h := h.1 z11
    refine J.bipush (q := 69) (v := (-9 : Int32)) O dX5_lastRuling_67 rfl rfl ?_
    exact hR _ _ _ _ dX5_lastRuling_69 h
  · replace h := h.2 z11
    refine J.aload_n (q := 12) O dX5_lastRuling_11 rfl 0 rfl ?_
    refine J.getR (q := 15) (c' := x0) (ci := 5) (k := 12) (r := (x0 + 1)) O dX5_lastRuling_12 rfl wd_2_180 (by decide) (isMat_F hx0 rfl) ?_
    refine J.iload_n (q := 16) O dX5_lastRuling_15 rfl 3 rfl ?_
    obtain ⟨hv12, h⟩ := h
    refine J.iald (q := 17) (c' := (x0 + 1)) (j := x3.toNatClampNeg) (M (x0 + 1) x3.toNatClampNeg) rfl O dX5_lastRuling_16 rfl (isMat_A hx0 (by decide) (by decide)) hv12 rfl ?_
    refine J.iconst (q := 18) (v := (5 : Int32)) O dX5_lastRuling_17 rfl rfl ?_
    refine J.icmp_ne (q := 21) (tgt := 34) O dX5_lastRuling_18 rfl (by decide) (fun z13 => ?_) (fun z13 => ?_)
    · replace h := h.1 z13
      exact J.sub [0, 1, 2, 3] rfl (j_X5_lastRuling_b34 hG O hR ht hr7 h)
    · replace h := h.2 z13
      refine J.aload_n (q := 22) O dX5_lastRuling_21 rfl 0 rfl ?_
      refine J.getR (q := 25) (c' := x0) (ci := 5) (k := 14) (r := (x0 + 3)) O dX5_lastRuling_22 rfl wd_2_182 (by decide) (isMat_F hx0 rfl) ?_
      refine J.iload_n (q := 26) O dX5_lastRuling_25 rfl 3 rfl ?_
      obtain ⟨hv14, h⟩ := h
      refine J.iald (q := 27) (c' := (x0 + 3)) (j := x3.toNatClampNeg) (M (x0 + 3) x3.toNatClampNeg) rfl O dX5_lastRuling_26 rfl (isMat_A hx0 (by decide) (by decide)) hv14 rfl ?_
      refine J.iload_n (q := 28) O dX5_lastRuling_27 rfl 2 rfl ?_
      refine J.icmp_gt (q := 31) (tgt := 34) O dX5_lastRuling_28 rfl (by decide) (fun z15 => ?_) (fun z15 => ?_)
      · replace h := h.1 z15
        exact J.sub [0, 1, 2, 3] rfl (j_X5_lastRuling_b34 hG O hR ht hr7 h)
      · replace h := h.2 z15
        refine J.bipush (q := 33) (v := (-9 : Int32)) O dX5_lastRuling_31 rfl rfl ?_
        exact hR _ _ _ _ dX5_lastRuling_33 h
set_option maxHeartbeats 4000000 in
set_option maxRecDepth 20000 in
theorem c_X5_lastRuling {l : Launch} {G : GX} (hG : Gd G) {t : Nat} {a1 : Int32} {a2 : Int32} {M : Mem} {K : Int32 → Mem → Prop} (h : f_X5_lastRuling t a1 a2 M K) : CI l G yX5_lastRuling cX5_lastRuling 4 (some .int) 1 [.ref (ad G t), .int a1, .int a2] M K := by
  unfold f_X5_lastRuling at h
  obtain ⟨ht, h⟩ := h
  refine CI.mk hG (by decide) [(0, .ref (ad G t)), (1, .int a1), (2, .int a2)] rfl (Nat.le_of_ble_eq_true rfl) (fun X O hlX hR => ?_)
  subst hlX
  refine J.aload_n (q := 1) O dX5_lastRuling_0 rfl 0 rfl ?_
  refine J.getI (q := 4) (c' := t) (ci := 5) (k := 11) (M t 11) rfl O dX5_lastRuling_1 rfl wd_2_178 (by decide) (isMat_F ht rfl) ?_
  refine J.iconst (q := 5) (v := (1 : Int32)) O dX5_lastRuling_4 rfl rfl ?_
  refine J.isub (q := 6) O dX5_lastRuling_5 rfl ?_
  refine J.istore_n (q := 7) O dX5_lastRuling_6 rfl [(3, .int ((M t 11) - (1 : Int32))), (0, .ref (ad G t)), (1, .int a1), (2, .int a2)] (by decide) rfl ?_
  exact J.sub [1, 2, 3, 0] rfl (j_X5_lastRuling_c7 hG O hR ht h)
set_option maxHeartbeats 4000000 in
set_option maxRecDepth 20000 in
theorem j_X2_isVoidBy_b27 {X : CX} {G : GX} {K : Int32 → Mem → Prop} (hG : Gd G) (O : Ok X G cX2_isVoidBy 3 RX2 1) (hR : RetZ X G cX2_isVoidBy K) {s0 : Int32} {M : Mem} (h : f_X2_isVoidBy_b27 K s0 M) : J X G M 27 [] [.int s0] := by
  unfold f_X2_isVoidBy_b27 at h
  exact hR _ _ _ _ dX2_isVoidBy_27 h.1 h.2
set_option maxHeartbeats 4000000 in
set_option maxRecDepth 20000 in
theorem j_X2_isVoidBy_b26 {X : CX} {G : GX} {K : Int32 → Mem → Prop} (hG : Gd G) (O : Ok X G cX2_isVoidBy 3 RX2 1) (hR : RetZ X G cX2_isVoidBy K) {M : Mem} (h : f_X2_isVoidBy_b26 K  M) : J X G M 26 [] [] := by
  unfold f_X2_isVoidBy_b26 at h
  refine J.iconst (q := 27) (v := (0 : Int32)) O dX2_isVoidBy_26 rfl rfl ?_
  exact J.sub [] rfl (j_X2_isVoidBy_b27 hG O hR h)
set_option maxHeartbeats 4000000 in
set_option maxRecDepth 20000 in
theorem c_X2_isVoidBy {l : Launch} {G : GX} (hG : Gd G) {a1 : Int32} {a2 : Int32} {M : Mem} {K : Int32 → Mem → Prop} (h : f_X2_isVoidBy a1 a2 M K) : CI l G yX2_isVoidBy cX2_isVoidBy 3 (some .boolean) 1 [.ref (ad G 51), .int a1, .int a2] M K := by
  unfold f_X2_isVoidBy at h
  refine CZ.mk hG (by decide) [(0, .ref (ad G 51)), (1, .int a1), (2, .int a2)] rfl (Nat.le_of_ble_eq_true rfl) (fun X O hlX hR => ?_)
  subst hlX
  refine J.iload_n (q := 1) O dX2_isVoidBy_0 rfl 1 rfl ?_
  refine J.if_lt (q := 4) (tgt := 26) O dX2_isVoidBy_1 rfl (by decide) (fun z3 => ?_) (fun z3 => ?_)
  · replace h := h.1 z3
    exact J.sub [] rfl (j_X2_isVoidBy_b26 hG O hR h)
  · replace h := h.2 z3
    refine J.iload_n (q := 5) O dX2_isVoidBy_4 rfl 1 rfl ?_
    refine J.aload_n (q := 6) O dX2_isVoidBy_5 rfl 0 rfl ?_
    refine J.getI (q := 9) (c' := 51) (ci := 2) (k := 5) (M 51 5) rfl O dX2_isVoidBy_6 rfl wd_1_169 (by decide) if_51_5 ?_
    refine J.icmp_ge (q := 12) (tgt := 26) O dX2_isVoidBy_9 rfl (by decide) (fun z4 => ?_) (fun z4 => ?_)
    · replace h := h.1 z4
      exact J.sub [] rfl (j_X2_isVoidBy_b26 hG O hR h)
    · replace h := h.2 z4
      refine J.aload_n (q := 13) O dX2_isVoidBy_12 rfl 0 rfl ?_
      refine J.getR (q := 16) (c' := 51) (ci := 2) (k := 9) (r := 59) O dX2_isVoidBy_13 rfl wd_1_174 (by decide) if_51_9 ?_
      refine J.iload_n (q := 17) O dX2_isVoidBy_16 rfl 1 rfl ?_
      obtain ⟨hv5, h⟩ := h
      refine J.iald (q := 18) (c' := 59) (j := a1.toNatClampNeg) (M 59 a1.toNatClampNeg) rfl O dX2_isVoidBy_17 rfl ar_59 hv5 rfl ?_
      refine J.iload_n (q := 19) O dX2_isVoidBy_18 rfl 2 rfl ?_
      refine J.icmp_gt (q := 22) (tgt := 26) O dX2_isVoidBy_19 rfl (by decide) (fun z6 => ?_) (fun z6 => ?_)
      · replace h := h.1 z6
        exact J.sub [] rfl (j_X2_isVoidBy_b26 hG O hR h)
      · replace h := h.2 z6
        refine J.iconst (q := 23) (v := (1 : Int32)) O dX2_isVoidBy_22 rfl rfl ?_
        refine J.goto (q := 27) O dX2_isVoidBy_23 (by decide) ?_
        exact J.sub [] rfl (j_X2_isVoidBy_b27 hG O hR h)
set_option maxHeartbeats 4000000 in
set_option maxRecDepth 20000 in
theorem j_X5_lastAnswer_b59 {t : Nat} {X : CX} {G : GX} {K : Int32 → Mem → Prop} (hG : Gd G) (O : Ok X G cX5_lastAnswer 4 RX5 2) (hR : RetI X G cX5_lastAnswer K) (ht : isMat t) {r7 : Nat × Int32 × Int32 × Int32 × Mem → Prop} (hr7 : ∀ a : Nat × Int32 × Int32 × Int32 × Mem, r7 a → J X G a.2.2.2.2 7 [(0, .ref (ad G a.1)), (1, .int a.2.1), (2, .int a.2.2.1), (3, .int a.2.2.2.1)] []) {x0 : Nat} {x1 : Int32} {x2 : Int32} {x3 : Int32} {M : Mem} (h : f_X5_lastAnswer_b59 t r7 K x0 x1 x2 x3 M) : J X G M 59 [(0, .ref (ad G x0)), (1, .int x1), (2, .int x2), (3, .int x3)] [] := by
  unfold f_X5_lastAnswer_b59 at h
  obtain ⟨hx0, h⟩ := h
  refine J.iinc (q := 62) O dX5_lastAnswer_59 rfl [(3, .int (x3 + (-1 : Int32))), (0, .ref (ad G x0)), (1, .int x1), (2, .int x2)] 3 rfl rfl (by decide) rfl ?_
  refine J.goto (q := 7) O dX5_lastAnswer_62 (by decide) ?_
  exact J.sub [1, 2, 3, 0] rfl (hr7 _ h)
set_option maxHeartbeats 4000000 in
set_option maxRecDepth 20000 in
theorem j_X5_lastAnswer_c7 {t : Nat} {X : CX} {G : GX} {K : Int32 → Mem → Prop} (hG : Gd G) (O : Ok X G cX5_lastAnswer 4 RX5 2) (hR : RetI X G cX5_lastAnswer K) (ht : isMat t) {a : Nat × Int32 × Int32 × Int32 × Mem} (h : Lp (fun (r7 : Nat × Int32 × Int32 × Int32 × Mem → Prop) a => f_X5_lastAnswer_c7 t K r7 a.1 a.2.1 a.2.2.1 a.2.2.2.1 a.2.2.2.2) a) : J X G a.2.2.2.2 7 [(0, .ref (ad G a.1)), (1, .int a.2.1), (2, .int a.2.2.1), (3, .int a.2.2.2.1)] [] := by
  refine Lp.elim (P := fun a => J X G a.2.2.2.2 7 [(0, .ref (ad G a.1)), (1, .int a.2.1), (2, .int a.2.2.1), (3, .int a.2.2.2.1)] []) ?_ h
  clear h
  intro r7 hr7 a h
  obtain ⟨x0, x1, x2, x3, M⟩ := a
  unfold f_X5_lastAnswer_c7 at h
  (try dsimp only at h ⊢)
  obtain ⟨hx0, h⟩ := h
  refine J.iload_n (q := 8) O dX5_lastAnswer_7 rfl 3 rfl ?_
  refine J.if_lt (q := 11) (tgt := 65) O dX5_lastAnswer_8 rfl (by decide) (fun z5 => ?_) (fun z5 => ?_)
  · replace h := h.1 z5
    refine J.bipush (q := 67) (v := (-9 : Int32)) O dX5_lastAnswer_65 rfl rfl ?_
    exact hR _ _ _ _ dX5_lastAnswer_67 h
  · replace h := h.2 z5
    refine J.aload_n (q := 12) O dX5_lastAnswer_11 rfl 0 rfl ?_
    refine J.getR (q := 15) (c' := x0) (ci := 5) (k := 12) (r := (x0 + 1)) O dX5_lastAnswer_12 rfl wd_2_180 (by decide) (isMat_F hx0 rfl) ?_
    refine J.iload_n (q := 16) O dX5_lastAnswer_15 rfl 3 rfl ?_
    obtain ⟨hv6, h⟩ := h
    refine J.iald (q := 17) (c' := (x0 + 1)) (j := x3.toNatClampNeg) (M (x0 + 1) x3.toNatClampNeg) rfl O dX5_lastAnswer_16 rfl (isMat_A hx0 (by decide) (by decide)) hv6 rfl ?_
    refine J.iconst (q := 18) (v := (3 : Int32)) O dX5_lastAnswer_17 rfl rfl ?_
    refine J.icmp_ne (q := 21) (tgt := 59) O dX5_lastAnswer_18 rfl (by decide) (fun z7 => ?_) (fun z7 => ?_)
    · replace h := h.1 z7
      exact J.sub [0, 1, 2, 3] rfl (j_X5_lastAnswer_b59 hG O hR ht hr7 h)
    · replace h := h.2 z7
      refine J.aload_n (q := 22) O dX5_lastAnswer_21 rfl 0 rfl ?_
      refine J.getR (q := 25) (c' := x0) (ci := 5) (k := 14) (r := (x0 + 3)) O dX5_lastAnswer_22 rfl wd_2_182 (by decide) (isMat_F hx0 rfl) ?_
      refine J.iload_n (q := 26) O dX5_lastAnswer_25 rfl 3 rfl ?_
      obtain ⟨hv8, h⟩ := h
      refine J.iald (q := 27) (c' := (x0 + 3)) (j := x3.toNatClampNeg) (M (x0 + 3) x3.toNatClampNeg) rfl O dX5_lastAnswer_26 rfl (isMat_A hx0 (by decide) (by decide)) hv8 rfl ?_
      refine J.iload_n (q := 28) O dX5_lastAnswer_27 rfl 1 rfl ?_
      refine J.icmp_gt (q := 31) (tgt := 59) O dX5_lastAnswer_28 rfl (by decide) (fun z9 => ?_) (fun z9 => ?_)
      · replace h := h.1 z9
        exact J.sub [0, 1, 2, 3] rfl (j_X5_lastAnswer_b59 hG O hR ht hr7 h)
      · replace h := h.2 z9
        refine J.aload_n (q := 32) O dX5_lastAnswer_31 rfl 0 rfl ?_
        refine J.getR (q := 35) (c' := x0) (ci := 5) (k := 1) (r := 51) O dX5_lastAnswer_32 rfl wd_2_163 (by decide) (isMat_F hx0 rfl) ?_
        refine J.aload_n (q := 36) O dX5_lastAnswer_35 rfl 0 rfl ?_
        refine J.getR (q := 39) (c' := x0) (ci := 5) (k := 13) (r := (x0 + 2)) O dX5_lastAnswer_36 rfl wd_2_181 (by decide) (isMat_F hx0 rfl) ?_
        refine J.iload_n (q := 40) O dX5_lastAnswer_39 rfl 3 rfl ?_
        obtain ⟨hv10, h⟩ := h
        refine J.iald (q := 41) (c' := (x0 + 2)) (j := x3.toNatClampNeg) (M (x0 + 2) x3.toNatClampNeg) rfl O dX5_lastAnswer_40 rfl (isMat_A hx0 (by decide) (by decide)) hv10 rfl ?_
        refine J.iconst (q := 42) (v := (2 : Int32)) O dX5_lastAnswer_41 rfl rfl ?_
        refine J.idiv (q := 43) O dX5_lastAnswer_42 rfl (by decide) ?_
        refine J.iload_n (q := 44) O dX5_lastAnswer_43 rfl 2 rfl ?_
        refine J.callVI (q := 47) [.int ((M (x0 + 2) x3.toNatClampNeg) / (2 : Int32)), .int x2] [] [.int x2, .int ((M (x0 + 2) x3.toNatClampNeg) / (2 : Int32)), .ref (ad G 51)] rfl O dX5_lastAnswer_44 rfl (c_X2_isVoidBy hG h) wd_3_219 mw_X2_isVoidBy io_51 rfl (by decide) (Nat.le_of_ble_eq_true rfl) (fun v11 M11 h => ?_)
        refine J.if_ne (q := 50) (tgt := 59) O dX5_lastAnswer_47 rfl (by decide) (fun z12 => ?_) (fun z12 => ?_)
        · replace h := h.1 z12
          exact J.sub [0, 1, 2, 3] rfl (j_X5_lastAnswer_b59 hG O hR ht hr7 h)
        · replace h := h.2 z12
          refine J.aload_n (q := 51) O dX5_lastAnswer_50 rfl 0 rfl ?_
          refine J.getR (q := 54) (c' := x0) (ci := 5) (k := 13) (r := (x0 + 2)) O dX5_lastAnswer_51 rfl wd_2_181 (by decide) (isMat_F hx0 rfl) ?_
          refine J.iload_n (q := 55) O dX5_lastAnswer_54 rfl 3 rfl ?_
          obtain ⟨hv13, h⟩ := h
          refine J.iald (q := 56) (c' := (x0 + 2)) (j := x3.toNatClampNeg) (M11 (x0 + 2) x3.toNatClampNeg) rfl O dX5_lastAnswer_55 rfl (isMat_A hx0 (by decide) (by decide)) hv13 rfl ?_
          refine J.iconst (q := 57) (v := (2 : Int32)) O dX5_lastAnswer_56 rfl rfl ?_
          refine J.irem (q := 58) O dX5_lastAnswer_57 rfl (by decide) ?_
          exact hR _ _ _ _ dX5_lastAnswer_58 h
set_option maxHeartbeats 4000000 in
set_option maxRecDepth 20000 in
theorem c_X5_lastAnswer {l : Launch} {G : GX} (hG : Gd G) {t : Nat} {a1 : Int32} {a2 : Int32} {M : Mem} {K : Int32 → Mem → Prop} (h : f_X5_lastAnswer t a1 a2 M K) : CI l G yX5_lastAnswer cX5_lastAnswer 4 (some .int) 2 [.ref (ad G t), .int a1, .int a2] M K := by
  unfold f_X5_lastAnswer at h
  obtain ⟨ht, h⟩ := h
  refine CI.mk hG (by decide) [(0, .ref (ad G t)), (1, .int a1), (2, .int a2)] rfl (Nat.le_of_ble_eq_true rfl) (fun X O hlX hR => ?_)
  subst hlX
  refine J.aload_n (q := 1) O dX5_lastAnswer_0 rfl 0 rfl ?_
  refine J.getI (q := 4) (c' := t) (ci := 5) (k := 11) (M t 11) rfl O dX5_lastAnswer_1 rfl wd_2_178 (by decide) (isMat_F ht rfl) ?_
  refine J.iconst (q := 5) (v := (1 : Int32)) O dX5_lastAnswer_4 rfl rfl ?_
  refine J.isub (q := 6) O dX5_lastAnswer_5 rfl ?_
  refine J.istore_n (q := 7) O dX5_lastAnswer_6 rfl [(3, .int ((M t 11) - (1 : Int32))), (0, .ref (ad G t)), (1, .int a1), (2, .int a2)] (by decide) rfl ?_
  exact J.sub [1, 2, 3, 0] rfl (j_X5_lastAnswer_c7 hG O hR ht h)
set_option maxHeartbeats 4000000 in
set_option maxRecDepth 20000 in
theorem j_X5_wholeSince_b57 {t : Nat} {X : CX} {G : GX} {K : Int32 → Mem → Prop} (hG : Gd G) (O : Ok X G cX5_wholeSince 6 RX5 2) (hR : RetI X G cX5_wholeSince K) (ht : isMat t) {r8 : Nat × Int32 × Int32 × Int32 × Int32 × Mem → Prop} (hr8 : ∀ a : Nat × Int32 × Int32 × Int32 × Int32 × Mem, r8 a → J X G a.2.2.2.2.2 8 [(0, .ref (ad G a.1)), (1, .int a.2.1), (2, .int a.2.2.1), (3, .int a.2.2.2.1), (4, .int a.2.2.2.2.1)] []) {x0 : Nat} {x1 : Int32} {x2 : Int32} {x3 : Int32} {x4 : Int32} {M : Mem} (h : f_X5_wholeSince_b57 t r8 K x0 x1 x2 x3 x4 M) : J X G M 57 [(0, .ref (ad G x0)), (1, .int x1), (2, .int x2), (3, .int x3), (4, .int x4)] [] := by
  unfold f_X5_wholeSince_b57 at h
  obtain ⟨hx0, h⟩ := h
  refine J.iinc (q := 60) O dX5_wholeSince_57 rfl [(4, .int (x4 + (1 : Int32))), (0, .ref (ad G x0)), (1, .int x1), (2, .int x2), (3, .int x3)] 4 rfl rfl (by decide) rfl ?_
  refine J.goto (q := 8) O dX5_wholeSince_60 (by decide) ?_
  exact J.sub [1, 2, 3, 4, 0] rfl (hr8 _ h)
set_option maxHeartbeats 4000000 in
set_option maxRecDepth 20000 in
theorem j_X5_wholeSince_c8 {t : Nat} {X : CX} {G : GX} {K : Int32 → Mem → Prop} (hG : Gd G) (O : Ok X G cX5_wholeSince 6 RX5 2) (hR : RetI X G cX5_wholeSince K) (ht : isMat t) {a : Nat × Int32 × Int32 × Int32 × Int32 × Mem} (h : Lp (fun (r8 : Nat × Int32 × Int32 × Int32 × Int32 × Mem → Prop) a => f_X5_wholeSince_c8 t K r8 a.1 a.2.1 a.2.2.1 a.2.2.2.1 a.2.2.2.2.1 a.2.2.2.2.2) a) : J X G a.2.2.2.2.2 8 [(0, .ref (ad G a.1)), (1, .int a.2.1), (2, .int a.2.2.1), (3, .int a.2.2.2.1), (4, .int a.2.2.2.2.1)] [] := by
  refine Lp.elim (P := fun a => J X G a.2.2.2.2.2 8 [(0, .ref (ad G a.1)), (1, .int a.2.1), (2, .int a.2.2.1), (3, .int a.2.2.2.1), (4, .int a.2.2.2.2.1)] []) ?_ h
  clear h
  intro r8 hr8 a h
  obtain ⟨x0, x1, x2, x3, x4, M⟩ := a
  unfold f_X5_wholeSince_c8 at h
  (try dsimp only at h ⊢)
  obtain ⟨hx0, h⟩ := h
  refine J.iload (q := 10) O dX5_wholeSince_8 rfl 4 rfl ?_
  refine J.bipush (q := 12) (v := (8 : Int32)) O dX5_wholeSince_10 rfl rfl ?_
  refine J.icmp_ge (q := 15) (tgt := 63) O dX5_wholeSince_12 rfl (by decide) (fun z1 => ?_) (fun z1 => ?_)
  · replace h := h.1 z1
    refine J.iload_n (q := 64) O dX5_wholeSince_63 rfl 3 rfl ?_
    exact hR _ _ _ _ dX5_wholeSince_64 h
  · replace h := h.2 z1
    refine J.aload_n (q := 16) O dX5_wholeSince_15 rfl 0 rfl ?_
    refine J.getI (q := 19) (c' := x0) (ci := 5) (k := 8) (M x0 8) rfl O dX5_wholeSince_16 rfl wd_2_175 (by decide) (isMat_F hx0 rfl) ?_
    refine J.iload (q := 21) O dX5_wholeSince_19 rfl 4 rfl ?_
    refine J.ishr (q := 22) O dX5_wholeSince_21 rfl ?_
    refine J.iconst (q := 23) (v := (1 : Int32)) O dX5_wholeSince_22 rfl rfl ?_
    refine J.iand (q := 24) O dX5_wholeSince_23 rfl ?_
    refine J.if_ne (q := 27) (tgt := 30) O dX5_wholeSince_24 rfl (by decide) (fun z2 => ?_) (fun z2 => ?_)
    · replace h := h.1 z2
      refine J.aload_n (q := 31) O dX5_wholeSince_30 rfl 0 rfl ?_
      refine J.iload (q := 33) O dX5_wholeSince_31 rfl 4 rfl ?_
      refine J.iload_n (q := 34) O dX5_wholeSince_33 rfl 1 rfl ?_
      refine J.iload_n (q := 35) O dX5_wholeSince_34 rfl 2 rfl ?_
      refine J.callVI (q := 38) [.int x4, .int x1, .int x2] [] [.int x2, .int x1, .int x4, .ref (ad G x0)] rfl O dX5_wholeSince_35 rfl (c_X5_paperDay hG h) wd_3_227 mw_X5_paperDay (isMat_O hx0) rfl (by decide) (Nat.le_of_ble_eq_true rfl) (fun v3 M3 h => ?_)
      refine J.istore (q := 40) O dX5_wholeSince_38 rfl [(5, .int v3), (0, .ref (ad G x0)), (1, .int x1), (2, .int x2), (3, .int x3), (4, .int x4)] (by decide) rfl ?_
      refine J.iload (q := 42) O dX5_wholeSince_40 rfl 0 rfl ?_
      refine J.bipush (q := 44) (v := (-9 : Int32)) O dX5_wholeSince_42 rfl rfl ?_
      refine J.icmp_ne (q := 47) (tgt := 50) O dX5_wholeSince_44 rfl (by decide) (fun z4 => ?_) (fun z4 => ?_)
      · replace h := h.1 z4
        refine J.iload_n (q := 51) O dX5_wholeSince_50 rfl 4 rfl ?_
        refine J.iload (q := 53) O dX5_wholeSince_51 rfl 0 rfl ?_
        refine J.mmax (q := 56) O dX5_wholeSince_53 rfl wd_3_228 (by decide) (Nat.le_of_ble_eq_true rfl) ?_
        refine J.istore_n (q := 57) O dX5_wholeSince_56 rfl [(3, .int (if x3 < v3 then v3 else x3)), (5, .int v3), (0, .ref (ad G x0)), (1, .int x1), (2, .int x2), (4, .int x4)] (by decide) rfl ?_
        exact J.sub [2, 3, 4, 0, 5] rfl (j_X5_wholeSince_b57 hG O hR ht hr8 h)
      · replace h := h.2 z4
        refine J.bipush (q := 49) (v := (-9 : Int32)) O dX5_wholeSince_47 rfl rfl ?_
        exact hR _ _ _ _ dX5_wholeSince_49 h
    · replace h := h.2 z2
      refine J.goto (q := 57) O dX5_wholeSince_27 (by decide) ?_
      exact J.sub [0, 1, 2, 3, 4] rfl (j_X5_wholeSince_b57 hG O hR ht hr8 h)
set_option maxHeartbeats 4000000 in
set_option maxRecDepth 20000 in
theorem c_X5_wholeSince {l : Launch} {G : GX} (hG : Gd G) {t : Nat} {a1 : Int32} {a2 : Int32} {M : Mem} {K : Int32 → Mem → Prop} (h : f_X5_wholeSince t a1 a2 M K) : CI l G yX5_wholeSince cX5_wholeSince 6 (some .int) 2 [.ref (ad G t), .int a1, .int a2] M K := by
  unfold f_X5_wholeSince at h
  obtain ⟨ht, h⟩ := h
  refine CI.mk hG (by decide) [(0, .ref (ad G t)), (1, .int a1), (2, .int a2)] rfl (Nat.le_of_ble_eq_true rfl) (fun X O hlX hR => ?_)
  subst hlX
  refine J.aload_n (q := 1) O dX5_wholeSince_0 rfl 0 rfl ?_
  refine J.getI (q := 4) (c' := t) (ci := 5) (k := 6) (M t 6) rfl O dX5_wholeSince_1 rfl wd_2_171 (by decide) (isMat_F ht rfl) ?_
  refine J.istore_n (q := 5) O dX5_wholeSince_4 rfl [(3, .int (M t 6)), (0, .ref (ad G t)), (1, .int a1), (2, .int a2)] (by decide) rfl ?_
  refine J.iconst (q := 6) (v := (0 : Int32)) O dX5_wholeSince_5 rfl rfl ?_
  refine J.istore (q := 8) O dX5_wholeSince_6 rfl [(4, .int (0 : Int32)), (3, .int (M t 6)), (0, .ref (ad G t)), (1, .int a1), (2, .int a2)] (by decide) rfl ?_
  exact J.sub [2, 3, 4, 1, 0] rfl (j_X5_wholeSince_c8 hG O hR ht h)
set_option maxHeartbeats 4000000 in
set_option maxRecDepth 20000 in
theorem j_X3_workdaysBehind_b16 {X : CX} {G : GX} {K : Int32 → Mem → Prop} (hG : Gd G) (O : Ok X G cX3_workdaysBehind 3 RX3 1) (hR : RetI X G cX3_workdaysBehind K) {M : Mem} (h : f_X3_workdaysBehind_b16 K  M) : J X G M 16 [] [] := by
  unfold f_X3_workdaysBehind_b16 at h
  refine J.iconst (q := 17) (v := (0 : Int32)) O dX3_workdaysBehind_16 rfl rfl ?_
  exact hR _ _ _ _ dX3_workdaysBehind_17 h
set_option maxHeartbeats 4000000 in
set_option maxRecDepth 20000 in
theorem c_X3_workdaysBehind {l : Launch} {G : GX} (hG : Gd G) {a1 : Int32} {a2 : Int32} {M : Mem} {K : Int32 → Mem → Prop} (h : f_X3_workdaysBehind a1 a2 M K) : CI l G yX3_workdaysBehind cX3_workdaysBehind 3 (some .int) 1 [.ref (ad G 1), .int a1, .int a2] M K := by
  unfold f_X3_workdaysBehind at h
  refine CI.mk hG (by decide) [(0, .ref (ad G 1)), (1, .int a1), (2, .int a2)] rfl (Nat.le_of_ble_eq_true rfl) (fun X O hlX hR => ?_)
  subst hlX
  refine J.iload_n (q := 1) O dX3_workdaysBehind_0 rfl 1 rfl ?_
  refine J.if_lt (q := 4) (tgt := 16) O dX3_workdaysBehind_1 rfl (by decide) (fun z3 => ?_) (fun z3 => ?_)
  · replace h := h.1 z3
    exact J.sub [] rfl (j_X3_workdaysBehind_b16 hG O hR h)
  · replace h := h.2 z3
    refine J.iload_n (q := 5) O dX3_workdaysBehind_4 rfl 2 rfl ?_
    refine J.sipush (q := 8) (v := (1000 : Int32)) O dX3_workdaysBehind_5 rfl rfl ?_
    refine J.icmp_gt (q := 11) (tgt := 16) O dX3_workdaysBehind_8 rfl (by decide) (fun z4 => ?_) (fun z4 => ?_)
    · replace h := h.1 z4
      exact J.sub [] rfl (j_X3_workdaysBehind_b16 hG O hR h)
    · replace h := h.2 z4
      refine J.iload_n (q := 12) O dX3_workdaysBehind_11 rfl 2 rfl ?_
      refine J.iload_n (q := 13) O dX3_workdaysBehind_12 rfl 1 rfl ?_
      refine J.icmp_gt (q := 16) (tgt := 18) O dX3_workdaysBehind_13 rfl (by decide) (fun z5 => ?_) (fun z5 => ?_)
      · replace h := h.1 z5
        refine J.aload_n (q := 19) O dX3_workdaysBehind_18 rfl 0 rfl ?_
        refine J.getR (q := 22) (c' := 1) (ci := 3) (k := 2) (r := 3) O dX3_workdaysBehind_19 rfl wd_1_33 (by decide) if_1_2 ?_
        refine J.iload_n (q := 23) O dX3_workdaysBehind_22 rfl 2 rfl ?_
        obtain ⟨hv6, h⟩ := h
        refine J.iald (q := 24) (c' := 3) (j := a2.toNatClampNeg) (M 3 a2.toNatClampNeg) rfl O dX3_workdaysBehind_23 rfl ar_3 hv6 rfl ?_
        refine J.aload_n (q := 25) O dX3_workdaysBehind_24 rfl 0 rfl ?_
        refine J.getR (q := 28) (c' := 1) (ci := 3) (k := 2) (r := 3) O dX3_workdaysBehind_25 rfl wd_1_33 (by decide) if_1_2 ?_
        refine J.iload_n (q := 29) O dX3_workdaysBehind_28 rfl 1 rfl ?_
        obtain ⟨hv7, h⟩ := h
        refine J.iald (q := 30) (c' := 3) (j := a1.toNatClampNeg) (M 3 a1.toNatClampNeg) rfl O dX3_workdaysBehind_29 rfl ar_3 hv7 rfl ?_
        refine J.isub (q := 31) O dX3_workdaysBehind_30 rfl ?_
        exact hR _ _ _ _ dX3_workdaysBehind_31 h
      · replace h := h.2 z5
        exact J.sub [] rfl (j_X3_workdaysBehind_b16 hG O hR h)
set_option maxHeartbeats 4000000 in
set_option maxRecDepth 20000 in
theorem j_X5_stateOn_b44 {t : Nat} {X : CX} {G : GX} {K : Int32 → Mem → Prop} (hG : Gd G) (O : Ok X G cX5_stateOn 6 RX5 3) (hR : RetI X G cX5_stateOn K) (ht : isMat t) {s0 : Int32} {M : Mem} (h : f_X5_stateOn_b44 t K s0 M) : J X G M 44 [] [.int s0] := by
  unfold f_X5_stateOn_b44 at h
  exact hR _ _ _ _ dX5_stateOn_44 h
set_option maxHeartbeats 4000000 in
set_option maxRecDepth 20000 in
theorem j_X5_stateOn_b71 {t : Nat} {X : CX} {G : GX} {K : Int32 → Mem → Prop} (hG : Gd G) (O : Ok X G cX5_stateOn 6 RX5 3) (hR : RetI X G cX5_stateOn K) (ht : isMat t) {s0 : Int32} {M : Mem} (h : f_X5_stateOn_b71 t K s0 M) : J X G M 71 [] [.int s0] := by
  unfold f_X5_stateOn_b71 at h
  exact hR _ _ _ _ dX5_stateOn_71 h
set_option maxHeartbeats 4000000 in
set_option maxRecDepth 20000 in
theorem j_X5_stateOn_b133 {t : Nat} {X : CX} {G : GX} {K : Int32 → Mem → Prop} (hG : Gd G) (O : Ok X G cX5_stateOn 6 RX5 3) (hR : RetI X G cX5_stateOn K) (ht : isMat t) {s0 : Int32} {M : Mem} (h : f_X5_stateOn_b133 t K s0 M) : J X G M 133 [] [.int s0] := by
  unfold f_X5_stateOn_b133 at h
  exact hR _ _ _ _ dX5_stateOn_133 h
set_option maxHeartbeats 4000000 in
set_option maxRecDepth 20000 in
theorem c_X5_stateOn {l : Launch} {G : GX} (hG : Gd G) {t : Nat} {a1 : Int32} {a2 : Int32} {M : Mem} {K : Int32 → Mem → Prop} (h : f_X5_stateOn t a1 a2 M K) : CI l G yX5_stateOn cX5_stateOn 6 (some .int) 3 [.ref (ad G t), .int a1, .int a2] M K := by
  unfold f_X5_stateOn at h
  obtain ⟨ht, h⟩ := h
  refine CI.mk hG (by decide) [(0, .ref (ad G t)), (1, .int a1), (2, .int a2)] rfl (Nat.le_of_ble_eq_true rfl) (fun X O hlX hR => ?_)
  subst hlX
  refine J.aload_n (q := 1) O dX5_stateOn_0 rfl 0 rfl ?_
  refine J.iload_n (q := 2) O dX5_stateOn_1 rfl 1 rfl ?_
  refine J.callVI (q := 5) [.int a1] [] [.int a1, .ref (ad G t)] rfl O dX5_stateOn_2 rfl (c_X5_withdrawnBy hG h) wd_3_210 mw_X5_withdrawnBy (isMat_O ht) rfl (by decide) (Nat.le_of_ble_eq_true rfl) (fun v1 M1 h => ?_)
  refine J.if_eq (q := 8) (tgt := 10) O dX5_stateOn_5 rfl (by decide) (fun z2 => ?_) (fun z2 => ?_)
  · replace h := h.1 z2
    refine J.aload_n (q := 11) O dX5_stateOn_10 rfl 0 rfl ?_
    refine J.getI (q := 14) (c' := t) (ci := 5) (k := 7) (M1 t 7) rfl O dX5_stateOn_11 rfl wd_2_173 (by decide) (isMat_F ht rfl) ?_
    refine J.if_ne (q := 17) (tgt := 19) O dX5_stateOn_14 rfl (by decide) (fun z3 => ?_) (fun z3 => ?_)
    · replace h := h.1 z3
      refine J.aload_n (q := 20) O dX5_stateOn_19 rfl 0 rfl ?_
      refine J.iload_n (q := 21) O dX5_stateOn_20 rfl 1 rfl ?_
      refine J.iload_n (q := 22) O dX5_stateOn_21 rfl 2 rfl ?_
      refine J.callVI (q := 25) [.int a1, .int a2] [] [.int a2, .int a1, .ref (ad G t)] rfl O dX5_stateOn_22 rfl (c_X5_lastRuling hG h) wd_3_211 mw_X5_lastRuling (isMat_O ht) rfl (by decide) (Nat.le_of_ble_eq_true rfl) (fun v4 M4 h => ?_)
      refine J.istore_n (q := 26) O dX5_stateOn_25 rfl [(3, .int v4), (0, .ref (ad G t)), (1, .int a1), (2, .int a2)] (by decide) rfl ?_
      refine J.iload_n (q := 27) O dX5_stateOn_26 rfl 0 rfl ?_
      refine J.bipush (q := 29) (v := (-9 : Int32)) O dX5_stateOn_27 rfl rfl ?_
      refine J.icmp_eq (q := 32) (tgt := 45) O dX5_stateOn_29 rfl (by decide) (fun z5 => ?_) (fun z5 => ?_)
      · replace h := h.1 z5
        refine J.aload_n (q := 46) O dX5_stateOn_45 rfl 1 rfl ?_
        refine J.iload_n (q := 47) O dX5_stateOn_46 rfl 2 rfl ?_
        refine J.iload_n (q := 48) O dX5_stateOn_47 rfl 3 rfl ?_
        refine J.callVI (q := 51) [.int a1, .int a2] [] [.int a2, .int a1, .ref (ad G t)] rfl O dX5_stateOn_48 rfl (c_X5_lastAnswer hG h) wd_3_215 mw_X5_lastAnswer (isMat_O ht) rfl (by decide) (Nat.le_of_ble_eq_true rfl) (fun v6 M6 h => ?_)
        refine J.istore (q := 53) O dX5_stateOn_51 rfl [(4, .int v6), (3, .int v4), (0, .ref (ad G t)), (1, .int a1), (2, .int a2)] (by decide) rfl ?_
        refine J.iload (q := 55) O dX5_stateOn_53 rfl 0 rfl ?_
        refine J.bipush (q := 57) (v := (-9 : Int32)) O dX5_stateOn_55 rfl rfl ?_
        refine J.icmp_eq (q := 60) (tgt := 72) O dX5_stateOn_57 rfl (by decide) (fun z7 => ?_) (fun z7 => ?_)
        · replace h := h.1 z7
          refine J.aload_n (q := 73) O dX5_stateOn_72 rfl 2 rfl ?_
          refine J.iload_n (q := 74) O dX5_stateOn_73 rfl 3 rfl ?_
          refine J.iload_n (q := 75) O dX5_stateOn_74 rfl 4 rfl ?_
          refine J.callVI (q := 78) [.int a1, .int a2] [] [.int a2, .int a1, .ref (ad G t)] rfl O dX5_stateOn_75 rfl (c_X5_wholeSince hG h) wd_3_223 mw_X5_wholeSince (isMat_O ht) rfl (by decide) (Nat.le_of_ble_eq_true rfl) (fun v8 M8 h => ?_)
          refine J.istore (q := 80) O dX5_stateOn_78 rfl [(5, .int v8), (4, .int v6), (3, .int v4), (0, .ref (ad G t)), (1, .int a1), (2, .int a2)] (by decide) rfl ?_
          refine J.iload (q := 82) O dX5_stateOn_80 rfl 0 rfl ?_
          refine J.bipush (q := 84) (v := (-9 : Int32)) O dX5_stateOn_82 rfl rfl ?_
          refine J.icmp_ne (q := 87) (tgt := 89) O dX5_stateOn_84 rfl (by decide) (fun z9 => ?_) (fun z9 => ?_)
          · replace h := h.1 z9
            refine J.aload_n (q := 90) O dX5_stateOn_89 rfl 3 rfl ?_
            refine J.getI (q := 93) (c' := t) (ci := 5) (k := 7) (M8 t 7) rfl O dX5_stateOn_90 rfl wd_2_173 (by decide) (isMat_F ht rfl) ?_
            refine J.iconst (q := 94) (v := (1 : Int32)) O dX5_stateOn_93 rfl rfl ?_
            refine J.icmp_ne (q := 97) (tgt := 100) O dX5_stateOn_94 rfl (by decide) (fun z10 => ?_) (fun z10 => ?_)
            · replace h := h.1 z10
              refine J.aload_n (q := 101) O dX5_stateOn_100 rfl 3 rfl ?_
              refine J.getR (q := 104) (c' := t) (ci := 5) (k := 0) (r := 1) O dX5_stateOn_101 rfl wd_2_162 (by decide) (isMat_F ht rfl) ?_
              refine J.iload (q := 106) O dX5_stateOn_104 rfl 0 rfl ?_
              refine J.iload_n (q := 107) O dX5_stateOn_106 rfl 4 rfl ?_
              refine J.callVI (q := 110) [.int v8, .int a1] [] [.int a1, .int v8, .ref (ad G 1)] rfl O dX5_stateOn_107 rfl (c_X3_workdaysBehind hG h) wd_3_231 mw_X3_workdaysBehind io_1 rfl (by decide) (Nat.le_of_ble_eq_true rfl) (fun v11 M11 h => ?_)
              refine J.aload_n (q := 111) O dX5_stateOn_110 rfl 3 rfl ?_
              refine J.getI (q := 114) (c' := t) (ci := 5) (k := 9) (M11 t 9) rfl O dX5_stateOn_111 rfl wd_2_176 (by decide) (isMat_F ht rfl) ?_
              refine J.icmp_gt (q := 117) (tgt := 119) O dX5_stateOn_114 rfl (by decide) (fun z12 => ?_) (fun z12 => ?_)
              · replace h := h.1 z12
                refine J.aload_n (q := 120) O dX5_stateOn_119 rfl 3 rfl ?_
                refine J.getI (q := 123) (c' := t) (ci := 5) (k := 10) (M11 t 10) rfl O dX5_stateOn_120 rfl wd_2_177 (by decide) (isMat_F ht rfl) ?_
                refine J.if_eq (q := 126) (tgt := 131) O dX5_stateOn_123 rfl (by decide) (fun z13 => ?_) (fun z13 => ?_)
                · replace h := h.1 z13
                  refine J.bipush (q := 133) (v := (7 : Int32)) O dX5_stateOn_131 rfl rfl ?_
                  exact J.sub [] rfl (j_X5_stateOn_b133 hG O hR ht h)
                · replace h := h.2 z13
                  refine J.bipush (q := 128) (v := (6 : Int32)) O dX5_stateOn_126 rfl rfl ?_
                  refine J.goto (q := 133) O dX5_stateOn_128 (by decide) ?_
                  exact J.sub [] rfl (j_X5_stateOn_b133 hG O hR ht h)
              · replace h := h.2 z12
                refine J.iconst (q := 118) (v := (3 : Int32)) O dX5_stateOn_117 rfl rfl ?_
                exact hR _ _ _ _ dX5_stateOn_118 h
            · replace h := h.2 z10
              refine J.bipush (q := 99) (v := (6 : Int32)) O dX5_stateOn_97 rfl rfl ?_
              exact hR _ _ _ _ dX5_stateOn_99 h
          · replace h := h.2 z9
            refine J.iconst (q := 88) (v := (2 : Int32)) O dX5_stateOn_87 rfl rfl ?_
            exact hR _ _ _ _ dX5_stateOn_88 h
        · replace h := h.2 z7
          refine J.iload (q := 62) O dX5_stateOn_60 rfl 0 rfl ?_
          refine J.iconst (q := 63) (v := (1 : Int32)) O dX5_stateOn_62 rfl rfl ?_
          refine J.icmp_ne (q := 66) (tgt := 70) O dX5_stateOn_63 rfl (by decide) (fun z14 => ?_) (fun z14 => ?_)
          · replace h := h.1 z14
            refine J.iconst (q := 71) (v := (5 : Int32)) O dX5_stateOn_70 rfl rfl ?_
            exact J.sub [] rfl (j_X5_stateOn_b71 hG O hR ht h)
          · replace h := h.2 z14
            refine J.iconst (q := 67) (v := (4 : Int32)) O dX5_stateOn_66 rfl rfl ?_
            refine J.goto (q := 71) O dX5_stateOn_67 (by decide) ?_
            exact J.sub [] rfl (j_X5_stateOn_b71 hG O hR ht h)
      · replace h := h.2 z5
        refine J.iload_n (q := 33) O dX5_stateOn_32 rfl 0 rfl ?_
        refine J.iconst (q := 34) (v := (1 : Int32)) O dX5_stateOn_33 rfl rfl ?_
        refine J.icmp_ne (q := 37) (tgt := 42) O dX5_stateOn_34 rfl (by decide) (fun z15 => ?_) (fun z15 => ?_)
        · replace h := h.1 z15
          refine J.bipush (q := 44) (v := (9 : Int32)) O dX5_stateOn_42 rfl rfl ?_
          exact J.sub [] rfl (j_X5_stateOn_b44 hG O hR ht h)
        · replace h := h.2 z15
          refine J.bipush (q := 39) (v := (8 : Int32)) O dX5_stateOn_37 rfl rfl ?_
          refine J.goto (q := 44) O dX5_stateOn_39 (by decide) ?_
          exact J.sub [] rfl (j_X5_stateOn_b44 hG O hR ht h)
    · replace h := h.2 z3
      refine J.iconst (q := 18) (v := (0 : Int32)) O dX5_stateOn_17 rfl rfl ?_
      exact hR _ _ _ _ dX5_stateOn_18 h
  · replace h := h.2 z2
    refine J.iconst (q := 9) (v := (1 : Int32)) O dX5_stateOn_8 rfl rfl ?_
    exact hR _ _ _ _ dX5_stateOn_9 h
set_option maxHeartbeats 4000000 in
set_option maxRecDepth 20000 in
theorem j_X11_state_b22 {X : CX} {G : GX} {K : Int32 → Mem → Prop} (hG : Gd G) (O : Ok X G cX11_state 4 RX11 4) (hR : RetI X G cX11_state K) {M : Mem} (h : f_X11_state_b22 K  M) : J X G M 22 [(0, .ref (ad G 0))] [] := by
  unfold f_X11_state_b22 at h
  refine J.aload_n (q := 23) O dX11_state_22 rfl 0 rfl ?_
  refine J.bipush (q := 25) (v := (-4 : Int32)) O dX11_state_23 rfl rfl ?_
  refine J.callVI (q := 28) [.int (-4 : Int32)] [] [.int (-4 : Int32), .ref (ad G 0)] rfl O dX11_state_25 rfl (c_X11_refuse hG h) wd_3_27 mw_X11_refuse io_0 rfl (by decide) (Nat.le_of_ble_eq_true rfl) (fun v3 M3 h => ?_)
  exact hR _ _ _ _ dX11_state_28 h
set_option maxHeartbeats 4000000 in
set_option maxRecDepth 20000 in
theorem j_X11_state_b58 {X : CX} {G : GX} {K : Int32 → Mem → Prop} (hG : Gd G) (O : Ok X G cX11_state 4 RX11 4) (hR : RetI X G cX11_state K) {M : Mem} (h : f_X11_state_b58 K  M) : J X G M 58 [(0, .ref (ad G 0))] [] := by
  unfold f_X11_state_b58 at h
  refine J.aload_n (q := 59) O dX11_state_58 rfl 0 rfl ?_
  refine J.bipush (q := 61) (v := (-3 : Int32)) O dX11_state_59 rfl rfl ?_
  refine J.callVI (q := 64) [.int (-3 : Int32)] [] [.int (-3 : Int32), .ref (ad G 0)] rfl O dX11_state_61 rfl (c_X11_refuse hG h) wd_3_27 mw_X11_refuse io_0 rfl (by decide) (Nat.le_of_ble_eq_true rfl) (fun v4 M4 h => ?_)
  exact hR _ _ _ _ dX11_state_64 h
set_option maxHeartbeats 4000000 in
set_option maxRecDepth 20000 in
theorem c_X11_state {l : Launch} {G : GX} (hG : Gd G) {a1 : Int32} {a2 : Int32} {a3 : Int32} {M : Mem} {K : Int32 → Mem → Prop} (h : f_X11_state a1 a2 a3 M K) : CI l G yX11_state cX11_state 4 (some .int) 4 [.ref (ad G 0), .int a1, .int a2, .int a3] M K := by
  unfold f_X11_state at h
  refine CI.mk hG (by decide) [(0, .ref (ad G 0)), (1, .int a1), (2, .int a2), (3, .int a3)] rfl (Nat.le_of_ble_eq_true rfl) (fun X O hlX hR => ?_)
  subst hlX
  refine J.aload_n (q := 1) O dX11_state_0 rfl 0 rfl ?_
  refine J.iload_n (q := 2) O dX11_state_1 rfl 1 rfl ?_
  refine J.callVI (q := 5) [.int a1] [] [.int a1, .ref (ad G 0)] rfl O dX11_state_2 rfl (c_X11_isMatter hG h) wd_3_178 mw_X11_isMatter io_0 rfl (by decide) (Nat.le_of_ble_eq_true rfl) (fun v5 M5 h => ?_)
  refine J.if_ne (q := 8) (tgt := 14) O dX11_state_5 rfl (by decide) (fun z6 => ?_) (fun z6 => ?_)
  · replace h := h.1 z6
    refine J.iload_n (q := 15) O dX11_state_14 rfl 2 rfl ?_
    refine J.if_lt (q := 18) (tgt := 22) O dX11_state_15 rfl (by decide) (fun z7 => ?_) (fun z7 => ?_)
    · replace h := h.1 z7
      exact J.sub [0] rfl (j_X11_state_b22 hG O hR h)
    · replace h := h.2 z7
      refine J.iload_n (q := 19) O dX11_state_18 rfl 3 rfl ?_
      refine J.if_ge (q := 22) (tgt := 29) O dX11_state_19 rfl (by decide) (fun z8 => ?_) (fun z8 => ?_)
      · replace h := h.1 z8
        refine J.iload_n (q := 30) O dX11_state_29 rfl 2 rfl ?_
        refine J.aload_n (q := 31) O dX11_state_30 rfl 0 rfl ?_
        refine J.getR (q := 34) (c' := 0) (ci := 11) (k := 4) (r := 61) O dX11_state_31 rfl wd_2_218 (by decide) if_0_4 ?_
        refine J.iload_n (q := 35) O dX11_state_34 rfl 1 rfl ?_
        obtain ⟨hv9, h⟩ := h
        refine J.aald (q := 36) (t := 0) (c' := 61) (b := 127) (d := 4) O dX11_state_35 rfl ar_61 hv9 ?_
        refine J.getI (q := 39) (c' := (127 + 4 * a1.toNatClampNeg)) (ci := 5) (k := 6) (M5 (127 + 4 * a1.toNatClampNeg) 6) rfl O dX11_state_36 rfl wd_2_172 (by decide) (isMat_F (isMat_of hv9) rfl) ?_
        refine J.icmp_lt (q := 42) (tgt := 58) O dX11_state_39 rfl (by decide) (fun z10 => ?_) (fun z10 => ?_)
        · replace h := h.1 z10
          exact J.sub [0] rfl (j_X11_state_b58 hG O hR h)
        · replace h := h.2 z10
          refine J.iload_n (q := 43) O dX11_state_42 rfl 2 rfl ?_
          refine J.iload_n (q := 44) O dX11_state_43 rfl 3 rfl ?_
          refine J.icmp_gt (q := 47) (tgt := 58) O dX11_state_44 rfl (by decide) (fun z11 => ?_) (fun z11 => ?_)
          · replace h := h.1 z11
            exact J.sub [0] rfl (j_X11_state_b58 hG O hR h)
          · replace h := h.2 z11
            refine J.iload_n (q := 48) O dX11_state_47 rfl 3 rfl ?_
            refine J.aload_n (q := 49) O dX11_state_48 rfl 0 rfl ?_
            refine J.getR (q := 52) (c' := 0) (ci := 11) (k := 0) (r := 1) O dX11_state_49 rfl wd_2_214 (by decide) if_0_0 ?_
            refine J.getI (q := 55) (c' := 1) (ci := 3) (k := 0) (M5 1 0) rfl O dX11_state_52 rfl wd_1_30 (by decide) if_1_0 ?_
            refine J.icmp_le (q := 58) (tgt := 65) O dX11_state_55 rfl (by decide) (fun z12 => ?_) (fun z12 => ?_)
            · replace h := h.1 z12
              refine J.aload_n (q := 66) O dX11_state_65 rfl 0 rfl ?_
              refine J.getR (q := 69) (c' := 0) (ci := 11) (k := 4) (r := 61) O dX11_state_66 rfl wd_2_218 (by decide) if_0_4 ?_
              refine J.iload_n (q := 70) O dX11_state_69 rfl 1 rfl ?_
              obtain ⟨hv13, h⟩ := h
              refine J.aald (q := 71) (t := 0) (c' := 61) (b := 127) (d := 4) O dX11_state_70 rfl ar_61 hv13 ?_
              refine J.iload_n (q := 72) O dX11_state_71 rfl 2 rfl ?_
              refine J.iload_n (q := 73) O dX11_state_72 rfl 3 rfl ?_
              refine J.callVI (q := 76) [.int a2, .int a3] [] [.int a3, .int a2, .ref (ad G (127 + 4 * a1.toNatClampNeg))] rfl O dX11_state_73 rfl (c_X5_stateOn hG h) wd_3_206 mw_X5_stateOn (isMat_O (isMat_of hv13)) rfl (by decide) (Nat.le_of_ble_eq_true rfl) (fun v14 M14 h => ?_)
              exact hR _ _ _ _ dX11_state_76 h
            · replace h := h.2 z12
              exact J.sub [0] rfl (j_X11_state_b58 hG O hR h)
      · replace h := h.2 z8
        exact J.sub [0] rfl (j_X11_state_b22 hG O hR h)
  · replace h := h.2 z6
    refine J.aload_n (q := 9) O dX11_state_8 rfl 0 rfl ?_
    refine J.iconst (q := 10) (v := (-1 : Int32)) O dX11_state_9 rfl rfl ?_
    refine J.callVI (q := 13) [.int (-1 : Int32)] [] [.int (-1 : Int32), .ref (ad G 0)] rfl O dX11_state_10 rfl (c_X11_refuse hG h) wd_3_27 mw_X11_refuse io_0 rfl (by decide) (Nat.le_of_ble_eq_true rfl) (fun v15 M15 h => ?_)
    exact hR _ _ _ _ dX11_state_13 h
set_option maxHeartbeats 4000000 in
set_option maxRecDepth 20000 in
theorem j_X5_lets_b45 {t : Nat} {X : CX} {G : GX} {K : Int32 → Mem → Prop} (hG : Gd G) (O : Ok X G cX5_lets 2 RX5 1) (hR : RetZ X G cX5_lets K) (ht : isMat t) {s0 : Int32} {M : Mem} (h : f_X5_lets_b45 t K s0 M) : J X G M 45 [] [.int s0] := by
  unfold f_X5_lets_b45 at h
  exact hR _ _ _ _ dX5_lets_45 h.1 h.2
set_option maxHeartbeats 4000000 in
set_option maxRecDepth 20000 in
theorem j_X5_lets_b57 {t : Nat} {X : CX} {G : GX} {K : Int32 → Mem → Prop} (hG : Gd G) (O : Ok X G cX5_lets 2 RX5 1) (hR : RetZ X G cX5_lets K) (ht : isMat t) {s0 : Int32} {M : Mem} (h : f_X5_lets_b57 t K s0 M) : J X G M 57 [] [.int s0] := by
  unfold f_X5_lets_b57 at h
  exact hR _ _ _ _ dX5_lets_57 h.1 h.2
set_option maxHeartbeats 4000000 in
set_option maxRecDepth 20000 in
theorem j_X5_lets_b79 {t : Nat} {X : CX} {G : GX} {K : Int32 → Mem → Prop} (hG : Gd G) (O : Ok X G cX5_lets 2 RX5 1) (hR : RetZ X G cX5_lets K) (ht : isMat t) {s0 : Int32} {M : Mem} (h : f_X5_lets_b79 t K s0 M) : J X G M 79 [] [.int s0] := by
  unfold f_X5_lets_b79 at h
  exact hR _ _ _ _ dX5_lets_79 h.1 h.2
set_option maxHeartbeats 4000000 in
set_option maxRecDepth 20000 in
theorem j_X5_lets_b74 {t : Nat} {X : CX} {G : GX} {K : Int32 → Mem → Prop} (hG : Gd G) (O : Ok X G cX5_lets 2 RX5 1) (hR : RetZ X G cX5_lets K) (ht : isMat t) {M : Mem} (h : f_X5_lets_b74 t K  M) : J X G M 74 [] [] := by
  unfold f_X5_lets_b74 at h
  refine J.iconst (q := 75) (v := (1 : Int32)) O dX5_lets_74 rfl rfl ?_
  refine J.goto (q := 79) O dX5_lets_75 (by decide) ?_
  exact J.sub [] rfl (j_X5_lets_b79 hG O hR ht h)
set_option maxHeartbeats 4000000 in
set_option maxRecDepth 20000 in
theorem j_X5_lets_b102 {t : Nat} {X : CX} {G : GX} {K : Int32 → Mem → Prop} (hG : Gd G) (O : Ok X G cX5_lets 2 RX5 1) (hR : RetZ X G cX5_lets K) (ht : isMat t) {s0 : Int32} {M : Mem} (h : f_X5_lets_b102 t K s0 M) : J X G M 102 [] [.int s0] := by
  unfold f_X5_lets_b102 at h
  exact hR _ _ _ _ dX5_lets_102 h.1 h.2
set_option maxHeartbeats 4000000 in
set_option maxRecDepth 20000 in
theorem j_X5_lets_b97 {t : Nat} {X : CX} {G : GX} {K : Int32 → Mem → Prop} (hG : Gd G) (O : Ok X G cX5_lets 2 RX5 1) (hR : RetZ X G cX5_lets K) (ht : isMat t) {M : Mem} (h : f_X5_lets_b97 t K  M) : J X G M 97 [] [] := by
  unfold f_X5_lets_b97 at h
  refine J.iconst (q := 98) (v := (1 : Int32)) O dX5_lets_97 rfl rfl ?_
  refine J.goto (q := 102) O dX5_lets_98 (by decide) ?_
  exact J.sub [] rfl (j_X5_lets_b102 hG O hR ht h)
set_option maxHeartbeats 4000000 in
set_option maxRecDepth 20000 in
theorem j_X5_lets_b135 {t : Nat} {X : CX} {G : GX} {K : Int32 → Mem → Prop} (hG : Gd G) (O : Ok X G cX5_lets 2 RX5 1) (hR : RetZ X G cX5_lets K) (ht : isMat t) {s0 : Int32} {M : Mem} (h : f_X5_lets_b135 t K s0 M) : J X G M 135 [] [.int s0] := by
  unfold f_X5_lets_b135 at h
  exact hR _ _ _ _ dX5_lets_135 h.1 h.2
set_option maxHeartbeats 4000000 in
set_option maxRecDepth 20000 in
theorem j_X5_lets_b130 {t : Nat} {X : CX} {G : GX} {K : Int32 → Mem → Prop} (hG : Gd G) (O : Ok X G cX5_lets 2 RX5 1) (hR : RetZ X G cX5_lets K) (ht : isMat t) {M : Mem} (h : f_X5_lets_b130 t K  M) : J X G M 130 [] [] := by
  unfold f_X5_lets_b130 at h
  refine J.iconst (q := 131) (v := (1 : Int32)) O dX5_lets_130 rfl rfl ?_
  refine J.goto (q := 135) O dX5_lets_131 (by decide) ?_
  exact J.sub [] rfl (j_X5_lets_b135 hG O hR ht h)
set_option maxHeartbeats 4000000 in
set_option maxRecDepth 20000 in
theorem c_X5_lets {l : Launch} {G : GX} (hG : Gd G) {t : Nat} {a1 : Int32} {M : Mem} {K : Int32 → Mem → Prop} (h : f_X5_lets t a1 M K) : CI l G yX5_lets cX5_lets 2 (some .boolean) 1 [.ref (ad G t), .int a1] M K := by
  unfold f_X5_lets at h
  obtain ⟨ht, h⟩ := h
  refine CZ.mk hG (by decide) [(0, .ref (ad G t)), (1, .int a1)] rfl (Nat.le_of_ble_eq_true rfl) (fun X O hlX hR => ?_)
  subst hlX
  refine J.aload_n (q := 1) O dX5_lets_0 rfl 0 rfl ?_
  refine J.getI (q := 4) (c' := t) (ci := 5) (k := 7) (M t 7) rfl O dX5_lets_1 rfl wd_2_173 (by decide) (isMat_F ht rfl) ?_
  rcases tsw_cov (M t 7) (0) 3 (by decide) with z11 | ⟨j, hj, z11⟩
  · replace h := h.1 (by omega)
    refine J.tswOut (q := 103) O dX5_lets_4 (by omega) (by decide) ?_
    refine J.iload_n (q := 104) O dX5_lets_103 rfl 1 rfl ?_
    refine J.iconst (q := 105) (v := (2 : Int32)) O dX5_lets_104 rfl rfl ?_
    refine J.icmp_eq (q := 108) (tgt := 130) O dX5_lets_105 rfl (by decide) (fun z6 => ?_) (fun z6 => ?_)
    · replace h := h.1 z6
      exact J.sub [] rfl (j_X5_lets_b130 hG O hR ht h)
    · replace h := h.2 z6
      refine J.iload_n (q := 109) O dX5_lets_108 rfl 1 rfl ?_
      refine J.iconst (q := 110) (v := (3 : Int32)) O dX5_lets_109 rfl rfl ?_
      refine J.icmp_eq (q := 113) (tgt := 130) O dX5_lets_110 rfl (by decide) (fun z7 => ?_) (fun z7 => ?_)
      · replace h := h.1 z7
        exact J.sub [] rfl (j_X5_lets_b130 hG O hR ht h)
      · replace h := h.2 z7
        refine J.iload_n (q := 114) O dX5_lets_113 rfl 1 rfl ?_
        refine J.iconst (q := 115) (v := (4 : Int32)) O dX5_lets_114 rfl rfl ?_
        refine J.icmp_eq (q := 118) (tgt := 130) O dX5_lets_115 rfl (by decide) (fun z8 => ?_) (fun z8 => ?_)
        · replace h := h.1 z8
          exact J.sub [] rfl (j_X5_lets_b130 hG O hR ht h)
        · replace h := h.2 z8
          refine J.iload_n (q := 119) O dX5_lets_118 rfl 1 rfl ?_
          refine J.bipush (q := 121) (v := (6 : Int32)) O dX5_lets_119 rfl rfl ?_
          refine J.icmp_eq (q := 124) (tgt := 130) O dX5_lets_121 rfl (by decide) (fun z9 => ?_) (fun z9 => ?_)
          · replace h := h.1 z9
            exact J.sub [] rfl (j_X5_lets_b130 hG O hR ht h)
          · replace h := h.2 z9
            refine J.iload_n (q := 125) O dX5_lets_124 rfl 1 rfl ?_
            refine J.bipush (q := 127) (v := (8 : Int32)) O dX5_lets_125 rfl rfl ?_
            refine J.icmp_ne (q := 130) (tgt := 134) O dX5_lets_127 rfl (by decide) (fun z10 => ?_) (fun z10 => ?_)
            · replace h := h.1 z10
              refine J.iconst (q := 135) (v := (0 : Int32)) O dX5_lets_134 rfl rfl ?_
              exact J.sub [] rfl (j_X5_lets_b135 hG O hR ht h)
            · replace h := h.2 z10
              exact J.sub [] rfl (j_X5_lets_b130 hG O hR ht h)
  · match j, hj, z11 with
    | 0, _, z11 =>
      have z11 : (M t 7) = (0 : Int32) := z11.trans (by decide)
      replace h := h.2.1 z11
      refine J.tswIn (q := 36) O dX5_lets_4 (0 : Int32) z11 (by decide) (by decide) rfl (by decide) ?_
      refine J.iload_n (q := 37) O dX5_lets_36 rfl 1 rfl ?_
      refine J.if_ne (q := 40) (tgt := 44) O dX5_lets_37 rfl (by decide) (fun z12 => ?_) (fun z12 => ?_)
      · replace h := h.1 z12
        refine J.iconst (q := 45) (v := (0 : Int32)) O dX5_lets_44 rfl rfl ?_
        exact J.sub [] rfl (j_X5_lets_b45 hG O hR ht h)
      · replace h := h.2 z12
        refine J.iconst (q := 41) (v := (1 : Int32)) O dX5_lets_40 rfl rfl ?_
        refine J.goto (q := 45) O dX5_lets_41 (by decide) ?_
        exact J.sub [] rfl (j_X5_lets_b45 hG O hR ht h)
    | 1, _, z11 =>
      have z11 : (M t 7) = (1 : Int32) := z11.trans (by decide)
      replace h := h.2.2.1 z11
      refine J.tswIn (q := 46) O dX5_lets_4 (1 : Int32) z11 (by decide) (by decide) rfl (by decide) ?_
      refine J.iload_n (q := 47) O dX5_lets_46 rfl 1 rfl ?_
      refine J.bipush (q := 49) (v := (6 : Int32)) O dX5_lets_47 rfl rfl ?_
      refine J.icmp_ne (q := 52) (tgt := 56) O dX5_lets_49 rfl (by decide) (fun z13 => ?_) (fun z13 => ?_)
      · replace h := h.1 z13
        refine J.iconst (q := 57) (v := (0 : Int32)) O dX5_lets_56 rfl rfl ?_
        exact J.sub [] rfl (j_X5_lets_b57 hG O hR ht h)
      · replace h := h.2 z13
        refine J.iconst (q := 53) (v := (1 : Int32)) O dX5_lets_52 rfl rfl ?_
        refine J.goto (q := 57) O dX5_lets_53 (by decide) ?_
        exact J.sub [] rfl (j_X5_lets_b57 hG O hR ht h)
    | 2, _, z11 =>
      have z11 : (M t 7) = (2 : Int32) := z11.trans (by decide)
      replace h := h.2.2.2.1 z11
      refine J.tswIn (q := 58) O dX5_lets_4 (2 : Int32) z11 (by decide) (by decide) rfl (by decide) ?_
      refine J.iload_n (q := 59) O dX5_lets_58 rfl 1 rfl ?_
      refine J.iconst (q := 60) (v := (4 : Int32)) O dX5_lets_59 rfl rfl ?_
      refine J.icmp_eq (q := 63) (tgt := 74) O dX5_lets_60 rfl (by decide) (fun z14 => ?_) (fun z14 => ?_)
      · replace h := h.1 z14
        exact J.sub [] rfl (j_X5_lets_b74 hG O hR ht h)
      · replace h := h.2 z14
        refine J.iload_n (q := 64) O dX5_lets_63 rfl 1 rfl ?_
        refine J.iconst (q := 65) (v := (5 : Int32)) O dX5_lets_64 rfl rfl ?_
        refine J.icmp_eq (q := 68) (tgt := 74) O dX5_lets_65 rfl (by decide) (fun z15 => ?_) (fun z15 => ?_)
        · replace h := h.1 z15
          exact J.sub [] rfl (j_X5_lets_b74 hG O hR ht h)
        · replace h := h.2 z15
          refine J.iload_n (q := 69) O dX5_lets_68 rfl 1 rfl ?_
          refine J.bipush (q := 71) (v := (6 : Int32)) O dX5_lets_69 rfl rfl ?_
          refine J.icmp_ne (q := 74) (tgt := 78) O dX5_lets_71 rfl (by decide) (fun z16 => ?_) (fun z16 => ?_)
          · replace h := h.1 z16
            refine J.iconst (q := 79) (v := (0 : Int32)) O dX5_lets_78 rfl rfl ?_
            exact J.sub [] rfl (j_X5_lets_b79 hG O hR ht h)
          · replace h := h.2 z16
            exact J.sub [] rfl (j_X5_lets_b74 hG O hR ht h)
    | 3, _, z11 =>
      have z11 : (M t 7) = (3 : Int32) := z11.trans (by decide)
      replace h := h.2.2.2.2 z11
      refine J.tswIn (q := 80) O dX5_lets_4 (3 : Int32) z11 (by decide) (by decide) rfl (by decide) ?_
      refine J.iload_n (q := 81) O dX5_lets_80 rfl 1 rfl ?_
      refine J.iconst (q := 82) (v := (4 : Int32)) O dX5_lets_81 rfl rfl ?_
      refine J.icmp_eq (q := 85) (tgt := 97) O dX5_lets_82 rfl (by decide) (fun z17 => ?_) (fun z17 => ?_)
      · replace h := h.1 z17
        exact J.sub [] rfl (j_X5_lets_b97 hG O hR ht h)
      · replace h := h.2 z17
        refine J.iload_n (q := 86) O dX5_lets_85 rfl 1 rfl ?_
        refine J.bipush (q := 88) (v := (6 : Int32)) O dX5_lets_86 rfl rfl ?_
        refine J.icmp_eq (q := 91) (tgt := 97) O dX5_lets_88 rfl (by decide) (fun z18 => ?_) (fun z18 => ?_)
        · replace h := h.1 z18
          exact J.sub [] rfl (j_X5_lets_b97 hG O hR ht h)
        · replace h := h.2 z18
          refine J.iload_n (q := 92) O dX5_lets_91 rfl 1 rfl ?_
          refine J.bipush (q := 94) (v := (8 : Int32)) O dX5_lets_92 rfl rfl ?_
          refine J.icmp_ne (q := 97) (tgt := 101) O dX5_lets_94 rfl (by decide) (fun z19 => ?_) (fun z19 => ?_)
          · replace h := h.1 z19
            refine J.iconst (q := 102) (v := (0 : Int32)) O dX5_lets_101 rfl rfl ?_
            exact J.sub [] rfl (j_X5_lets_b102 hG O hR ht h)
          · replace h := h.2 z19
            exact J.sub [] rfl (j_X5_lets_b97 hG O hR ht h)
    | j + 4, hj, _ => exact absurd hj (by omega)
set_option maxHeartbeats 4000000 in
set_option maxRecDepth 20000 in
theorem c_X5_letsOn {l : Launch} {G : GX} (hG : Gd G) {t : Nat} {a1 : Int32} {M : Mem} {K : Int32 → Mem → Prop} (h : f_X5_letsOn t a1 M K) : CI l G yX5_letsOn cX5_letsOn 2 (some .boolean) 4 [.ref (ad G t), .int a1] M K := by
  unfold f_X5_letsOn at h
  obtain ⟨ht, h⟩ := h
  refine CZ.mk hG (by decide) [(0, .ref (ad G t)), (1, .int a1)] rfl (Nat.le_of_ble_eq_true rfl) (fun X O hlX hR => ?_)
  subst hlX
  refine J.aload_n (q := 1) O dX5_letsOn_0 rfl 0 rfl ?_
  refine J.aload_n (q := 2) O dX5_letsOn_1 rfl 0 rfl ?_
  refine J.iload_n (q := 3) O dX5_letsOn_2 rfl 1 rfl ?_
  refine J.aload_n (q := 4) O dX5_letsOn_3 rfl 0 rfl ?_
  refine J.getR (q := 7) (c' := t) (ci := 5) (k := 0) (r := 1) O dX5_letsOn_4 rfl wd_2_162 (by decide) (isMat_F ht rfl) ?_
  refine J.getI (q := 10) (c' := 1) (ci := 3) (k := 0) (M 1 0) rfl O dX5_letsOn_7 rfl wd_1_31 (by decide) if_1_0 ?_
  refine J.callVI (q := 13) [.int a1, .int (M 1 0)] [.ref (ad G t)] [.int (M 1 0), .int a1, .ref (ad G t), .ref (ad G t)] rfl O dX5_letsOn_10 rfl (c_X5_stateOn hG h) wd_4_4 mw_X5_stateOn (isMat_O ht) rfl (by decide) (Nat.le_of_ble_eq_true rfl) (fun v1 M1 h => ?_)
  refine J.callVI (q := 16) [.int v1] [] [.int v1, .ref (ad G t)] rfl O dX5_letsOn_13 rfl (c_X5_lets hG h) wd_4_5 mw_X5_lets (isMat_O ht) rfl (by decide) (Nat.le_of_ble_eq_true rfl) (fun v2 M2 h => ?_)
  exact hR _ _ _ _ dX5_letsOn_16 h.1 h.2
set_option maxHeartbeats 4000000 in
set_option maxRecDepth 20000 in
theorem j_X11_matterOf_b108 {X : CX} {G : GX} {K : Int32 → Mem → Prop} (hG : Gd G) (O : Ok X G cX11_matterOf 4 RX11 5) (hR : RetI X G cX11_matterOf K) {s0 : Int32} {M : Mem} (h : f_X11_matterOf_b108 K s0 M) : J X G M 108 [] [.int s0] := by
  unfold f_X11_matterOf_b108 at h
  exact hR _ _ _ _ dX11_matterOf_108 h
set_option maxHeartbeats 4000000 in
set_option maxRecDepth 20000 in
theorem c_X11_matterOf {l : Launch} {G : GX} (hG : Gd G) {a1 : Int32} {a2 : Int32} {M : Mem} {K : Int32 → Mem → Prop} (h : f_X11_matterOf a1 a2 M K) : CI l G yX11_matterOf cX11_matterOf 4 (some .int) 5 [.ref (ad G 0), .int a1, .int a2] M K := by
  unfold f_X11_matterOf at h
  refine CI.mk hG (by decide) [(0, .ref (ad G 0)), (1, .int a1), (2, .int a2)] rfl (Nat.le_of_ble_eq_true rfl) (fun X O hlX hR => ?_)
  subst hlX
  refine J.aload_n (q := 1) O dX11_matterOf_0 rfl 0 rfl ?_
  refine J.iload_n (q := 2) O dX11_matterOf_1 rfl 1 rfl ?_
  refine J.callVI (q := 5) [.int a1] [] [.int a1, .ref (ad G 0)] rfl O dX11_matterOf_2 rfl (c_X11_isMatter hG h) wd_3_178 mw_X11_isMatter io_0 rfl (by decide) (Nat.le_of_ble_eq_true rfl) (fun v2 M2 h => ?_)
  refine J.if_ne (q := 8) (tgt := 14) O dX11_matterOf_5 rfl (by decide) (fun z3 => ?_) (fun z3 => ?_)
  · replace h := h.1 z3
    refine J.aload_n (q := 15) O dX11_matterOf_14 rfl 0 rfl ?_
    refine J.getR (q := 18) (c' := 0) (ci := 11) (k := 4) (r := 61) O dX11_matterOf_15 rfl wd_2_218 (by decide) if_0_4 ?_
    refine J.iload_n (q := 19) O dX11_matterOf_18 rfl 1 rfl ?_
    obtain ⟨hv4, h⟩ := h
    refine J.aald (q := 20) (t := 0) (c' := 61) (b := 127) (d := 4) O dX11_matterOf_19 rfl ar_61 hv4 ?_
    refine J.astore_n (q := 21) O dX11_matterOf_20 rfl [(3, .ref (ad G (127 + 4 * a1.toNatClampNeg))), (0, .ref (ad G 0)), (1, .int a1), (2, .int a2)] (by decide) rfl ?_
    refine J.iload_n (q := 22) O dX11_matterOf_21 rfl 3 rfl ?_
    rcases tsw_cov a2 (0) 5 (by decide) with z6 | ⟨j, hj, z6⟩
    · replace h := h.1 (by omega)
      refine J.tswOut (q := 119) O dX11_matterOf_22 (by omega) (by decide) ?_
      refine J.aload_n (q := 120) O dX11_matterOf_119 rfl 1 rfl ?_
      refine J.bipush (q := 122) (v := (-2 : Int32)) O dX11_matterOf_120 rfl rfl ?_
      refine J.callVI (q := 125) [.int (-2 : Int32)] [] [.int (-2 : Int32), .ref (ad G 0)] rfl O dX11_matterOf_122 rfl (c_X11_refuse hG h) wd_3_27 mw_X11_refuse io_0 rfl (by decide) (Nat.le_of_ble_eq_true rfl) (fun v5 M5 h => ?_)
      exact hR _ _ _ _ dX11_matterOf_125 h
    · match j, hj, z6 with
      | 0, _, z6 =>
        have z6 : a2 = (0 : Int32) := z6.trans (by decide)
        replace h := h.2.1 z6
        refine J.tswIn (q := 60) O dX11_matterOf_22 (0 : Int32) z6 (by decide) (by decide) rfl (by decide) ?_
        refine J.aload_n (q := 61) O dX11_matterOf_60 rfl 0 rfl ?_
        refine J.getI (q := 64) (c' := (127 + 4 * a1.toNatClampNeg)) (ci := 5) (k := 7) (M2 (127 + 4 * a1.toNatClampNeg) 7) rfl O dX11_matterOf_61 rfl wd_2_174 (by decide) (isMat_F (isMat_of hv4) rfl) ?_
        exact hR _ _ _ _ dX11_matterOf_64 h
      | 1, _, z6 =>
        have z6 : a2 = (1 : Int32) := z6.trans (by decide)
        replace h := h.2.2.1 z6
        refine J.tswIn (q := 65) O dX11_matterOf_22 (1 : Int32) z6 (by decide) (by decide) rfl (by decide) ?_
        refine J.aload_n (q := 66) O dX11_matterOf_65 rfl 0 rfl ?_
        refine J.getI (q := 69) (c' := (127 + 4 * a1.toNatClampNeg)) (ci := 5) (k := 6) (M2 (127 + 4 * a1.toNatClampNeg) 6) rfl O dX11_matterOf_66 rfl wd_2_172 (by decide) (isMat_F (isMat_of hv4) rfl) ?_
        exact hR _ _ _ _ dX11_matterOf_69 h
      | 2, _, z6 =>
        have z6 : a2 = (2 : Int32) := z6.trans (by decide)
        replace h := h.2.2.2.1 z6
        refine J.tswIn (q := 70) O dX11_matterOf_22 (2 : Int32) z6 (by decide) (by decide) rfl (by decide) ?_
        refine J.aload_n (q := 71) O dX11_matterOf_70 rfl 0 rfl ?_
        refine J.aload_n (q := 72) O dX11_matterOf_71 rfl 1 rfl ?_
        refine J.getR (q := 75) (c' := 0) (ci := 11) (k := 0) (r := 1) O dX11_matterOf_72 rfl wd_2_214 (by decide) if_0_0 ?_
        refine J.getI (q := 78) (c' := 1) (ci := 3) (k := 0) (M2 1 0) rfl O dX11_matterOf_75 rfl wd_1_30 (by decide) if_1_0 ?_
        refine J.aload_n (q := 79) O dX11_matterOf_78 rfl 1 rfl ?_
        refine J.getR (q := 82) (c' := 0) (ci := 11) (k := 0) (r := 1) O dX11_matterOf_79 rfl wd_2_214 (by decide) if_0_0 ?_
        refine J.getI (q := 85) (c' := 1) (ci := 3) (k := 0) (M2 1 0) rfl O dX11_matterOf_82 rfl wd_1_30 (by decide) if_1_0 ?_
        refine J.callVI (q := 88) [.int (M2 1 0), .int (M2 1 0)] [] [.int (M2 1 0), .int (M2 1 0), .ref (ad G (127 + 4 * a1.toNatClampNeg))] rfl O dX11_matterOf_85 rfl (c_X5_wholeSince hG h) wd_3_239 mw_X5_wholeSince (isMat_O (isMat_of hv4)) rfl (by decide) (Nat.le_of_ble_eq_true rfl) (fun v7 M7 h => ?_)
        exact hR _ _ _ _ dX11_matterOf_88 h
      | 3, _, z6 =>
        have z6 : a2 = (3 : Int32) := z6.trans (by decide)
        replace h := h.2.2.2.2.1 z6
        refine J.tswIn (q := 89) O dX11_matterOf_22 (3 : Int32) z6 (by decide) (by decide) rfl (by decide) ?_
        refine J.aload_n (q := 90) O dX11_matterOf_89 rfl 0 rfl ?_
        refine J.aload_n (q := 91) O dX11_matterOf_90 rfl 1 rfl ?_
        refine J.getR (q := 94) (c' := 0) (ci := 11) (k := 0) (r := 1) O dX11_matterOf_91 rfl wd_2_214 (by decide) if_0_0 ?_
        refine J.getI (q := 97) (c' := 1) (ci := 3) (k := 0) (M2 1 0) rfl O dX11_matterOf_94 rfl wd_1_30 (by decide) if_1_0 ?_
        refine J.callVI (q := 100) [.int (M2 1 0)] [] [.int (M2 1 0), .ref (ad G (127 + 4 * a1.toNatClampNeg))] rfl O dX11_matterOf_97 rfl (c_X5_letsOn hG h) wd_4_0 mw_X5_letsOn (isMat_O (isMat_of hv4)) rfl (by decide) (Nat.le_of_ble_eq_true rfl) (fun v8 M8 h => ?_)
        refine J.if_eq (q := 103) (tgt := 107) O dX11_matterOf_100 rfl (by decide) (fun z9 => ?_) (fun z9 => ?_)
        · replace h := h.1 z9
          refine J.iconst (q := 108) (v := (0 : Int32)) O dX11_matterOf_107 rfl rfl ?_
          exact J.sub [] rfl (j_X11_matterOf_b108 hG O hR h)
        · replace h := h.2 z9
          refine J.iconst (q := 104) (v := (1 : Int32)) O dX11_matterOf_103 rfl rfl ?_
          refine J.goto (q := 108) O dX11_matterOf_104 (by decide) ?_
          exact J.sub [] rfl (j_X11_matterOf_b108 hG O hR h)
      | 4, _, z6 =>
        have z6 : a2 = (4 : Int32) := z6.trans (by decide)
        replace h := h.2.2.2.2.2.1 z6
        refine J.tswIn (q := 109) O dX11_matterOf_22 (4 : Int32) z6 (by decide) (by decide) rfl (by decide) ?_
        refine J.aload_n (q := 110) O dX11_matterOf_109 rfl 0 rfl ?_
        refine J.getI (q := 113) (c' := (127 + 4 * a1.toNatClampNeg)) (ci := 5) (k := 11) (M2 (127 + 4 * a1.toNatClampNeg) 11) rfl O dX11_matterOf_110 rfl wd_2_179 (by decide) (isMat_F (isMat_of hv4) rfl) ?_
        exact hR _ _ _ _ dX11_matterOf_113 h
      | 5, _, z6 =>
        have z6 : a2 = (5 : Int32) := z6.trans (by decide)
        replace h := h.2.2.2.2.2.2 z6
        refine J.tswIn (q := 114) O dX11_matterOf_22 (5 : Int32) z6 (by decide) (by decide) rfl (by decide) ?_
        refine J.aload_n (q := 115) O dX11_matterOf_114 rfl 0 rfl ?_
        refine J.getI (q := 118) (c' := (127 + 4 * a1.toNatClampNeg)) (ci := 5) (k := 5) (M2 (127 + 4 * a1.toNatClampNeg) 5) rfl O dX11_matterOf_115 rfl wd_2_170 (by decide) (isMat_F (isMat_of hv4) rfl) ?_
        exact hR _ _ _ _ dX11_matterOf_118 h
      | j + 6, hj, _ => exact absurd hj (by omega)
  · replace h := h.2 z3
    refine J.aload_n (q := 9) O dX11_matterOf_8 rfl 0 rfl ?_
    refine J.iconst (q := 10) (v := (-1 : Int32)) O dX11_matterOf_9 rfl rfl ?_
    refine J.callVI (q := 13) [.int (-1 : Int32)] [] [.int (-1 : Int32), .ref (ad G 0)] rfl O dX11_matterOf_10 rfl (c_X11_refuse hG h) wd_3_27 mw_X11_refuse io_0 rfl (by decide) (Nat.le_of_ble_eq_true rfl) (fun v10 M10 h => ?_)
    exact hR _ _ _ _ dX11_matterOf_13 h
set_option maxHeartbeats 4000000 in
set_option maxRecDepth 20000 in
theorem j_X11_isShop_b15 {X : CX} {G : GX} {K : Int32 → Mem → Prop} (hG : Gd G) (O : Ok X G cX11_isShop 1 RX11 1) (hR : RetZ X G cX11_isShop K) {s0 : Int32} {M : Mem} (h : f_X11_isShop_b15 K s0 M) : J X G M 15 [] [.int s0] := by
  unfold f_X11_isShop_b15 at h
  exact hR _ _ _ _ dX11_isShop_15 h.1 h.2
set_option maxHeartbeats 4000000 in
set_option maxRecDepth 20000 in
theorem j_X11_isShop_b14 {X : CX} {G : GX} {K : Int32 → Mem → Prop} (hG : Gd G) (O : Ok X G cX11_isShop 1 RX11 1) (hR : RetZ X G cX11_isShop K) {M : Mem} (h : f_X11_isShop_b14 K  M) : J X G M 14 [] [] := by
  unfold f_X11_isShop_b14 at h
  refine J.iconst (q := 15) (v := (0 : Int32)) O dX11_isShop_14 rfl rfl ?_
  exact J.sub [] rfl (j_X11_isShop_b15 hG O hR h)
set_option maxHeartbeats 4000000 in
set_option maxRecDepth 20000 in
theorem c_X11_isShop {l : Launch} {G : GX} (hG : Gd G) {a1 : Int32} {M : Mem} {K : Int32 → Mem → Prop} (h : f_X11_isShop a1 M K) : CI l G yX11_isShop cX11_isShop 1 (some .boolean) 1 [.int a1] M K := by
  unfold f_X11_isShop at h
  refine CZ.mk hG (by decide) [(0, .int a1)] rfl (Nat.le_of_ble_eq_true rfl) (fun X O hlX hR => ?_)
  subst hlX
  refine J.iload_n (q := 1) O dX11_isShop_0 rfl 0 rfl ?_
  refine J.if_lt (q := 4) (tgt := 14) O dX11_isShop_1 rfl (by decide) (fun z2 => ?_) (fun z2 => ?_)
  · replace h := h.1 z2
    exact J.sub [] rfl (j_X11_isShop_b14 hG O hR h)
  · replace h := h.2 z2
    refine J.iload_n (q := 5) O dX11_isShop_4 rfl 0 rfl ?_
    refine J.bipush (q := 7) (v := (6 : Int32)) O dX11_isShop_5 rfl rfl ?_
    refine J.icmp_ge (q := 10) (tgt := 14) O dX11_isShop_7 rfl (by decide) (fun z3 => ?_) (fun z3 => ?_)
    · replace h := h.1 z3
      exact J.sub [] rfl (j_X11_isShop_b14 hG O hR h)
    · replace h := h.2 z3
      refine J.iconst (q := 11) (v := (1 : Int32)) O dX11_isShop_10 rfl rfl ?_
      refine J.goto (q := 15) O dX11_isShop_11 (by decide) ?_
      exact J.sub [] rfl (j_X11_isShop_b15 hG O hR h)
set_option maxHeartbeats 4000000 in
set_option maxRecDepth 20000 in
theorem c_X11_votes {l : Launch} {G : GX} (hG : Gd G) {a1 : Int32} {a2 : Int32} {M : Mem} {K : Int32 → Mem → Prop} (h : f_X11_votes a1 a2 M K) : CI l G yX11_votes cX11_votes 5 (some .int) 2 [.ref (ad G 0), .int a1, .int a2] M K := by
  unfold f_X11_votes at h
  refine CI.mk hG (by decide) [(0, .ref (ad G 0)), (1, .int a1), (2, .int a2)] rfl (Nat.le_of_ble_eq_true rfl) (fun X O hlX hR => ?_)
  subst hlX
  refine J.iload_n (q := 1) O dX11_votes_0 rfl 1 rfl ?_
  refine J.callSI (q := 4) [.int a1] [] [.int a1] rfl O dX11_votes_1 rfl (c_X11_isShop hG h) wd_4_13 mw_X11_isShop rfl (by decide) (Nat.le_of_ble_eq_true rfl) (fun v3 M3 h => ?_)
  refine J.if_ne (q := 7) (tgt := 13) O dX11_votes_4 rfl (by decide) (fun z4 => ?_) (fun z4 => ?_)
  · replace h := h.1 z4
    refine J.iload_n (q := 14) O dX11_votes_13 rfl 2 rfl ?_
    refine J.iconst (q := 15) (v := (0 : Int32)) O dX11_votes_14 rfl rfl ?_
    refine J.sipush (q := 18) (v := (999 : Int32)) O dX11_votes_15 rfl rfl ?_
    refine J.callSI (q := 21) [.int a2, .int (0 : Int32), .int (999 : Int32)] [] [.int (999 : Int32), .int (0 : Int32), .int a2] rfl O dX11_votes_18 rfl (c_X11_outside hG h) wd_3_35 mw_X11_outside rfl (by decide) (Nat.le_of_ble_eq_true rfl) (fun v5 M5 h => ?_)
    refine J.istore_n (q := 22) O dX11_votes_21 rfl [(3, .int v5), (0, .ref (ad G 0)), (1, .int a1), (2, .int a2)] (by decide) rfl ?_
    refine J.iload_n (q := 23) O dX11_votes_22 rfl 0 rfl ?_
    refine J.if_eq (q := 26) (tgt := 32) O dX11_votes_23 rfl (by decide) (fun z6 => ?_) (fun z6 => ?_)
    · replace h := h.1 z6
      refine J.aload_n (q := 33) O dX11_votes_32 rfl 1 rfl ?_
      refine J.getR (q := 36) (c' := 0) (ci := 11) (k := 3) (r := 51) O dX11_votes_33 rfl wd_2_217 (by decide) if_0_3 ?_
      refine J.getR (q := 39) (c' := 51) (ci := 2) (k := 0) (r := 52) O dX11_votes_36 rfl wd_1_161 (by decide) if_51_0 ?_
      refine J.iload_n (q := 40) O dX11_votes_39 rfl 2 rfl ?_
      obtain ⟨hv7, h⟩ := h
      refine J.iald (q := 41) (c' := 52) (j := a1.toNatClampNeg) (M5 52 a1.toNatClampNeg) rfl O dX11_votes_40 rfl ar_52 hv7 rfl ?_
      refine J.istore (q := 43) O dX11_votes_41 rfl [(4, .int (M5 52 a1.toNatClampNeg)), (3, .int v5), (0, .ref (ad G 0)), (1, .int a1), (2, .int a2)] (by decide) rfl ?_
      refine J.aload_n (q := 44) O dX11_votes_43 rfl 2 rfl ?_
      refine J.getR (q := 47) (c' := 0) (ci := 11) (k := 3) (r := 51) O dX11_votes_44 rfl wd_2_217 (by decide) if_0_3 ?_
      refine J.getR (q := 50) (c' := 51) (ci := 2) (k := 0) (r := 52) O dX11_votes_47 rfl wd_1_161 (by decide) if_51_0 ?_
      refine J.iload_n (q := 51) O dX11_votes_50 rfl 3 rfl ?_
      refine J.iload_n (q := 52) O dX11_votes_51 rfl 4 rfl ?_
      obtain ⟨hv8, h⟩ := h
      refine J.iast (q := 53) (c' := 52) (j := a1.toNatClampNeg) O dX11_votes_52 rfl ar_52 hv8 rfl ?_
      refine J.iload (q := 55) O dX11_votes_53 rfl 0 rfl ?_
      exact hR _ _ _ _ dX11_votes_55 h
    · replace h := h.2 z6
      refine J.aload_n (q := 27) O dX11_votes_26 rfl 1 rfl ?_
      refine J.iload_n (q := 28) O dX11_votes_27 rfl 0 rfl ?_
      refine J.callVI (q := 31) [.int v5] [] [.int v5, .ref (ad G 0)] rfl O dX11_votes_28 rfl (c_X11_refuse hG h) wd_3_27 mw_X11_refuse io_0 rfl (by decide) (Nat.le_of_ble_eq_true rfl) (fun v9 M9 h => ?_)
      exact hR _ _ _ _ dX11_votes_31 h
  · replace h := h.2 z4
    refine J.aload_n (q := 8) O dX11_votes_7 rfl 0 rfl ?_
    refine J.iconst (q := 9) (v := (-1 : Int32)) O dX11_votes_8 rfl rfl ?_
    refine J.callVI (q := 12) [.int (-1 : Int32)] [] [.int (-1 : Int32), .ref (ad G 0)] rfl O dX11_votes_9 rfl (c_X11_refuse hG h) wd_3_27 mw_X11_refuse io_0 rfl (by decide) (Nat.le_of_ble_eq_true rfl) (fun v10 M10 h => ?_)
    exact hR _ _ _ _ dX11_votes_12 h
set_option maxHeartbeats 4000000 in
set_option maxRecDepth 20000 in
theorem j_X2_nextWinner_b59 {X : CX} {G : GX} {K : Int32 → Mem → Prop} (hG : Gd G) (O : Ok X G cX2_nextWinner 3 RX2 1) (hR : RetI X G cX2_nextWinner K) {r5 : Int32 × Int32 × Mem → Prop} (hr5 : ∀ a : Int32 × Int32 × Mem, r5 a → J X G a.2.2 5 [(0, .ref (ad G 51)), (1, .int a.1), (2, .int a.2.1)] []) {x1 : Int32} {x2 : Int32} {M : Mem} (h : f_X2_nextWinner_b59 r5 K x1 x2 M) : J X G M 59 [(0, .ref (ad G 51)), (1, .int x1), (2, .int x2)] [] := by
  unfold f_X2_nextWinner_b59 at h
  refine J.iinc (q := 62) O dX2_nextWinner_59 rfl [(2, .int (x2 + (1 : Int32))), (0, .ref (ad G 51)), (1, .int x1)] 2 rfl rfl (by decide) rfl ?_
  refine J.goto (q := 5) O dX2_nextWinner_62 (by decide) ?_
  exact J.sub [1, 2, 0] rfl (hr5 _ h)
set_option maxHeartbeats 4000000 in
set_option maxRecDepth 20000 in
theorem j_X2_nextWinner_b57 {X : CX} {G : GX} {K : Int32 → Mem → Prop} (hG : Gd G) (O : Ok X G cX2_nextWinner 3 RX2 1) (hR : RetI X G cX2_nextWinner K) {r5 : Int32 × Int32 × Mem → Prop} (hr5 : ∀ a : Int32 × Int32 × Mem, r5 a → J X G a.2.2 5 [(0, .ref (ad G 51)), (1, .int a.1), (2, .int a.2.1)] []) {x2 : Int32} {M : Mem} (h : f_X2_nextWinner_b57 r5 K x2 M) : J X G M 57 [(0, .ref (ad G 51)), (2, .int x2)] [] := by
  unfold f_X2_nextWinner_b57 at h
  refine J.iload_n (q := 58) O dX2_nextWinner_57 rfl 1 rfl ?_
  refine J.istore_n (q := 59) O dX2_nextWinner_58 rfl [(1, .int x2), (0, .ref (ad G 51)), (2, .int x2)] (by decide) rfl ?_
  exact J.sub [1, 0, 2] rfl (j_X2_nextWinner_b59 hG O hR hr5 h)
set_option maxHeartbeats 4000000 in
set_option maxRecDepth 20000 in
theorem j_X2_nextWinner_c5 {X : CX} {G : GX} {K : Int32 → Mem → Prop} (hG : Gd G) (O : Ok X G cX2_nextWinner 3 RX2 1) (hR : RetI X G cX2_nextWinner K) {a : Int32 × Int32 × Mem} (h : Lp (fun (r5 : Int32 × Int32 × Mem → Prop) a => f_X2_nextWinner_c5 K r5 a.1 a.2.1 a.2.2) a) : J X G a.2.2 5 [(0, .ref (ad G 51)), (1, .int a.1), (2, .int a.2.1)] [] := by
  refine Lp.elim (P := fun a => J X G a.2.2 5 [(0, .ref (ad G 51)), (1, .int a.1), (2, .int a.2.1)] []) ?_ h
  clear h
  intro r5 hr5 a h
  obtain ⟨x1, x2, M⟩ := a
  unfold f_X2_nextWinner_c5 at h
  (try dsimp only at h ⊢)
  refine J.iload_n (q := 6) O dX2_nextWinner_5 rfl 2 rfl ?_
  refine J.bipush (q := 8) (v := (6 : Int32)) O dX2_nextWinner_6 rfl rfl ?_
  refine J.icmp_ge (q := 11) (tgt := 65) O dX2_nextWinner_8 rfl (by decide) (fun z6 => ?_) (fun z6 => ?_)
  · replace h := h.1 z6
    refine J.iload_n (q := 66) O dX2_nextWinner_65 rfl 1 rfl ?_
    exact hR _ _ _ _ dX2_nextWinner_66 h
  · replace h := h.2 z6
    refine J.aload_n (q := 12) O dX2_nextWinner_11 rfl 0 rfl ?_
    refine J.getR (q := 15) (c' := 51) (ci := 2) (k := 0) (r := 52) O dX2_nextWinner_12 rfl wd_1_160 (by decide) if_51_0 ?_
    refine J.iload_n (q := 16) O dX2_nextWinner_15 rfl 2 rfl ?_
    obtain ⟨hv7, h⟩ := h
    refine J.iald (q := 17) (c' := 52) (j := x2.toNatClampNeg) (M 52 x2.toNatClampNeg) rfl O dX2_nextWinner_16 rfl ar_52 hv7 rfl ?_
    refine J.if_le (q := 20) (tgt := 59) O dX2_nextWinner_17 rfl (by decide) (fun z8 => ?_) (fun z8 => ?_)
    · replace h := h.1 z8
      exact J.sub [0, 1, 2] rfl (j_X2_nextWinner_b59 hG O hR hr5 h)
    · replace h := h.2 z8
      refine J.iload_n (q := 21) O dX2_nextWinner_20 rfl 1 rfl ?_
      refine J.if_lt (q := 24) (tgt := 57) O dX2_nextWinner_21 rfl (by decide) (fun z9 => ?_) (fun z9 => ?_)
      · replace h := h.1 z9
        exact J.sub [0, 2] rfl (j_X2_nextWinner_b57 hG O hR hr5 h)
      · replace h := h.2 z9
        refine J.aload_n (q := 25) O dX2_nextWinner_24 rfl 0 rfl ?_
        refine J.getR (q := 28) (c' := 51) (ci := 2) (k := 0) (r := 52) O dX2_nextWinner_25 rfl wd_1_160 (by decide) if_51_0 ?_
        refine J.iload_n (q := 29) O dX2_nextWinner_28 rfl 2 rfl ?_
        obtain ⟨hv10, h⟩ := h
        refine J.iald (q := 30) (c' := 52) (j := x2.toNatClampNeg) (M 52 x2.toNatClampNeg) rfl O dX2_nextWinner_29 rfl ar_52 hv10 rfl ?_
        refine J.aload_n (q := 31) O dX2_nextWinner_30 rfl 0 rfl ?_
        refine J.getR (q := 34) (c' := 51) (ci := 2) (k := 4) (r := 55) O dX2_nextWinner_31 rfl wd_1_168 (by decide) if_51_4 ?_
        refine J.iload_n (q := 35) O dX2_nextWinner_34 rfl 1 rfl ?_
        obtain ⟨hv11, h⟩ := h
        refine J.iald (q := 36) (c' := 55) (j := x1.toNatClampNeg) (M 55 x1.toNatClampNeg) rfl O dX2_nextWinner_35 rfl ar_55 hv11 rfl ?_
        refine J.iconst (q := 37) (v := (1 : Int32)) O dX2_nextWinner_36 rfl rfl ?_
        refine J.iadd (q := 38) O dX2_nextWinner_37 rfl ?_
        refine J.imul (q := 39) O dX2_nextWinner_38 rfl ?_
        refine J.aload_n (q := 40) O dX2_nextWinner_39 rfl 0 rfl ?_
        refine J.getR (q := 43) (c' := 51) (ci := 2) (k := 0) (r := 52) O dX2_nextWinner_40 rfl wd_1_160 (by decide) if_51_0 ?_
        refine J.iload_n (q := 44) O dX2_nextWinner_43 rfl 1 rfl ?_
        obtain ⟨hv12, h⟩ := h
        refine J.iald (q := 45) (c' := 52) (j := x1.toNatClampNeg) (M 52 x1.toNatClampNeg) rfl O dX2_nextWinner_44 rfl ar_52 hv12 rfl ?_
        refine J.aload_n (q := 46) O dX2_nextWinner_45 rfl 0 rfl ?_
        refine J.getR (q := 49) (c' := 51) (ci := 2) (k := 4) (r := 55) O dX2_nextWinner_46 rfl wd_1_168 (by decide) if_51_4 ?_
        refine J.iload_n (q := 50) O dX2_nextWinner_49 rfl 2 rfl ?_
        obtain ⟨hv13, h⟩ := h
        refine J.iald (q := 51) (c' := 55) (j := x2.toNatClampNeg) (M 55 x2.toNatClampNeg) rfl O dX2_nextWinner_50 rfl ar_55 hv13 rfl ?_
        refine J.iconst (q := 52) (v := (1 : Int32)) O dX2_nextWinner_51 rfl rfl ?_
        refine J.iadd (q := 53) O dX2_nextWinner_52 rfl ?_
        refine J.imul (q := 54) O dX2_nextWinner_53 rfl ?_
        refine J.icmp_le (q := 57) (tgt := 59) O dX2_nextWinner_54 rfl (by decide) (fun z14 => ?_) (fun z14 => ?_)
        · replace h := h.1 z14
          exact J.sub [0, 1, 2] rfl (j_X2_nextWinner_b59 hG O hR hr5 h)
        · replace h := h.2 z14
          exact J.sub [0, 2] rfl (j_X2_nextWinner_b57 hG O hR hr5 h)
set_option maxHeartbeats 4000000 in
set_option maxRecDepth 20000 in
theorem c_X2_nextWinner {l : Launch} {G : GX} (hG : Gd G) {M : Mem} {K : Int32 → Mem → Prop} (h : f_X2_nextWinner  M K) : CI l G yX2_nextWinner cX2_nextWinner 3 (some .int) 1 [.ref (ad G 51)] M K := by
  unfold f_X2_nextWinner at h
  refine CI.mk hG (by decide) [(0, .ref (ad G 51))] rfl (Nat.le_of_ble_eq_true rfl) (fun X O hlX hR => ?_)
  subst hlX
  refine J.bipush (q := 2) (v := (-9 : Int32)) O dX2_nextWinner_0 rfl rfl ?_
  refine J.istore_n (q := 3) O dX2_nextWinner_2 rfl [(1, .int (-9 : Int32)), (0, .ref (ad G 51))] (by decide) rfl ?_
  refine J.iconst (q := 4) (v := (0 : Int32)) O dX2_nextWinner_3 rfl rfl ?_
  refine J.istore_n (q := 5) O dX2_nextWinner_4 rfl [(2, .int (0 : Int32)), (1, .int (-9 : Int32)), (0, .ref (ad G 51))] (by decide) rfl ?_
  exact J.sub [2, 1, 0] rfl (j_X2_nextWinner_c5 hG O hR h)
set_option maxHeartbeats 4000000 in
set_option maxRecDepth 20000 in
theorem j_X2_fillSeats_b91 {X : CX} {G : GX} {K : Int32 → Mem → Prop} (hG : Gd G) (O : Ok X G cX2_fillSeats 4 RX2 2) (hR : RetI X G cX2_fillSeats K) {M : Mem} (h : f_X2_fillSeats_b91 K  M) : J X G M 91 [(0, .ref (ad G 51))] [] := by
  unfold f_X2_fillSeats_b91 at h
  refine J.aload_n (q := 92) O dX2_fillSeats_91 rfl 0 rfl ?_
  refine J.getI (q := 95) (c' := 51) (ci := 2) (k := 1) (M 51 1) rfl O dX2_fillSeats_92 rfl wd_1_162 (by decide) if_51_1 ?_
  exact hR _ _ _ _ dX2_fillSeats_95 h
set_option maxHeartbeats 4000000 in
set_option maxRecDepth 20000 in
theorem j_X2_fillSeats_c28 {X : CX} {G : GX} {K : Int32 → Mem → Prop} (hG : Gd G) (O : Ok X G cX2_fillSeats 4 RX2 2) (hR : RetI X G cX2_fillSeats K) {a : Int32 × Int32 × Mem} (h : Lp (fun (r28 : Int32 × Int32 × Mem → Prop) a => f_X2_fillSeats_c28 K r28 a.1 a.2.1 a.2.2) a) : J X G a.2.2 28 [(0, .ref (ad G 51)), (1, .int a.1), (2, .int a.2.1)] [] := by
  refine Lp.elim (P := fun a => J X G a.2.2 28 [(0, .ref (ad G 51)), (1, .int a.1), (2, .int a.2.1)] []) ?_ h
  clear h
  intro r28 hr28 a h
  obtain ⟨x1, x2, M⟩ := a
  unfold f_X2_fillSeats_c28 at h
  (try dsimp only at h ⊢)
  refine J.iload_n (q := 29) O dX2_fillSeats_28 rfl 2 rfl ?_
  refine J.iload_n (q := 30) O dX2_fillSeats_29 rfl 1 rfl ?_
  refine J.icmp_ge (q := 33) (tgt := 91) O dX2_fillSeats_30 rfl (by decide) (fun z6 => ?_) (fun z6 => ?_)
  · replace h := h.1 z6
    exact J.sub [0] rfl (j_X2_fillSeats_b91 hG O hR h)
  · replace h := h.2 z6
    refine J.iload_n (q := 34) O dX2_fillSeats_33 rfl 2 rfl ?_
    refine J.bipush (q := 36) (v := (9 : Int32)) O dX2_fillSeats_34 rfl rfl ?_
    refine J.icmp_ge (q := 39) (tgt := 91) O dX2_fillSeats_36 rfl (by decide) (fun z7 => ?_) (fun z7 => ?_)
    · replace h := h.1 z7
      exact J.sub [0] rfl (j_X2_fillSeats_b91 hG O hR h)
    · replace h := h.2 z7
      refine J.aload_n (q := 40) O dX2_fillSeats_39 rfl 0 rfl ?_
      refine J.callVI (q := 43) [] [] [.ref (ad G 51)] rfl O dX2_fillSeats_40 rfl (c_X2_nextWinner hG h) wd_4_24 mw_X2_nextWinner io_51 rfl (by decide) (Nat.le_of_ble_eq_true rfl) (fun v8 M8 h => ?_)
      refine J.istore_n (q := 44) O dX2_fillSeats_43 rfl [(3, .int v8), (0, .ref (ad G 51)), (1, .int x1), (2, .int x2)] (by decide) rfl ?_
      refine J.iload_n (q := 45) O dX2_fillSeats_44 rfl 0 rfl ?_
      refine J.if_ge (q := 48) (tgt := 53) O dX2_fillSeats_45 rfl (by decide) (fun z9 => ?_) (fun z9 => ?_)
      · replace h := h.1 z9
        refine J.aload_n (q := 54) O dX2_fillSeats_53 rfl 1 rfl ?_
        refine J.getR (q := 57) (c' := 51) (ci := 2) (k := 4) (r := 55) O dX2_fillSeats_54 rfl wd_1_168 (by decide) if_51_4 ?_
        refine J.iload_n (q := 58) O dX2_fillSeats_57 rfl 0 rfl ?_
        refine J.dup2 (q := 59) O dX2_fillSeats_58 rfl rfl rfl ?_
        obtain ⟨hv10, h⟩ := h
        refine J.iald (q := 60) (c' := 55) (j := v8.toNatClampNeg) (M8 55 v8.toNatClampNeg) rfl O dX2_fillSeats_59 rfl ar_55 hv10 rfl ?_
        refine J.iconst (q := 61) (v := (1 : Int32)) O dX2_fillSeats_60 rfl rfl ?_
        refine J.iadd (q := 62) O dX2_fillSeats_61 rfl ?_
        obtain ⟨hv11, h⟩ := h
        refine J.iast (q := 63) (c' := 55) (j := v8.toNatClampNeg) O dX2_fillSeats_62 rfl ar_55 hv11 rfl ?_
        refine J.aload_n (q := 64) O dX2_fillSeats_63 rfl 1 rfl ?_
        refine J.getR (q := 67) (c' := 51) (ci := 2) (k := 2) (r := 53) O dX2_fillSeats_64 rfl wd_1_164 (by decide) if_51_2 ?_
        refine J.iload_n (q := 68) O dX2_fillSeats_67 rfl 3 rfl ?_
        refine J.iload_n (q := 69) O dX2_fillSeats_68 rfl 0 rfl ?_
        obtain ⟨hv12, h⟩ := h
        refine J.iast (q := 70) (c' := 53) (j := x2.toNatClampNeg) O dX2_fillSeats_69 rfl ar_53 hv12 rfl ?_
        refine J.aload_n (q := 71) O dX2_fillSeats_70 rfl 1 rfl ?_
        refine J.getR (q := 74) (c' := 51) (ci := 2) (k := 3) (r := 54) O dX2_fillSeats_71 rfl wd_1_166 (by decide) if_51_3 ?_
        refine J.iload_n (q := 75) O dX2_fillSeats_74 rfl 3 rfl ?_
        refine J.bipush (q := 77) (v := (-9 : Int32)) O dX2_fillSeats_75 rfl rfl ?_
        obtain ⟨hv13, h⟩ := h
        refine J.iast (q := 78) (c' := 54) (j := x2.toNatClampNeg) O dX2_fillSeats_77 rfl ar_54 hv13 rfl ?_
        refine J.aload_n (q := 79) O dX2_fillSeats_78 rfl 1 rfl ?_
        refine J.iload_n (q := 80) O dX2_fillSeats_79 rfl 3 rfl ?_
        refine J.iconst (q := 81) (v := (1 : Int32)) O dX2_fillSeats_80 rfl rfl ?_
        refine J.iadd (q := 82) O dX2_fillSeats_81 rfl ?_
        refine J.putI (q := 85) (c' := 51) (ci := 2) (k := 1) O dX2_fillSeats_82 rfl wd_1_162 (by decide) if_51_1 rfl rfl ?_
        refine J.iinc (q := 88) O dX2_fillSeats_85 rfl [(2, .int (x2 + (1 : Int32))), (3, .int v8), (0, .ref (ad G 51)), (1, .int x1)] 3 rfl rfl (by decide) rfl ?_
        refine J.goto (q := 28) O dX2_fillSeats_88 (by decide) ?_
        exact J.sub [2, 3, 0] rfl (hr28 _ h)
      · replace h := h.2 z9
        refine J.aload_n (q := 49) O dX2_fillSeats_48 rfl 1 rfl ?_
        refine J.getI (q := 52) (c' := 51) (ci := 2) (k := 1) (M8 51 1) rfl O dX2_fillSeats_49 rfl wd_1_162 (by decide) if_51_1 ?_
        exact hR _ _ _ _ dX2_fillSeats_52 h
set_option maxHeartbeats 4000000 in
set_option maxRecDepth 20000 in
theorem j_X2_fillSeats_c7 {X : CX} {G : GX} {K : Int32 → Mem → Prop} (hG : Gd G) (O : Ok X G cX2_fillSeats 4 RX2 2) (hR : RetI X G cX2_fillSeats K) {a : Int32 × Int32 × Mem} (h : Lp (fun (r7 : Int32 × Int32 × Mem → Prop) a => f_X2_fillSeats_c7 K r7 a.1 a.2.1 a.2.2) a) : J X G a.2.2 7 [(0, .ref (ad G 51)), (1, .int a.1), (2, .int a.2.1)] [] := by
  refine Lp.elim (P := fun a => J X G a.2.2 7 [(0, .ref (ad G 51)), (1, .int a.1), (2, .int a.2.1)] []) ?_ h
  clear h
  intro r7 hr7 a h
  obtain ⟨x1, x2, M⟩ := a
  unfold f_X2_fillSeats_c7 at h
  (try dsimp only at h ⊢)
  refine J.iload_n (q := 8) O dX2_fillSeats_7 rfl 2 rfl ?_
  refine J.bipush (q := 10) (v := (6 : Int32)) O dX2_fillSeats_8 rfl rfl ?_
  refine J.icmp_ge (q := 13) (tgt := 26) O dX2_fillSeats_10 rfl (by decide) (fun z14 => ?_) (fun z14 => ?_)
  · replace h := h.1 z14
    refine J.iconst (q := 27) (v := (0 : Int32)) O dX2_fillSeats_26 rfl rfl ?_
    refine J.istore_n (q := 28) O dX2_fillSeats_27 rfl [(2, .int (0 : Int32)), (0, .ref (ad G 51)), (1, .int x1)] (by decide) rfl ?_
    exact J.sub [1, 2, 0] rfl (j_X2_fillSeats_c28 hG O hR h)
  · replace h := h.2 z14
    refine J.aload_n (q := 14) O dX2_fillSeats_13 rfl 0 rfl ?_
    refine J.getR (q := 17) (c' := 51) (ci := 2) (k := 4) (r := 55) O dX2_fillSeats_14 rfl wd_1_168 (by decide) if_51_4 ?_
    refine J.iload_n (q := 18) O dX2_fillSeats_17 rfl 2 rfl ?_
    refine J.iconst (q := 19) (v := (0 : Int32)) O dX2_fillSeats_18 rfl rfl ?_
    obtain ⟨hv15, h⟩ := h
    refine J.iast (q := 20) (c' := 55) (j := x2.toNatClampNeg) O dX2_fillSeats_19 rfl ar_55 hv15 rfl ?_
    refine J.iinc (q := 23) O dX2_fillSeats_20 rfl [(2, .int (x2 + (1 : Int32))), (0, .ref (ad G 51)), (1, .int x1)] 2 rfl rfl (by decide) rfl ?_
    refine J.goto (q := 7) O dX2_fillSeats_23 (by decide) ?_
    exact J.sub [1, 2, 0] rfl (hr7 _ h)
set_option maxHeartbeats 4000000 in
set_option maxRecDepth 20000 in
theorem c_X2_fillSeats {l : Launch} {G : GX} (hG : Gd G) {a1 : Int32} {M : Mem} {K : Int32 → Mem → Prop} (h : f_X2_fillSeats a1 M K) : CI l G yX2_fillSeats cX2_fillSeats 4 (some .int) 2 [.ref (ad G 51), .int a1] M K := by
  unfold f_X2_fillSeats at h
  refine CI.mk hG (by decide) [(0, .ref (ad G 51)), (1, .int a1)] rfl (Nat.le_of_ble_eq_true rfl) (fun X O hlX hR => ?_)
  subst hlX
  refine J.aload_n (q := 1) O dX2_fillSeats_0 rfl 0 rfl ?_
  refine J.iconst (q := 2) (v := (0 : Int32)) O dX2_fillSeats_1 rfl rfl ?_
  refine J.putI (q := 5) (c' := 51) (ci := 2) (k := 1) O dX2_fillSeats_2 rfl wd_1_162 (by decide) if_51_1 rfl rfl ?_
  refine J.iconst (q := 6) (v := (0 : Int32)) O dX2_fillSeats_5 rfl rfl ?_
  refine J.istore_n (q := 7) O dX2_fillSeats_6 rfl [(2, .int (0 : Int32)), (0, .ref (ad G 51)), (1, .int a1)] (by decide) rfl ?_
  exact J.sub [1, 2, 0] rfl (j_X2_fillSeats_c7 hG O hR h)
