set_option maxHeartbeats 4000000 in
set_option maxRecDepth 20000 in
theorem c_X11_elect {l : Launch} {G : GX} (hG : Gd G) {a1 : Int32} {M : Mem} {K : Int32 → Mem → Prop} (h : f_X11_elect a1 M K) : CI l G yX11_elect cX11_elect 3 (some .int) 3 [.ref (ad G 0), .int a1] M K := by
  unfold f_X11_elect at h
  refine CI.mk hG (by decide) [(0, .ref (ad G 0)), (1, .int a1)] rfl (Nat.le_of_ble_eq_true rfl) (fun X O hlX hR => ?_)
  subst hlX
  refine J.iload_n (q := 1) O dX11_elect_0 rfl 1 rfl ?_
  refine J.iconst (q := 2) (v := (1 : Int32)) O dX11_elect_1 rfl rfl ?_
  refine J.bipush (q := 4) (v := (9 : Int32)) O dX11_elect_2 rfl rfl ?_
  refine J.callSI (q := 7) [.int a1, .int (1 : Int32), .int (9 : Int32)] [] [.int (9 : Int32), .int (1 : Int32), .int a1] rfl O dX11_elect_4 rfl (c_X11_outside hG h) wd_3_35 mw_X11_outside rfl (by decide) (Nat.le_of_ble_eq_true rfl) (fun v1 M1 h => ?_)
  refine J.istore_n (q := 8) O dX11_elect_7 rfl [(2, .int v1), (0, .ref (ad G 0)), (1, .int a1)] (by decide) rfl ?_
  refine J.iload_n (q := 9) O dX11_elect_8 rfl 0 rfl ?_
  refine J.if_eq (q := 12) (tgt := 18) O dX11_elect_9 rfl (by decide) (fun z2 => ?_) (fun z2 => ?_)
  · replace h := h.1 z2
    refine J.aload_n (q := 19) O dX11_elect_18 rfl 1 rfl ?_
    refine J.getR (q := 22) (c' := 0) (ci := 11) (k := 3) (r := 51) O dX11_elect_19 rfl wd_2_217 (by decide) if_0_3 ?_
    refine J.iload_n (q := 23) O dX11_elect_22 rfl 2 rfl ?_
    refine J.callVI (q := 26) [.int a1] [] [.int a1, .ref (ad G 51)] rfl O dX11_elect_23 rfl (c_X2_fillSeats hG h) wd_4_20 mw_X2_fillSeats io_51 rfl (by decide) (Nat.le_of_ble_eq_true rfl) (fun v3 M3 h => ?_)
    exact hR _ _ _ _ dX11_elect_26 h
  · replace h := h.2 z2
    refine J.aload_n (q := 13) O dX11_elect_12 rfl 1 rfl ?_
    refine J.iload_n (q := 14) O dX11_elect_13 rfl 0 rfl ?_
    refine J.callVI (q := 17) [.int v1] [] [.int v1, .ref (ad G 0)] rfl O dX11_elect_14 rfl (c_X11_refuse hG h) wd_3_27 mw_X11_refuse io_0 rfl (by decide) (Nat.le_of_ble_eq_true rfl) (fun v4 M4 h => ?_)
    exact hR _ _ _ _ dX11_elect_17 h
set_option maxHeartbeats 4000000 in
set_option maxRecDepth 20000 in
theorem j_X2_hasSeat_b23 {X : CX} {G : GX} {K : Int32 → Mem → Prop} (hG : Gd G) (O : Ok X G cX2_hasSeat 2 RX2 1) (hR : RetZ X G cX2_hasSeat K) {s0 : Int32} {M : Mem} (h : f_X2_hasSeat_b23 K s0 M) : J X G M 23 [] [.int s0] := by
  unfold f_X2_hasSeat_b23 at h
  exact hR _ _ _ _ dX2_hasSeat_23 h.1 h.2
set_option maxHeartbeats 4000000 in
set_option maxRecDepth 20000 in
theorem j_X2_hasSeat_b22 {X : CX} {G : GX} {K : Int32 → Mem → Prop} (hG : Gd G) (O : Ok X G cX2_hasSeat 2 RX2 1) (hR : RetZ X G cX2_hasSeat K) {M : Mem} (h : f_X2_hasSeat_b22 K  M) : J X G M 22 [] [] := by
  unfold f_X2_hasSeat_b22 at h
  refine J.iconst (q := 23) (v := (0 : Int32)) O dX2_hasSeat_22 rfl rfl ?_
  exact J.sub [] rfl (j_X2_hasSeat_b23 hG O hR h)
set_option maxHeartbeats 4000000 in
set_option maxRecDepth 20000 in
theorem c_X2_hasSeat {l : Launch} {G : GX} (hG : Gd G) {a1 : Int32} {M : Mem} {K : Int32 → Mem → Prop} (h : f_X2_hasSeat a1 M K) : CI l G yX2_hasSeat cX2_hasSeat 2 (some .boolean) 1 [.ref (ad G 51), .int a1] M K := by
  unfold f_X2_hasSeat at h
  refine CZ.mk hG (by decide) [(0, .ref (ad G 51)), (1, .int a1)] rfl (Nat.le_of_ble_eq_true rfl) (fun X O hlX hR => ?_)
  subst hlX
  refine J.iload_n (q := 1) O dX2_hasSeat_0 rfl 1 rfl ?_
  refine J.if_lt (q := 4) (tgt := 22) O dX2_hasSeat_1 rfl (by decide) (fun z2 => ?_) (fun z2 => ?_)
  · replace h := h.1 z2
    exact J.sub [] rfl (j_X2_hasSeat_b22 hG O hR h)
  · replace h := h.2 z2
    refine J.iload_n (q := 5) O dX2_hasSeat_4 rfl 1 rfl ?_
    refine J.aload_n (q := 6) O dX2_hasSeat_5 rfl 0 rfl ?_
    refine J.getI (q := 9) (c' := 51) (ci := 2) (k := 1) (M 51 1) rfl O dX2_hasSeat_6 rfl wd_1_162 (by decide) if_51_1 ?_
    refine J.icmp_ge (q := 12) (tgt := 22) O dX2_hasSeat_9 rfl (by decide) (fun z3 => ?_) (fun z3 => ?_)
    · replace h := h.1 z3
      exact J.sub [] rfl (j_X2_hasSeat_b22 hG O hR h)
    · replace h := h.2 z3
      refine J.iload_n (q := 13) O dX2_hasSeat_12 rfl 1 rfl ?_
      refine J.bipush (q := 15) (v := (9 : Int32)) O dX2_hasSeat_13 rfl rfl ?_
      refine J.icmp_ge (q := 18) (tgt := 22) O dX2_hasSeat_15 rfl (by decide) (fun z4 => ?_) (fun z4 => ?_)
      · replace h := h.1 z4
        exact J.sub [] rfl (j_X2_hasSeat_b22 hG O hR h)
      · replace h := h.2 z4
        refine J.iconst (q := 19) (v := (1 : Int32)) O dX2_hasSeat_18 rfl rfl ?_
        refine J.goto (q := 23) O dX2_hasSeat_19 (by decide) ?_
        exact J.sub [] rfl (j_X2_hasSeat_b23 hG O hR h)
set_option maxHeartbeats 4000000 in
set_option maxRecDepth 20000 in
theorem j_X11_seat_b26 {X : CX} {G : GX} {K : Int32 → Mem → Prop} (hG : Gd G) (O : Ok X G cX11_seat 3 RX11 2) (hR : RetI X G cX11_seat K) {M : Mem} (h : f_X11_seat_b26 K  M) : J X G M 26 [(0, .ref (ad G 0))] [] := by
  unfold f_X11_seat_b26 at h
  refine J.aload_n (q := 27) O dX11_seat_26 rfl 0 rfl ?_
  refine J.bipush (q := 29) (v := (-2 : Int32)) O dX11_seat_27 rfl rfl ?_
  refine J.callVI (q := 32) [.int (-2 : Int32)] [] [.int (-2 : Int32), .ref (ad G 0)] rfl O dX11_seat_29 rfl (c_X11_refuse hG h) wd_3_27 mw_X11_refuse io_0 rfl (by decide) (Nat.le_of_ble_eq_true rfl) (fun v3 M3 h => ?_)
  exact hR _ _ _ _ dX11_seat_32 h
set_option maxHeartbeats 4000000 in
set_option maxRecDepth 20000 in
theorem j_X11_seat_b58 {X : CX} {G : GX} {K : Int32 → Mem → Prop} (hG : Gd G) (O : Ok X G cX11_seat 3 RX11 2) (hR : RetI X G cX11_seat K) {s0 : Int32} {M : Mem} (h : f_X11_seat_b58 K s0 M) : J X G M 58 [] [.int s0] := by
  unfold f_X11_seat_b58 at h
  exact hR _ _ _ _ dX11_seat_58 h
set_option maxHeartbeats 4000000 in
set_option maxRecDepth 20000 in
theorem c_X11_seat {l : Launch} {G : GX} (hG : Gd G) {a1 : Int32} {a2 : Int32} {M : Mem} {K : Int32 → Mem → Prop} (h : f_X11_seat a1 a2 M K) : CI l G yX11_seat cX11_seat 3 (some .int) 2 [.ref (ad G 0), .int a1, .int a2] M K := by
  unfold f_X11_seat at h
  refine CI.mk hG (by decide) [(0, .ref (ad G 0)), (1, .int a1), (2, .int a2)] rfl (Nat.le_of_ble_eq_true rfl) (fun X O hlX hR => ?_)
  subst hlX
  refine J.aload_n (q := 1) O dX11_seat_0 rfl 0 rfl ?_
  refine J.getR (q := 4) (c' := 0) (ci := 11) (k := 3) (r := 51) O dX11_seat_1 rfl wd_2_217 (by decide) if_0_3 ?_
  refine J.iload_n (q := 5) O dX11_seat_4 rfl 1 rfl ?_
  refine J.callVI (q := 8) [.int a1] [] [.int a1, .ref (ad G 51)] rfl O dX11_seat_5 rfl (c_X2_hasSeat hG h) wd_4_32 mw_X2_hasSeat io_51 rfl (by decide) (Nat.le_of_ble_eq_true rfl) (fun v4 M4 h => ?_)
  refine J.if_ne (q := 11) (tgt := 17) O dX11_seat_8 rfl (by decide) (fun z5 => ?_) (fun z5 => ?_)
  · replace h := h.1 z5
    refine J.iload_n (q := 18) O dX11_seat_17 rfl 2 rfl ?_
    refine J.if_lt (q := 21) (tgt := 26) O dX11_seat_18 rfl (by decide) (fun z6 => ?_) (fun z6 => ?_)
    · replace h := h.1 z6
      exact J.sub [0] rfl (j_X11_seat_b26 hG O hR h)
    · replace h := h.2 z6
      refine J.iload_n (q := 22) O dX11_seat_21 rfl 2 rfl ?_
      refine J.iconst (q := 23) (v := (1 : Int32)) O dX11_seat_22 rfl rfl ?_
      refine J.icmp_le (q := 26) (tgt := 33) O dX11_seat_23 rfl (by decide) (fun z7 => ?_) (fun z7 => ?_)
      · replace h := h.1 z7
        refine J.iload_n (q := 34) O dX11_seat_33 rfl 2 rfl ?_
        refine J.if_ne (q := 37) (tgt := 49) O dX11_seat_34 rfl (by decide) (fun z8 => ?_) (fun z8 => ?_)
        · replace h := h.1 z8
          refine J.aload_n (q := 50) O dX11_seat_49 rfl 0 rfl ?_
          refine J.getR (q := 53) (c' := 0) (ci := 11) (k := 3) (r := 51) O dX11_seat_50 rfl wd_2_217 (by decide) if_0_3 ?_
          refine J.getR (q := 56) (c' := 51) (ci := 2) (k := 3) (r := 54) O dX11_seat_53 rfl wd_1_167 (by decide) if_51_3 ?_
          refine J.iload_n (q := 57) O dX11_seat_56 rfl 1 rfl ?_
          obtain ⟨hv9, h⟩ := h
          refine J.iald (q := 58) (c' := 54) (j := a1.toNatClampNeg) (M4 54 a1.toNatClampNeg) rfl O dX11_seat_57 rfl ar_54 hv9 rfl ?_
          exact J.sub [] rfl (j_X11_seat_b58 hG O hR h)
        · replace h := h.2 z8
          refine J.aload_n (q := 38) O dX11_seat_37 rfl 0 rfl ?_
          refine J.getR (q := 41) (c' := 0) (ci := 11) (k := 3) (r := 51) O dX11_seat_38 rfl wd_2_217 (by decide) if_0_3 ?_
          refine J.getR (q := 44) (c' := 51) (ci := 2) (k := 2) (r := 53) O dX11_seat_41 rfl wd_1_165 (by decide) if_51_2 ?_
          refine J.iload_n (q := 45) O dX11_seat_44 rfl 1 rfl ?_
          obtain ⟨hv10, h⟩ := h
          refine J.iald (q := 46) (c' := 53) (j := a1.toNatClampNeg) (M4 53 a1.toNatClampNeg) rfl O dX11_seat_45 rfl ar_53 hv10 rfl ?_
          refine J.goto (q := 58) O dX11_seat_46 (by decide) ?_
          exact J.sub [] rfl (j_X11_seat_b58 hG O hR h)
      · replace h := h.2 z7
        exact J.sub [0] rfl (j_X11_seat_b26 hG O hR h)
  · replace h := h.2 z5
    refine J.aload_n (q := 12) O dX11_seat_11 rfl 0 rfl ?_
    refine J.iconst (q := 13) (v := (-1 : Int32)) O dX11_seat_12 rfl rfl ?_
    refine J.callVI (q := 16) [.int (-1 : Int32)] [] [.int (-1 : Int32), .ref (ad G 0)] rfl O dX11_seat_13 rfl (c_X11_refuse hG h) wd_3_27 mw_X11_refuse io_0 rfl (by decide) (Nat.le_of_ble_eq_true rfl) (fun v11 M11 h => ?_)
    exact hR _ _ _ _ dX11_seat_16 h
set_option maxHeartbeats 4000000 in
set_option maxRecDepth 20000 in
theorem c_X11_put {l : Launch} {G : GX} (hG : Gd G) {a1 : Int32} {M : Mem} {K : Int32 → Mem → Prop} (h : f_X11_put a1 M K) : CI l G yX11_put cX11_put 2 (some .int) 2 [.ref (ad G 0), .int a1] M K := by
  unfold f_X11_put at h
  refine CI.mk hG (by decide) [(0, .ref (ad G 0)), (1, .int a1)] rfl (Nat.le_of_ble_eq_true rfl) (fun X O hlX hR => ?_)
  subst hlX
  refine J.aload_n (q := 1) O dX11_put_0 rfl 0 rfl ?_
  refine J.getI (q := 4) (c' := 0) (ci := 11) (k := 14) (M 0 14) rfl O dX11_put_1 rfl wd_2_228 (by decide) if_0_14 ?_
  refine J.bipush (q := 6) (v := (40 : Int32)) O dX11_put_4 rfl rfl ?_
  refine J.icmp_lt (q := 9) (tgt := 16) O dX11_put_6 rfl (by decide) (fun z2 => ?_) (fun z2 => ?_)
  · replace h := h.1 z2
    refine J.aload_n (q := 17) O dX11_put_16 rfl 0 rfl ?_
    refine J.getR (q := 20) (c' := 0) (ci := 11) (k := 13) (r := 125) O dX11_put_17 rfl wd_2_227 (by decide) if_0_13 ?_
    refine J.aload_n (q := 21) O dX11_put_20 rfl 0 rfl ?_
    refine J.getI (q := 24) (c' := 0) (ci := 11) (k := 14) (M 0 14) rfl O dX11_put_21 rfl wd_2_228 (by decide) if_0_14 ?_
    refine J.iload_n (q := 25) O dX11_put_24 rfl 1 rfl ?_
    obtain ⟨hv3, h⟩ := h
    refine J.iast (q := 26) (c' := 125) (j := (M 0 14).toNatClampNeg) O dX11_put_25 rfl ar_125 hv3 rfl ?_
    refine J.aload_n (q := 27) O dX11_put_26 rfl 0 rfl ?_
    refine J.dup (q := 28) O dX11_put_27 rfl rfl ?_
    refine J.getI (q := 31) (c' := 0) (ci := 11) (k := 14) (M 0 14) rfl O dX11_put_28 rfl wd_2_228 (by decide) if_0_14 ?_
    refine J.iconst (q := 32) (v := (1 : Int32)) O dX11_put_31 rfl rfl ?_
    refine J.iadd (q := 33) O dX11_put_32 rfl ?_
    refine J.putI (q := 36) (c' := 0) (ci := 11) (k := 14) O dX11_put_33 rfl wd_2_228 (by decide) if_0_14 rfl rfl ?_
    refine J.aload_n (q := 37) O dX11_put_36 rfl 0 rfl ?_
    refine J.getI (q := 40) (c' := 0) (ci := 11) (k := 14) ((M 0 14) + (1 : Int32)) rfl O dX11_put_37 rfl wd_2_228 (by decide) if_0_14 ?_
    exact hR _ _ _ _ dX11_put_40 h
  · replace h := h.2 z2
    refine J.aload_n (q := 10) O dX11_put_9 rfl 0 rfl ?_
    refine J.bipush (q := 12) (v := (-6 : Int32)) O dX11_put_10 rfl rfl ?_
    refine J.callVI (q := 15) [.int (-6 : Int32)] [] [.int (-6 : Int32), .ref (ad G 0)] rfl O dX11_put_12 rfl (c_X11_refuse hG h) wd_3_27 mw_X11_refuse io_0 rfl (by decide) (Nat.le_of_ble_eq_true rfl) (fun v4 M4 h => ?_)
    exact hR _ _ _ _ dX11_put_15 h
set_option maxHeartbeats 4000000 in
set_option maxRecDepth 20000 in
theorem j_X11_check_b8 {X : CX} {G : GX} {K : Int32 → Mem → Prop} (hG : Gd G) (O : Ok X G cX11_check 5 RX11 4) (hR : RetI X G cX11_check K) {M : Mem} (h : f_X11_check_b8 K  M) : J X G M 8 [(0, .ref (ad G 0))] [] := by
  unfold f_X11_check_b8 at h
  refine J.aload_n (q := 9) O dX11_check_8 rfl 0 rfl ?_
  refine J.bipush (q := 11) (v := (-4 : Int32)) O dX11_check_9 rfl rfl ?_
  refine J.callVI (q := 14) [.int (-4 : Int32)] [] [.int (-4 : Int32), .ref (ad G 0)] rfl O dX11_check_11 rfl (c_X11_refuse hG h) wd_3_27 mw_X11_refuse io_0 rfl (by decide) (Nat.le_of_ble_eq_true rfl) (fun v4 M4 h => ?_)
  exact hR _ _ _ _ dX11_check_14 h
set_option maxHeartbeats 4000000 in
set_option maxRecDepth 20000 in
theorem j_X11_check_b31 {X : CX} {G : GX} {K : Int32 → Mem → Prop} (hG : Gd G) (O : Ok X G cX11_check 5 RX11 4) (hR : RetI X G cX11_check K) {M : Mem} (h : f_X11_check_b31 K  M) : J X G M 31 [(0, .ref (ad G 0))] [] := by
  unfold f_X11_check_b31 at h
  refine J.aload_n (q := 32) O dX11_check_31 rfl 0 rfl ?_
  refine J.bipush (q := 34) (v := (-3 : Int32)) O dX11_check_32 rfl rfl ?_
  refine J.callVI (q := 37) [.int (-3 : Int32)] [] [.int (-3 : Int32), .ref (ad G 0)] rfl O dX11_check_34 rfl (c_X11_refuse hG h) wd_3_27 mw_X11_refuse io_0 rfl (by decide) (Nat.le_of_ble_eq_true rfl) (fun v5 M5 h => ?_)
  exact hR _ _ _ _ dX11_check_37 h
set_option maxHeartbeats 4000000 in
set_option maxRecDepth 20000 in
theorem j_X11_check_b109 {X : CX} {G : GX} {K : Int32 → Mem → Prop} (hG : Gd G) (O : Ok X G cX11_check 5 RX11 4) (hR : RetI X G cX11_check K) {x4 : Int32} {M : Mem} (h : f_X11_check_b109 K x4 M) : J X G M 109 [(4, .int x4)] [] := by
  unfold f_X11_check_b109 at h
  refine J.iload (q := 111) O dX11_check_109 rfl 0 rfl ?_
  exact hR _ _ _ _ dX11_check_111 h
set_option maxHeartbeats 4000000 in
set_option maxRecDepth 20000 in
theorem j_X11_check_b118 {X : CX} {G : GX} {K : Int32 → Mem → Prop} (hG : Gd G) (O : Ok X G cX11_check 5 RX11 4) (hR : RetI X G cX11_check K) {M : Mem} (h : f_X11_check_b118 K  M) : J X G M 118 [] [] := by
  unfold f_X11_check_b118 at h
  refine J.bipush (q := 120) (v := (-9 : Int32)) O dX11_check_118 rfl rfl ?_
  exact hR _ _ _ _ dX11_check_120 h
set_option maxHeartbeats 4000000 in
set_option maxRecDepth 20000 in
theorem j_X11_check_c51 {X : CX} {G : GX} {K : Int32 → Mem → Prop} (hG : Gd G) (O : Ok X G cX11_check 5 RX11 4) (hR : RetI X G cX11_check K) {a : Int32 × Int32 × Int32 × Int32 × Mem} (h : Lp (fun (r51 : Int32 × Int32 × Int32 × Int32 × Mem → Prop) a => f_X11_check_c51 K r51 a.1 a.2.1 a.2.2.1 a.2.2.2.1 a.2.2.2.2) a) : J X G a.2.2.2.2 51 [(0, .ref (ad G 0)), (1, .int a.1), (2, .int a.2.1), (3, .int a.2.2.1), (4, .int a.2.2.2.1)] [] := by
  refine Lp.elim (P := fun a => J X G a.2.2.2.2 51 [(0, .ref (ad G 0)), (1, .int a.1), (2, .int a.2.1), (3, .int a.2.2.1), (4, .int a.2.2.2.1)] []) ?_ h
  clear h
  intro r51 hr51 a h
  obtain ⟨x1, x2, x3, x4, M⟩ := a
  unfold f_X11_check_c51 at h
  (try dsimp only at h ⊢)
  refine J.iload (q := 53) O dX11_check_51 rfl 4 rfl ?_
  refine J.iload_n (q := 54) O dX11_check_53 rfl 3 rfl ?_
  refine J.icmp_ge (q := 57) (tgt := 118) O dX11_check_54 rfl (by decide) (fun z6 => ?_) (fun z6 => ?_)
  · replace h := h.1 z6
    exact J.sub [] rfl (j_X11_check_b118 hG O hR h)
  · replace h := h.2 z6
    refine J.iload (q := 59) O dX11_check_57 rfl 4 rfl ?_
    refine J.bipush (q := 61) (v := (40 : Int32)) O dX11_check_59 rfl rfl ?_
    refine J.icmp_ge (q := 64) (tgt := 118) O dX11_check_61 rfl (by decide) (fun z7 => ?_) (fun z7 => ?_)
    · replace h := h.1 z7
      exact J.sub [] rfl (j_X11_check_b118 hG O hR h)
    · replace h := h.2 z7
      refine J.aload_n (q := 65) O dX11_check_64 rfl 0 rfl ?_
      refine J.iload (q := 67) O dX11_check_65 rfl 4 rfl ?_
      refine J.callVI (q := 70) [.int x4] [] [.int x4, .ref (ad G 0)] rfl O dX11_check_67 rfl (c_X11_isMatter hG h) wd_3_178 mw_X11_isMatter io_0 rfl (by decide) (Nat.le_of_ble_eq_true rfl) (fun v8 M8 h => ?_)
      refine J.if_eq (q := 73) (tgt := 109) O dX11_check_70 rfl (by decide) (fun z9 => ?_) (fun z9 => ?_)
      · replace h := h.1 z9
        exact J.sub [4] rfl (j_X11_check_b109 hG O hR h)
      · replace h := h.2 z9
        refine J.aload_n (q := 74) O dX11_check_73 rfl 0 rfl ?_
        refine J.getR (q := 77) (c' := 0) (ci := 11) (k := 4) (r := 61) O dX11_check_74 rfl wd_2_218 (by decide) if_0_4 ?_
        refine J.iload (q := 79) O dX11_check_77 rfl 4 rfl ?_
        obtain ⟨hv10, h⟩ := h
        refine J.aald (q := 80) (t := 0) (c' := 61) (b := 127) (d := 4) O dX11_check_79 rfl ar_61 hv10 ?_
        refine J.getI (q := 83) (c' := (127 + 4 * x4.toNatClampNeg)) (ci := 5) (k := 6) (M8 (127 + 4 * x4.toNatClampNeg) 6) rfl O dX11_check_80 rfl wd_2_172 (by decide) (isMat_F (isMat_of hv10) rfl) ?_
        refine J.iload_n (q := 84) O dX11_check_83 rfl 1 rfl ?_
        refine J.icmp_gt (q := 87) (tgt := 109) O dX11_check_84 rfl (by decide) (fun z11 => ?_) (fun z11 => ?_)
        · replace h := h.1 z11
          exact J.sub [4] rfl (j_X11_check_b109 hG O hR h)
        · replace h := h.2 z11
          refine J.aload_n (q := 88) O dX11_check_87 rfl 0 rfl ?_
          refine J.getR (q := 91) (c' := 0) (ci := 11) (k := 4) (r := 61) O dX11_check_88 rfl wd_2_218 (by decide) if_0_4 ?_
          refine J.iload (q := 93) O dX11_check_91 rfl 4 rfl ?_
          obtain ⟨hv12, h⟩ := h
          refine J.aald (q := 94) (t := 0) (c' := 61) (b := 127) (d := 4) O dX11_check_93 rfl ar_61 hv12 ?_
          refine J.iload_n (q := 95) O dX11_check_94 rfl 1 rfl ?_
          refine J.iload_n (q := 96) O dX11_check_95 rfl 2 rfl ?_
          refine J.callVI (q := 99) [.int x1, .int x2] [] [.int x2, .int x1, .ref (ad G (127 + 4 * x4.toNatClampNeg))] rfl O dX11_check_96 rfl (c_X5_stateOn hG h) wd_3_206 mw_X5_stateOn (isMat_O (isMat_of hv12)) rfl (by decide) (Nat.le_of_ble_eq_true rfl) (fun v13 M13 h => ?_)
          refine J.aload_n (q := 100) O dX11_check_99 rfl 0 rfl ?_
          refine J.getR (q := 103) (c' := 0) (ci := 11) (k := 13) (r := 125) O dX11_check_100 rfl wd_2_227 (by decide) if_0_13 ?_
          refine J.iload (q := 105) O dX11_check_103 rfl 4 rfl ?_
          obtain ⟨hv14, h⟩ := h
          refine J.iald (q := 106) (c' := 125) (j := x4.toNatClampNeg) (M13 125 x4.toNatClampNeg) rfl O dX11_check_105 rfl ar_125 hv14 rfl ?_
          refine J.icmp_eq (q := 109) (tgt := 112) O dX11_check_106 rfl (by decide) (fun z15 => ?_) (fun z15 => ?_)
          · replace h := h.1 z15
            refine J.iinc (q := 115) O dX11_check_112 rfl [(4, .int (x4 + (1 : Int32))), (0, .ref (ad G 0)), (1, .int x1), (2, .int x2), (3, .int x3)] 4 rfl rfl (by decide) rfl ?_
            refine J.goto (q := 51) O dX11_check_115 (by decide) ?_
            exact J.sub [1, 2, 3, 4, 0] rfl (hr51 _ h)
          · replace h := h.2 z15
            exact J.sub [4] rfl (j_X11_check_b109 hG O hR h)
set_option maxHeartbeats 4000000 in
set_option maxRecDepth 20000 in
theorem c_X11_check {l : Launch} {G : GX} (hG : Gd G) {a1 : Int32} {a2 : Int32} {M : Mem} {K : Int32 → Mem → Prop} (h : f_X11_check a1 a2 M K) : CI l G yX11_check cX11_check 5 (some .int) 4 [.ref (ad G 0), .int a1, .int a2] M K := by
  unfold f_X11_check at h
  refine CI.mk hG (by decide) [(0, .ref (ad G 0)), (1, .int a1), (2, .int a2)] rfl (Nat.le_of_ble_eq_true rfl) (fun X O hlX hR => ?_)
  subst hlX
  refine J.iload_n (q := 1) O dX11_check_0 rfl 1 rfl ?_
  refine J.if_lt (q := 4) (tgt := 8) O dX11_check_1 rfl (by decide) (fun z16 => ?_) (fun z16 => ?_)
  · replace h := h.1 z16
    exact J.sub [0] rfl (j_X11_check_b8 hG O hR h)
  · replace h := h.2 z16
    refine J.iload_n (q := 5) O dX11_check_4 rfl 2 rfl ?_
    refine J.if_ge (q := 8) (tgt := 15) O dX11_check_5 rfl (by decide) (fun z17 => ?_) (fun z17 => ?_)
    · replace h := h.1 z17
      refine J.iload_n (q := 16) O dX11_check_15 rfl 1 rfl ?_
      refine J.iload_n (q := 17) O dX11_check_16 rfl 2 rfl ?_
      refine J.icmp_gt (q := 20) (tgt := 31) O dX11_check_17 rfl (by decide) (fun z18 => ?_) (fun z18 => ?_)
      · replace h := h.1 z18
        exact J.sub [0] rfl (j_X11_check_b31 hG O hR h)
      · replace h := h.2 z18
        refine J.iload_n (q := 21) O dX11_check_20 rfl 2 rfl ?_
        refine J.aload_n (q := 22) O dX11_check_21 rfl 0 rfl ?_
        refine J.getR (q := 25) (c' := 0) (ci := 11) (k := 0) (r := 1) O dX11_check_22 rfl wd_2_214 (by decide) if_0_0 ?_
        refine J.getI (q := 28) (c' := 1) (ci := 3) (k := 0) (M 1 0) rfl O dX11_check_25 rfl wd_1_30 (by decide) if_1_0 ?_
        refine J.icmp_le (q := 31) (tgt := 38) O dX11_check_28 rfl (by decide) (fun z19 => ?_) (fun z19 => ?_)
        · replace h := h.1 z19
          refine J.aload_n (q := 39) O dX11_check_38 rfl 0 rfl ?_
          refine J.getI (q := 42) (c' := 0) (ci := 11) (k := 14) (M 0 14) rfl O dX11_check_39 rfl wd_2_228 (by decide) if_0_14 ?_
          refine J.istore_n (q := 43) O dX11_check_42 rfl [(3, .int (M 0 14)), (0, .ref (ad G 0)), (1, .int a1), (2, .int a2)] (by decide) rfl ?_
          refine J.aload_n (q := 44) O dX11_check_43 rfl 1 rfl ?_
          refine J.iconst (q := 45) (v := (0 : Int32)) O dX11_check_44 rfl rfl ?_
          refine J.putI (q := 48) (c' := 0) (ci := 11) (k := 14) O dX11_check_45 rfl wd_2_228 (by decide) if_0_14 rfl rfl ?_
          refine J.iconst (q := 49) (v := (0 : Int32)) O dX11_check_48 rfl rfl ?_
          refine J.istore (q := 51) O dX11_check_49 rfl [(4, .int (0 : Int32)), (3, .int (M 0 14)), (0, .ref (ad G 0)), (1, .int a1), (2, .int a2)] (by decide) rfl ?_
          exact J.sub [2, 3, 4, 1, 0] rfl (j_X11_check_c51 hG O hR h)
        · replace h := h.2 z19
          exact J.sub [0] rfl (j_X11_check_b31 hG O hR h)
    · replace h := h.2 z17
      exact J.sub [0] rfl (j_X11_check_b8 hG O hR h)
set_option maxHeartbeats 4000000 in
set_option maxRecDepth 20000 in
theorem j_X11_holds_b60 {X : CX} {G : GX} {K : Int32 → Mem → Prop} (hG : Gd G) (O : Ok X G cX11_holds 3 RX11 4) (hR : RetZ X G cX11_holds K) {s0 : Int32} {M : Mem} (h : f_X11_holds_b60 K s0 M) : J X G M 60 [] [.int s0] := by
  unfold f_X11_holds_b60 at h
  exact hR _ _ _ _ dX11_holds_60 h.1 h.2
set_option maxHeartbeats 4000000 in
set_option maxRecDepth 20000 in
theorem j_X11_holds_b59 {X : CX} {G : GX} {K : Int32 → Mem → Prop} (hG : Gd G) (O : Ok X G cX11_holds 3 RX11 4) (hR : RetZ X G cX11_holds K) {M : Mem} (h : f_X11_holds_b59 K  M) : J X G M 59 [] [] := by
  unfold f_X11_holds_b59 at h
  refine J.iconst (q := 60) (v := (0 : Int32)) O dX11_holds_59 rfl rfl ?_
  exact J.sub [] rfl (j_X11_holds_b60 hG O hR h)
set_option maxHeartbeats 4000000 in
set_option maxRecDepth 20000 in
theorem c_X11_holds {l : Launch} {G : GX} (hG : Gd G) {a1 : Int32} {M : Mem} {K : Int32 → Mem → Prop} (h : f_X11_holds a1 M K) : CI l G yX11_holds cX11_holds 3 (some .boolean) 4 [.ref (ad G 0), .int a1] M K := by
  unfold f_X11_holds at h
  refine CZ.mk hG (by decide) [(0, .ref (ad G 0)), (1, .int a1)] rfl (Nat.le_of_ble_eq_true rfl) (fun X O hlX hR => ?_)
  subst hlX
  refine J.aload_n (q := 1) O dX11_holds_0 rfl 0 rfl ?_
  refine J.getR (q := 4) (c' := 0) (ci := 11) (k := 6) (r := 62) O dX11_holds_1 rfl wd_2_220 (by decide) if_0_6 ?_
  refine J.getR (q := 7) (c' := 62) (ci := 1) (k := 1) (r := 63) O dX11_holds_4 rfl wd_1_210 (by decide) if_62_1 ?_
  refine J.iload_n (q := 8) O dX11_holds_7 rfl 1 rfl ?_
  obtain ⟨hv6, h⟩ := h
  refine J.iald (q := 9) (c' := 63) (j := a1.toNatClampNeg) (M 63 a1.toNatClampNeg) rfl O dX11_holds_8 rfl ar_63 hv6 rfl ?_
  refine J.istore_n (q := 10) O dX11_holds_9 rfl [(2, .int (M 63 a1.toNatClampNeg)), (0, .ref (ad G 0)), (1, .int a1)] (by decide) rfl ?_
  refine J.aload_n (q := 11) O dX11_holds_10 rfl 1 rfl ?_
  refine J.iload_n (q := 12) O dX11_holds_11 rfl 0 rfl ?_
  refine J.callVI (q := 15) [.int (M 63 a1.toNatClampNeg)] [] [.int (M 63 a1.toNatClampNeg), .ref (ad G 0)] rfl O dX11_holds_12 rfl (c_X11_isMatter hG h) wd_3_178 mw_X11_isMatter io_0 rfl (by decide) (Nat.le_of_ble_eq_true rfl) (fun v7 M7 h => ?_)
  refine J.if_eq (q := 18) (tgt := 59) O dX11_holds_15 rfl (by decide) (fun z8 => ?_) (fun z8 => ?_)
  · replace h := h.1 z8
    exact J.sub [] rfl (j_X11_holds_b59 hG O hR h)
  · replace h := h.2 z8
    refine J.aload_n (q := 19) O dX11_holds_18 rfl 1 rfl ?_
    refine J.getR (q := 22) (c' := 0) (ci := 11) (k := 4) (r := 61) O dX11_holds_19 rfl wd_2_218 (by decide) if_0_4 ?_
    refine J.iload_n (q := 23) O dX11_holds_22 rfl 0 rfl ?_
    obtain ⟨hv9, h⟩ := h
    refine J.aald (q := 24) (t := 0) (c' := 61) (b := 127) (d := 4) O dX11_holds_23 rfl ar_61 hv9 ?_
    refine J.aload_n (q := 25) O dX11_holds_24 rfl 1 rfl ?_
    refine J.getR (q := 28) (c' := 0) (ci := 11) (k := 4) (r := 61) O dX11_holds_25 rfl wd_2_218 (by decide) if_0_4 ?_
    refine J.iload_n (q := 29) O dX11_holds_28 rfl 0 rfl ?_
    obtain ⟨hv10, h⟩ := h
    refine J.aald (q := 30) (t := 0) (c' := 61) (b := 127) (d := 4) O dX11_holds_29 rfl ar_61 hv10 ?_
    refine J.aload_n (q := 31) O dX11_holds_30 rfl 1 rfl ?_
    refine J.getR (q := 34) (c' := 0) (ci := 11) (k := 6) (r := 62) O dX11_holds_31 rfl wd_2_220 (by decide) if_0_6 ?_
    refine J.getR (q := 37) (c' := 62) (ci := 1) (k := 5) (r := 67) O dX11_holds_34 rfl wd_1_215 (by decide) if_62_5 ?_
    refine J.iload_n (q := 38) O dX11_holds_37 rfl 2 rfl ?_
    obtain ⟨hv11, h⟩ := h
    refine J.iald (q := 39) (c' := 67) (j := a1.toNatClampNeg) (M7 67 a1.toNatClampNeg) rfl O dX11_holds_38 rfl ar_67 hv11 rfl ?_
    refine J.aload_n (q := 40) O dX11_holds_39 rfl 1 rfl ?_
    refine J.getR (q := 43) (c' := 0) (ci := 11) (k := 0) (r := 1) O dX11_holds_40 rfl wd_2_214 (by decide) if_0_0 ?_
    refine J.getI (q := 46) (c' := 1) (ci := 3) (k := 0) (M7 1 0) rfl O dX11_holds_43 rfl wd_1_30 (by decide) if_1_0 ?_
    refine J.callVI (q := 49) [.int (M7 67 a1.toNatClampNeg), .int (M7 1 0)] [.ref (ad G (127 + 4 * ((M 63 a1.toNatClampNeg).toNatClampNeg)))] [.int (M7 1 0), .int (M7 67 a1.toNatClampNeg), .ref (ad G (127 + 4 * ((M 63 a1.toNatClampNeg).toNatClampNeg))), .ref (ad G (127 + 4 * ((M 63 a1.toNatClampNeg).toNatClampNeg)))] rfl O dX11_holds_46 rfl (c_X5_stateOn hG h) wd_3_206 mw_X5_stateOn (isMat_O (isMat_of hv10)) rfl (by decide) (Nat.le_of_ble_eq_true rfl) (fun v12 M12 h => ?_)
    refine J.callVI (q := 52) [.int v12] [] [.int v12, .ref (ad G (127 + 4 * ((M 63 a1.toNatClampNeg).toNatClampNeg)))] rfl O dX11_holds_49 rfl (c_X5_lets hG h) wd_4_56 mw_X5_lets (isMat_O (isMat_of hv9)) rfl (by decide) (Nat.le_of_ble_eq_true rfl) (fun v13 M13 h => ?_)
    refine J.if_eq (q := 55) (tgt := 59) O dX11_holds_52 rfl (by decide) (fun z14 => ?_) (fun z14 => ?_)
    · replace h := h.1 z14
      exact J.sub [] rfl (j_X11_holds_b59 hG O hR h)
    · replace h := h.2 z14
      refine J.iconst (q := 56) (v := (1 : Int32)) O dX11_holds_55 rfl rfl ?_
      refine J.goto (q := 60) O dX11_holds_56 (by decide) ?_
      exact J.sub [] rfl (j_X11_holds_b60 hG O hR h)
set_option maxHeartbeats 4000000 in
set_option maxRecDepth 20000 in
theorem j_X11_countHolding_b26 {X : CX} {G : GX} {K : Int32 → Mem → Prop} (hG : Gd G) (O : Ok X G cX11_countHolding 3 RX11 5) (hR : RetI X G cX11_countHolding K) {r4 : Int32 × Int32 × Mem → Prop} (hr4 : ∀ a : Int32 × Int32 × Mem, r4 a → J X G a.2.2 4 [(0, .ref (ad G 0)), (1, .int a.1), (2, .int a.2.1)] []) {x1 : Int32} {x2 : Int32} {M : Mem} (h : f_X11_countHolding_b26 r4 K x1 x2 M) : J X G M 26 [(0, .ref (ad G 0)), (1, .int x1), (2, .int x2)] [] := by
  unfold f_X11_countHolding_b26 at h
  refine J.iinc (q := 29) O dX11_countHolding_26 rfl [(2, .int (x2 + (1 : Int32))), (0, .ref (ad G 0)), (1, .int x1)] 2 rfl rfl (by decide) rfl ?_
  refine J.goto (q := 4) O dX11_countHolding_29 (by decide) ?_
  exact J.sub [1, 2, 0] rfl (hr4 _ h)
set_option maxHeartbeats 4000000 in
set_option maxRecDepth 20000 in
theorem j_X11_countHolding_c4 {X : CX} {G : GX} {K : Int32 → Mem → Prop} (hG : Gd G) (O : Ok X G cX11_countHolding 3 RX11 5) (hR : RetI X G cX11_countHolding K) {a : Int32 × Int32 × Mem} (h : Lp (fun (r4 : Int32 × Int32 × Mem → Prop) a => f_X11_countHolding_c4 K r4 a.1 a.2.1 a.2.2) a) : J X G a.2.2 4 [(0, .ref (ad G 0)), (1, .int a.1), (2, .int a.2.1)] [] := by
  refine Lp.elim (P := fun a => J X G a.2.2 4 [(0, .ref (ad G 0)), (1, .int a.1), (2, .int a.2.1)] []) ?_ h
  clear h
  intro r4 hr4 a h
  obtain ⟨x1, x2, M⟩ := a
  unfold f_X11_countHolding_c4 at h
  (try dsimp only at h ⊢)
  refine J.iload_n (q := 5) O dX11_countHolding_4 rfl 2 rfl ?_
  refine J.aload_n (q := 6) O dX11_countHolding_5 rfl 0 rfl ?_
  refine J.getR (q := 9) (c' := 0) (ci := 11) (k := 6) (r := 62) O dX11_countHolding_6 rfl wd_2_220 (by decide) if_0_6 ?_
  refine J.getI (q := 12) (c' := 62) (ci := 1) (k := 0) (M 62 0) rfl O dX11_countHolding_9 rfl wd_1_208 (by decide) if_62_0 ?_
  refine J.icmp_ge (q := 15) (tgt := 32) O dX11_countHolding_12 rfl (by decide) (fun z1 => ?_) (fun z1 => ?_)
  · replace h := h.1 z1
    refine J.iload_n (q := 33) O dX11_countHolding_32 rfl 1 rfl ?_
    exact hR _ _ _ _ dX11_countHolding_33 h
  · replace h := h.2 z1
    refine J.aload_n (q := 16) O dX11_countHolding_15 rfl 0 rfl ?_
    refine J.iload_n (q := 17) O dX11_countHolding_16 rfl 2 rfl ?_
    refine J.callVI (q := 20) [.int x2] [] [.int x2, .ref (ad G 0)] rfl O dX11_countHolding_17 rfl (c_X11_holds hG h) wd_4_52 mw_X11_holds io_0 rfl (by decide) (Nat.le_of_ble_eq_true rfl) (fun v2 M2 h => ?_)
    refine J.if_eq (q := 23) (tgt := 26) O dX11_countHolding_20 rfl (by decide) (fun z3 => ?_) (fun z3 => ?_)
    · replace h := h.1 z3
      exact J.sub [0, 1, 2] rfl (j_X11_countHolding_b26 hG O hR hr4 h)
    · replace h := h.2 z3
      refine J.iinc (q := 26) O dX11_countHolding_23 rfl [(1, .int (x1 + (1 : Int32))), (0, .ref (ad G 0)), (2, .int x2)] 1 rfl rfl (by decide) rfl ?_
      exact J.sub [1, 0, 2] rfl (j_X11_countHolding_b26 hG O hR hr4 h)
set_option maxHeartbeats 4000000 in
set_option maxRecDepth 20000 in
theorem c_X11_countHolding {l : Launch} {G : GX} (hG : Gd G) {M : Mem} {K : Int32 → Mem → Prop} (h : f_X11_countHolding  M K) : CI l G yX11_countHolding cX11_countHolding 3 (some .int) 5 [.ref (ad G 0)] M K := by
  unfold f_X11_countHolding at h
  refine CI.mk hG (by decide) [(0, .ref (ad G 0))] rfl (Nat.le_of_ble_eq_true rfl) (fun X O hlX hR => ?_)
  subst hlX
  refine J.iconst (q := 1) (v := (0 : Int32)) O dX11_countHolding_0 rfl rfl ?_
  refine J.istore_n (q := 2) O dX11_countHolding_1 rfl [(1, .int (0 : Int32)), (0, .ref (ad G 0))] (by decide) rfl ?_
  refine J.iconst (q := 3) (v := (0 : Int32)) O dX11_countHolding_2 rfl rfl ?_
  refine J.istore_n (q := 4) O dX11_countHolding_3 rfl [(2, .int (0 : Int32)), (1, .int (0 : Int32)), (0, .ref (ad G 0))] (by decide) rfl ?_
  exact J.sub [2, 1, 0] rfl (j_X11_countHolding_c4 hG O hR h)
set_option maxHeartbeats 4000000 in
set_option maxRecDepth 20000 in
theorem j_X3_firstDayBeyond_c11 {X : CX} {G : GX} {K : Int32 → Mem → Prop} (hG : Gd G) (O : Ok X G cX3_firstDayBeyond 4 RX3 1) (hR : RetI X G cX3_firstDayBeyond K) {a : Int32 × Int32 × Int32 × Mem} (h : Lp (fun (r11 : Int32 × Int32 × Int32 × Mem → Prop) a => f_X3_firstDayBeyond_c11 K r11 a.1 a.2.1 a.2.2.1 a.2.2.2) a) : J X G a.2.2.2 11 [(0, .ref (ad G 1)), (1, .int a.1), (2, .int a.2.1), (3, .int a.2.2.1)] [] := by
  refine Lp.elim (P := fun a => J X G a.2.2.2 11 [(0, .ref (ad G 1)), (1, .int a.1), (2, .int a.2.1), (3, .int a.2.2.1)] []) ?_ h
  clear h
  intro r11 hr11 a h
  obtain ⟨x1, x2, x3, M⟩ := a
  unfold f_X3_firstDayBeyond_c11 at h
  (try dsimp only at h ⊢)
  refine J.iload_n (q := 12) O dX3_firstDayBeyond_11 rfl 3 rfl ?_
  refine J.sipush (q := 15) (v := (1000 : Int32)) O dX3_firstDayBeyond_12 rfl rfl ?_
  refine J.icmp_gt (q := 18) (tgt := 43) O dX3_firstDayBeyond_15 rfl (by decide) (fun z3 => ?_) (fun z3 => ?_)
  · replace h := h.1 z3
    refine J.ldc (q := 45) O dX3_firstDayBeyond_43 rfl wd_4_79 ?_
    exact hR _ _ _ _ dX3_firstDayBeyond_45 h
  · replace h := h.2 z3
    refine J.aload_n (q := 19) O dX3_firstDayBeyond_18 rfl 0 rfl ?_
    refine J.getR (q := 22) (c' := 1) (ci := 3) (k := 2) (r := 3) O dX3_firstDayBeyond_19 rfl wd_1_33 (by decide) if_1_2 ?_
    refine J.iload_n (q := 23) O dX3_firstDayBeyond_22 rfl 3 rfl ?_
    obtain ⟨hv4, h⟩ := h
    refine J.iald (q := 24) (c' := 3) (j := x3.toNatClampNeg) (M 3 x3.toNatClampNeg) rfl O dX3_firstDayBeyond_23 rfl ar_3 hv4 rfl ?_
    refine J.aload_n (q := 25) O dX3_firstDayBeyond_24 rfl 0 rfl ?_
    refine J.getR (q := 28) (c' := 1) (ci := 3) (k := 2) (r := 3) O dX3_firstDayBeyond_25 rfl wd_1_33 (by decide) if_1_2 ?_
    refine J.iload_n (q := 29) O dX3_firstDayBeyond_28 rfl 1 rfl ?_
    obtain ⟨hv5, h⟩ := h
    refine J.iald (q := 30) (c' := 3) (j := x1.toNatClampNeg) (M 3 x1.toNatClampNeg) rfl O dX3_firstDayBeyond_29 rfl ar_3 hv5 rfl ?_
    refine J.isub (q := 31) O dX3_firstDayBeyond_30 rfl ?_
    refine J.iload_n (q := 32) O dX3_firstDayBeyond_31 rfl 2 rfl ?_
    refine J.icmp_le (q := 35) (tgt := 37) O dX3_firstDayBeyond_32 rfl (by decide) (fun z6 => ?_) (fun z6 => ?_)
    · replace h := h.1 z6
      refine J.iinc (q := 40) O dX3_firstDayBeyond_37 rfl [(3, .int (x3 + (1 : Int32))), (0, .ref (ad G 1)), (1, .int x1), (2, .int x2)] 3 rfl rfl (by decide) rfl ?_
      refine J.goto (q := 11) O dX3_firstDayBeyond_40 (by decide) ?_
      exact J.sub [1, 2, 3, 0] rfl (hr11 _ h)
    · replace h := h.2 z6
      refine J.iload_n (q := 36) O dX3_firstDayBeyond_35 rfl 3 rfl ?_
      exact hR _ _ _ _ dX3_firstDayBeyond_36 h
set_option maxHeartbeats 4000000 in
set_option maxRecDepth 20000 in
theorem c_X3_firstDayBeyond {l : Launch} {G : GX} (hG : Gd G) {a1 : Int32} {a2 : Int32} {M : Mem} {K : Int32 → Mem → Prop} (h : f_X3_firstDayBeyond a1 a2 M K) : CI l G yX3_firstDayBeyond cX3_firstDayBeyond 4 (some .int) 1 [.ref (ad G 1), .int a1, .int a2] M K := by
  unfold f_X3_firstDayBeyond at h
  refine CI.mk hG (by decide) [(0, .ref (ad G 1)), (1, .int a1), (2, .int a2)] rfl (Nat.le_of_ble_eq_true rfl) (fun X O hlX hR => ?_)
  subst hlX
  refine J.iload_n (q := 1) O dX3_firstDayBeyond_0 rfl 1 rfl ?_
  refine J.if_ge (q := 4) (tgt := 7) O dX3_firstDayBeyond_1 rfl (by decide) (fun z7 => ?_) (fun z7 => ?_)
  · replace h := h.1 z7
    refine J.iload_n (q := 8) O dX3_firstDayBeyond_7 rfl 1 rfl ?_
    refine J.iconst (q := 9) (v := (1 : Int32)) O dX3_firstDayBeyond_8 rfl rfl ?_
    refine J.iadd (q := 10) O dX3_firstDayBeyond_9 rfl ?_
    refine J.istore_n (q := 11) O dX3_firstDayBeyond_10 rfl [(3, .int (a1 + (1 : Int32))), (0, .ref (ad G 1)), (1, .int a1), (2, .int a2)] (by decide) rfl ?_
    exact J.sub [1, 2, 3, 0] rfl (j_X3_firstDayBeyond_c11 hG O hR h)
  · replace h := h.2 z7
    refine J.ldc (q := 6) O dX3_firstDayBeyond_4 rfl wd_4_79 ?_
    exact hR _ _ _ _ dX3_firstDayBeyond_6 h
set_option maxHeartbeats 4000000 in
set_option maxRecDepth 20000 in
theorem j_X5_nextTurn_b34 {t : Nat} {X : CX} {G : GX} {K : Int32 → Mem → Prop} (hG : Gd G) (O : Ok X G cX5_nextTurn 4 RX5 3) (hR : RetI X G cX5_nextTurn K) (ht : isMat t) {r5 : Nat × Int32 × Int32 × Int32 × Mem → Prop} (hr5 : ∀ a : Nat × Int32 × Int32 × Int32 × Mem, r5 a → J X G a.2.2.2.2 5 [(0, .ref (ad G a.1)), (1, .int a.2.1), (2, .int a.2.2.1), (3, .int a.2.2.2.1)] []) {x0 : Nat} {x1 : Int32} {x2 : Int32} {x3 : Int32} {M : Mem} (h : f_X5_nextTurn_b34 t r5 K x0 x1 x2 x3 M) : J X G M 34 [(0, .ref (ad G x0)), (1, .int x1), (2, .int x2), (3, .int x3)] [] := by
  unfold f_X5_nextTurn_b34 at h
  obtain ⟨hx0, h⟩ := h
  refine J.iinc (q := 37) O dX5_nextTurn_34 rfl [(3, .int (x3 + (1 : Int32))), (0, .ref (ad G x0)), (1, .int x1), (2, .int x2)] 3 rfl rfl (by decide) rfl ?_
  refine J.goto (q := 5) O dX5_nextTurn_37 (by decide) ?_
  exact J.sub [1, 2, 3, 0] rfl (hr5 _ h)
set_option maxHeartbeats 4000000 in
set_option maxRecDepth 20000 in
theorem j_X5_nextTurn_b78 {t : Nat} {X : CX} {G : GX} {K : Int32 → Mem → Prop} (hG : Gd G) (O : Ok X G cX5_nextTurn 4 RX5 3) (hR : RetI X G cX5_nextTurn K) (ht : isMat t) {s0 : Int32} {M : Mem} (h : f_X5_nextTurn_b78 t K s0 M) : J X G M 78 [] [.int s0] := by
  unfold f_X5_nextTurn_b78 at h
  exact hR _ _ _ _ dX5_nextTurn_78 h
set_option maxHeartbeats 4000000 in
set_option maxRecDepth 20000 in
theorem j_X5_nextTurn_c5 {t : Nat} {X : CX} {G : GX} {K : Int32 → Mem → Prop} (hG : Gd G) (O : Ok X G cX5_nextTurn 4 RX5 3) (hR : RetI X G cX5_nextTurn K) (ht : isMat t) {a : Nat × Int32 × Int32 × Int32 × Mem} (h : Lp (fun (r5 : Nat × Int32 × Int32 × Int32 × Mem → Prop) a => f_X5_nextTurn_c5 t K r5 a.1 a.2.1 a.2.2.1 a.2.2.2.1 a.2.2.2.2) a) : J X G a.2.2.2.2 5 [(0, .ref (ad G a.1)), (1, .int a.2.1), (2, .int a.2.2.1), (3, .int a.2.2.2.1)] [] := by
  refine Lp.elim (P := fun a => J X G a.2.2.2.2 5 [(0, .ref (ad G a.1)), (1, .int a.2.1), (2, .int a.2.2.1), (3, .int a.2.2.2.1)] []) ?_ h
  clear h
  intro r5 hr5 a h
  obtain ⟨x0, x1, x2, x3, M⟩ := a
  unfold f_X5_nextTurn_c5 at h
  (try dsimp only at h ⊢)
  obtain ⟨hx0, h⟩ := h
  refine J.iload_n (q := 6) O dX5_nextTurn_5 rfl 3 rfl ?_
  refine J.aload_n (q := 7) O dX5_nextTurn_6 rfl 0 rfl ?_
  refine J.getI (q := 10) (c' := x0) (ci := 5) (k := 11) (M x0 11) rfl O dX5_nextTurn_7 rfl wd_2_178 (by decide) (isMat_F hx0 rfl) ?_
  refine J.icmp_ge (q := 13) (tgt := 40) O dX5_nextTurn_10 rfl (by decide) (fun z3 => ?_) (fun z3 => ?_)
  · replace h := h.1 z3
    refine J.aload_n (q := 41) O dX5_nextTurn_40 rfl 0 rfl ?_
    refine J.getR (q := 44) (c' := x0) (ci := 5) (k := 0) (r := 1) O dX5_nextTurn_41 rfl wd_2_162 (by decide) (isMat_F hx0 rfl) ?_
    refine J.aload_n (q := 45) O dX5_nextTurn_44 rfl 0 rfl ?_
    refine J.iload_n (q := 46) O dX5_nextTurn_45 rfl 1 rfl ?_
    refine J.aload_n (q := 47) O dX5_nextTurn_46 rfl 0 rfl ?_
    refine J.getR (q := 50) (c' := x0) (ci := 5) (k := 0) (r := 1) O dX5_nextTurn_47 rfl wd_2_162 (by decide) (isMat_F hx0 rfl) ?_
    refine J.getI (q := 53) (c' := 1) (ci := 3) (k := 0) (M 1 0) rfl O dX5_nextTurn_50 rfl wd_1_31 (by decide) if_1_0 ?_
    refine J.callVI (q := 56) [.int x1, .int (M 1 0)] [.ref (ad G 1)] [.int (M 1 0), .int x1, .ref (ad G x0), .ref (ad G 1)] rfl O dX5_nextTurn_53 rfl (c_X5_wholeSince hG h) wd_3_223 mw_X5_wholeSince (isMat_O hx0) rfl (by decide) (Nat.le_of_ble_eq_true rfl) (fun v4 M4 h => ?_)
    refine J.aload_n (q := 57) O dX5_nextTurn_56 rfl 0 rfl ?_
    refine J.getI (q := 60) (c' := x0) (ci := 5) (k := 9) (M4 x0 9) rfl O dX5_nextTurn_57 rfl wd_2_176 (by decide) (isMat_F hx0 rfl) ?_
    refine J.callVI (q := 63) [.int v4, .int (M4 x0 9)] [] [.int (M4 x0 9), .int v4, .ref (ad G 1)] rfl O dX5_nextTurn_60 rfl (c_X3_firstDayBeyond hG h) wd_4_75 mw_X3_firstDayBeyond io_1 rfl (by decide) (Nat.le_of_ble_eq_true rfl) (fun v5 M5 h => ?_)
    refine J.istore_n (q := 64) O dX5_nextTurn_63 rfl [(3, .int v5), (0, .ref (ad G x0)), (1, .int x1), (2, .int x2)] (by decide) rfl ?_
    refine J.iload_n (q := 65) O dX5_nextTurn_64 rfl 0 rfl ?_
    refine J.iload_n (q := 66) O dX5_nextTurn_65 rfl 2 rfl ?_
    refine J.icmp_le (q := 69) (tgt := 77) O dX5_nextTurn_66 rfl (by decide) (fun z6 => ?_) (fun z6 => ?_)
    · replace h := h.1 z6
      refine J.iload_n (q := 78) O dX5_nextTurn_77 rfl 3 rfl ?_
      exact J.sub [] rfl (j_X5_nextTurn_b78 hG O hR ht h)
    · replace h := h.2 z6
      refine J.iload_n (q := 70) O dX5_nextTurn_69 rfl 3 rfl ?_
      refine J.iload_n (q := 71) O dX5_nextTurn_70 rfl 0 rfl ?_
      refine J.mmin (q := 74) O dX5_nextTurn_71 rfl wd_4_74 (by decide) (Nat.le_of_ble_eq_true rfl) ?_
      refine J.goto (q := 78) O dX5_nextTurn_74 (by decide) ?_
      exact J.sub [] rfl (j_X5_nextTurn_b78 hG O hR ht h)
  · replace h := h.2 z3
    refine J.aload_n (q := 14) O dX5_nextTurn_13 rfl 0 rfl ?_
    refine J.getR (q := 17) (c' := x0) (ci := 5) (k := 14) (r := (x0 + 3)) O dX5_nextTurn_14 rfl wd_2_182 (by decide) (isMat_F hx0 rfl) ?_
    refine J.iload_n (q := 18) O dX5_nextTurn_17 rfl 3 rfl ?_
    obtain ⟨hv7, h⟩ := h
    refine J.iald (q := 19) (c' := (x0 + 3)) (j := x3.toNatClampNeg) (M (x0 + 3) x3.toNatClampNeg) rfl O dX5_nextTurn_18 rfl (isMat_A hx0 (by decide) (by decide)) hv7 rfl ?_
    refine J.iload_n (q := 20) O dX5_nextTurn_19 rfl 1 rfl ?_
    refine J.icmp_le (q := 23) (tgt := 34) O dX5_nextTurn_20 rfl (by decide) (fun z8 => ?_) (fun z8 => ?_)
    · replace h := h.1 z8
      exact J.sub [0, 1, 2, 3] rfl (j_X5_nextTurn_b34 hG O hR ht hr5 h)
    · replace h := h.2 z8
      refine J.iload_n (q := 24) O dX5_nextTurn_23 rfl 2 rfl ?_
      refine J.aload_n (q := 25) O dX5_nextTurn_24 rfl 0 rfl ?_
      refine J.getR (q := 28) (c' := x0) (ci := 5) (k := 14) (r := (x0 + 3)) O dX5_nextTurn_25 rfl wd_2_182 (by decide) (isMat_F hx0 rfl) ?_
      refine J.iload_n (q := 29) O dX5_nextTurn_28 rfl 3 rfl ?_
      obtain ⟨hv9, h⟩ := h
      refine J.iald (q := 30) (c' := (x0 + 3)) (j := x3.toNatClampNeg) (M (x0 + 3) x3.toNatClampNeg) rfl O dX5_nextTurn_29 rfl (isMat_A hx0 (by decide) (by decide)) hv9 rfl ?_
      refine J.mmin (q := 33) O dX5_nextTurn_30 rfl wd_4_74 (by decide) (Nat.le_of_ble_eq_true rfl) ?_
      refine J.istore_n (q := 34) O dX5_nextTurn_33 rfl [(2, .int (if (M (x0 + 3) x3.toNatClampNeg) < x2 then (M (x0 + 3) x3.toNatClampNeg) else x2)), (0, .ref (ad G x0)), (1, .int x1), (3, .int x3)] (by decide) rfl ?_
      exact J.sub [1, 2, 0, 3] rfl (j_X5_nextTurn_b34 hG O hR ht hr5 h)
set_option maxHeartbeats 4000000 in
set_option maxRecDepth 20000 in
theorem c_X5_nextTurn {l : Launch} {G : GX} (hG : Gd G) {t : Nat} {a1 : Int32} {M : Mem} {K : Int32 → Mem → Prop} (h : f_X5_nextTurn t a1 M K) : CI l G yX5_nextTurn cX5_nextTurn 4 (some .int) 3 [.ref (ad G t), .int a1] M K := by
  unfold f_X5_nextTurn at h
  obtain ⟨ht, h⟩ := h
  refine CI.mk hG (by decide) [(0, .ref (ad G t)), (1, .int a1)] rfl (Nat.le_of_ble_eq_true rfl) (fun X O hlX hR => ?_)
  subst hlX
  refine J.ldc (q := 2) O dX5_nextTurn_0 rfl wd_4_73 ?_
  refine J.istore_n (q := 3) O dX5_nextTurn_2 rfl [(2, .int (1000000 : Int32)), (0, .ref (ad G t)), (1, .int a1)] (by decide) rfl ?_
  refine J.iconst (q := 4) (v := (0 : Int32)) O dX5_nextTurn_3 rfl rfl ?_
  refine J.istore_n (q := 5) O dX5_nextTurn_4 rfl [(3, .int (0 : Int32)), (2, .int (1000000 : Int32)), (0, .ref (ad G t)), (1, .int a1)] (by decide) rfl ?_
  exact J.sub [2, 3, 1, 0] rfl (j_X5_nextTurn_c5 hG O hR ht h)
set_option maxHeartbeats 4000000 in
set_option maxRecDepth 20000 in
theorem j_X5_firstNotLetting_c5 {t : Nat} {X : CX} {G : GX} {K : Int32 → Mem → Prop} (hG : Gd G) (O : Ok X G cX5_firstNotLetting 5 RX5 4) (hR : RetI X G cX5_firstNotLetting K) (ht : isMat t) {a : Nat × Int32 × Int32 × Int32 × Mem} (h : Lp (fun (r5 : Nat × Int32 × Int32 × Int32 × Mem → Prop) a => f_X5_firstNotLetting_c5 t K r5 a.1 a.2.1 a.2.2.1 a.2.2.2.1 a.2.2.2.2) a) : J X G a.2.2.2.2 5 [(0, .ref (ad G a.1)), (2, .int a.2.1), (3, .int a.2.2.1), (4, .int a.2.2.2.1)] [] := by
  refine Lp.elim (P := fun a => J X G a.2.2.2.2 5 [(0, .ref (ad G a.1)), (2, .int a.2.1), (3, .int a.2.2.1), (4, .int a.2.2.2.1)] []) ?_ h
  clear h
  intro r5 hr5 a h
  obtain ⟨x0, x2, x3, x4, M⟩ := a
  unfold f_X5_firstNotLetting_c5 at h
  (try dsimp only at h ⊢)
  obtain ⟨hx0, h⟩ := h
  refine J.iload (q := 7) O dX5_firstNotLetting_5 rfl 3 rfl ?_
  refine J.bipush (q := 9) (v := (62 : Int32)) O dX5_firstNotLetting_7 rfl rfl ?_
  refine J.icmp_gt (q := 12) (tgt := 53) O dX5_firstNotLetting_9 rfl (by decide) (fun z1 => ?_) (fun z1 => ?_)
  · replace h := h.1 z1
    refine J.bipush (q := 55) (v := (-9 : Int32)) O dX5_firstNotLetting_53 rfl rfl ?_
    exact hR _ _ _ _ dX5_firstNotLetting_55 h
  · replace h := h.2 z1
    refine J.iload_n (q := 13) O dX5_firstNotLetting_12 rfl 2 rfl ?_
    refine J.iload_n (q := 14) O dX5_firstNotLetting_13 rfl 1 rfl ?_
    refine J.icmp_le (q := 17) (tgt := 20) O dX5_firstNotLetting_14 rfl (by decide) (fun z2 => ?_) (fun z2 => ?_)
    · replace h := h.1 z2
      refine J.aload_n (q := 21) O dX5_firstNotLetting_20 rfl 0 rfl ?_
      refine J.aload_n (q := 22) O dX5_firstNotLetting_21 rfl 0 rfl ?_
      refine J.iload_n (q := 23) O dX5_firstNotLetting_22 rfl 2 rfl ?_
      refine J.aload_n (q := 24) O dX5_firstNotLetting_23 rfl 0 rfl ?_
      refine J.getR (q := 27) (c' := x0) (ci := 5) (k := 0) (r := 1) O dX5_firstNotLetting_24 rfl wd_2_162 (by decide) (isMat_F hx0 rfl) ?_
      refine J.getI (q := 30) (c' := 1) (ci := 3) (k := 0) (M 1 0) rfl O dX5_firstNotLetting_27 rfl wd_1_31 (by decide) if_1_0 ?_
      refine J.callVI (q := 33) [.int x3, .int (M 1 0)] [.ref (ad G x0)] [.int (M 1 0), .int x3, .ref (ad G x0), .ref (ad G x0)] rfl O dX5_firstNotLetting_30 rfl (c_X5_stateOn hG h) wd_4_4 mw_X5_stateOn (isMat_O hx0) rfl (by decide) (Nat.le_of_ble_eq_true rfl) (fun v3 M3 h => ?_)
      refine J.callVI (q := 36) [.int v3] [] [.int v3, .ref (ad G x0)] rfl O dX5_firstNotLetting_33 rfl (c_X5_lets hG h) wd_4_5 mw_X5_lets (isMat_O hx0) rfl (by decide) (Nat.le_of_ble_eq_true rfl) (fun v4 M4 h => ?_)
      refine J.if_ne (q := 39) (tgt := 41) O dX5_firstNotLetting_36 rfl (by decide) (fun z5 => ?_) (fun z5 => ?_)
      · replace h := h.1 z5
        refine J.aload_n (q := 42) O dX5_firstNotLetting_41 rfl 0 rfl ?_
        refine J.iload_n (q := 43) O dX5_firstNotLetting_42 rfl 2 rfl ?_
        refine J.callVI (q := 46) [.int x3] [] [.int x3, .ref (ad G x0)] rfl O dX5_firstNotLetting_43 rfl (c_X5_nextTurn hG h) wd_4_69 mw_X5_nextTurn (isMat_O hx0) rfl (by decide) (Nat.le_of_ble_eq_true rfl) (fun v6 M6 h => ?_)
        refine J.istore_n (q := 47) O dX5_firstNotLetting_46 rfl [(3, .int v6), (0, .ref (ad G x0)), (2, .int x2), (4, .int x4)] (by decide) rfl ?_
        refine J.iinc (q := 50) O dX5_firstNotLetting_47 rfl [(4, .int (x4 + (1 : Int32))), (3, .int v6), (0, .ref (ad G x0)), (2, .int x2)] 3 rfl rfl (by decide) rfl ?_
        refine J.goto (q := 5) O dX5_firstNotLetting_50 (by decide) ?_
        exact J.sub [2, 3, 1, 0] rfl (hr5 _ h)
      · replace h := h.2 z5
        refine J.iload_n (q := 40) O dX5_firstNotLetting_39 rfl 2 rfl ?_
        exact hR _ _ _ _ dX5_firstNotLetting_40 h
    · replace h := h.2 z2
      refine J.bipush (q := 19) (v := (-9 : Int32)) O dX5_firstNotLetting_17 rfl rfl ?_
      exact hR _ _ _ _ dX5_firstNotLetting_19 h
set_option maxHeartbeats 4000000 in
set_option maxRecDepth 20000 in
theorem c_X5_firstNotLetting {l : Launch} {G : GX} (hG : Gd G) {t : Nat} {a1 : Int32} {a2 : Int32} {M : Mem} {K : Int32 → Mem → Prop} (h : f_X5_firstNotLetting t a1 a2 M K) : CI l G yX5_firstNotLetting cX5_firstNotLetting 5 (some .int) 4 [.ref (ad G t), .int a1, .int a2] M K := by
  unfold f_X5_firstNotLetting at h
  obtain ⟨ht, h⟩ := h
  refine CI.mk hG (by decide) [(0, .ref (ad G t)), (1, .int a1), (2, .int a2)] rfl (Nat.le_of_ble_eq_true rfl) (fun X O hlX hR => ?_)
  subst hlX
  refine J.iload_n (q := 1) O dX5_firstNotLetting_0 rfl 1 rfl ?_
  refine J.istore_n (q := 2) O dX5_firstNotLetting_1 rfl [(3, .int a1), (0, .ref (ad G t)), (1, .int a1), (2, .int a2)] (by decide) rfl ?_
  refine J.iconst (q := 3) (v := (0 : Int32)) O dX5_firstNotLetting_2 rfl rfl ?_
  refine J.istore (q := 5) O dX5_firstNotLetting_3 rfl [(4, .int (0 : Int32)), (3, .int a1), (0, .ref (ad G t)), (1, .int a1), (2, .int a2)] (by decide) rfl ?_
  exact J.sub [2, 4, 1, 0] rfl (j_X5_firstNotLetting_c5 hG O hR ht h)
set_option maxHeartbeats 4000000 in
set_option maxRecDepth 20000 in
theorem j_X11_voidSince_b44 {X : CX} {G : GX} {K : Int32 → Mem → Prop} (hG : Gd G) (O : Ok X G cX11_voidSince 4 RX11 5) (hR : RetI X G cX11_voidSince K) {s0 : Int32} {M : Mem} (h : f_X11_voidSince_b44 K s0 M) : J X G M 44 [] [.int s0] := by
  unfold f_X11_voidSince_b44 at h
  exact hR _ _ _ _ dX11_voidSince_44 h
set_option maxHeartbeats 4000000 in
set_option maxRecDepth 20000 in
theorem j_X11_voidSince_b95 {X : CX} {G : GX} {K : Int32 → Mem → Prop} (hG : Gd G) (O : Ok X G cX11_voidSince 4 RX11 5) (hR : RetI X G cX11_voidSince K) {x2 : Int32} {M : Mem} (h : f_X11_voidSince_b95 K x2 M) : J X G M 95 [(2, .int x2)] [] := by
  unfold f_X11_voidSince_b95 at h
  refine J.iload_n (q := 96) O dX11_voidSince_95 rfl 0 rfl ?_
  exact hR _ _ _ _ dX11_voidSince_96 h
set_option maxHeartbeats 4000000 in
set_option maxRecDepth 20000 in
theorem j_X11_voidSince_b118 {X : CX} {G : GX} {K : Int32 → Mem → Prop} (hG : Gd G) (O : Ok X G cX11_voidSince 4 RX11 5) (hR : RetI X G cX11_voidSince K) {s0 : Int32} {s1 : Int32} {s2 : Nat} {M : Mem} (h : f_X11_voidSince_b118 K s0 s1 s2 M) : J X G M 118 [] [.int s0, .int s1, .ref (ad G s2)] := by
  unfold f_X11_voidSince_b118 at h
  obtain ⟨hs2, h⟩ := h
  refine J.callVI (q := 121) [.int s1, .int s0] [] [.int s0, .int s1, .ref (ad G s2)] rfl O dX11_voidSince_118 rfl (c_X5_firstNotLetting hG h) wd_4_65 mw_X5_firstNotLetting (isMat_O hs2) rfl (by decide) (Nat.le_of_ble_eq_true rfl) (fun v8 M8 h => ?_)
  exact hR _ _ _ _ dX11_voidSince_121 h
set_option maxHeartbeats 4000000 in
set_option maxRecDepth 20000 in
theorem c_X11_voidSince {l : Launch} {G : GX} (hG : Gd G) {a1 : Int32} {M : Mem} {K : Int32 → Mem → Prop} (h : f_X11_voidSince a1 M K) : CI l G yX11_voidSince cX11_voidSince 4 (some .int) 5 [.ref (ad G 0), .int a1] M K := by
  unfold f_X11_voidSince at h
  refine CI.mk hG (by decide) [(0, .ref (ad G 0)), (1, .int a1)] rfl (Nat.le_of_ble_eq_true rfl) (fun X O hlX hR => ?_)
  subst hlX
  refine J.aload_n (q := 1) O dX11_voidSince_0 rfl 0 rfl ?_
  refine J.getR (q := 4) (c' := 0) (ci := 11) (k := 7) (r := 72) O dX11_voidSince_1 rfl wd_2_221 (by decide) if_0_7 ?_
  refine J.getR (q := 7) (c' := 72) (ci := 4) (k := 2) (r := 74) O dX11_voidSince_4 rfl wd_2_12 (by decide) if_72_2 ?_
  refine J.iload_n (q := 8) O dX11_voidSince_7 rfl 1 rfl ?_
  obtain ⟨hv9, h⟩ := h
  refine J.iald (q := 9) (c' := 74) (j := a1.toNatClampNeg) (M 74 a1.toNatClampNeg) rfl O dX11_voidSince_8 rfl ar_74 hv9 rfl ?_
  refine J.istore_n (q := 10) O dX11_voidSince_9 rfl [(2, .int (M 74 a1.toNatClampNeg)), (0, .ref (ad G 0)), (1, .int a1)] (by decide) rfl ?_
  refine J.aload_n (q := 11) O dX11_voidSince_10 rfl 1 rfl ?_
  refine J.aload_n (q := 12) O dX11_voidSince_11 rfl 1 rfl ?_
  refine J.getR (q := 15) (c' := 0) (ci := 11) (k := 7) (r := 72) O dX11_voidSince_12 rfl wd_2_221 (by decide) if_0_7 ?_
  refine J.getR (q := 18) (c' := 72) (ci := 4) (k := 1) (r := 73) O dX11_voidSince_15 rfl wd_2_10 (by decide) if_72_1 ?_
  refine J.iload_n (q := 19) O dX11_voidSince_18 rfl 2 rfl ?_
  obtain ⟨hv10, h⟩ := h
  refine J.iald (q := 20) (c' := 73) (j := a1.toNatClampNeg) (M 73 a1.toNatClampNeg) rfl O dX11_voidSince_19 rfl ar_73 hv10 rfl ?_
  refine J.callVI (q := 23) [.int (M 73 a1.toNatClampNeg)] [] [.int (M 73 a1.toNatClampNeg), .ref (ad G 0)] rfl O dX11_voidSince_20 rfl (c_X11_isMatter hG h) wd_3_178 mw_X11_isMatter io_0 rfl (by decide) (Nat.le_of_ble_eq_true rfl) (fun v11 M11 h => ?_)
  refine J.if_ne (q := 26) (tgt := 45) O dX11_voidSince_23 rfl (by decide) (fun z12 => ?_) (fun z12 => ?_)
  · replace h := h.1 z12
    refine J.aload_n (q := 46) O dX11_voidSince_45 rfl 1 rfl ?_
    refine J.getR (q := 49) (c' := 0) (ci := 11) (k := 4) (r := 61) O dX11_voidSince_46 rfl wd_2_218 (by decide) if_0_4 ?_
    refine J.aload_n (q := 50) O dX11_voidSince_49 rfl 1 rfl ?_
    refine J.getR (q := 53) (c' := 0) (ci := 11) (k := 7) (r := 72) O dX11_voidSince_50 rfl wd_2_221 (by decide) if_0_7 ?_
    refine J.getR (q := 56) (c' := 72) (ci := 4) (k := 1) (r := 73) O dX11_voidSince_53 rfl wd_2_10 (by decide) if_72_1 ?_
    refine J.iload_n (q := 57) O dX11_voidSince_56 rfl 2 rfl ?_
    obtain ⟨hv13, h⟩ := h
    refine J.iald (q := 58) (c' := 73) (j := a1.toNatClampNeg) (M11 73 a1.toNatClampNeg) rfl O dX11_voidSince_57 rfl ar_73 hv13 rfl ?_
    obtain ⟨hv14, h⟩ := h
    refine J.aald (q := 59) (t := 0) (c' := 61) (b := 127) (d := 4) O dX11_voidSince_58 rfl ar_61 hv14 ?_
    refine J.astore_n (q := 60) O dX11_voidSince_59 rfl [(3, .ref (ad G (127 + 4 * ((M11 73 a1.toNatClampNeg).toNatClampNeg)))), (2, .int (M 74 a1.toNatClampNeg)), (0, .ref (ad G 0)), (1, .int a1)] (by decide) rfl ?_
    refine J.aload_n (q := 61) O dX11_voidSince_60 rfl 2 rfl ?_
    refine J.getR (q := 64) (c' := 0) (ci := 11) (k := 7) (r := 72) O dX11_voidSince_61 rfl wd_2_221 (by decide) if_0_7 ?_
    refine J.getR (q := 67) (c' := 72) (ci := 4) (k := 3) (r := 75) O dX11_voidSince_64 rfl wd_2_14 (by decide) if_72_3 ?_
    refine J.iload_n (q := 68) O dX11_voidSince_67 rfl 3 rfl ?_
    obtain ⟨hv15, h⟩ := h
    refine J.iald (q := 69) (c' := 75) (j := a1.toNatClampNeg) (M11 75 a1.toNatClampNeg) rfl O dX11_voidSince_68 rfl ar_75 hv15 rfl ?_
    refine J.aload_n (q := 70) O dX11_voidSince_69 rfl 0 rfl ?_
    refine J.getI (q := 73) (c' := (127 + 4 * ((M11 73 a1.toNatClampNeg).toNatClampNeg))) (ci := 5) (k := 3) (M11 (127 + 4 * ((M11 73 a1.toNatClampNeg).toNatClampNeg)) 3) rfl O dX11_voidSince_70 rfl wd_2_166 (by decide) (isMat_F (isMat_of hv14) rfl) ?_
    refine J.iconst (q := 74) (v := (-1 : Int32)) O dX11_voidSince_73 rfl rfl ?_
    refine J.ixor (q := 75) O dX11_voidSince_74 rfl ?_
    refine J.iand (q := 76) O dX11_voidSince_75 rfl ?_
    refine J.if_ne (q := 79) (tgt := 95) O dX11_voidSince_76 rfl (by decide) (fun z16 => ?_) (fun z16 => ?_)
    · replace h := h.1 z16
      exact J.sub [1] rfl (j_X11_voidSince_b95 hG O hR h)
    · replace h := h.2 z16
      refine J.aload_n (q := 80) O dX11_voidSince_79 rfl 2 rfl ?_
      refine J.getR (q := 83) (c' := 0) (ci := 11) (k := 7) (r := 72) O dX11_voidSince_80 rfl wd_2_221 (by decide) if_0_7 ?_
      refine J.getR (q := 86) (c' := 72) (ci := 4) (k := 4) (r := 76) O dX11_voidSince_83 rfl wd_2_16 (by decide) if_72_4 ?_
      refine J.iload_n (q := 87) O dX11_voidSince_86 rfl 3 rfl ?_
      obtain ⟨hv17, h⟩ := h
      refine J.iald (q := 88) (c' := 76) (j := a1.toNatClampNeg) (M11 76 a1.toNatClampNeg) rfl O dX11_voidSince_87 rfl ar_76 hv17 rfl ?_
      refine J.aload_n (q := 89) O dX11_voidSince_88 rfl 0 rfl ?_
      refine J.getI (q := 92) (c' := (127 + 4 * ((M11 73 a1.toNatClampNeg).toNatClampNeg))) (ci := 5) (k := 4) (M11 (127 + 4 * ((M11 73 a1.toNatClampNeg).toNatClampNeg)) 4) rfl O dX11_voidSince_89 rfl wd_2_168 (by decide) (isMat_F (isMat_of hv14) rfl) ?_
      refine J.icmp_le (q := 95) (tgt := 97) O dX11_voidSince_92 rfl (by decide) (fun z18 => ?_) (fun z18 => ?_)
      · replace h := h.1 z18
        refine J.aload_n (q := 98) O dX11_voidSince_97 rfl 0 rfl ?_
        refine J.iload_n (q := 99) O dX11_voidSince_98 rfl 1 rfl ?_
        refine J.aload_n (q := 100) O dX11_voidSince_99 rfl 0 rfl ?_
        refine J.getI (q := 103) (c' := (127 + 4 * ((M11 73 a1.toNatClampNeg).toNatClampNeg))) (ci := 5) (k := 7) (M11 (127 + 4 * ((M11 73 a1.toNatClampNeg).toNatClampNeg)) 7) rfl O dX11_voidSince_100 rfl wd_2_174 (by decide) (isMat_F (isMat_of hv14) rfl) ?_
        refine J.iconst (q := 104) (v := (4 : Int32)) O dX11_voidSince_103 rfl rfl ?_
        refine J.icmp_ne (q := 107) (tgt := 117) O dX11_voidSince_104 rfl (by decide) (fun z19 => ?_) (fun z19 => ?_)
        · replace h := h.1 z19
          refine J.iload_n (q := 118) O dX11_voidSince_117 rfl 1 rfl ?_
          exact J.sub [] rfl (j_X11_voidSince_b118 hG O hR h)
        · replace h := h.2 z19
          refine J.aload_n (q := 108) O dX11_voidSince_107 rfl 2 rfl ?_
          refine J.getR (q := 111) (c' := 0) (ci := 11) (k := 0) (r := 1) O dX11_voidSince_108 rfl wd_2_214 (by decide) if_0_0 ?_
          refine J.getI (q := 114) (c' := 1) (ci := 3) (k := 0) (M11 1 0) rfl O dX11_voidSince_111 rfl wd_1_30 (by decide) if_1_0 ?_
          refine J.goto (q := 118) O dX11_voidSince_114 (by decide) ?_
          exact J.sub [] rfl (j_X11_voidSince_b118 hG O hR h)
      · replace h := h.2 z18
        exact J.sub [1] rfl (j_X11_voidSince_b95 hG O hR h)
  · replace h := h.2 z12
    refine J.aload_n (q := 27) O dX11_voidSince_26 rfl 1 rfl ?_
    refine J.getR (q := 30) (c' := 0) (ci := 11) (k := 7) (r := 72) O dX11_voidSince_27 rfl wd_2_221 (by decide) if_0_7 ?_
    refine J.getR (q := 33) (c' := 72) (ci := 4) (k := 5) (r := 77) O dX11_voidSince_30 rfl wd_2_18 (by decide) if_72_5 ?_
    refine J.iload_n (q := 34) O dX11_voidSince_33 rfl 2 rfl ?_
    obtain ⟨hv20, h⟩ := h
    refine J.zald (q := 35) (c' := 77) (j := a1.toNatClampNeg) (M11 77 a1.toNatClampNeg) rfl O dX11_voidSince_34 rfl ar_77 hv20 rfl ?_
    refine J.if_eq (q := 38) (tgt := 42) O dX11_voidSince_35 rfl (by decide) (fun z21 => ?_) (fun z21 => ?_)
    · replace h := h.1 z21
      refine J.bipush (q := 44) (v := (-9 : Int32)) O dX11_voidSince_42 rfl rfl ?_
      exact J.sub [] rfl (j_X11_voidSince_b44 hG O hR h)
    · replace h := h.2 z21
      refine J.iload_n (q := 39) O dX11_voidSince_38 rfl 0 rfl ?_
      refine J.goto (q := 44) O dX11_voidSince_39 (by decide) ?_
      exact J.sub [] rfl (j_X11_voidSince_b44 hG O hR h)
set_option maxHeartbeats 4000000 in
set_option maxRecDepth 20000 in
theorem j_X11_countVoid_b28 {X : CX} {G : GX} {K : Int32 → Mem → Prop} (hG : Gd G) (O : Ok X G cX11_countVoid 3 RX11 6) (hR : RetI X G cX11_countVoid K) {r4 : Int32 × Int32 × Mem → Prop} (hr4 : ∀ a : Int32 × Int32 × Mem, r4 a → J X G a.2.2 4 [(0, .ref (ad G 0)), (1, .int a.1), (2, .int a.2.1)] []) {x1 : Int32} {x2 : Int32} {M : Mem} (h : f_X11_countVoid_b28 r4 K x1 x2 M) : J X G M 28 [(0, .ref (ad G 0)), (1, .int x1), (2, .int x2)] [] := by
  unfold f_X11_countVoid_b28 at h
  refine J.iinc (q := 31) O dX11_countVoid_28 rfl [(2, .int (x2 + (1 : Int32))), (0, .ref (ad G 0)), (1, .int x1)] 2 rfl rfl (by decide) rfl ?_
  refine J.goto (q := 4) O dX11_countVoid_31 (by decide) ?_
  exact J.sub [1, 2, 0] rfl (hr4 _ h)
set_option maxHeartbeats 4000000 in
set_option maxRecDepth 20000 in
theorem j_X11_countVoid_c4 {X : CX} {G : GX} {K : Int32 → Mem → Prop} (hG : Gd G) (O : Ok X G cX11_countVoid 3 RX11 6) (hR : RetI X G cX11_countVoid K) {a : Int32 × Int32 × Mem} (h : Lp (fun (r4 : Int32 × Int32 × Mem → Prop) a => f_X11_countVoid_c4 K r4 a.1 a.2.1 a.2.2) a) : J X G a.2.2 4 [(0, .ref (ad G 0)), (1, .int a.1), (2, .int a.2.1)] [] := by
  refine Lp.elim (P := fun a => J X G a.2.2 4 [(0, .ref (ad G 0)), (1, .int a.1), (2, .int a.2.1)] []) ?_ h
  clear h
  intro r4 hr4 a h
  obtain ⟨x1, x2, M⟩ := a
  unfold f_X11_countVoid_c4 at h
  (try dsimp only at h ⊢)
  refine J.iload_n (q := 5) O dX11_countVoid_4 rfl 2 rfl ?_
  refine J.aload_n (q := 6) O dX11_countVoid_5 rfl 0 rfl ?_
  refine J.getR (q := 9) (c' := 0) (ci := 11) (k := 7) (r := 72) O dX11_countVoid_6 rfl wd_2_221 (by decide) if_0_7 ?_
  refine J.getI (q := 12) (c' := 72) (ci := 4) (k := 0) (M 72 0) rfl O dX11_countVoid_9 rfl wd_2_8 (by decide) if_72_0 ?_
  refine J.icmp_ge (q := 15) (tgt := 34) O dX11_countVoid_12 rfl (by decide) (fun z1 => ?_) (fun z1 => ?_)
  · replace h := h.1 z1
    refine J.iload_n (q := 35) O dX11_countVoid_34 rfl 1 rfl ?_
    exact hR _ _ _ _ dX11_countVoid_35 h
  · replace h := h.2 z1
    refine J.aload_n (q := 16) O dX11_countVoid_15 rfl 0 rfl ?_
    refine J.iload_n (q := 17) O dX11_countVoid_16 rfl 2 rfl ?_
    refine J.callVI (q := 20) [.int x2] [] [.int x2, .ref (ad G 0)] rfl O dX11_countVoid_17 rfl (c_X11_voidSince hG h) wd_4_61 mw_X11_voidSince io_0 rfl (by decide) (Nat.le_of_ble_eq_true rfl) (fun v2 M2 h => ?_)
    refine J.bipush (q := 22) (v := (-9 : Int32)) O dX11_countVoid_20 rfl rfl ?_
    refine J.icmp_eq (q := 25) (tgt := 28) O dX11_countVoid_22 rfl (by decide) (fun z3 => ?_) (fun z3 => ?_)
    · replace h := h.1 z3
      exact J.sub [0, 1, 2] rfl (j_X11_countVoid_b28 hG O hR hr4 h)
    · replace h := h.2 z3
      refine J.iinc (q := 28) O dX11_countVoid_25 rfl [(1, .int (x1 + (1 : Int32))), (0, .ref (ad G 0)), (2, .int x2)] 1 rfl rfl (by decide) rfl ?_
      exact J.sub [1, 0, 2] rfl (j_X11_countVoid_b28 hG O hR hr4 h)
set_option maxHeartbeats 4000000 in
set_option maxRecDepth 20000 in
theorem c_X11_countVoid {l : Launch} {G : GX} (hG : Gd G) {M : Mem} {K : Int32 → Mem → Prop} (h : f_X11_countVoid  M K) : CI l G yX11_countVoid cX11_countVoid 3 (some .int) 6 [.ref (ad G 0)] M K := by
  unfold f_X11_countVoid at h
  refine CI.mk hG (by decide) [(0, .ref (ad G 0))] rfl (Nat.le_of_ble_eq_true rfl) (fun X O hlX hR => ?_)
  subst hlX
  refine J.iconst (q := 1) (v := (0 : Int32)) O dX11_countVoid_0 rfl rfl ?_
  refine J.istore_n (q := 2) O dX11_countVoid_1 rfl [(1, .int (0 : Int32)), (0, .ref (ad G 0))] (by decide) rfl ?_
  refine J.iconst (q := 3) (v := (0 : Int32)) O dX11_countVoid_2 rfl rfl ?_
  refine J.istore_n (q := 4) O dX11_countVoid_3 rfl [(2, .int (0 : Int32)), (1, .int (0 : Int32)), (0, .ref (ad G 0))] (by decide) rfl ?_
  exact J.sub [2, 1, 0] rfl (j_X11_countVoid_c4 hG O hR h)
set_option maxHeartbeats 4000000 in
set_option maxRecDepth 20000 in
theorem j_X11_count_b22 {X : CX} {G : GX} {K : Int32 → Mem → Prop} (hG : Gd G) (O : Ok X G cX11_count 2 RX11 7) (hR : RetI X G cX11_count K) {x1 : Int32} {M : Mem} (h : f_X11_count_b22 K x1 M) : J X G M 22 [(0, .ref (ad G 0)), (1, .int x1)] [] := by
  unfold f_X11_count_b22 at h
  refine J.iload_n (q := 23) O dX11_count_22 rfl 1 rfl ?_
  rcases tsw_cov x1 (0) 10 (by decide) with z2 | ⟨j, hj, z2⟩
  · replace h := h.1 (by omega)
    refine J.tswOut (q := 158) O dX11_count_23 (by omega) (by decide) ?_
    refine J.bipush (q := 160) (v := (-9 : Int32)) O dX11_count_158 rfl rfl ?_
    exact hR _ _ _ _ dX11_count_160 h
  · match j, hj, z2 with
    | 0, _, z2 =>
      have z2 : x1 = (0 : Int32) := z2.trans (by decide)
      replace h := h.2.1 z2
      refine J.tswIn (q := 80) O dX11_count_23 (0 : Int32) z2 (by decide) (by decide) rfl (by decide) ?_
      refine J.aload_n (q := 81) O dX11_count_80 rfl 0 rfl ?_
      refine J.getR (q := 84) (c' := 0) (ci := 11) (k := 0) (r := 1) O dX11_count_81 rfl wd_2_214 (by decide) if_0_0 ?_
      refine J.getI (q := 87) (c' := 1) (ci := 3) (k := 0) (M 1 0) rfl O dX11_count_84 rfl wd_1_30 (by decide) if_1_0 ?_
      exact hR _ _ _ _ dX11_count_87 h
    | 1, _, z2 =>
      have z2 : x1 = (1 : Int32) := z2.trans (by decide)
      replace h := h.2.2.1 z2
      refine J.tswIn (q := 88) O dX11_count_23 (1 : Int32) z2 (by decide) (by decide) rfl (by decide) ?_
      refine J.aload_n (q := 89) O dX11_count_88 rfl 0 rfl ?_
      refine J.getR (q := 92) (c' := 0) (ci := 11) (k := 1) (r := 4) O dX11_count_89 rfl wd_2_215 (by decide) if_0_1 ?_
      refine J.bipush (q := 94) (v := (63 : Int32)) O dX11_count_92 rfl rfl ?_
      refine J.callVI (q := 97) [.int (63 : Int32)] [] [.int (63 : Int32), .ref (ad G 4)] rfl O dX11_count_94 rfl (c_X9_hereIn hG h) wd_3_140 mw_X9_hereIn io_4 rfl (by decide) (Nat.le_of_ble_eq_true rfl) (fun v3 M3 h => ?_)
      exact hR _ _ _ _ dX11_count_97 h
    | 2, _, z2 =>
      have z2 : x1 = (2 : Int32) := z2.trans (by decide)
      replace h := h.2.2.2.1 z2
      refine J.tswIn (q := 98) O dX11_count_23 (2 : Int32) z2 (by decide) (by decide) rfl (by decide) ?_
      refine J.aload_n (q := 99) O dX11_count_98 rfl 0 rfl ?_
      refine J.getR (q := 102) (c' := 0) (ci := 11) (k := 2) (r := 15) O dX11_count_99 rfl wd_2_216 (by decide) if_0_2 ?_
      refine J.getI (q := 105) (c' := 15) (ci := 0) (k := 0) (M 15 0) rfl O dX11_count_102 rfl wd_1_134 (by decide) if_15_0 ?_
      exact hR _ _ _ _ dX11_count_105 h
    | 3, _, z2 =>
      have z2 : x1 = (3 : Int32) := z2.trans (by decide)
      replace h := h.2.2.2.2.1 z2
      refine J.tswIn (q := 106) O dX11_count_23 (3 : Int32) z2 (by decide) (by decide) rfl (by decide) ?_
      refine J.aload_n (q := 107) O dX11_count_106 rfl 0 rfl ?_
      refine J.getI (q := 110) (c' := 0) (ci := 11) (k := 5) (M 0 5) rfl O dX11_count_107 rfl wd_2_219 (by decide) if_0_5 ?_
      exact hR _ _ _ _ dX11_count_110 h
    | 4, _, z2 =>
      have z2 : x1 = (4 : Int32) := z2.trans (by decide)
      replace h := h.2.2.2.2.2.1 z2
      refine J.tswIn (q := 111) O dX11_count_23 (4 : Int32) z2 (by decide) (by decide) rfl (by decide) ?_
      refine J.aload_n (q := 112) O dX11_count_111 rfl 0 rfl ?_
      refine J.getR (q := 115) (c' := 0) (ci := 11) (k := 3) (r := 51) O dX11_count_112 rfl wd_2_217 (by decide) if_0_3 ?_
      refine J.getI (q := 118) (c' := 51) (ci := 2) (k := 1) (M 51 1) rfl O dX11_count_115 rfl wd_1_163 (by decide) if_51_1 ?_
      exact hR _ _ _ _ dX11_count_118 h
    | 5, _, z2 =>
      have z2 : x1 = (5 : Int32) := z2.trans (by decide)
      replace h := h.2.2.2.2.2.2.1 z2
      refine J.tswIn (q := 119) O dX11_count_23 (5 : Int32) z2 (by decide) (by decide) rfl (by decide) ?_
      refine J.aload_n (q := 120) O dX11_count_119 rfl 0 rfl ?_
      refine J.getR (q := 123) (c' := 0) (ci := 11) (k := 3) (r := 51) O dX11_count_120 rfl wd_2_217 (by decide) if_0_3 ?_
      refine J.getI (q := 126) (c' := 51) (ci := 2) (k := 5) (M 51 5) rfl O dX11_count_123 rfl wd_1_170 (by decide) if_51_5 ?_
      exact hR _ _ _ _ dX11_count_126 h
    | 6, _, z2 =>
      have z2 : x1 = (6 : Int32) := z2.trans (by decide)
      replace h := h.2.2.2.2.2.2.2.1 z2
      refine J.tswIn (q := 127) O dX11_count_23 (6 : Int32) z2 (by decide) (by decide) rfl (by decide) ?_
      refine J.aload_n (q := 128) O dX11_count_127 rfl 0 rfl ?_
      refine J.callVI (q := 131) [] [] [.ref (ad G 0)] rfl O dX11_count_128 rfl (c_X11_countHolding hG h) wd_4_48 mw_X11_countHolding io_0 rfl (by decide) (Nat.le_of_ble_eq_true rfl) (fun v4 M4 h => ?_)
      exact hR _ _ _ _ dX11_count_131 h
    | 7, _, z2 =>
      have z2 : x1 = (7 : Int32) := z2.trans (by decide)
      replace h := h.2.2.2.2.2.2.2.2.1 z2
      refine J.tswIn (q := 132) O dX11_count_23 (7 : Int32) z2 (by decide) (by decide) rfl (by decide) ?_
      refine J.aload_n (q := 133) O dX11_count_132 rfl 0 rfl ?_
      refine J.getR (q := 136) (c' := 0) (ci := 11) (k := 7) (r := 72) O dX11_count_133 rfl wd_2_221 (by decide) if_0_7 ?_
      refine J.getI (q := 139) (c' := 72) (ci := 4) (k := 0) (M 72 0) rfl O dX11_count_136 rfl wd_2_8 (by decide) if_72_0 ?_
      exact hR _ _ _ _ dX11_count_139 h
    | 8, _, z2 =>
      have z2 : x1 = (8 : Int32) := z2.trans (by decide)
      replace h := h.2.2.2.2.2.2.2.2.2.1 z2
      refine J.tswIn (q := 140) O dX11_count_23 (8 : Int32) z2 (by decide) (by decide) rfl (by decide) ?_
      refine J.aload_n (q := 141) O dX11_count_140 rfl 0 rfl ?_
      refine J.callVI (q := 144) [] [] [.ref (ad G 0)] rfl O dX11_count_141 rfl (c_X11_countVoid hG h) wd_4_57 mw_X11_countVoid io_0 rfl (by decide) (Nat.le_of_ble_eq_true rfl) (fun v5 M5 h => ?_)
      exact hR _ _ _ _ dX11_count_144 h
    | 9, _, z2 =>
      have z2 : x1 = (9 : Int32) := z2.trans (by decide)
      replace h := h.2.2.2.2.2.2.2.2.2.2.1 z2
      refine J.tswIn (q := 145) O dX11_count_23 (9 : Int32) z2 (by decide) (by decide) rfl (by decide) ?_
      refine J.aload_n (q := 146) O dX11_count_145 rfl 0 rfl ?_
      refine J.getR (q := 149) (c' := 0) (ci := 11) (k := 2) (r := 15) O dX11_count_146 rfl wd_2_216 (by decide) if_0_2 ?_
      refine J.callVI (q := 152) [] [] [.ref (ad G 15)] rfl O dX11_count_149 rfl (c_X0_fed hG h) wd_4_80 mw_X0_fed io_15 rfl (by decide) (Nat.le_of_ble_eq_true rfl) (fun v6 M6 h => ?_)
      exact hR _ _ _ _ dX11_count_152 h
    | 10, _, z2 =>
      have z2 : x1 = (10 : Int32) := z2.trans (by decide)
      replace h := h.2.2.2.2.2.2.2.2.2.2.2 z2
      refine J.tswIn (q := 153) O dX11_count_23 (10 : Int32) z2 (by decide) (by decide) rfl (by decide) ?_
      refine J.aload_n (q := 154) O dX11_count_153 rfl 0 rfl ?_
      refine J.getI (q := 157) (c' := 0) (ci := 11) (k := 14) (M 0 14) rfl O dX11_count_154 rfl wd_2_228 (by decide) if_0_14 ?_
      exact hR _ _ _ _ dX11_count_157 h
    | j + 11, hj, _ => exact absurd hj (by omega)
set_option maxHeartbeats 4000000 in
set_option maxRecDepth 20000 in
theorem c_X11_count {l : Launch} {G : GX} (hG : Gd G) {a1 : Int32} {M : Mem} {K : Int32 → Mem → Prop} (h : f_X11_count a1 M K) : CI l G yX11_count cX11_count 2 (some .int) 7 [.ref (ad G 0), .int a1] M K := by
  unfold f_X11_count at h
  refine CI.mk hG (by decide) [(0, .ref (ad G 0)), (1, .int a1)] rfl (Nat.le_of_ble_eq_true rfl) (fun X O hlX hR => ?_)
  subst hlX
  refine J.iload_n (q := 1) O dX11_count_0 rfl 1 rfl ?_
  refine J.bipush (q := 3) (v := (11 : Int32)) O dX11_count_1 rfl rfl ?_
  refine J.icmp_lt (q := 6) (tgt := 22) O dX11_count_3 rfl (by decide) (fun z7 => ?_) (fun z7 => ?_)
  · replace h := h.1 z7
    exact J.sub [0, 1] rfl (j_X11_count_b22 hG O hR h)
  · replace h := h.2 z7
    refine J.iload_n (q := 7) O dX11_count_6 rfl 1 rfl ?_
    refine J.bipush (q := 9) (v := (16 : Int32)) O dX11_count_7 rfl rfl ?_
    refine J.icmp_gt (q := 12) (tgt := 22) O dX11_count_9 rfl (by decide) (fun z8 => ?_) (fun z8 => ?_)
    · replace h := h.1 z8
      exact J.sub [0, 1] rfl (j_X11_count_b22 hG O hR h)
    · replace h := h.2 z8
      refine J.aload_n (q := 13) O dX11_count_12 rfl 0 rfl ?_
      refine J.getR (q := 16) (c' := 0) (ci := 11) (k := 15) (r := 126) O dX11_count_13 rfl wd_2_229 (by decide) if_0_15 ?_
      refine J.iload_n (q := 17) O dX11_count_16 rfl 1 rfl ?_
      refine J.bipush (q := 19) (v := (10 : Int32)) O dX11_count_17 rfl rfl ?_
      refine J.isub (q := 20) O dX11_count_19 rfl ?_
      obtain ⟨hv9, h⟩ := h
      refine J.iald (q := 21) (c' := 126) (j := (a1 - (10 : Int32)).toNatClampNeg) (M 126 ((a1 - (10 : Int32)).toNatClampNeg)) rfl O dX11_count_20 rfl ar_126 hv9 rfl ?_
      exact hR _ _ _ _ dX11_count_21 h
set_option maxHeartbeats 4000000 in
set_option maxRecDepth 20000 in
theorem j_L_cell_b18 {b L : Nat} {xs : Nat → Int32} {X : CX} {G : GX} {K : Int32 → Mem → Prop} (hG : Gd G) (O : Ok X G cL_cell 2 RL 1) (hR : RetI X G cL_cell K) (OX : OkX G b L xs) {s0 : Int32} {M : Mem} (h : f_L_cell_b18 L xs K s0 M) : J X G M 18 [] [.int s0] := by
  unfold f_L_cell_b18 at h
  exact hR _ _ _ _ dL_cell_18 h
set_option maxHeartbeats 4000000 in
set_option maxRecDepth 20000 in
theorem c_L_cell {l : Launch} {G : GX} {b L : Nat} {xs : Nat → Int32} (OX : OkX G b L xs) (hG : Gd G) {a2 : Int32} {M : Mem} {K : Int32 → Mem → Prop} (h : f_L_cell L xs a2 M K) : CI l G yL_cell cL_cell 2 (some .int) 1 [.ref b, .int a2] M K := by
  unfold f_L_cell at h
  refine CI.mk hG (by decide) [(0, .ref b), (1, .int a2)] rfl (Nat.le_of_ble_eq_true rfl) (fun X O hlX hR => ?_)
  subst hlX
  refine J.iload_n (q := 1) O dL_cell_0 rfl 1 rfl ?_
  refine J.aload_n (q := 2) O dL_cell_1 rfl 0 rfl ?_
  refine J.xlen (q := 3) O dL_cell_2 rfl OX ?_
  refine J.icmp_ge (q := 6) (tgt := 12) O dL_cell_3 rfl (by decide) (fun z2 => ?_) (fun z2 => ?_)
  · replace h := h.1 z2
    refine J.ldc (q := 14) O dL_cell_12 rfl wd_4_87 ?_
    refine J.iload_n (q := 15) O dL_cell_14 rfl 1 rfl ?_
    refine J.iconst (q := 16) (v := (1 : Int32)) O dL_cell_15 rfl rfl ?_
    refine J.iadd (q := 17) O dL_cell_16 rfl ?_
    refine J.imul (q := 18) O dL_cell_17 rfl ?_
    exact J.sub [] rfl (j_L_cell_b18 hG O hR OX h)
  · replace h := h.2 z2
    refine J.aload_n (q := 7) O dL_cell_6 rfl 0 rfl ?_
    refine J.iload_n (q := 8) O dL_cell_7 rfl 1 rfl ?_
    obtain ⟨hv3, h⟩ := h
    refine J.xld (q := 9) O dL_cell_8 rfl OX hv3 ?_
    refine J.goto (q := 18) O dL_cell_9 (by decide) ?_
    exact J.sub [] rfl (j_L_cell_b18 hG O hR OX h)
set_option maxHeartbeats 4000000 in
set_option maxRecDepth 20000 in
theorem j_L_feed_c40 {tx : Nat} {X : CX} {G : GX} {K : Int32 → Mem → Prop} (hG : Gd G) (O : Ok X G cL_feed 9 RL 3) (hR : RetI X G cL_feed K) (htx : arL G tx 6) {r5 : Int32 × Int32 × Int32 × Mem → Prop} (hr5 : ∀ a : Int32 × Int32 × Int32 × Mem, r5 a → J X G a.2.2.2 5 [(0, .ref (ad G 0)), (1, .ref (ad G tx)), (2, .int a.1), (3, .int a.2.1), (4, .int a.2.2.1)] []) {a : Int32 × Int32 × Int64 × Int32 × Int32 × Mem} (h : Lp (fun (r40 : Int32 × Int32 × Int64 × Int32 × Int32 × Mem → Prop) a => f_L_feed_c40 tx r5 K r40 a.1 a.2.1 a.2.2.1 a.2.2.2.1 a.2.2.2.2.1 a.2.2.2.2.2) a) : J X G a.2.2.2.2.2 40 [(0, .ref (ad G 0)), (1, .ref (ad G tx)), (2, .int a.1), (4, .int a.2.1), (5, .long a.2.2.1), (7, .int a.2.2.2.1), (8, .int a.2.2.2.2.1)] [] := by
  refine Lp.elim (P := fun a => J X G a.2.2.2.2.2 40 [(0, .ref (ad G 0)), (1, .ref (ad G tx)), (2, .int a.1), (4, .int a.2.1), (5, .long a.2.2.1), (7, .int a.2.2.2.1), (8, .int a.2.2.2.2.1)] []) ?_ h
  clear h
  intro r40 hr40 a h
  obtain ⟨x2, x4, x5, x7, x8, M⟩ := a
  unfold f_L_feed_c40 at h
  (try dsimp only at h ⊢)
  refine J.iload (q := 42) O dL_feed_40 rfl 6 rfl ?_
  refine J.if_lt (q := 45) (tgt := 67) O dL_feed_42 rfl (by decide) (fun z2 => ?_) (fun z2 => ?_)
  · replace h := h.1 z2
    refine J.aload_n (q := 68) O dL_feed_67 rfl 0 rfl ?_
    refine J.iload (q := 70) O dL_feed_68 rfl 5 rfl ?_
    refine J.lload (q := 72) O dL_feed_70 rfl 4 rfl ?_
    refine J.callVI (q := 75) [.int x7, .long x5] [] [.long x5, .int x7, .ref (ad G 0)] rfl O dL_feed_72 rfl (c_X11_feed hG h) wd_4_91 mw_X11_feed io_0 rfl (by decide) (Nat.le_of_ble_eq_true rfl) (fun v3 M3 h => ?_)
    refine J.istore_n (q := 76) O dL_feed_75 rfl [(3, .int v3), (0, .ref (ad G 0)), (1, .ref (ad G tx)), (2, .int x2), (4, .int x4), (5, .long x5), (7, .int x7), (8, .int x8)] (by decide) rfl ?_
    refine J.iinc (q := 79) O dL_feed_76 rfl [(4, .int (x4 + (8 : Int32))), (3, .int v3), (0, .ref (ad G 0)), (1, .ref (ad G tx)), (2, .int x2), (5, .long x5), (7, .int x7), (8, .int x8)] 4 rfl rfl (by decide) rfl ?_
    refine J.goto (q := 5) O dL_feed_79 (by decide) ?_
    exact J.sub [2, 3, 4, 1, 0] rfl (hr5 _ h)
  · replace h := h.2 z2
    refine J.lload (q := 47) O dL_feed_45 rfl 4 rfl ?_
    refine J.bipush (q := 49) (v := (8 : Int32)) O dL_feed_47 rfl rfl ?_
    refine J.lshl (q := 50) O dL_feed_49 rfl ?_
    refine J.aload_n (q := 51) O dL_feed_50 rfl 1 rfl ?_
    refine J.iload (q := 53) O dL_feed_51 rfl 3 rfl ?_
    refine J.iload (q := 55) O dL_feed_53 rfl 6 rfl ?_
    refine J.iadd (q := 56) O dL_feed_55 rfl ?_
    obtain ⟨hv4, h⟩ := h
    refine J.ialdL (q := 57) (c' := tx) (j := (x4 + x8).toNatClampNeg) (M tx ((x4 + x8).toNatClampNeg)) rfl O dL_feed_56 rfl htx hv4 rfl ?_
    refine J.i2l (q := 58) O dL_feed_57 rfl ?_
    refine J.lor (q := 59) O dL_feed_58 rfl ?_
    refine J.lstore (q := 61) O dL_feed_59 rfl [(5, .long ((x5 <<< ((8 : Int32).toInt64 &&& 63)) ||| (M tx ((x4 + x8).toNatClampNeg)).toInt64)), (0, .ref (ad G 0)), (1, .ref (ad G tx)), (2, .int x2), (4, .int x4), (7, .int x7), (8, .int x8)] (by decide) rfl ?_
    refine J.iinc (q := 64) O dL_feed_61 rfl [(8, .int (x8 + (-1 : Int32))), (5, .long ((x5 <<< ((8 : Int32).toInt64 &&& 63)) ||| (M tx ((x4 + x8).toNatClampNeg)).toInt64)), (0, .ref (ad G 0)), (1, .ref (ad G tx)), (2, .int x2), (4, .int x4), (7, .int x7)] 6 rfl rfl (by decide) rfl ?_
    refine J.goto (q := 40) O dL_feed_64 (by decide) ?_
    exact J.sub [2, 3, 4, 5, 1, 6, 0] rfl (hr40 _ h)
set_option maxHeartbeats 4000000 in
set_option maxRecDepth 20000 in
theorem j_L_feed_b32 {tx : Nat} {X : CX} {G : GX} {K : Int32 → Mem → Prop} (hG : Gd G) (O : Ok X G cL_feed 9 RL 3) (hR : RetI X G cL_feed K) (htx : arL G tx 6) {r5 : Int32 × Int32 × Int32 × Mem → Prop} (hr5 : ∀ a : Int32 × Int32 × Int32 × Mem, r5 a → J X G a.2.2.2 5 [(0, .ref (ad G 0)), (1, .ref (ad G tx)), (2, .int a.1), (3, .int a.2.1), (4, .int a.2.2.1)] []) {x2 : Int32} {x4 : Int32} {x5 : Int64} {s0 : Int32} {M : Mem} (h : f_L_feed_b32 tx r5 K x2 x4 x5 s0 M) : J X G M 32 [(0, .ref (ad G 0)), (1, .ref (ad G tx)), (2, .int x2), (4, .int x4), (5, .long x5)] [.int s0] := by
  unfold f_L_feed_b32 at h
  refine J.istore (q := 34) O dL_feed_32 rfl [(7, .int s0), (0, .ref (ad G 0)), (1, .ref (ad G tx)), (2, .int x2), (4, .int x4), (5, .long x5)] (by decide) rfl ?_
  refine J.iload (q := 36) O dL_feed_34 rfl 0 rfl ?_
  refine J.iconst (q := 37) (v := (1 : Int32)) O dL_feed_36 rfl rfl ?_
  refine J.isub (q := 38) O dL_feed_37 rfl ?_
  refine J.istore (q := 40) O dL_feed_38 rfl [(8, .int (s0 - (1 : Int32))), (7, .int s0), (0, .ref (ad G 0)), (1, .ref (ad G tx)), (2, .int x2), (4, .int x4), (5, .long x5)] (by decide) rfl ?_
  exact J.sub [2, 3, 4, 5, 6, 1, 0] rfl (j_L_feed_c40 hG O hR htx hr5 h)
set_option maxHeartbeats 4000000 in
set_option maxRecDepth 20000 in
theorem j_L_feed_c5 {tx : Nat} {X : CX} {G : GX} {K : Int32 → Mem → Prop} (hG : Gd G) (O : Ok X G cL_feed 9 RL 3) (hR : RetI X G cL_feed K) (htx : arL G tx 6) {a : Int32 × Int32 × Int32 × Mem} (h : Lp (fun (r5 : Int32 × Int32 × Int32 × Mem → Prop) a => f_L_feed_c5 tx K r5 a.1 a.2.1 a.2.2.1 a.2.2.2) a) : J X G a.2.2.2 5 [(0, .ref (ad G 0)), (1, .ref (ad G tx)), (2, .int a.1), (3, .int a.2.1), (4, .int a.2.2.1)] [] := by
  refine Lp.elim (P := fun a => J X G a.2.2.2 5 [(0, .ref (ad G 0)), (1, .ref (ad G tx)), (2, .int a.1), (3, .int a.2.1), (4, .int a.2.2.1)] []) ?_ h
  clear h
  intro r5 hr5 a h
  obtain ⟨x2, x3, x4, M⟩ := a
  unfold f_L_feed_c5 at h
  (try dsimp only at h ⊢)
  refine J.iload (q := 7) O dL_feed_5 rfl 4 rfl ?_
  refine J.iload_n (q := 8) O dL_feed_7 rfl 2 rfl ?_
  refine J.icmp_ge (q := 11) (tgt := 82) O dL_feed_8 rfl (by decide) (fun z5 => ?_) (fun z5 => ?_)
  · replace h := h.1 z5
    refine J.iload_n (q := 83) O dL_feed_82 rfl 3 rfl ?_
    exact hR _ _ _ _ dL_feed_83 h
  · replace h := h.2 z5
    refine J.lconst (q := 12) (v := (0 : Int64)) O dL_feed_11 rfl rfl ?_
    refine J.lstore (q := 14) O dL_feed_12 rfl [(5, .long (0 : Int64)), (0, .ref (ad G 0)), (1, .ref (ad G tx)), (2, .int x2), (3, .int x3), (4, .int x4)] (by decide) rfl ?_
    refine J.iload_n (q := 15) O dL_feed_14 rfl 3 rfl ?_
    refine J.iload (q := 17) O dL_feed_15 rfl 5 rfl ?_
    refine J.isub (q := 18) O dL_feed_17 rfl ?_
    refine J.bipush (q := 20) (v := (8 : Int32)) O dL_feed_18 rfl rfl ?_
    refine J.icmp_ge (q := 23) (tgt := 30) O dL_feed_20 rfl (by decide) (fun z6 => ?_) (fun z6 => ?_)
    · replace h := h.1 z6
      refine J.bipush (q := 32) (v := (8 : Int32)) O dL_feed_30 rfl rfl ?_
      exact J.sub [1, 2, 3, 5, 0] rfl (j_L_feed_b32 hG O hR htx hr5 h)
    · replace h := h.2 z6
      refine J.iload_n (q := 24) O dL_feed_23 rfl 3 rfl ?_
      refine J.iload (q := 26) O dL_feed_24 rfl 5 rfl ?_
      refine J.isub (q := 27) O dL_feed_26 rfl ?_
      refine J.goto (q := 32) O dL_feed_27 (by decide) ?_
      exact J.sub [1, 2, 3, 5, 0] rfl (j_L_feed_b32 hG O hR htx hr5 h)
set_option maxHeartbeats 4000000 in
set_option maxRecDepth 20000 in
theorem c_L_feed {l : Launch} {G : GX} {tx : Nat} (htx : arL G tx 6) (hG : Gd G) {a3 : Int32} {M : Mem} {K : Int32 → Mem → Prop} (h : f_L_feed tx a3 M K) : CI l G yL_feed cL_feed 9 (some .int) 3 [.ref (ad G 0), .ref (ad G tx), .int a3] M K := by
  unfold f_L_feed at h
  refine CI.mk hG (by decide) [(0, .ref (ad G 0)), (1, .ref (ad G tx)), (2, .int a3)] rfl (Nat.le_of_ble_eq_true rfl) (fun X O hlX hR => ?_)
  subst hlX
  refine J.iconst (q := 1) (v := (0 : Int32)) O dL_feed_0 rfl rfl ?_
  refine J.istore_n (q := 2) O dL_feed_1 rfl [(3, .int (0 : Int32)), (0, .ref (ad G 0)), (1, .ref (ad G tx)), (2, .int a3)] (by decide) rfl ?_
  refine J.iconst (q := 3) (v := (0 : Int32)) O dL_feed_2 rfl rfl ?_
  refine J.istore (q := 5) O dL_feed_3 rfl [(4, .int (0 : Int32)), (3, .int (0 : Int32)), (0, .ref (ad G 0)), (1, .ref (ad G tx)), (2, .int a3)] (by decide) rfl ?_
  exact J.sub [2, 3, 4, 1, 0] rfl (j_L_feed_c5 hG O hR htx h)
