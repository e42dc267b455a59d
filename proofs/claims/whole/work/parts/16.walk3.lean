set_option maxHeartbeats 4000000 in
set_option maxRecDepth 20000 in
theorem j_X11_countHolding_b26 {X : CX} {G : GX} {K : Int32 → Mem → Prop} (hG : Gd G) (O : Ok X G cX11_countHolding 3 RX11 5) (hR : RetI X G cX11_countHolding K) {r4 : Int32 × Int32 × Mem → Prop} (hr4 : ∀ a : Int32 × Int32 × Mem, r4 a → J X G a.2.2 4 [(0, .ref (ad G 0)), (1, .int a.1), (2, .int a.2.1)] []) {x1 : Int32} {x2 : Int32} {M : Mem} (h : f_X11_countHolding_b26 r4 K x1 x2 M) : J X G M 26 [(0, .ref (ad G 0)), (1, .int x1), (2, .int x2)] [] := by
  unfold f_X11_countHolding_b26 at h
  refine J.iinc (q := 29) O dX11_countHolding_26 rfl [(2, .int (x2 + (1 : Int32))), (0, .ref (ad G 0)), (1, .int x1)] 2 rfl rfl (by decide) rfl ?_
  refine J.goto (q := 4) O dX11_countHolding_29 (by decide) ?_
  exact J.sub [1, 2, 0] rfl (hr4 _ h)
set_option maxHeartbeats 4000000 in
set_option maxRecDepth 20000 in
theorem j_X11_countHolding_c4 {X : CX} {G : GX} {K : Int32 → Mem → Prop} (hG : Gd G) (O : Ok X G cX11_countHolding 3 RX11 5) (hR : RetI X G cX11_countHolding K) {a : Int32 × Int32 × Mem} (h : Lp (fun (r4 : Int32 × Int32 × Mem → Prop) a => f_X11_countHolding_c4 K r4 a.1 a.2.1 a.2.2) a) : J X G a.2.2 4 [(0, .ref (ad G 0)), (1, .int a.1), (2, .int a.2.1)] [] := by
  refine Lp.elim (P := fun a => J X G a.2.2 4 [(0, .ref (ad G 0)), (1, .int a.1), (2, .int a.2.1)] []) ?_ h
  clear h
  intro r4 hr4 a h
  obtain ⟨x1, x2, M⟩ := a
  unfold f_X11_countHolding_c4 at h
  (try dsimp only at h ⊢)
  refine J.iload_n (q := 5) O dX11_countHolding_4 rfl 2 rfl ?_
  refine J.aload_n (q := 6) O dX11_countHolding_5 rfl 0 rfl ?_
  refine J.getR (q := 9) (c' := 0) (ci := 11) (k := 6) (r := 62) O dX11_countHolding_6 rfl wd_3_8 (by decide) if_0_6 ?_
  refine J.getI (q := 12) (c' := 62) (ci := 1) (k := 0) (M 62 0) rfl O dX11_countHolding_9 rfl wd_1_223 (by decide) if_62_0 ?_
  refine J.icmp_ge (q := 15) (tgt := 32) O dX11_countHolding_12 rfl (by decide) (fun z1 => ?_) (fun z1 => ?_)
  · replace h := h.1 z1
    refine J.iload_n (q := 33) O dX11_countHolding_32 rfl 1 rfl ?_
    exact hR _ _ _ _ dX11_countHolding_33 h
  · replace h := h.2 z1
    refine J.aload_n (q := 16) O dX11_countHolding_15 rfl 0 rfl ?_
    refine J.iload_n (q := 17) O dX11_countHolding_16 rfl 2 rfl ?_
    refine J.callVI (q := 20) [.int x2] [] [.int x2, .ref (ad G 0)] rfl O dX11_countHolding_17 rfl (c_X11_holds hG h) wd_4_198 mw_X11_holds io_0 rfl (by decide) (Nat.le_of_ble_eq_true rfl) (fun v2 M2 h => ?_)
    refine J.if_eq (q := 23) (tgt := 26) O dX11_countHolding_20 rfl (by decide) (fun z3 => ?_) (fun z3 => ?_)
    · replace h := h.1 z3
      exact J.sub [0, 1, 2] rfl (j_X11_countHolding_b26 hG O hR hr4 h)
    · replace h := h.2 z3
      refine J.iinc (q := 26) O dX11_countHolding_23 rfl [(1, .int (x1 + (1 : Int32))), (0, .ref (ad G 0)), (2, .int x2)] 1 rfl rfl (by decide) rfl ?_
      exact J.sub [1, 0, 2] rfl (j_X11_countHolding_b26 hG O hR hr4 h)
set_option maxHeartbeats 4000000 in
set_option maxRecDepth 20000 in
theorem c_X11_countHolding {l : Launch} {G : GX} (hG : Gd G) {M : Mem} {K : Int32 → Mem → Prop} (h : f_X11_countHolding  M K) : CI l G yX11_countHolding cX11_countHolding 3 (some .int) 5 [.ref (ad G 0)] M K := by
  unfold f_X11_countHolding at h
  refine CI.mk hG (by decide) [(0, .ref (ad G 0))] rfl (Nat.le_of_ble_eq_true rfl) (fun X O hlX hR => ?_)
  subst hlX
  refine J.iconst (q := 1) (v := (0 : Int32)) O dX11_countHolding_0 rfl rfl ?_
  refine J.istore_n (q := 2) O dX11_countHolding_1 rfl [(1, .int (0 : Int32)), (0, .ref (ad G 0))] (by decide) rfl ?_
  refine J.iconst (q := 3) (v := (0 : Int32)) O dX11_countHolding_2 rfl rfl ?_
  refine J.istore_n (q := 4) O dX11_countHolding_3 rfl [(2, .int (0 : Int32)), (1, .int (0 : Int32)), (0, .ref (ad G 0))] (by decide) rfl ?_
  exact J.sub [2, 1, 0] rfl (j_X11_countHolding_c4 hG O hR h)
set_option maxHeartbeats 4000000 in
set_option maxRecDepth 20000 in
theorem j_X11_countVoid_b28 {X : CX} {G : GX} {K : Int32 → Mem → Prop} (hG : Gd G) (O : Ok X G cX11_countVoid 3 RX11 6) (hR : RetI X G cX11_countVoid K) {r4 : Int32 × Int32 × Mem → Prop} (hr4 : ∀ a : Int32 × Int32 × Mem, r4 a → J X G a.2.2 4 [(0, .ref (ad G 0)), (1, .int a.1), (2, .int a.2.1)] []) {x1 : Int32} {x2 : Int32} {M : Mem} (h : f_X11_countVoid_b28 r4 K x1 x2 M) : J X G M 28 [(0, .ref (ad G 0)), (1, .int x1), (2, .int x2)] [] := by
  unfold f_X11_countVoid_b28 at h
  refine J.iinc (q := 31) O dX11_countVoid_28 rfl [(2, .int (x2 + (1 : Int32))), (0, .ref (ad G 0)), (1, .int x1)] 2 rfl rfl (by decide) rfl ?_
  refine J.goto (q := 4) O dX11_countVoid_31 (by decide) ?_
  exact J.sub [1, 2, 0] rfl (hr4 _ h)
set_option maxHeartbeats 4000000 in
set_option maxRecDepth 20000 in
theorem j_X11_countVoid_c4 {X : CX} {G : GX} {K : Int32 → Mem → Prop} (hG : Gd G) (O : Ok X G cX11_countVoid 3 RX11 6) (hR : RetI X G cX11_countVoid K) {a : Int32 × Int32 × Mem} (h : Lp (fun (r4 : Int32 × Int32 × Mem → Prop) a => f_X11_countVoid_c4 K r4 a.1 a.2.1 a.2.2) a) : J X G a.2.2 4 [(0, .ref (ad G 0)), (1, .int a.1), (2, .int a.2.1)] [] := by
  refine Lp.elim (P := fun a => J X G a.2.2 4 [(0, .ref (ad G 0)), (1, .int a.1), (2, .int a.2.1)] []) ?_ h
  clear h
  intro r4 hr4 a h
  obtain ⟨x1, x2, M⟩ := a
  unfold f_X11_countVoid_c4 at h
  (try dsimp only at h ⊢)
  refine J.iload_n (q := 5) O dX11_countVoid_4 rfl 2 rfl ?_
  refine J.aload_n (q := 6) O dX11_countVoid_5 rfl 0 rfl ?_
  refine J.getR (q := 9) (c' := 0) (ci := 11) (k := 7) (r := 72) O dX11_countVoid_6 rfl wd_3_9 (by decide) if_0_7 ?_
  refine J.getI (q := 12) (c' := 72) (ci := 4) (k := 0) (M 72 0) rfl O dX11_countVoid_9 rfl wd_2_30 (by decide) if_72_0 ?_
  refine J.icmp_ge (q := 15) (tgt := 34) O dX11_countVoid_12 rfl (by decide) (fun z1 => ?_) (fun z1 => ?_)
  · replace h := h.1 z1
    refine J.iload_n (q := 35) O dX11_countVoid_34 rfl 1 rfl ?_
    exact hR _ _ _ _ dX11_countVoid_35 h
  · replace h := h.2 z1
    refine J.aload_n (q := 16) O dX11_countVoid_15 rfl 0 rfl ?_
    refine J.iload_n (q := 17) O dX11_countVoid_16 rfl 2 rfl ?_
    refine J.callVI (q := 20) [.int x2] [] [.int x2, .ref (ad G 0)] rfl O dX11_countVoid_17 rfl (c_X11_voidSince hG h) wd_5_23 mw_X11_voidSince io_0 rfl (by decide) (Nat.le_of_ble_eq_true rfl) (fun v2 M2 h => ?_)
    refine J.bipush (q := 22) (v := (-9 : Int32)) O dX11_countVoid_20 rfl rfl ?_
    refine J.icmp_eq (q := 25) (tgt := 28) O dX11_countVoid_22 rfl (by decide) (fun z3 => ?_) (fun z3 => ?_)
    · replace h := h.1 z3
      exact J.sub [0, 1, 2] rfl (j_X11_countVoid_b28 hG O hR hr4 h)
    · replace h := h.2 z3
      refine J.iinc (q := 28) O dX11_countVoid_25 rfl [(1, .int (x1 + (1 : Int32))), (0, .ref (ad G 0)), (2, .int x2)] 1 rfl rfl (by decide) rfl ?_
      exact J.sub [1, 0, 2] rfl (j_X11_countVoid_b28 hG O hR hr4 h)
set_option maxHeartbeats 4000000 in
set_option maxRecDepth 20000 in
theorem c_X11_countVoid {l : Launch} {G : GX} (hG : Gd G) {M : Mem} {K : Int32 → Mem → Prop} (h : f_X11_countVoid  M K) : CI l G yX11_countVoid cX11_countVoid 3 (some .int) 6 [.ref (ad G 0)] M K := by
  unfold f_X11_countVoid at h
  refine CI.mk hG (by decide) [(0, .ref (ad G 0))] rfl (Nat.le_of_ble_eq_true rfl) (fun X O hlX hR => ?_)
  subst hlX
  refine J.iconst (q := 1) (v := (0 : Int32)) O dX11_countVoid_0 rfl rfl ?_
  refine J.istore_n (q := 2) O dX11_countVoid_1 rfl [(1, .int (0 : Int32)), (0, .ref (ad G 0))] (by decide) rfl ?_
  refine J.iconst (q := 3) (v := (0 : Int32)) O dX11_countVoid_2 rfl rfl ?_
  refine J.istore_n (q := 4) O dX11_countVoid_3 rfl [(2, .int (0 : Int32)), (1, .int (0 : Int32)), (0, .ref (ad G 0))] (by decide) rfl ?_
  exact J.sub [2, 1, 0] rfl (j_X11_countVoid_c4 hG O hR h)
set_option maxHeartbeats 4000000 in
set_option maxRecDepth 20000 in
theorem j_X11_count_b22 {X : CX} {G : GX} {K : Int32 → Mem → Prop} (hG : Gd G) (O : Ok X G cX11_count 2 RX11 7) (hR : RetI X G cX11_count K) {x1 : Int32} {M : Mem} (h : f_X11_count_b22 K x1 M) : J X G M 22 [(0, .ref (ad G 0)), (1, .int x1)] [] := by
  unfold f_X11_count_b22 at h
  refine J.iload_n (q := 23) O dX11_count_22 rfl 1 rfl ?_
  rcases tsw_cov x1 (0) 10 (by decide) with z2 | ⟨j, hj, z2⟩
  · replace h := h.1 (by omega)
    refine J.tswOut (q := 158) O dX11_count_23 (by omega) (by decide) ?_
    refine J.bipush (q := 160) (v := (-9 : Int32)) O dX11_count_158 rfl rfl ?_
    exact hR _ _ _ _ dX11_count_160 h
  · match j, hj, z2 with
    | 0, _, z2 =>
      have z2 : x1 = (0 : Int32) := z2.trans (by decide)
      replace h := h.2.1 z2
      refine J.tswIn (q := 80) O dX11_count_23 (0 : Int32) z2 (by decide) (by decide) rfl (by decide) ?_
      refine J.aload_n (q := 81) O dX11_count_80 rfl 0 rfl ?_
      refine J.getR (q := 84) (c' := 0) (ci := 11) (k := 0) (r := 1) O dX11_count_81 rfl wd_3_2 (by decide) if_0_0 ?_
      refine J.getI (q := 87) (c' := 1) (ci := 3) (k := 0) (M 1 0) rfl O dX11_count_84 rfl wd_1_31 (by decide) if_1_0 ?_
      exact hR _ _ _ _ dX11_count_87 h
    | 1, _, z2 =>
      have z2 : x1 = (1 : Int32) := z2.trans (by decide)
      replace h := h.2.2.1 z2
      refine J.tswIn (q := 88) O dX11_count_23 (1 : Int32) z2 (by decide) (by decide) rfl (by decide) ?_
      refine J.aload_n (q := 89) O dX11_count_88 rfl 0 rfl ?_
      refine J.getR (q := 92) (c' := 0) (ci := 11) (k := 1) (r := 4) O dX11_count_89 rfl wd_3_3 (by decide) if_0_1 ?_
      refine J.bipush (q := 94) (v := (63 : Int32)) O dX11_count_92 rfl rfl ?_
      refine J.callVI (q := 97) [.int (63 : Int32)] [] [.int (63 : Int32), .ref (ad G 4)] rfl O dX11_count_94 rfl (c_X9_hereIn hG h) wd_3_218 mw_X9_hereIn io_4 rfl (by decide) (Nat.le_of_ble_eq_true rfl) (fun v3 M3 h => ?_)
      exact hR _ _ _ _ dX11_count_97 h
    | 2, _, z2 =>
      have z2 : x1 = (2 : Int32) := z2.trans (by decide)
      replace h := h.2.2.2.1 z2
      refine J.tswIn (q := 98) O dX11_count_23 (2 : Int32) z2 (by decide) (by decide) rfl (by decide) ?_
      refine J.aload_n (q := 99) O dX11_count_98 rfl 0 rfl ?_
      refine J.getR (q := 102) (c' := 0) (ci := 11) (k := 2) (r := 15) O dX11_count_99 rfl wd_3_4 (by decide) if_0_2 ?_
      refine J.getI (q := 105) (c' := 15) (ci := 0) (k := 0) (M 15 0) rfl O dX11_count_102 rfl wd_1_143 (by decide) if_15_0 ?_
      exact hR _ _ _ _ dX11_count_105 h
    | 3, _, z2 =>
      have z2 : x1 = (3 : Int32) := z2.trans (by decide)
      replace h := h.2.2.2.2.1 z2
      refine J.tswIn (q := 106) O dX11_count_23 (3 : Int32) z2 (by decide) (by decide) rfl (by decide) ?_
      refine J.aload_n (q := 107) O dX11_count_106 rfl 0 rfl ?_
      refine J.getI (q := 110) (c' := 0) (ci := 11) (k := 5) (M 0 5) rfl O dX11_count_107 rfl wd_3_7 (by decide) if_0_5 ?_
      exact hR _ _ _ _ dX11_count_110 h
    | 4, _, z2 =>
      have z2 : x1 = (4 : Int32) := z2.trans (by decide)
      replace h := h.2.2.2.2.2.1 z2
      refine J.tswIn (q := 111) O dX11_count_23 (4 : Int32) z2 (by decide) (by decide) rfl (by decide) ?_
      refine J.aload_n (q := 112) O dX11_count_111 rfl 0 rfl ?_
      refine J.getR (q := 115) (c' := 0) (ci := 11) (k := 3) (r := 51) O dX11_count_112 rfl wd_3_5 (by decide) if_0_3 ?_
      refine J.getI (q := 118) (c' := 51) (ci := 2) (k := 1) (M 51 1) rfl O dX11_count_115 rfl wd_1_173 (by decide) if_51_1 ?_
      exact hR _ _ _ _ dX11_count_118 h
    | 5, _, z2 =>
      have z2 : x1 = (5 : Int32) := z2.trans (by decide)
      replace h := h.2.2.2.2.2.2.1 z2
      refine J.tswIn (q := 119) O dX11_count_23 (5 : Int32) z2 (by decide) (by decide) rfl (by decide) ?_
      refine J.aload_n (q := 120) O dX11_count_119 rfl 0 rfl ?_
      refine J.getR (q := 123) (c' := 0) (ci := 11) (k := 3) (r := 51) O dX11_count_120 rfl wd_3_5 (by decide) if_0_3 ?_
      refine J.getI (q := 126) (c' := 51) (ci := 2) (k := 5) (M 51 5) rfl O dX11_count_123 rfl wd_1_180 (by decide) if_51_5 ?_
      exact hR _ _ _ _ dX11_count_126 h
    | 6, _, z2 =>
      have z2 : x1 = (6 : Int32) := z2.trans (by decide)
      replace h := h.2.2.2.2.2.2.2.1 z2
      refine J.tswIn (q := 127) O dX11_count_23 (6 : Int32) z2 (by decide) (by decide) rfl (by decide) ?_
      refine J.aload_n (q := 128) O dX11_count_127 rfl 0 rfl ?_
      refine J.callVI (q := 131) [] [] [.ref (ad G 0)] rfl O dX11_count_128 rfl (c_X11_countHolding hG h) wd_6_58 mw_X11_countHolding io_0 rfl (by decide) (Nat.le_of_ble_eq_true rfl) (fun v4 M4 h => ?_)
      exact hR _ _ _ _ dX11_count_131 h
    | 7, _, z2 =>
      have z2 : x1 = (7 : Int32) := z2.trans (by decide)
      replace h := h.2.2.2.2.2.2.2.2.1 z2
      refine J.tswIn (q := 132) O dX11_count_23 (7 : Int32) z2 (by decide) (by decide) rfl (by decide) ?_
      refine J.aload_n (q := 133) O dX11_count_132 rfl 0 rfl ?_
      refine J.getR (q := 136) (c' := 0) (ci := 11) (k := 7) (r := 72) O dX11_count_133 rfl wd_3_9 (by decide) if_0_7 ?_
      refine J.getI (q := 139) (c' := 72) (ci := 4) (k := 0) (M 72 0) rfl O dX11_count_136 rfl wd_2_30 (by decide) if_72_0 ?_
      exact hR _ _ _ _ dX11_count_139 h
    | 8, _, z2 =>
      have z2 : x1 = (8 : Int32) := z2.trans (by decide)
      replace h := h.2.2.2.2.2.2.2.2.2.1 z2
      refine J.tswIn (q := 140) O dX11_count_23 (8 : Int32) z2 (by decide) (by decide) rfl (by decide) ?_
      refine J.aload_n (q := 141) O dX11_count_140 rfl 0 rfl ?_
      refine J.callVI (q := 144) [] [] [.ref (ad G 0)] rfl O dX11_count_141 rfl (c_X11_countVoid hG h) wd_6_62 mw_X11_countVoid io_0 rfl (by decide) (Nat.le_of_ble_eq_true rfl) (fun v5 M5 h => ?_)
      exact hR _ _ _ _ dX11_count_144 h
    | 9, _, z2 =>
      have z2 : x1 = (9 : Int32) := z2.trans (by decide)
      replace h := h.2.2.2.2.2.2.2.2.2.2.1 z2
      refine J.tswIn (q := 145) O dX11_count_23 (9 : Int32) z2 (by decide) (by decide) rfl (by decide) ?_
      refine J.aload_n (q := 146) O dX11_count_145 rfl 0 rfl ?_
      refine J.getR (q := 149) (c' := 0) (ci := 11) (k := 2) (r := 15) O dX11_count_146 rfl wd_3_4 (by decide) if_0_2 ?_
      refine J.callVI (q := 152) [] [] [.ref (ad G 15)] rfl O dX11_count_149 rfl (c_X0_fed hG h) wd_3_114 mw_X0_fed io_15 rfl (by decide) (Nat.le_of_ble_eq_true rfl) (fun v6 M6 h => ?_)
      exact hR _ _ _ _ dX11_count_152 h
    | 10, _, z2 =>
      have z2 : x1 = (10 : Int32) := z2.trans (by decide)
      replace h := h.2.2.2.2.2.2.2.2.2.2.2 z2
      refine J.tswIn (q := 153) O dX11_count_23 (10 : Int32) z2 (by decide) (by decide) rfl (by decide) ?_
      refine J.aload_n (q := 154) O dX11_count_153 rfl 0 rfl ?_
      refine J.getI (q := 157) (c' := 0) (ci := 11) (k := 14) (M 0 14) rfl O dX11_count_154 rfl wd_3_16 (by decide) if_0_14 ?_
      exact hR _ _ _ _ dX11_count_157 h
    | j + 11, hj, _ => exact absurd hj (by omega)
set_option maxHeartbeats 4000000 in
set_option maxRecDepth 20000 in
theorem c_X11_count {l : Launch} {G : GX} (hG : Gd G) {a1 : Int32} {M : Mem} {K : Int32 → Mem → Prop} (h : f_X11_count a1 M K) : CI l G yX11_count cX11_count 2 (some .int) 7 [.ref (ad G 0), .int a1] M K := by
  unfold f_X11_count at h
  refine CI.mk hG (by decide) [(0, .ref (ad G 0)), (1, .int a1)] rfl (Nat.le_of_ble_eq_true rfl) (fun X O hlX hR => ?_)
  subst hlX
  refine J.iload_n (q := 1) O dX11_count_0 rfl 1 rfl ?_
  refine J.bipush (q := 3) (v := (11 : Int32)) O dX11_count_1 rfl rfl ?_
  refine J.icmp_lt (q := 6) (tgt := 22) O dX11_count_3 rfl (by decide) (fun z7 => ?_) (fun z7 => ?_)
  · replace h := h.1 z7
    exact J.sub [0, 1] rfl (j_X11_count_b22 hG O hR h)
  · replace h := h.2 z7
    refine J.iload_n (q := 7) O dX11_count_6 rfl 1 rfl ?_
    refine J.bipush (q := 9) (v := (16 : Int32)) O dX11_count_7 rfl rfl ?_
    refine J.icmp_gt (q := 12) (tgt := 22) O dX11_count_9 rfl (by decide) (fun z8 => ?_) (fun z8 => ?_)
    · replace h := h.1 z8
      exact J.sub [0, 1] rfl (j_X11_count_b22 hG O hR h)
    · replace h := h.2 z8
      refine J.aload_n (q := 13) O dX11_count_12 rfl 0 rfl ?_
      refine J.getR (q := 16) (c' := 0) (ci := 11) (k := 15) (r := 126) O dX11_count_13 rfl wd_3_17 (by decide) if_0_15 ?_
      refine J.iload_n (q := 17) O dX11_count_16 rfl 1 rfl ?_
      refine J.bipush (q := 19) (v := (10 : Int32)) O dX11_count_17 rfl rfl ?_
      refine J.isub (q := 20) O dX11_count_19 rfl ?_
      obtain ⟨hv9, h⟩ := h
      refine J.iald (q := 21) (c' := 126) (j := (a1 - (10 : Int32)).toNatClampNeg) (M 126 ((a1 - (10 : Int32)).toNatClampNeg)) rfl O dX11_count_20 rfl ar_126 hv9 rfl ?_
      exact hR _ _ _ _ dX11_count_21 h
set_option maxHeartbeats 4000000 in
set_option maxRecDepth 20000 in
theorem j_X12_in_b15 {X : CX} {G : GX} {K : Int32 → Mem → Prop} (hG : Gd G) (O : Ok X G cX12_in 3 RX12 1) (hR : RetZ X G cX12_in K) {s0 : Int32} {M : Mem} (h : f_X12_in_b15 K s0 M) : J X G M 15 [] [.int s0] := by
  unfold f_X12_in_b15 at h
  exact hR _ _ _ _ dX12_in_15 h.1 h.2
set_option maxHeartbeats 4000000 in
set_option maxRecDepth 20000 in
theorem j_X12_in_b14 {X : CX} {G : GX} {K : Int32 → Mem → Prop} (hG : Gd G) (O : Ok X G cX12_in 3 RX12 1) (hR : RetZ X G cX12_in K) {M : Mem} (h : f_X12_in_b14 K  M) : J X G M 14 [] [] := by
  unfold f_X12_in_b14 at h
  refine J.iconst (q := 15) (v := (0 : Int32)) O dX12_in_14 rfl rfl ?_
  exact J.sub [] rfl (j_X12_in_b15 hG O hR h)
set_option maxHeartbeats 4000000 in
set_option maxRecDepth 20000 in
theorem c_X12_in {l : Launch} {G : GX} (hG : Gd G) {a1 : Int32} {a2 : Int32} {a3 : Int32} {M : Mem} {K : Int32 → Mem → Prop} (h : f_X12_in a1 a2 a3 M K) : CI l G yX12_in cX12_in 3 (some .boolean) 1 [.int a1, .int a2, .int a3] M K := by
  unfold f_X12_in at h
  refine CZ.mk hG (by decide) [(0, .int a1), (1, .int a2), (2, .int a3)] rfl (Nat.le_of_ble_eq_true rfl) (fun X O hlX hR => ?_)
  subst hlX
  refine J.iload_n (q := 1) O dX12_in_0 rfl 0 rfl ?_
  refine J.iload_n (q := 2) O dX12_in_1 rfl 1 rfl ?_
  refine J.icmp_lt (q := 5) (tgt := 14) O dX12_in_2 rfl (by decide) (fun z2 => ?_) (fun z2 => ?_)
  · replace h := h.1 z2
    exact J.sub [] rfl (j_X12_in_b14 hG O hR h)
  · replace h := h.2 z2
    refine J.iload_n (q := 6) O dX12_in_5 rfl 0 rfl ?_
    refine J.iload_n (q := 7) O dX12_in_6 rfl 2 rfl ?_
    refine J.icmp_gt (q := 10) (tgt := 14) O dX12_in_7 rfl (by decide) (fun z3 => ?_) (fun z3 => ?_)
    · replace h := h.1 z3
      exact J.sub [] rfl (j_X12_in_b14 hG O hR h)
    · replace h := h.2 z3
      refine J.iconst (q := 11) (v := (1 : Int32)) O dX12_in_10 rfl rfl ?_
      refine J.goto (q := 15) O dX12_in_11 (by decide) ?_
      exact J.sub [] rfl (j_X12_in_b15 hG O hR h)
set_option maxHeartbeats 4000000 in
set_option maxRecDepth 20000 in
theorem c_X12_refuse {l : Launch} {G : GX} (hG : Gd G) {a1 : Int32} {M : Mem} {K : Int32 → Mem → Prop} (h : f_X12_refuse a1 M K) : CI l G yX12_refuse cX12_refuse 2 (some .int) 1 [.ref (ad G 287), .int a1] M K := by
  unfold f_X12_refuse at h
  refine CI.mk hG (by decide) [(0, .ref (ad G 287)), (1, .int a1)] rfl (Nat.le_of_ble_eq_true rfl) (fun X O hlX hR => ?_)
  subst hlX
  refine J.aload_n (q := 1) O dX12_refuse_0 rfl 0 rfl ?_
  refine J.getR (q := 4) (c' := 287) (ci := 12) (k := 9) (r := 295) O dX12_refuse_1 rfl wd_6_81 (by decide) if_287_9 ?_
  refine J.iload_n (q := 5) O dX12_refuse_4 rfl 1 rfl ?_
  refine J.ineg (q := 6) O dX12_refuse_5 rfl ?_
  refine J.dup2 (q := 7) O dX12_refuse_6 rfl rfl rfl ?_
  obtain ⟨hv3, h⟩ := h
  refine J.iald (q := 8) (c' := 295) (j := (-a1).toNatClampNeg) (M 295 ((-a1).toNatClampNeg)) rfl O dX12_refuse_7 rfl ar_295 hv3 rfl ?_
  refine J.iconst (q := 9) (v := (1 : Int32)) O dX12_refuse_8 rfl rfl ?_
  refine J.iadd (q := 10) O dX12_refuse_9 rfl ?_
  obtain ⟨hv4, h⟩ := h
  refine J.iast (q := 11) (c' := 295) (j := (-a1).toNatClampNeg) O dX12_refuse_10 rfl ar_295 hv4 rfl ?_
  refine J.iload_n (q := 12) O dX12_refuse_11 rfl 1 rfl ?_
  exact hR _ _ _ _ dX12_refuse_12 h
set_option maxHeartbeats 4000000 in
set_option maxRecDepth 20000 in
theorem c_X12_refuseFar {l : Launch} {G : GX} (hG : Gd G) {a1 : Int32} {M : Mem} {K : Int32 → Mem → Prop} (h : f_X12_refuseFar a1 M K) : CI l G yX12_refuseFar cX12_refuseFar 2 (some .int) 1 [.ref (ad G 287), .int a1] M K := by
  unfold f_X12_refuseFar at h
  refine CI.mk hG (by decide) [(0, .ref (ad G 287)), (1, .int a1)] rfl (Nat.le_of_ble_eq_true rfl) (fun X O hlX hR => ?_)
  subst hlX
  refine J.aload_n (q := 1) O dX12_refuseFar_0 rfl 0 rfl ?_
  refine J.getR (q := 4) (c' := 287) (ci := 12) (k := 9) (r := 295) O dX12_refuseFar_1 rfl wd_6_81 (by decide) if_287_9 ?_
  refine J.iload_n (q := 5) O dX12_refuseFar_4 rfl 1 rfl ?_
  refine J.ineg (q := 6) O dX12_refuseFar_5 rfl ?_
  refine J.dup2 (q := 7) O dX12_refuseFar_6 rfl rfl rfl ?_
  obtain ⟨hv3, h⟩ := h
  refine J.iald (q := 8) (c' := 295) (j := (-a1).toNatClampNeg) (M 295 ((-a1).toNatClampNeg)) rfl O dX12_refuseFar_7 rfl ar_295 hv3 rfl ?_
  refine J.iconst (q := 9) (v := (1 : Int32)) O dX12_refuseFar_8 rfl rfl ?_
  refine J.iadd (q := 10) O dX12_refuseFar_9 rfl ?_
  obtain ⟨hv4, h⟩ := h
  refine J.iast (q := 11) (c' := 295) (j := (-a1).toNatClampNeg) O dX12_refuseFar_10 rfl ar_295 hv4 rfl ?_
  refine J.ldcw (q := 14) O dX12_refuseFar_11 rfl wd_8_174 ?_
  refine J.iload_n (q := 15) O dX12_refuseFar_14 rfl 1 rfl ?_
  refine J.isub (q := 16) O dX12_refuseFar_15 rfl ?_
  exact hR _ _ _ _ dX12_refuseFar_16 h
set_option maxHeartbeats 4000000 in
set_option maxRecDepth 20000 in
theorem j_X12_ones_c4 {X : CX} {G : GX} {K : Int32 → Mem → Prop} (hG : Gd G) (O : Ok X G cX12_ones 3 RX12 1) (hR : RetI X G cX12_ones K) {a : Int32 × Int32 × Mem} (h : Lp (fun (r4 : Int32 × Int32 × Mem → Prop) a => f_X12_ones_c4 K r4 a.1 a.2.1 a.2.2) a) : J X G a.2.2 4 [(1, .int a.1), (2, .int a.2.1)] [] := by
  refine Lp.elim (P := fun a => J X G a.2.2 4 [(1, .int a.1), (2, .int a.2.1)] []) ?_ h
  clear h
  intro r4 hr4 a h
  obtain ⟨x1, x2, M⟩ := a
  unfold f_X12_ones_c4 at h
  (try dsimp only at h ⊢)
  refine J.iload_n (q := 5) O dX12_ones_4 rfl 1 rfl ?_
  refine J.if_le (q := 8) (tgt := 21) O dX12_ones_5 rfl (by decide) (fun z1 => ?_) (fun z1 => ?_)
  · replace h := h.1 z1
    refine J.iload_n (q := 22) O dX12_ones_21 rfl 0 rfl ?_
    exact hR _ _ _ _ dX12_ones_22 h
  · replace h := h.2 z1
    refine J.iload_n (q := 9) O dX12_ones_8 rfl 0 rfl ?_
    refine J.iload_n (q := 10) O dX12_ones_9 rfl 1 rfl ?_
    refine J.iconst (q := 11) (v := (2 : Int32)) O dX12_ones_10 rfl rfl ?_
    refine J.irem (q := 12) O dX12_ones_11 rfl (by decide) ?_
    refine J.iadd (q := 13) O dX12_ones_12 rfl ?_
    refine J.istore_n (q := 14) O dX12_ones_13 rfl [(1, .int (x1 + (x2 - x2 / (2 : Int32) * (2 : Int32)))), (2, .int x2)] (by decide) rfl ?_
    refine J.iload_n (q := 15) O dX12_ones_14 rfl 1 rfl ?_
    refine J.iconst (q := 16) (v := (2 : Int32)) O dX12_ones_15 rfl rfl ?_
    refine J.idiv (q := 17) O dX12_ones_16 rfl (by decide) ?_
    refine J.istore_n (q := 18) O dX12_ones_17 rfl [(2, .int (x2 / (2 : Int32))), (1, .int (x1 + (x2 - x2 / (2 : Int32) * (2 : Int32))))] (by decide) rfl ?_
    refine J.goto (q := 4) O dX12_ones_18 (by decide) ?_
    exact J.sub [1, 0] rfl (hr4 _ h)
set_option maxHeartbeats 4000000 in
set_option maxRecDepth 20000 in
theorem c_X12_ones {l : Launch} {G : GX} (hG : Gd G) {a1 : Int32} {M : Mem} {K : Int32 → Mem → Prop} (h : f_X12_ones a1 M K) : CI l G yX12_ones cX12_ones 3 (some .int) 1 [.int a1] M K := by
  unfold f_X12_ones at h
  refine CI.mk hG (by decide) [(0, .int a1)] rfl (Nat.le_of_ble_eq_true rfl) (fun X O hlX hR => ?_)
  subst hlX
  refine J.iconst (q := 1) (v := (0 : Int32)) O dX12_ones_0 rfl rfl ?_
  refine J.istore_n (q := 2) O dX12_ones_1 rfl [(1, .int (0 : Int32)), (0, .int a1)] (by decide) rfl ?_
  refine J.iload_n (q := 3) O dX12_ones_2 rfl 1 rfl ?_
  refine J.istore_n (q := 4) O dX12_ones_3 rfl [(2, .int a1), (1, .int (0 : Int32)), (0, .int a1)] (by decide) rfl ?_
  exact J.sub [1, 0] rfl (j_X12_ones_c4 hG O hR h)
set_option maxHeartbeats 4000000 in
set_option maxRecDepth 20000 in
theorem c_X12_isShop {l : Launch} {G : GX} (hG : Gd G) {a1 : Int32} {M : Mem} {K : Int32 → Mem → Prop} (h : f_X12_isShop a1 M K) : CI l G yX12_isShop cX12_isShop 1 (some .boolean) 2 [.int a1] M K := by
  unfold f_X12_isShop at h
  refine CZ.mk hG (by decide) [(0, .int a1)] rfl (Nat.le_of_ble_eq_true rfl) (fun X O hlX hR => ?_)
  subst hlX
  refine J.iload_n (q := 1) O dX12_isShop_0 rfl 0 rfl ?_
  refine J.iconst (q := 2) (v := (0 : Int32)) O dX12_isShop_1 rfl rfl ?_
  refine J.iconst (q := 3) (v := (5 : Int32)) O dX12_isShop_2 rfl rfl ?_
  refine J.callSI (q := 6) [.int a1, .int (0 : Int32), .int (5 : Int32)] [] [.int (5 : Int32), .int (0 : Int32), .int a1] rfl O dX12_isShop_3 rfl (c_X12_in hG h) wd_7_181 mw_X12_in rfl (by decide) (Nat.le_of_ble_eq_true rfl) (fun v1 M1 h => ?_)
  exact hR _ _ _ _ dX12_isShop_6 h.1 h.2
set_option maxHeartbeats 4000000 in
set_option maxRecDepth 20000 in
theorem c_X12_isWhat {l : Launch} {G : GX} (hG : Gd G) {a1 : Int32} {M : Mem} {K : Int32 → Mem → Prop} (h : f_X12_isWhat a1 M K) : CI l G yX12_isWhat cX12_isWhat 1 (some .boolean) 2 [.int a1] M K := by
  unfold f_X12_isWhat at h
  refine CZ.mk hG (by decide) [(0, .int a1)] rfl (Nat.le_of_ble_eq_true rfl) (fun X O hlX hR => ?_)
  subst hlX
  refine J.iload_n (q := 1) O dX12_isWhat_0 rfl 0 rfl ?_
  refine J.iconst (q := 2) (v := (0 : Int32)) O dX12_isWhat_1 rfl rfl ?_
  refine J.bipush (q := 4) (v := (7 : Int32)) O dX12_isWhat_2 rfl rfl ?_
  refine J.callSI (q := 7) [.int a1, .int (0 : Int32), .int (7 : Int32)] [] [.int (7 : Int32), .int (0 : Int32), .int a1] rfl O dX12_isWhat_4 rfl (c_X12_in hG h) wd_7_181 mw_X12_in rfl (by decide) (Nat.le_of_ble_eq_true rfl) (fun v1 M1 h => ?_)
  exact hR _ _ _ _ dX12_isWhat_7 h.1 h.2
set_option maxHeartbeats 4000000 in
set_option maxRecDepth 20000 in
theorem c_X12_isPerson {l : Launch} {G : GX} (hG : Gd G) {a1 : Int32} {M : Mem} {K : Int32 → Mem → Prop} (h : f_X12_isPerson a1 M K) : CI l G yX12_isPerson cX12_isPerson 2 (some .boolean) 2 [.ref (ad G 287), .int a1] M K := by
  unfold f_X12_isPerson at h
  refine CZ.mk hG (by decide) [(0, .ref (ad G 287)), (1, .int a1)] rfl (Nat.le_of_ble_eq_true rfl) (fun X O hlX hR => ?_)
  subst hlX
  refine J.iload_n (q := 1) O dX12_isPerson_0 rfl 1 rfl ?_
  refine J.iconst (q := 2) (v := (0 : Int32)) O dX12_isPerson_1 rfl rfl ?_
  refine J.aload_n (q := 3) O dX12_isPerson_2 rfl 0 rfl ?_
  refine J.getI (q := 6) (c' := 287) (ci := 12) (k := 2) (M 287 2) rfl O dX12_isPerson_3 rfl wd_6_74 (by decide) if_287_2 ?_
  refine J.iconst (q := 7) (v := (1 : Int32)) O dX12_isPerson_6 rfl rfl ?_
  refine J.isub (q := 8) O dX12_isPerson_7 rfl ?_
  refine J.callSI (q := 11) [.int a1, .int (0 : Int32), .int ((M 287 2) - (1 : Int32))] [] [.int ((M 287 2) - (1 : Int32)), .int (0 : Int32), .int a1] rfl O dX12_isPerson_8 rfl (c_X12_in hG h) wd_7_181 mw_X12_in rfl (by decide) (Nat.le_of_ble_eq_true rfl) (fun v1 M1 h => ?_)
  exact hR _ _ _ _ dX12_isPerson_11 h.1 h.2
set_option maxHeartbeats 4000000 in
set_option maxRecDepth 20000 in
theorem c_X12_days {l : Launch} {G : GX} (hG : Gd G) {a1 : Int32} {M : Mem} {K : Int32 → Mem → Prop} (h : f_X12_days a1 M K) : CI l G yX12_days cX12_days 2 (some .int) 2 [.ref (ad G 287), .int a1] M K := by
  unfold f_X12_days at h
  refine CI.mk hG (by decide) [(0, .ref (ad G 287)), (1, .int a1)] rfl (Nat.le_of_ble_eq_true rfl) (fun X O hlX hR => ?_)
  subst hlX
  refine J.iload_n (q := 1) O dX12_days_0 rfl 1 rfl ?_
  refine J.iconst (q := 2) (v := (1 : Int32)) O dX12_days_1 rfl rfl ?_
  refine J.icmp_ge (q := 5) (tgt := 12) O dX12_days_2 rfl (by decide) (fun z1 => ?_) (fun z1 => ?_)
  · replace h := h.1 z1
    refine J.iload_n (q := 13) O dX12_days_12 rfl 1 rfl ?_
    refine J.sipush (q := 16) (v := (1000 : Int32)) O dX12_days_13 rfl rfl ?_
    refine J.aload_n (q := 17) O dX12_days_16 rfl 0 rfl ?_
    refine J.getI (q := 20) (c' := 287) (ci := 12) (k := 0) (M 287 0) rfl O dX12_days_17 rfl wd_6_72 (by decide) if_287_0 ?_
    refine J.isub (q := 21) O dX12_days_20 rfl ?_
    refine J.icmp_le (q := 24) (tgt := 31) O dX12_days_21 rfl (by decide) (fun z2 => ?_) (fun z2 => ?_)
    · replace h := h.1 z2
      refine J.aload_n (q := 32) O dX12_days_31 rfl 0 rfl ?_
      refine J.dup (q := 33) O dX12_days_32 rfl rfl ?_
      refine J.getI (q := 36) (c' := 287) (ci := 12) (k := 0) (M 287 0) rfl O dX12_days_33 rfl wd_6_72 (by decide) if_287_0 ?_
      refine J.iload_n (q := 37) O dX12_days_36 rfl 1 rfl ?_
      refine J.iadd (q := 38) O dX12_days_37 rfl ?_
      refine J.putI (q := 41) (c' := 287) (ci := 12) (k := 0) O dX12_days_38 rfl wd_6_72 (by decide) if_287_0 rfl rfl ?_
      refine J.aload_n (q := 42) O dX12_days_41 rfl 0 rfl ?_
      refine J.getI (q := 45) (c' := 287) (ci := 12) (k := 0) ((M 287 0) + a1) rfl O dX12_days_42 rfl wd_6_72 (by decide) if_287_0 ?_
      exact hR _ _ _ _ dX12_days_45 h
    · replace h := h.2 z2
      refine J.aload_n (q := 25) O dX12_days_24 rfl 0 rfl ?_
      refine J.bipush (q := 27) (v := (-6 : Int32)) O dX12_days_25 rfl rfl ?_
      refine J.callVI (q := 30) [.int (-6 : Int32)] [] [.int (-6 : Int32), .ref (ad G 287)] rfl O dX12_days_27 rfl (c_X12_refuse hG h) wd_7_158 mw_X12_refuse io_287 rfl (by decide) (Nat.le_of_ble_eq_true rfl) (fun v3 M3 h => ?_)
      exact hR _ _ _ _ dX12_days_30 h
  · replace h := h.2 z1
    refine J.aload_n (q := 6) O dX12_days_5 rfl 0 rfl ?_
    refine J.bipush (q := 8) (v := (-4 : Int32)) O dX12_days_6 rfl rfl ?_
    refine J.callVI (q := 11) [.int (-4 : Int32)] [] [.int (-4 : Int32), .ref (ad G 287)] rfl O dX12_days_8 rfl (c_X12_refuse hG h) wd_7_158 mw_X12_refuse io_287 rfl (by decide) (Nat.le_of_ble_eq_true rfl) (fun v4 M4 h => ?_)
    exact hR _ _ _ _ dX12_days_11 h
set_option maxHeartbeats 4000000 in
set_option maxRecDepth 20000 in
theorem j_X12_feast_b48 {X : CX} {G : GX} {K : Int32 → Mem → Prop} (hG : Gd G) (O : Ok X G cX12_feast 3 RX12 2) (hR : RetI X G cX12_feast K) {s0 : Int32} {M : Mem} (h : f_X12_feast_b48 K s0 M) : J X G M 48 [] [.int s0] := by
  unfold f_X12_feast_b48 at h
  exact hR _ _ _ _ dX12_feast_48 h
set_option maxHeartbeats 4000000 in
set_option maxRecDepth 20000 in
theorem c_X12_feast {l : Launch} {G : GX} (hG : Gd G) {a1 : Int32} {M : Mem} {K : Int32 → Mem → Prop} (h : f_X12_feast a1 M K) : CI l G yX12_feast cX12_feast 3 (some .int) 2 [.ref (ad G 287), .int a1] M K := by
  unfold f_X12_feast at h
  refine CI.mk hG (by decide) [(0, .ref (ad G 287)), (1, .int a1)] rfl (Nat.le_of_ble_eq_true rfl) (fun X O hlX hR => ?_)
  subst hlX
  refine J.iload_n (q := 1) O dX12_feast_0 rfl 1 rfl ?_
  refine J.if_ge (q := 4) (tgt := 11) O dX12_feast_1 rfl (by decide) (fun z3 => ?_) (fun z3 => ?_)
  · replace h := h.1 z3
    refine J.iload_n (q := 12) O dX12_feast_11 rfl 1 rfl ?_
    refine J.sipush (q := 15) (v := (1000 : Int32)) O dX12_feast_12 rfl rfl ?_
    refine J.icmp_le (q := 18) (tgt := 25) O dX12_feast_15 rfl (by decide) (fun z4 => ?_) (fun z4 => ?_)
    · replace h := h.1 z4
      refine J.aload_n (q := 26) O dX12_feast_25 rfl 0 rfl ?_
      refine J.getR (q := 29) (c' := 287) (ci := 12) (k := 1) (r := 288) O dX12_feast_26 rfl wd_6_73 (by decide) if_287_1 ?_
      refine J.iload_n (q := 30) O dX12_feast_29 rfl 1 rfl ?_
      obtain ⟨hv5, h⟩ := h
      refine J.zald (q := 31) (c' := 288) (j := a1.toNatClampNeg) (M 288 a1.toNatClampNeg) rfl O dX12_feast_30 rfl ar_288 hv5 rfl ?_
      refine J.istore_n (q := 32) O dX12_feast_31 rfl [(2, .int (M 288 a1.toNatClampNeg)), (0, .ref (ad G 287)), (1, .int a1)] (by decide) rfl ?_
      refine J.aload_n (q := 33) O dX12_feast_32 rfl 1 rfl ?_
      refine J.getR (q := 36) (c' := 287) (ci := 12) (k := 1) (r := 288) O dX12_feast_33 rfl wd_6_73 (by decide) if_287_1 ?_
      refine J.iload_n (q := 37) O dX12_feast_36 rfl 2 rfl ?_
      refine J.iconst (q := 38) (v := (1 : Int32)) O dX12_feast_37 rfl rfl ?_
      obtain ⟨hv6, h⟩ := h
      refine J.zast (q := 39) (c' := 288) (j := a1.toNatClampNeg) O dX12_feast_38 rfl ar_288 hv6 rfl (Or.inr rfl) ?_
      refine J.iload_n (q := 40) O dX12_feast_39 rfl 0 rfl ?_
      refine J.if_eq (q := 43) (tgt := 47) O dX12_feast_40 rfl (by decide) (fun z7 => ?_) (fun z7 => ?_)
      · replace h := h.1 z7
        refine J.iconst (q := 48) (v := (1 : Int32)) O dX12_feast_47 rfl rfl ?_
        exact J.sub [] rfl (j_X12_feast_b48 hG O hR h)
      · replace h := h.2 z7
        refine J.iconst (q := 44) (v := (0 : Int32)) O dX12_feast_43 rfl rfl ?_
        refine J.goto (q := 48) O dX12_feast_44 (by decide) ?_
        exact J.sub [] rfl (j_X12_feast_b48 hG O hR h)
    · replace h := h.2 z4
      refine J.aload_n (q := 19) O dX12_feast_18 rfl 0 rfl ?_
      refine J.bipush (q := 21) (v := (-6 : Int32)) O dX12_feast_19 rfl rfl ?_
      refine J.callVI (q := 24) [.int (-6 : Int32)] [] [.int (-6 : Int32), .ref (ad G 287)] rfl O dX12_feast_21 rfl (c_X12_refuse hG h) wd_7_158 mw_X12_refuse io_287 rfl (by decide) (Nat.le_of_ble_eq_true rfl) (fun v8 M8 h => ?_)
      exact hR _ _ _ _ dX12_feast_24 h
  · replace h := h.2 z3
    refine J.aload_n (q := 5) O dX12_feast_4 rfl 0 rfl ?_
    refine J.bipush (q := 7) (v := (-4 : Int32)) O dX12_feast_5 rfl rfl ?_
    refine J.callVI (q := 10) [.int (-4 : Int32)] [] [.int (-4 : Int32), .ref (ad G 287)] rfl O dX12_feast_7 rfl (c_X12_refuse hG h) wd_7_158 mw_X12_refuse io_287 rfl (by decide) (Nat.le_of_ble_eq_true rfl) (fun v9 M9 h => ?_)
    exact hR _ _ _ _ dX12_feast_10 h
set_option maxHeartbeats 4000000 in
set_option maxRecDepth 20000 in
theorem j_X12_workdaysIn_b38 {X : CX} {G : GX} {K : Int32 → Mem → Prop} (hG : Gd G) (O : Ok X G cX12_workdaysIn 5 RX12 1) (hR : RetI X G cX12_workdaysIn K) {r7 : Int32 × Int32 × Int32 × Mem → Prop} (hr7 : ∀ a : Int32 × Int32 × Int32 × Mem, r7 a → J X G a.2.2.2 7 [(0, .ref (ad G 287)), (2, .int a.1), (3, .int a.2.1), (4, .int a.2.2.1)] []) {x2 : Int32} {x4 : Int32} {s0 : Int32} {s1 : Int32} {M : Mem} (h : f_X12_workdaysIn_b38 r7 K x2 x4 s0 s1 M) : J X G M 38 [(0, .ref (ad G 287)), (2, .int x2), (4, .int x4)] [.int s0, .int s1] := by
  unfold f_X12_workdaysIn_b38 at h
  refine J.iadd (q := 39) O dX12_workdaysIn_38 rfl ?_
  refine J.istore_n (q := 40) O dX12_workdaysIn_39 rfl [(3, .int (s1 + s0)), (0, .ref (ad G 287)), (2, .int x2), (4, .int x4)] (by decide) rfl ?_
  refine J.iinc (q := 43) O dX12_workdaysIn_40 rfl [(4, .int (x4 + (1 : Int32))), (3, .int (s1 + s0)), (0, .ref (ad G 287)), (2, .int x2)] 3 rfl rfl (by decide) rfl ?_
  refine J.goto (q := 7) O dX12_workdaysIn_43 (by decide) ?_
  exact J.sub [2, 3, 1, 0] rfl (hr7 _ h)
set_option maxHeartbeats 4000000 in
set_option maxRecDepth 20000 in
theorem j_X12_workdaysIn_b37 {X : CX} {G : GX} {K : Int32 → Mem → Prop} (hG : Gd G) (O : Ok X G cX12_workdaysIn 5 RX12 1) (hR : RetI X G cX12_workdaysIn K) {r7 : Int32 × Int32 × Int32 × Mem → Prop} (hr7 : ∀ a : Int32 × Int32 × Int32 × Mem, r7 a → J X G a.2.2.2 7 [(0, .ref (ad G 287)), (2, .int a.1), (3, .int a.2.1), (4, .int a.2.2.1)] []) {x2 : Int32} {x4 : Int32} {s0 : Int32} {M : Mem} (h : f_X12_workdaysIn_b37 r7 K x2 x4 s0 M) : J X G M 37 [(0, .ref (ad G 287)), (2, .int x2), (4, .int x4)] [.int s0] := by
  unfold f_X12_workdaysIn_b37 at h
  refine J.iconst (q := 38) (v := (0 : Int32)) O dX12_workdaysIn_37 rfl rfl ?_
  exact J.sub [0, 1, 2] rfl (j_X12_workdaysIn_b38 hG O hR hr7 h)
set_option maxHeartbeats 4000000 in
set_option maxRecDepth 20000 in
theorem j_X12_workdaysIn_c7 {X : CX} {G : GX} {K : Int32 → Mem → Prop} (hG : Gd G) (O : Ok X G cX12_workdaysIn 5 RX12 1) (hR : RetI X G cX12_workdaysIn K) {a : Int32 × Int32 × Int32 × Mem} (h : Lp (fun (r7 : Int32 × Int32 × Int32 × Mem → Prop) a => f_X12_workdaysIn_c7 K r7 a.1 a.2.1 a.2.2.1 a.2.2.2) a) : J X G a.2.2.2 7 [(0, .ref (ad G 287)), (2, .int a.1), (3, .int a.2.1), (4, .int a.2.2.1)] [] := by
  refine Lp.elim (P := fun a => J X G a.2.2.2 7 [(0, .ref (ad G 287)), (2, .int a.1), (3, .int a.2.1), (4, .int a.2.2.1)] []) ?_ h
  clear h
  intro r7 hr7 a h
  obtain ⟨x2, x3, x4, M⟩ := a
  unfold f_X12_workdaysIn_c7 at h
  (try dsimp only at h ⊢)
  refine J.iload (q := 9) O dX12_workdaysIn_7 rfl 3 rfl ?_
  refine J.iload_n (q := 10) O dX12_workdaysIn_9 rfl 1 rfl ?_
  refine J.icmp_gt (q := 13) (tgt := 46) O dX12_workdaysIn_10 rfl (by decide) (fun z2 => ?_) (fun z2 => ?_)
  · replace h := h.1 z2
    refine J.iload_n (q := 47) O dX12_workdaysIn_46 rfl 2 rfl ?_
    exact hR _ _ _ _ dX12_workdaysIn_47 h
  · replace h := h.2 z2
    refine J.iload_n (q := 14) O dX12_workdaysIn_13 rfl 2 rfl ?_
    refine J.iload (q := 16) O dX12_workdaysIn_14 rfl 3 rfl ?_
    refine J.bipush (q := 18) (v := (7 : Int32)) O dX12_workdaysIn_16 rfl rfl ?_
    refine J.irem (q := 19) O dX12_workdaysIn_18 rfl (by decide) ?_
    refine J.iconst (q := 20) (v := (5 : Int32)) O dX12_workdaysIn_19 rfl rfl ?_
    refine J.icmp_ge (q := 23) (tgt := 37) O dX12_workdaysIn_20 rfl (by decide) (fun z3 => ?_) (fun z3 => ?_)
    · replace h := h.1 z3
      exact J.sub [0, 1, 3] rfl (j_X12_workdaysIn_b37 hG O hR hr7 h)
    · replace h := h.2 z3
      refine J.aload_n (q := 24) O dX12_workdaysIn_23 rfl 0 rfl ?_
      refine J.getR (q := 27) (c' := 287) (ci := 12) (k := 1) (r := 288) O dX12_workdaysIn_24 rfl wd_6_73 (by decide) if_287_1 ?_
      refine J.iload (q := 29) O dX12_workdaysIn_27 rfl 3 rfl ?_
      obtain ⟨hv4, h⟩ := h
      refine J.zald (q := 30) (c' := 288) (j := x4.toNatClampNeg) (M 288 x4.toNatClampNeg) rfl O dX12_workdaysIn_29 rfl ar_288 hv4 rfl ?_
      refine J.if_ne (q := 33) (tgt := 37) O dX12_workdaysIn_30 rfl (by decide) (fun z5 => ?_) (fun z5 => ?_)
      · replace h := h.1 z5
        exact J.sub [0, 1, 3] rfl (j_X12_workdaysIn_b37 hG O hR hr7 h)
      · replace h := h.2 z5
        refine J.iconst (q := 34) (v := (1 : Int32)) O dX12_workdaysIn_33 rfl rfl ?_
        refine J.goto (q := 38) O dX12_workdaysIn_34 (by decide) ?_
        exact J.sub [0, 1, 3] rfl (j_X12_workdaysIn_b38 hG O hR hr7 h)
set_option maxHeartbeats 4000000 in
set_option maxRecDepth 20000 in
theorem c_X12_workdaysIn {l : Launch} {G : GX} (hG : Gd G) {a1 : Int32} {a2 : Int32} {M : Mem} {K : Int32 → Mem → Prop} (h : f_X12_workdaysIn a1 a2 M K) : CI l G yX12_workdaysIn cX12_workdaysIn 5 (some .int) 1 [.ref (ad G 287), .int a1, .int a2] M K := by
  unfold f_X12_workdaysIn at h
  refine CI.mk hG (by decide) [(0, .ref (ad G 287)), (1, .int a1), (2, .int a2)] rfl (Nat.le_of_ble_eq_true rfl) (fun X O hlX hR => ?_)
  subst hlX
  refine J.iconst (q := 1) (v := (0 : Int32)) O dX12_workdaysIn_0 rfl rfl ?_
  refine J.istore_n (q := 2) O dX12_workdaysIn_1 rfl [(3, .int (0 : Int32)), (0, .ref (ad G 287)), (1, .int a1), (2, .int a2)] (by decide) rfl ?_
  refine J.iload_n (q := 3) O dX12_workdaysIn_2 rfl 2 rfl ?_
  refine J.iconst (q := 4) (v := (1 : Int32)) O dX12_workdaysIn_3 rfl rfl ?_
  refine J.iadd (q := 5) O dX12_workdaysIn_4 rfl ?_
  refine J.istore (q := 7) O dX12_workdaysIn_5 rfl [(4, .int (a1 + (1 : Int32))), (3, .int (0 : Int32)), (0, .ref (ad G 287)), (1, .int a1), (2, .int a2)] (by decide) rfl ?_
  exact J.sub [2, 4, 1, 0] rfl (j_X12_workdaysIn_c7 hG O hR h)
set_option maxHeartbeats 4000000 in
set_option maxRecDepth 20000 in
theorem j_X12_workdays_b8 {X : CX} {G : GX} {K : Int32 → Mem → Prop} (hG : Gd G) (O : Ok X G cX12_workdays 3 RX12 2) (hR : RetI X G cX12_workdays K) {M : Mem} (h : f_X12_workdays_b8 K  M) : J X G M 8 [(0, .ref (ad G 287))] [] := by
  unfold f_X12_workdays_b8 at h
  refine J.aload_n (q := 9) O dX12_workdays_8 rfl 0 rfl ?_
  refine J.bipush (q := 11) (v := (-4 : Int32)) O dX12_workdays_9 rfl rfl ?_
  refine J.callVI (q := 14) [.int (-4 : Int32)] [] [.int (-4 : Int32), .ref (ad G 287)] rfl O dX12_workdays_11 rfl (c_X12_refuse hG h) wd_7_158 mw_X12_refuse io_287 rfl (by decide) (Nat.le_of_ble_eq_true rfl) (fun v1 M1 h => ?_)
  exact hR _ _ _ _ dX12_workdays_14 h
set_option maxHeartbeats 4000000 in
set_option maxRecDepth 20000 in
theorem j_X12_workdays_b44 {X : CX} {G : GX} {K : Int32 → Mem → Prop} (hG : Gd G) (O : Ok X G cX12_workdays 3 RX12 2) (hR : RetI X G cX12_workdays K) {s0 : Int32} {M : Mem} (h : f_X12_workdays_b44 K s0 M) : J X G M 44 [] [.int s0] := by
  unfold f_X12_workdays_b44 at h
  exact hR _ _ _ _ dX12_workdays_44 h
set_option maxHeartbeats 4000000 in
set_option maxRecDepth 20000 in
theorem j_X12_workdays_b29 {X : CX} {G : GX} {K : Int32 → Mem → Prop} (hG : Gd G) (O : Ok X G cX12_workdays 3 RX12 2) (hR : RetI X G cX12_workdays K) {M : Mem} (h : f_X12_workdays_b29 K  M) : J X G M 29 [(0, .ref (ad G 287))] [] := by
  unfold f_X12_workdays_b29 at h
  refine J.aload_n (q := 30) O dX12_workdays_29 rfl 0 rfl ?_
  refine J.bipush (q := 32) (v := (-6 : Int32)) O dX12_workdays_30 rfl rfl ?_
  refine J.callVI (q := 35) [.int (-6 : Int32)] [] [.int (-6 : Int32), .ref (ad G 287)] rfl O dX12_workdays_32 rfl (c_X12_refuse hG h) wd_7_158 mw_X12_refuse io_287 rfl (by decide) (Nat.le_of_ble_eq_true rfl) (fun v2 M2 h => ?_)
  refine J.goto (q := 44) O dX12_workdays_35 (by decide) ?_
  exact J.sub [] rfl (j_X12_workdays_b44 hG O hR h)
set_option maxHeartbeats 4000000 in
set_option maxRecDepth 20000 in
theorem c_X12_workdays {l : Launch} {G : GX} (hG : Gd G) {a1 : Int32} {a2 : Int32} {M : Mem} {K : Int32 → Mem → Prop} (h : f_X12_workdays a1 a2 M K) : CI l G yX12_workdays cX12_workdays 3 (some .int) 2 [.ref (ad G 287), .int a1, .int a2] M K := by
  unfold f_X12_workdays at h
  refine CI.mk hG (by decide) [(0, .ref (ad G 287)), (1, .int a1), (2, .int a2)] rfl (Nat.le_of_ble_eq_true rfl) (fun X O hlX hR => ?_)
  subst hlX
  refine J.iload_n (q := 1) O dX12_workdays_0 rfl 1 rfl ?_
  refine J.if_lt (q := 4) (tgt := 8) O dX12_workdays_1 rfl (by decide) (fun z3 => ?_) (fun z3 => ?_)
  · replace h := h.1 z3
    exact J.sub [0] rfl (j_X12_workdays_b8 hG O hR h)
  · replace h := h.2 z3
    refine J.iload_n (q := 5) O dX12_workdays_4 rfl 2 rfl ?_
    refine J.if_ge (q := 8) (tgt := 15) O dX12_workdays_5 rfl (by decide) (fun z4 => ?_) (fun z4 => ?_)
    · replace h := h.1 z4
      refine J.iload_n (q := 16) O dX12_workdays_15 rfl 1 rfl ?_
      refine J.sipush (q := 19) (v := (1000 : Int32)) O dX12_workdays_16 rfl rfl ?_
      refine J.icmp_gt (q := 22) (tgt := 29) O dX12_workdays_19 rfl (by decide) (fun z5 => ?_) (fun z5 => ?_)
      · replace h := h.1 z5
        exact J.sub [0] rfl (j_X12_workdays_b29 hG O hR h)
      · replace h := h.2 z5
        refine J.iload_n (q := 23) O dX12_workdays_22 rfl 2 rfl ?_
        refine J.sipush (q := 26) (v := (1000 : Int32)) O dX12_workdays_23 rfl rfl ?_
        refine J.icmp_le (q := 29) (tgt := 38) O dX12_workdays_26 rfl (by decide) (fun z6 => ?_) (fun z6 => ?_)
        · replace h := h.1 z6
          refine J.aload_n (q := 39) O dX12_workdays_38 rfl 0 rfl ?_
          refine J.iload_n (q := 40) O dX12_workdays_39 rfl 1 rfl ?_
          refine J.iload_n (q := 41) O dX12_workdays_40 rfl 2 rfl ?_
          refine J.callVI (q := 44) [.int a1, .int a2] [] [.int a2, .int a1, .ref (ad G 287)] rfl O dX12_workdays_41 rfl (c_X12_workdaysIn hG h) wd_7_170 mw_X12_workdaysIn io_287 rfl (by decide) (Nat.le_of_ble_eq_true rfl) (fun v7 M7 h => ?_)
          exact J.sub [] rfl (j_X12_workdays_b44 hG O hR h)
        · replace h := h.2 z6
          exact J.sub [0] rfl (j_X12_workdays_b29 hG O hR h)
    · replace h := h.2 z4
      exact J.sub [0] rfl (j_X12_workdays_b8 hG O hR h)
set_option maxHeartbeats 4000000 in
set_option maxRecDepth 20000 in
theorem j_X12_person_b37 {X : CX} {G : GX} {K : Int32 → Mem → Prop} (hG : Gd G) (O : Ok X G cX12_person 6 RX12 3) (hR : RetI X G cX12_person K) {M : Mem} (h : f_X12_person_b37 K  M) : J X G M 37 [(0, .ref (ad G 287))] [] := by
  unfold f_X12_person_b37 at h
  refine J.aload_n (q := 38) O dX12_person_37 rfl 0 rfl ?_
  refine J.bipush (q := 40) (v := (-4 : Int32)) O dX12_person_38 rfl rfl ?_
  refine J.callVI (q := 43) [.int (-4 : Int32)] [] [.int (-4 : Int32), .ref (ad G 287)] rfl O dX12_person_40 rfl (c_X12_refuse hG h) wd_7_158 mw_X12_refuse io_287 rfl (by decide) (Nat.le_of_ble_eq_true rfl) (fun v8 M8 h => ?_)
  exact hR _ _ _ _ dX12_person_43 h
set_option maxHeartbeats 4000000 in
set_option maxRecDepth 20000 in
theorem j_X12_person_b82 {X : CX} {G : GX} {K : Int32 → Mem → Prop} (hG : Gd G) (O : Ok X G cX12_person 6 RX12 3) (hR : RetI X G cX12_person K) {M : Mem} (h : f_X12_person_b82 K  M) : J X G M 82 [(0, .ref (ad G 287))] [] := by
  unfold f_X12_person_b82 at h
  refine J.aload_n (q := 83) O dX12_person_82 rfl 0 rfl ?_
  refine J.bipush (q := 85) (v := (-6 : Int32)) O dX12_person_83 rfl rfl ?_
  refine J.callVI (q := 88) [.int (-6 : Int32)] [] [.int (-6 : Int32), .ref (ad G 287)] rfl O dX12_person_85 rfl (c_X12_refuse hG h) wd_7_158 mw_X12_refuse io_287 rfl (by decide) (Nat.le_of_ble_eq_true rfl) (fun v9 M9 h => ?_)
  exact hR _ _ _ _ dX12_person_88 h
set_option maxHeartbeats 4000000 in
set_option maxRecDepth 20000 in
theorem c_X12_person {l : Launch} {G : GX} (hG : Gd G) {a1 : Int32} {a2 : Int32} {a3 : Int32} {a4 : Int32} {a5 : Int32} {M : Mem} {K : Int32 → Mem → Prop} (h : f_X12_person a1 a2 a3 a4 a5 M K) : CI l G yX12_person cX12_person 6 (some .int) 3 [.ref (ad G 287), .int a1, .int a2, .int a3, .int a4, .int a5] M K := by
  unfold f_X12_person at h
  refine CI.mk hG (by decide) [(0, .ref (ad G 287)), (1, .int a1), (2, .int a2), (3, .int a3), (4, .int a4), (5, .int a5)] rfl (Nat.le_of_ble_eq_true rfl) (fun X O hlX hR => ?_)
  subst hlX
  refine J.iload_n (q := 1) O dX12_person_0 rfl 1 rfl ?_
  refine J.callSI (q := 4) [.int a1] [] [.int a1] rfl O dX12_person_1 rfl (c_X12_isShop hG h) wd_7_178 mw_X12_isShop rfl (by decide) (Nat.le_of_ble_eq_true rfl) (fun v10 M10 h => ?_)
  refine J.if_ne (q := 7) (tgt := 13) O dX12_person_4 rfl (by decide) (fun z11 => ?_) (fun z11 => ?_)
  · replace h := h.1 z11
    refine J.iload_n (q := 14) O dX12_person_13 rfl 2 rfl ?_
    refine J.sipush (q := 17) (v := (-25000 : Int32)) O dX12_person_14 rfl rfl ?_
    refine J.icmp_lt (q := 20) (tgt := 37) O dX12_person_17 rfl (by decide) (fun z12 => ?_) (fun z12 => ?_)
    · replace h := h.1 z12
      exact J.sub [0] rfl (j_X12_person_b37 hG O hR h)
    · replace h := h.2 z12
      refine J.iload_n (q := 21) O dX12_person_20 rfl 3 rfl ?_
      refine J.sipush (q := 24) (v := (-15000 : Int32)) O dX12_person_21 rfl rfl ?_
      refine J.icmp_lt (q := 27) (tgt := 37) O dX12_person_24 rfl (by decide) (fun z13 => ?_) (fun z13 => ?_)
      · replace h := h.1 z13
        exact J.sub [0] rfl (j_X12_person_b37 hG O hR h)
      · replace h := h.2 z13
        refine J.iload (q := 29) O dX12_person_27 rfl 4 rfl ?_
        refine J.if_lt (q := 32) (tgt := 37) O dX12_person_29 rfl (by decide) (fun z14 => ?_) (fun z14 => ?_)
        · replace h := h.1 z14
          exact J.sub [0] rfl (j_X12_person_b37 hG O hR h)
        · replace h := h.2 z14
          refine J.iload (q := 34) O dX12_person_32 rfl 5 rfl ?_
          refine J.if_ge (q := 37) (tgt := 44) O dX12_person_34 rfl (by decide) (fun z15 => ?_) (fun z15 => ?_)
          · replace h := h.1 z15
            refine J.iload_n (q := 45) O dX12_person_44 rfl 2 rfl ?_
            refine J.sipush (q := 48) (v := (-5000 : Int32)) O dX12_person_45 rfl rfl ?_
            refine J.icmp_gt (q := 51) (tgt := 82) O dX12_person_48 rfl (by decide) (fun z16 => ?_) (fun z16 => ?_)
            · replace h := h.1 z16
              exact J.sub [0] rfl (j_X12_person_b82 hG O hR h)
            · replace h := h.2 z16
              refine J.iload_n (q := 52) O dX12_person_51 rfl 3 rfl ?_
              refine J.aload_n (q := 53) O dX12_person_52 rfl 0 rfl ?_
              refine J.getI (q := 56) (c' := 287) (ci := 12) (k := 0) (M10 287 0) rfl O dX12_person_53 rfl wd_6_72 (by decide) if_287_0 ?_
              refine J.icmp_gt (q := 59) (tgt := 82) O dX12_person_56 rfl (by decide) (fun z17 => ?_) (fun z17 => ?_)
              · replace h := h.1 z17
                exact J.sub [0] rfl (j_X12_person_b82 hG O hR h)
              · replace h := h.2 z17
                refine J.iload (q := 61) O dX12_person_59 rfl 4 rfl ?_
                refine J.bipush (q := 63) (v := (9 : Int32)) O dX12_person_61 rfl rfl ?_
                refine J.icmp_gt (q := 66) (tgt := 82) O dX12_person_63 rfl (by decide) (fun z18 => ?_) (fun z18 => ?_)
                · replace h := h.1 z18
                  exact J.sub [0] rfl (j_X12_person_b82 hG O hR h)
                · replace h := h.2 z18
                  refine J.iload (q := 68) O dX12_person_66 rfl 5 rfl ?_
                  refine J.bipush (q := 70) (v := (100 : Int32)) O dX12_person_68 rfl rfl ?_
                  refine J.icmp_gt (q := 73) (tgt := 82) O dX12_person_70 rfl (by decide) (fun z19 => ?_) (fun z19 => ?_)
                  · replace h := h.1 z19
                    exact J.sub [0] rfl (j_X12_person_b82 hG O hR h)
                  · replace h := h.2 z19
                    refine J.aload_n (q := 74) O dX12_person_73 rfl 0 rfl ?_
                    refine J.getI (q := 77) (c' := 287) (ci := 12) (k := 2) (M10 287 2) rfl O dX12_person_74 rfl wd_6_74 (by decide) if_287_2 ?_
                    refine J.bipush (q := 79) (v := (24 : Int32)) O dX12_person_77 rfl rfl ?_
                    refine J.icmp_ne (q := 82) (tgt := 89) O dX12_person_79 rfl (by decide) (fun z20 => ?_) (fun z20 => ?_)
                    · replace h := h.1 z20
                      refine J.aload_n (q := 90) O dX12_person_89 rfl 0 rfl ?_
                      refine J.iconst (q := 91) (v := (-1 : Int32)) O dX12_person_90 rfl rfl ?_
                      refine J.putI (q := 94) (c' := 287) (ci := 12) (k := 89) O dX12_person_91 rfl wd_6_161 (by decide) if_287_89 rfl rfl ?_
                      refine J.aload_n (q := 95) O dX12_person_94 rfl 0 rfl ?_
                      refine J.getR (q := 98) (c' := 287) (ci := 12) (k := 3) (r := 289) O dX12_person_95 rfl wd_6_75 (by decide) if_287_3 ?_
                      refine J.aload_n (q := 99) O dX12_person_98 rfl 0 rfl ?_
                      refine J.getI (q := 102) (c' := 287) (ci := 12) (k := 2) (M10 287 2) rfl O dX12_person_99 rfl wd_6_74 (by decide) if_287_2 ?_
                      refine J.iload_n (q := 103) O dX12_person_102 rfl 1 rfl ?_
                      obtain ⟨hv21, h⟩ := h
                      refine J.iast (q := 104) (c' := 289) (j := (M10 287 2).toNatClampNeg) O dX12_person_103 rfl ar_289 hv21 rfl ?_
                      refine J.aload_n (q := 105) O dX12_person_104 rfl 0 rfl ?_
                      refine J.getR (q := 108) (c' := 287) (ci := 12) (k := 4) (r := 290) O dX12_person_105 rfl wd_6_76 (by decide) if_287_4 ?_
                      refine J.aload_n (q := 109) O dX12_person_108 rfl 0 rfl ?_
                      refine J.getI (q := 112) (c' := 287) (ci := 12) (k := 2) (M10 287 2) rfl O dX12_person_109 rfl wd_6_74 (by decide) if_287_2 ?_
                      refine J.iload_n (q := 113) O dX12_person_112 rfl 2 rfl ?_
                      obtain ⟨hv22, h⟩ := h
                      refine J.iast (q := 114) (c' := 290) (j := (M10 287 2).toNatClampNeg) O dX12_person_113 rfl ar_290 hv22 rfl ?_
                      refine J.aload_n (q := 115) O dX12_person_114 rfl 0 rfl ?_
                      refine J.getR (q := 118) (c' := 287) (ci := 12) (k := 5) (r := 291) O dX12_person_115 rfl wd_6_77 (by decide) if_287_5 ?_
                      refine J.aload_n (q := 119) O dX12_person_118 rfl 0 rfl ?_
                      refine J.getI (q := 122) (c' := 287) (ci := 12) (k := 2) (M10 287 2) rfl O dX12_person_119 rfl wd_6_74 (by decide) if_287_2 ?_
                      refine J.iload_n (q := 123) O dX12_person_122 rfl 3 rfl ?_
                      obtain ⟨hv23, h⟩ := h
                      refine J.iast (q := 124) (c' := 291) (j := (M10 287 2).toNatClampNeg) O dX12_person_123 rfl ar_291 hv23 rfl ?_
                      refine J.aload_n (q := 125) O dX12_person_124 rfl 0 rfl ?_
                      refine J.getR (q := 128) (c' := 287) (ci := 12) (k := 6) (r := 292) O dX12_person_125 rfl wd_6_78 (by decide) if_287_6 ?_
                      refine J.iconst (q := 129) (v := (2 : Int32)) O dX12_person_128 rfl rfl ?_
                      refine J.aload_n (q := 130) O dX12_person_129 rfl 0 rfl ?_
                      refine J.getI (q := 133) (c' := 287) (ci := 12) (k := 2) (M10 287 2) rfl O dX12_person_130 rfl wd_6_74 (by decide) if_287_2 ?_
                      refine J.imul (q := 134) O dX12_person_133 rfl ?_
                      refine J.iload (q := 136) O dX12_person_134 rfl 4 rfl ?_
                      obtain ⟨hv24, h⟩ := h
                      refine J.iast (q := 137) (c' := 292) (j := ((2 : Int32) * (M10 287 2)).toNatClampNeg) O dX12_person_136 rfl ar_292 hv24 rfl ?_
                      refine J.aload_n (q := 138) O dX12_person_137 rfl 0 rfl ?_
                      refine J.getR (q := 141) (c' := 287) (ci := 12) (k := 6) (r := 292) O dX12_person_138 rfl wd_6_78 (by decide) if_287_6 ?_
                      refine J.iconst (q := 142) (v := (2 : Int32)) O dX12_person_141 rfl rfl ?_
                      refine J.aload_n (q := 143) O dX12_person_142 rfl 0 rfl ?_
                      refine J.getI (q := 146) (c' := 287) (ci := 12) (k := 2) (M10 287 2) rfl O dX12_person_143 rfl wd_6_74 (by decide) if_287_2 ?_
                      refine J.imul (q := 147) O dX12_person_146 rfl ?_
                      refine J.iconst (q := 148) (v := (1 : Int32)) O dX12_person_147 rfl rfl ?_
                      refine J.iadd (q := 149) O dX12_person_148 rfl ?_
                      refine J.iload (q := 151) O dX12_person_149 rfl 5 rfl ?_
                      obtain ⟨hv25, h⟩ := h
                      refine J.iast (q := 152) (c' := 292) (j := (((2 : Int32) * (M10 287 2)) + (1 : Int32)).toNatClampNeg) O dX12_person_151 rfl ar_292 hv25 rfl ?_
                      refine J.aload_n (q := 153) O dX12_person_152 rfl 0 rfl ?_
                      refine J.getR (q := 156) (c' := 287) (ci := 12) (k := 7) (r := 293) O dX12_person_153 rfl wd_6_79 (by decide) if_287_7 ?_
                      refine J.iconst (q := 157) (v := (2 : Int32)) O dX12_person_156 rfl rfl ?_
                      refine J.aload_n (q := 158) O dX12_person_157 rfl 0 rfl ?_
                      refine J.getI (q := 161) (c' := 287) (ci := 12) (k := 2) (M10 287 2) rfl O dX12_person_158 rfl wd_6_74 (by decide) if_287_2 ?_
                      refine J.imul (q := 162) O dX12_person_161 rfl ?_
                      refine J.iload (q := 164) O dX12_person_162 rfl 4 rfl ?_
                      obtain ⟨hv26, h⟩ := h
                      refine J.iast (q := 165) (c' := 293) (j := ((2 : Int32) * (M10 287 2)).toNatClampNeg) O dX12_person_164 rfl ar_293 hv26 rfl ?_
                      refine J.aload_n (q := 166) O dX12_person_165 rfl 0 rfl ?_
                      refine J.getR (q := 169) (c' := 287) (ci := 12) (k := 7) (r := 293) O dX12_person_166 rfl wd_6_79 (by decide) if_287_7 ?_
                      refine J.iconst (q := 170) (v := (2 : Int32)) O dX12_person_169 rfl rfl ?_
                      refine J.aload_n (q := 171) O dX12_person_170 rfl 0 rfl ?_
                      refine J.getI (q := 174) (c' := 287) (ci := 12) (k := 2) (M10 287 2) rfl O dX12_person_171 rfl wd_6_74 (by decide) if_287_2 ?_
                      refine J.imul (q := 175) O dX12_person_174 rfl ?_
                      refine J.iconst (q := 176) (v := (1 : Int32)) O dX12_person_175 rfl rfl ?_
                      refine J.iadd (q := 177) O dX12_person_176 rfl ?_
                      refine J.iload (q := 179) O dX12_person_177 rfl 5 rfl ?_
                      obtain ⟨hv27, h⟩ := h
                      refine J.iast (q := 180) (c' := 293) (j := (((2 : Int32) * (M10 287 2)) + (1 : Int32)).toNatClampNeg) O dX12_person_179 rfl ar_293 hv27 rfl ?_
                      refine J.aload_n (q := 181) O dX12_person_180 rfl 0 rfl ?_
                      refine J.dup (q := 182) O dX12_person_181 rfl rfl ?_
                      refine J.getI (q := 185) (c' := 287) (ci := 12) (k := 2) (M10 287 2) rfl O dX12_person_182 rfl wd_6_74 (by decide) if_287_2 ?_
                      refine J.iconst (q := 186) (v := (1 : Int32)) O dX12_person_185 rfl rfl ?_
                      refine J.iadd (q := 187) O dX12_person_186 rfl ?_
                      refine J.putI (q := 190) (c' := 287) (ci := 12) (k := 2) O dX12_person_187 rfl wd_6_74 (by decide) if_287_2 rfl rfl ?_
                      refine J.aload_n (q := 191) O dX12_person_190 rfl 0 rfl ?_
                      refine J.getI (q := 194) (c' := 287) (ci := 12) (k := 2) ((M10 287 2) + (1 : Int32)) rfl O dX12_person_191 rfl wd_6_74 (by decide) if_287_2 ?_
                      refine J.iconst (q := 195) (v := (1 : Int32)) O dX12_person_194 rfl rfl ?_
                      refine J.isub (q := 196) O dX12_person_195 rfl ?_
                      exact hR _ _ _ _ dX12_person_196 h
                    · replace h := h.2 z20
                      exact J.sub [0] rfl (j_X12_person_b82 hG O hR h)
          · replace h := h.2 z15
            exact J.sub [0] rfl (j_X12_person_b37 hG O hR h)
  · replace h := h.2 z11
    refine J.aload_n (q := 8) O dX12_person_7 rfl 0 rfl ?_
    refine J.iconst (q := 9) (v := (-1 : Int32)) O dX12_person_8 rfl rfl ?_
    refine J.callVI (q := 12) [.int (-1 : Int32)] [] [.int (-1 : Int32), .ref (ad G 287)] rfl O dX12_person_9 rfl (c_X12_refuse hG h) wd_7_158 mw_X12_refuse io_287 rfl (by decide) (Nat.le_of_ble_eq_true rfl) (fun v28 M28 h => ?_)
    exact hR _ _ _ _ dX12_person_12 h
set_option maxHeartbeats 4000000 in
set_option maxRecDepth 20000 in
theorem c_X12_leave {l : Launch} {G : GX} (hG : Gd G) {a1 : Int32} {M : Mem} {K : Int32 → Mem → Prop} (h : f_X12_leave a1 M K) : CI l G yX12_leave cX12_leave 2 (some .int) 3 [.ref (ad G 287), .int a1] M K := by
  unfold f_X12_leave at h
  refine CI.mk hG (by decide) [(0, .ref (ad G 287)), (1, .int a1)] rfl (Nat.le_of_ble_eq_true rfl) (fun X O hlX hR => ?_)
  subst hlX
  refine J.aload_n (q := 1) O dX12_leave_0 rfl 0 rfl ?_
  refine J.iload_n (q := 2) O dX12_leave_1 rfl 1 rfl ?_
  refine J.callVI (q := 5) [.int a1] [] [.int a1, .ref (ad G 287)] rfl O dX12_leave_2 rfl (c_X12_isPerson hG h) wd_7_188 mw_X12_isPerson io_287 rfl (by decide) (Nat.le_of_ble_eq_true rfl) (fun v3 M3 h => ?_)
  refine J.if_ne (q := 8) (tgt := 14) O dX12_leave_5 rfl (by decide) (fun z4 => ?_) (fun z4 => ?_)
  · replace h := h.1 z4
    refine J.aload_n (q := 15) O dX12_leave_14 rfl 0 rfl ?_
    refine J.getR (q := 18) (c' := 287) (ci := 12) (k := 8) (r := 294) O dX12_leave_15 rfl wd_6_80 (by decide) if_287_8 ?_
    refine J.iload_n (q := 19) O dX12_leave_18 rfl 1 rfl ?_
    obtain ⟨hv5, h⟩ := h
    refine J.zald (q := 20) (c' := 294) (j := a1.toNatClampNeg) (M3 294 a1.toNatClampNeg) rfl O dX12_leave_19 rfl ar_294 hv5 rfl ?_
    refine J.if_eq (q := 23) (tgt := 30) O dX12_leave_20 rfl (by decide) (fun z6 => ?_) (fun z6 => ?_)
    · replace h := h.1 z6
      refine J.aload_n (q := 31) O dX12_leave_30 rfl 0 rfl ?_
      refine J.iconst (q := 32) (v := (-1 : Int32)) O dX12_leave_31 rfl rfl ?_
      refine J.putI (q := 35) (c' := 287) (ci := 12) (k := 89) O dX12_leave_32 rfl wd_6_161 (by decide) if_287_89 rfl rfl ?_
      refine J.aload_n (q := 36) O dX12_leave_35 rfl 0 rfl ?_
      refine J.getR (q := 39) (c' := 287) (ci := 12) (k := 8) (r := 294) O dX12_leave_36 rfl wd_6_80 (by decide) if_287_8 ?_
      refine J.iload_n (q := 40) O dX12_leave_39 rfl 1 rfl ?_
      refine J.iconst (q := 41) (v := (1 : Int32)) O dX12_leave_40 rfl rfl ?_
      obtain ⟨hv7, h⟩ := h
      refine J.zast (q := 42) (c' := 294) (j := a1.toNatClampNeg) O dX12_leave_41 rfl ar_294 hv7 rfl (Or.inr rfl) ?_
      refine J.iconst (q := 43) (v := (1 : Int32)) O dX12_leave_42 rfl rfl ?_
      exact hR _ _ _ _ dX12_leave_43 h
    · replace h := h.2 z6
      refine J.aload_n (q := 24) O dX12_leave_23 rfl 0 rfl ?_
      refine J.bipush (q := 26) (v := (-3 : Int32)) O dX12_leave_24 rfl rfl ?_
      refine J.callVI (q := 29) [.int (-3 : Int32)] [] [.int (-3 : Int32), .ref (ad G 287)] rfl O dX12_leave_26 rfl (c_X12_refuse hG h) wd_7_158 mw_X12_refuse io_287 rfl (by decide) (Nat.le_of_ble_eq_true rfl) (fun v8 M8 h => ?_)
      exact hR _ _ _ _ dX12_leave_29 h
  · replace h := h.2 z4
    refine J.aload_n (q := 9) O dX12_leave_8 rfl 0 rfl ?_
    refine J.iconst (q := 10) (v := (-1 : Int32)) O dX12_leave_9 rfl rfl ?_
    refine J.callVI (q := 13) [.int (-1 : Int32)] [] [.int (-1 : Int32), .ref (ad G 287)] rfl O dX12_leave_10 rfl (c_X12_refuse hG h) wd_7_158 mw_X12_refuse io_287 rfl (by decide) (Nat.le_of_ble_eq_true rfl) (fun v9 M9 h => ?_)
    exact hR _ _ _ _ dX12_leave_13 h
set_option maxHeartbeats 4000000 in
set_option maxRecDepth 20000 in
theorem j_X12_feed_b29 {X : CX} {G : GX} {K : Int32 → Mem → Prop} (hG : Gd G) (O : Ok X G cX12_feed 5 RX12 2) (hR : RetI X G cX12_feed K) {M : Mem} (h : f_X12_feed_b29 K  M) : J X G M 29 [(0, .ref (ad G 287))] [] := by
  unfold f_X12_feed_b29 at h
  refine J.aload_n (q := 30) O dX12_feed_29 rfl 0 rfl ?_
  refine J.bipush (q := 32) (v := (-6 : Int32)) O dX12_feed_30 rfl rfl ?_
  refine J.callVI (q := 35) [.int (-6 : Int32)] [] [.int (-6 : Int32), .ref (ad G 287)] rfl O dX12_feed_32 rfl (c_X12_refuse hG h) wd_7_158 mw_X12_refuse io_287 rfl (by decide) (Nat.le_of_ble_eq_true rfl) (fun v2 M2 h => ?_)
  exact hR _ _ _ _ dX12_feed_35 h
set_option maxHeartbeats 4000000 in
set_option maxRecDepth 20000 in
theorem j_X12_feed_c39 {X : CX} {G : GX} {K : Int32 → Mem → Prop} (hG : Gd G) (O : Ok X G cX12_feed 5 RX12 2) (hR : RetI X G cX12_feed K) {a : Int32 × Int64 × Int32 × Mem} (h : Lp (fun (r39 : Int32 × Int64 × Int32 × Mem → Prop) a => f_X12_feed_c39 K r39 a.1 a.2.1 a.2.2.1 a.2.2.2) a) : J X G a.2.2.2 39 [(0, .ref (ad G 287)), (1, .int a.1), (2, .long a.2.1), (4, .int a.2.2.1)] [] := by
  refine Lp.elim (P := fun a => J X G a.2.2.2 39 [(0, .ref (ad G 287)), (1, .int a.1), (2, .long a.2.1), (4, .int a.2.2.1)] []) ?_ h
  clear h
  intro r39 hr39 a h
  obtain ⟨x1, x2, x4, M⟩ := a
  unfold f_X12_feed_c39 at h
  (try dsimp only at h ⊢)
  refine J.iload (q := 41) O dX12_feed_39 rfl 3 rfl ?_
  refine J.iload_n (q := 42) O dX12_feed_41 rfl 1 rfl ?_
  refine J.icmp_ge (q := 45) (tgt := 82) O dX12_feed_42 rfl (by decide) (fun z3 => ?_) (fun z3 => ?_)
  · replace h := h.1 z3
    refine J.aload_n (q := 83) O dX12_feed_82 rfl 0 rfl ?_
    refine J.getI (q := 86) (c' := 287) (ci := 12) (k := 11) (M 287 11) rfl O dX12_feed_83 rfl wd_6_83 (by decide) if_287_11 ?_
    exact hR _ _ _ _ dX12_feed_86 h
  · replace h := h.2 z3
    refine J.aload_n (q := 46) O dX12_feed_45 rfl 0 rfl ?_
    refine J.getR (q := 49) (c' := 287) (ci := 12) (k := 10) (r := 296) O dX12_feed_46 rfl wd_6_82 (by decide) if_287_10 ?_
    refine J.aload_n (q := 50) O dX12_feed_49 rfl 0 rfl ?_
    refine J.getI (q := 53) (c' := 287) (ci := 12) (k := 11) (M 287 11) rfl O dX12_feed_50 rfl wd_6_83 (by decide) if_287_11 ?_
    refine J.lload_n (q := 54) O dX12_feed_53 rfl 2 rfl ?_
    refine J.bipush (q := 56) (v := (8 : Int32)) O dX12_feed_54 rfl rfl ?_
    refine J.iload (q := 58) O dX12_feed_56 rfl 3 rfl ?_
    refine J.imul (q := 59) O dX12_feed_58 rfl ?_
    refine J.lshr (q := 60) O dX12_feed_59 rfl ?_
    refine J.ldc2 (q := 63) O dX12_feed_60 rfl wd_7_196 ?_
    refine J.land (q := 64) O dX12_feed_63 rfl ?_
    refine J.l2i (q := 65) O dX12_feed_64 rfl ?_
    obtain ⟨hv4, h⟩ := h
    refine J.iast (q := 66) (c' := 296) (j := (M 287 11).toNatClampNeg) O dX12_feed_65 rfl ar_296 hv4 rfl ?_
    refine J.aload_n (q := 67) O dX12_feed_66 rfl 0 rfl ?_
    refine J.dup (q := 68) O dX12_feed_67 rfl rfl ?_
    refine J.getI (q := 71) (c' := 287) (ci := 12) (k := 11) (M 287 11) rfl O dX12_feed_68 rfl wd_6_83 (by decide) if_287_11 ?_
    refine J.iconst (q := 72) (v := (1 : Int32)) O dX12_feed_71 rfl rfl ?_
    refine J.iadd (q := 73) O dX12_feed_72 rfl ?_
    refine J.putI (q := 76) (c' := 287) (ci := 12) (k := 11) O dX12_feed_73 rfl wd_6_83 (by decide) if_287_11 rfl rfl ?_
    refine J.iinc (q := 79) O dX12_feed_76 rfl [(4, .int (x4 + (1 : Int32))), (0, .ref (ad G 287)), (1, .int x1), (2, .long x2)] 3 rfl rfl (by decide) rfl ?_
    refine J.goto (q := 39) O dX12_feed_79 (by decide) ?_
    exact J.sub [1, 2, 3, 0] rfl (hr39 _ h)
set_option maxHeartbeats 4000000 in
set_option maxRecDepth 20000 in
theorem c_X12_feed {l : Launch} {G : GX} (hG : Gd G) {a1 : Int32} {a2 : Int64} {M : Mem} {K : Int32 → Mem → Prop} (h : f_X12_feed a1 a2 M K) : CI l G yX12_feed cX12_feed 5 (some .int) 2 [.ref (ad G 287), .int a1, .long a2] M K := by
  unfold f_X12_feed at h
  refine CI.mk hG (by decide) [(0, .ref (ad G 287)), (1, .int a1), (2, .long a2)] rfl (Nat.le_of_ble_eq_true rfl) (fun X O hlX hR => ?_)
  subst hlX
  refine J.iload_n (q := 1) O dX12_feed_0 rfl 1 rfl ?_
  refine J.iconst (q := 2) (v := (1 : Int32)) O dX12_feed_1 rfl rfl ?_
  refine J.icmp_ge (q := 5) (tgt := 12) O dX12_feed_2 rfl (by decide) (fun z5 => ?_) (fun z5 => ?_)
  · replace h := h.1 z5
    refine J.iload_n (q := 13) O dX12_feed_12 rfl 1 rfl ?_
    refine J.bipush (q := 15) (v := (8 : Int32)) O dX12_feed_13 rfl rfl ?_
    refine J.icmp_gt (q := 18) (tgt := 29) O dX12_feed_15 rfl (by decide) (fun z6 => ?_) (fun z6 => ?_)
    · replace h := h.1 z6
      exact J.sub [0] rfl (j_X12_feed_b29 hG O hR h)
    · replace h := h.2 z6
      refine J.aload_n (q := 19) O dX12_feed_18 rfl 0 rfl ?_
      refine J.getI (q := 22) (c' := 287) (ci := 12) (k := 11) (M 287 11) rfl O dX12_feed_19 rfl wd_6_83 (by decide) if_287_11 ?_
      refine J.iload_n (q := 23) O dX12_feed_22 rfl 1 rfl ?_
      refine J.iadd (q := 24) O dX12_feed_23 rfl ?_
      refine J.bipush (q := 26) (v := (60 : Int32)) O dX12_feed_24 rfl rfl ?_
      refine J.icmp_le (q := 29) (tgt := 36) O dX12_feed_26 rfl (by decide) (fun z7 => ?_) (fun z7 => ?_)
      · replace h := h.1 z7
        refine J.iconst (q := 37) (v := (0 : Int32)) O dX12_feed_36 rfl rfl ?_
        refine J.istore (q := 39) O dX12_feed_37 rfl [(4, .int (0 : Int32)), (0, .ref (ad G 287)), (1, .int a1), (2, .long a2)] (by decide) rfl ?_
        exact J.sub [1, 2, 3, 0] rfl (j_X12_feed_c39 hG O hR h)
      · replace h := h.2 z7
        exact J.sub [0] rfl (j_X12_feed_b29 hG O hR h)
  · replace h := h.2 z5
    refine J.aload_n (q := 6) O dX12_feed_5 rfl 0 rfl ?_
    refine J.bipush (q := 8) (v := (-4 : Int32)) O dX12_feed_6 rfl rfl ?_
    refine J.callVI (q := 11) [.int (-4 : Int32)] [] [.int (-4 : Int32), .ref (ad G 287)] rfl O dX12_feed_8 rfl (c_X12_refuse hG h) wd_7_158 mw_X12_refuse io_287 rfl (by decide) (Nat.le_of_ble_eq_true rfl) (fun v8 M8 h => ?_)
    exact hR _ _ _ _ dX12_feed_11 h
set_option maxHeartbeats 4000000 in
set_option maxRecDepth 20000 in
theorem j_X12_byteHere_b48 {X : CX} {G : GX} {K : Int32 → Mem → Prop} (hG : Gd G) (O : Ok X G cX12_byteHere 1 RX12 1) (hR : RetI X G cX12_byteHere K) {s0 : Int32} {M : Mem} (h : f_X12_byteHere_b48 K s0 M) : J X G M 48 [] [.int s0] := by
  unfold f_X12_byteHere_b48 at h
  exact hR _ _ _ _ dX12_byteHere_48 h
set_option maxHeartbeats 4000000 in
set_option maxRecDepth 20000 in
theorem c_X12_byteHere {l : Launch} {G : GX} (hG : Gd G) {M : Mem} {K : Int32 → Mem → Prop} (h : f_X12_byteHere  M K) : CI l G yX12_byteHere cX12_byteHere 1 (some .int) 1 [.ref (ad G 287)] M K := by
  unfold f_X12_byteHere at h
  refine CI.mk hG (by decide) [(0, .ref (ad G 287))] rfl (Nat.le_of_ble_eq_true rfl) (fun X O hlX hR => ?_)
  subst hlX
  refine J.aload_n (q := 1) O dX12_byteHere_0 rfl 0 rfl ?_
  refine J.getI (q := 4) (c' := 287) (ci := 12) (k := 20) (M 287 20) rfl O dX12_byteHere_1 rfl wd_6_92 (by decide) if_287_20 ?_
  refine J.aload_n (q := 5) O dX12_byteHere_4 rfl 0 rfl ?_
  refine J.getI (q := 8) (c' := 287) (ci := 12) (k := 19) (M 287 19) rfl O dX12_byteHere_5 rfl wd_6_91 (by decide) if_287_19 ?_
  refine J.icmp_lt (q := 11) (tgt := 15) O dX12_byteHere_8 rfl (by decide) (fun z3 => ?_) (fun z3 => ?_)
  · replace h := h.1 z3
    refine J.aload_n (q := 16) O dX12_byteHere_15 rfl 0 rfl ?_
    refine J.getI (q := 19) (c' := 287) (ci := 12) (k := 17) (M 287 17) rfl O dX12_byteHere_16 rfl wd_6_89 (by decide) if_287_17 ?_
    refine J.if_eq (q := 22) (tgt := 39) O dX12_byteHere_19 rfl (by decide) (fun z4 => ?_) (fun z4 => ?_)
    · replace h := h.1 z4
      refine J.aload_n (q := 40) O dX12_byteHere_39 rfl 0 rfl ?_
      refine J.getR (q := 43) (c' := 287) (ci := 12) (k := 10) (r := 296) O dX12_byteHere_40 rfl wd_6_82 (by decide) if_287_10 ?_
      refine J.aload_n (q := 44) O dX12_byteHere_43 rfl 0 rfl ?_
      refine J.getI (q := 47) (c' := 287) (ci := 12) (k := 20) (M 287 20) rfl O dX12_byteHere_44 rfl wd_6_92 (by decide) if_287_20 ?_
      obtain ⟨hv5, h⟩ := h
      refine J.iald (q := 48) (c' := 296) (j := (M 287 20).toNatClampNeg) (M 296 ((M 287 20).toNatClampNeg)) rfl O dX12_byteHere_47 rfl ar_296 hv5 rfl ?_
      exact J.sub [] rfl (j_X12_byteHere_b48 hG O hR h)
    · replace h := h.2 z4
      refine J.aload_n (q := 23) O dX12_byteHere_22 rfl 0 rfl ?_
      refine J.getR (q := 26) (c' := 287) (ci := 12) (k := 13) (r := 297) O dX12_byteHere_23 rfl wd_6_85 (by decide) if_287_13 ?_
      refine J.aload_n (q := 27) O dX12_byteHere_26 rfl 0 rfl ?_
      refine J.getI (q := 30) (c' := 287) (ci := 12) (k := 18) (M 287 18) rfl O dX12_byteHere_27 rfl wd_6_90 (by decide) if_287_18 ?_
      refine J.aload_n (q := 31) O dX12_byteHere_30 rfl 0 rfl ?_
      refine J.getI (q := 34) (c' := 287) (ci := 12) (k := 20) (M 287 20) rfl O dX12_byteHere_31 rfl wd_6_92 (by decide) if_287_20 ?_
      refine J.iadd (q := 35) O dX12_byteHere_34 rfl ?_
      obtain ⟨hv6, h⟩ := h
      refine J.iald (q := 36) (c' := 297) (j := ((M 287 18) + (M 287 20)).toNatClampNeg) (M 297 (((M 287 18) + (M 287 20)).toNatClampNeg)) rfl O dX12_byteHere_35 rfl ar_297 hv6 rfl ?_
      refine J.goto (q := 48) O dX12_byteHere_36 (by decide) ?_
      exact J.sub [] rfl (j_X12_byteHere_b48 hG O hR h)
  · replace h := h.2 z3
    refine J.iconst (q := 12) (v := (-1 : Int32)) O dX12_byteHere_11 rfl rfl ?_
    refine J.goto (q := 48) O dX12_byteHere_12 (by decide) ?_
    exact J.sub [] rfl (j_X12_byteHere_b48 hG O hR h)
set_option maxHeartbeats 4000000 in
set_option maxRecDepth 20000 in
theorem c_X12_factOf {l : Launch} {G : GX} (hG : Gd G) {a1 : Int32} {M : Mem} {K : Int32 → Mem → Prop} (h : f_X12_factOf a1 M K) : CI l G yX12_factOf cX12_factOf 1 (some .int) 1 [.int a1] M K := by
  unfold f_X12_factOf at h
  refine CI.mk hG (by decide) [(0, .int a1)] rfl (Nat.le_of_ble_eq_true rfl) (fun X O hlX hR => ?_)
  subst hlX
  refine J.iload_n (q := 1) O dX12_factOf_0 rfl 0 rfl ?_
  by_cases z1 : a1 = (99 : Int32)
  · replace h := h.1 z1
    refine J.lsw (q := 68) O dX12_factOf_1 (by decide) (by rw [z1]) (by decide) ?_
    refine J.iconst (q := 69) (v := (4 : Int32)) O dX12_factOf_68 rfl rfl ?_
    exact hR _ _ _ _ dX12_factOf_69 h
  · replace h := h.2 z1
    by_cases z2 : a1 = (109 : Int32)
    · replace h := h.1 z2
      refine J.lsw (q := 66) O dX12_factOf_1 (by decide) (by rw [z2]) (by decide) ?_
      refine J.iconst (q := 67) (v := (3 : Int32)) O dX12_factOf_66 rfl rfl ?_
      exact hR _ _ _ _ dX12_factOf_67 h
    · replace h := h.2 z2
      by_cases z3 : a1 = (110 : Int32)
      · replace h := h.1 z3
        refine J.lsw (q := 60) O dX12_factOf_1 (by decide) (by rw [z3]) (by decide) ?_
        refine J.iconst (q := 61) (v := (0 : Int32)) O dX12_factOf_60 rfl rfl ?_
        exact hR _ _ _ _ dX12_factOf_61 h
      · replace h := h.2 z3
        by_cases z4 : a1 = (115 : Int32)
        · replace h := h.1 z4
          refine J.lsw (q := 64) O dX12_factOf_1 (by decide) (by rw [z4]) (by decide) ?_
          refine J.iconst (q := 65) (v := (2 : Int32)) O dX12_factOf_64 rfl rfl ?_
          exact hR _ _ _ _ dX12_factOf_65 h
        · replace h := h.2 z4
          by_cases z5 : a1 = (117 : Int32)
          · replace h := h.1 z5
            refine J.lsw (q := 70) O dX12_factOf_1 (by decide) (by rw [z5]) (by decide) ?_
            refine J.iconst (q := 71) (v := (5 : Int32)) O dX12_factOf_70 rfl rfl ?_
            exact hR _ _ _ _ dX12_factOf_71 h
          · replace h := h.2 z5
            by_cases z6 : a1 = (119 : Int32)
            · replace h := h.1 z6
              refine J.lsw (q := 62) O dX12_factOf_1 (by decide) (by rw [z6]) (by decide) ?_
              refine J.iconst (q := 63) (v := (1 : Int32)) O dX12_factOf_62 rfl rfl ?_
              exact hR _ _ _ _ dX12_factOf_63 h
            · replace h := h.2 z6
              refine J.lsw (q := 72) (off := 71) O dX12_factOf_1 (by decide) ((lv_osw z1 (by decide)).trans ((lv_osw z2 (by decide)).trans ((lv_osw z3 (by decide)).trans ((lv_osw z4 (by decide)).trans ((lv_osw z5 (by decide)).trans ((lv_osw z6 (by decide)).trans rfl)))))) (by decide) ?_
              refine J.iconst (q := 73) (v := (-1 : Int32)) O dX12_factOf_72 rfl rfl ?_
              exact hR _ _ _ _ dX12_factOf_73 h
set_option maxHeartbeats 4000000 in
set_option maxRecDepth 20000 in
theorem j_X12_readUnit_b102 {X : CX} {G : GX} {K : Int32 → Mem → Prop} (hG : Gd G) (O : Ok X G cX12_readUnit 4 RX12 2) (hR : RetI X G cX12_readUnit K) {x2 : Int32} {M : Mem} (h : f_X12_readUnit_b102 K x2 M) : J X G M 102 [(2, .int x2)] [] := by
  unfold f_X12_readUnit_b102 at h
  refine J.iload_n (q := 103) O dX12_readUnit_102 rfl 0 rfl ?_
  exact hR _ _ _ _ dX12_readUnit_103 h
set_option maxHeartbeats 4000000 in
set_option maxRecDepth 20000 in
theorem j_X12_readUnit_c54 {X : CX} {G : GX} {K : Int32 → Mem → Prop} (hG : Gd G) (O : Ok X G cX12_readUnit 4 RX12 2) (hR : RetI X G cX12_readUnit K) {a : Int32 × Int32 × Mem} (h : Lp (fun (r54 : Int32 × Int32 × Mem → Prop) a => f_X12_readUnit_c54 K r54 a.1 a.2.1 a.2.2) a) : J X G a.2.2 54 [(0, .ref (ad G 287)), (2, .int a.1), (3, .int a.2.1)] [] := by
  refine Lp.elim (P := fun a => J X G a.2.2 54 [(0, .ref (ad G 287)), (2, .int a.1), (3, .int a.2.1)] []) ?_ h
  clear h
  intro r54 hr54 a h
  obtain ⟨x2, x3, M⟩ := a
  unfold f_X12_readUnit_c54 at h
  (try dsimp only at h ⊢)
  refine J.iload_n (q := 55) O dX12_readUnit_54 rfl 2 rfl ?_
  refine J.iconst (q := 56) (v := (4 : Int32)) O dX12_readUnit_55 rfl rfl ?_
  refine J.icmp_ge (q := 59) (tgt := 102) O dX12_readUnit_56 rfl (by decide) (fun z2 => ?_) (fun z2 => ?_)
  · replace h := h.1 z2
    exact J.sub [1] rfl (j_X12_readUnit_b102 hG O hR h)
  · replace h := h.2 z2
    refine J.aload_n (q := 60) O dX12_readUnit_59 rfl 0 rfl ?_
    refine J.callVI (q := 63) [] [] [.ref (ad G 287)] rfl O dX12_readUnit_60 rfl (c_X12_byteHere hG h) wd_7_201 mw_X12_byteHere io_287 rfl (by decide) (Nat.le_of_ble_eq_true rfl) (fun v3 M3 h => ?_)
    refine J.bipush (q := 65) (v := (48 : Int32)) O dX12_readUnit_63 rfl rfl ?_
    refine J.bipush (q := 67) (v := (57 : Int32)) O dX12_readUnit_65 rfl rfl ?_
    refine J.callSI (q := 70) [.int v3, .int (48 : Int32), .int (57 : Int32)] [] [.int (57 : Int32), .int (48 : Int32), .int v3] rfl O dX12_readUnit_67 rfl (c_X12_in hG h) wd_7_181 mw_X12_in rfl (by decide) (Nat.le_of_ble_eq_true rfl) (fun v4 M4 h => ?_)
    refine J.if_eq (q := 73) (tgt := 102) O dX12_readUnit_70 rfl (by decide) (fun z5 => ?_) (fun z5 => ?_)
    · replace h := h.1 z5
      exact J.sub [1] rfl (j_X12_readUnit_b102 hG O hR h)
    · replace h := h.2 z5
      refine J.bipush (q := 75) (v := (10 : Int32)) O dX12_readUnit_73 rfl rfl ?_
      refine J.iload_n (q := 76) O dX12_readUnit_75 rfl 1 rfl ?_
      refine J.imul (q := 77) O dX12_readUnit_76 rfl ?_
      refine J.aload_n (q := 78) O dX12_readUnit_77 rfl 0 rfl ?_
      refine J.callVI (q := 81) [] [.int ((10 : Int32) * x2)] [.ref (ad G 287), .int ((10 : Int32) * x2)] rfl O dX12_readUnit_78 rfl (c_X12_byteHere hG h) wd_7_201 mw_X12_byteHere io_287 rfl (by decide) (Nat.le_of_ble_eq_true rfl) (fun v6 M6 h => ?_)
      refine J.iadd (q := 82) O dX12_readUnit_81 rfl ?_
      refine J.bipush (q := 84) (v := (48 : Int32)) O dX12_readUnit_82 rfl rfl ?_
      refine J.isub (q := 85) O dX12_readUnit_84 rfl ?_
      refine J.istore_n (q := 86) O dX12_readUnit_85 rfl [(2, .int ((((10 : Int32) * x2) + v6) - (48 : Int32))), (0, .ref (ad G 287)), (3, .int x3)] (by decide) rfl ?_
      refine J.aload_n (q := 87) O dX12_readUnit_86 rfl 1 rfl ?_
      refine J.dup (q := 88) O dX12_readUnit_87 rfl rfl ?_
      refine J.getI (q := 91) (c' := 287) (ci := 12) (k := 20) (M6 287 20) rfl O dX12_readUnit_88 rfl wd_6_92 (by decide) if_287_20 ?_
      refine J.iconst (q := 92) (v := (1 : Int32)) O dX12_readUnit_91 rfl rfl ?_
      refine J.iadd (q := 93) O dX12_readUnit_92 rfl ?_
      refine J.putI (q := 96) (c' := 287) (ci := 12) (k := 20) O dX12_readUnit_93 rfl wd_6_92 (by decide) if_287_20 rfl rfl ?_
      refine J.iinc (q := 99) O dX12_readUnit_96 rfl [(3, .int (x3 + (1 : Int32))), (2, .int ((((10 : Int32) * x2) + v6) - (48 : Int32))), (0, .ref (ad G 287))] 2 rfl rfl (by decide) rfl ?_
      refine J.goto (q := 54) O dX12_readUnit_99 (by decide) ?_
      exact J.sub [2, 1, 0] rfl (hr54 _ h)
set_option maxHeartbeats 4000000 in
set_option maxRecDepth 20000 in
theorem c_X12_readUnit {l : Launch} {G : GX} (hG : Gd G) {M : Mem} {K : Int32 → Mem → Prop} (h : f_X12_readUnit  M K) : CI l G yX12_readUnit cX12_readUnit 4 (some .int) 2 [.ref (ad G 287)] M K := by
  unfold f_X12_readUnit at h
  refine CI.mk hG (by decide) [(0, .ref (ad G 287))] rfl (Nat.le_of_ble_eq_true rfl) (fun X O hlX hR => ?_)
  subst hlX
  refine J.aload_n (q := 1) O dX12_readUnit_0 rfl 0 rfl ?_
  refine J.callVI (q := 4) [] [] [.ref (ad G 287)] rfl O dX12_readUnit_1 rfl (c_X12_byteHere hG h) wd_7_201 mw_X12_byteHere io_287 rfl (by decide) (Nat.le_of_ble_eq_true rfl) (fun v7 M7 h => ?_)
  refine J.istore_n (q := 5) O dX12_readUnit_4 rfl [(1, .int v7), (0, .ref (ad G 287))] (by decide) rfl ?_
  refine J.iload_n (q := 6) O dX12_readUnit_5 rfl 0 rfl ?_
  refine J.callSI (q := 9) [.int v7] [] [.int v7] rfl O dX12_readUnit_6 rfl (c_X12_factOf hG h) wd_7_225 mw_X12_factOf rfl (by decide) (Nat.le_of_ble_eq_true rfl) (fun v8 M8 h => ?_)
  refine J.if_lt (q := 12) (tgt := 32) O dX12_readUnit_9 rfl (by decide) (fun z9 => ?_) (fun z9 => ?_)
  · replace h := h.1 z9
    refine J.iload_n (q := 33) O dX12_readUnit_32 rfl 0 rfl ?_
    refine J.bipush (q := 35) (v := (48 : Int32)) O dX12_readUnit_33 rfl rfl ?_
    refine J.bipush (q := 37) (v := (57 : Int32)) O dX12_readUnit_35 rfl rfl ?_
    refine J.callSI (q := 40) [.int v7, .int (48 : Int32), .int (57 : Int32)] [] [.int (57 : Int32), .int (48 : Int32), .int v7] rfl O dX12_readUnit_37 rfl (c_X12_in hG h) wd_7_181 mw_X12_in rfl (by decide) (Nat.le_of_ble_eq_true rfl) (fun v10 M10 h => ?_)
    refine J.if_ne (q := 43) (tgt := 50) O dX12_readUnit_40 rfl (by decide) (fun z11 => ?_) (fun z11 => ?_)
    · replace h := h.1 z11
      refine J.iconst (q := 51) (v := (0 : Int32)) O dX12_readUnit_50 rfl rfl ?_
      refine J.istore_n (q := 52) O dX12_readUnit_51 rfl [(2, .int (0 : Int32)), (1, .int v7), (0, .ref (ad G 287))] (by decide) rfl ?_
      refine J.iconst (q := 53) (v := (0 : Int32)) O dX12_readUnit_52 rfl rfl ?_
      refine J.istore_n (q := 54) O dX12_readUnit_53 rfl [(3, .int (0 : Int32)), (2, .int (0 : Int32)), (1, .int v7), (0, .ref (ad G 287))] (by decide) rfl ?_
      exact J.sub [3, 1, 0] rfl (j_X12_readUnit_c54 hG O hR h)
    · replace h := h.2 z11
      refine J.aload_n (q := 44) O dX12_readUnit_43 rfl 1 rfl ?_
      refine J.iconst (q := 45) (v := (1 : Int32)) O dX12_readUnit_44 rfl rfl ?_
      refine J.putZ (q := 48) (c' := 287) (ci := 12) (k := 21) O dX12_readUnit_45 rfl wd_6_93 (by decide) if_287_21 rfl rfl (Or.inr rfl) ?_
      refine J.iconst (q := 49) (v := (0 : Int32)) O dX12_readUnit_48 rfl rfl ?_
      exact hR _ _ _ _ dX12_readUnit_49 h
  · replace h := h.2 z9
    refine J.aload_n (q := 13) O dX12_readUnit_12 rfl 1 rfl ?_
    refine J.dup (q := 14) O dX12_readUnit_13 rfl rfl ?_
    refine J.getI (q := 17) (c' := 287) (ci := 12) (k := 20) (M8 287 20) rfl O dX12_readUnit_14 rfl wd_6_92 (by decide) if_287_20 ?_
    refine J.iconst (q := 18) (v := (1 : Int32)) O dX12_readUnit_17 rfl rfl ?_
    refine J.iadd (q := 19) O dX12_readUnit_18 rfl ?_
    refine J.putI (q := 22) (c' := 287) (ci := 12) (k := 20) O dX12_readUnit_19 rfl wd_6_92 (by decide) if_287_20 rfl rfl ?_
    refine J.aload_n (q := 23) O dX12_readUnit_22 rfl 1 rfl ?_
    refine J.getR (q := 26) (c' := 287) (ci := 12) (k := 23) (r := 301) O dX12_readUnit_23 rfl wd_6_95 (by decide) if_287_23 ?_
    refine J.iload_n (q := 27) O dX12_readUnit_26 rfl 0 rfl ?_
    refine J.callSI (q := 30) [.int v7] [.ref (ad G 301)] [.int v7, .ref (ad G 301)] rfl O dX12_readUnit_27 rfl (c_X12_factOf hG h) wd_7_225 mw_X12_factOf rfl (by decide) (Nat.le_of_ble_eq_true rfl) (fun v12 M12 h => ?_)
    obtain ⟨hv13, h⟩ := h
    refine J.iald (q := 31) (c' := 301) (j := v12.toNatClampNeg) (M12 301 v12.toNatClampNeg) rfl O dX12_readUnit_30 rfl ar_301 hv13 rfl ?_
    exact hR _ _ _ _ dX12_readUnit_31 h
set_option maxHeartbeats 4000000 in
set_option maxRecDepth 20000 in
theorem j_X12_readSum_b115 {X : CX} {G : GX} {K : Int32 → Mem → Prop} (hG : Gd G) (O : Ok X G cX12_readSum 5 RX12 3) (hR : RetI X G cX12_readSum K) {r18 : Int32 × Int32 × Mem → Prop} (hr18 : ∀ a : Int32 × Int32 × Mem, r18 a → J X G a.2.2 18 [(0, .ref (ad G 287)), (1, .int a.1), (2, .int a.2.1)] []) {x1 : Int32} {x2 : Int32} {M : Mem} (h : f_X12_readSum_b115 r18 K x1 x2 M) : J X G M 115 [(0, .ref (ad G 287)), (1, .int x1), (2, .int x2)] [] := by
  unfold f_X12_readSum_b115 at h
  refine J.goto (q := 18) O dX12_readSum_115 (by decide) ?_
  exact J.sub [0, 1, 2] rfl (hr18 _ h)
set_option maxHeartbeats 4000000 in
set_option maxRecDepth 20000 in
theorem j_X12_readSum_b114 {X : CX} {G : GX} {K : Int32 → Mem → Prop} (hG : Gd G) (O : Ok X G cX12_readSum 5 RX12 3) (hR : RetI X G cX12_readSum K) {r18 : Int32 × Int32 × Mem → Prop} (hr18 : ∀ a : Int32 × Int32 × Mem, r18 a → J X G a.2.2 18 [(0, .ref (ad G 287)), (1, .int a.1), (2, .int a.2.1)] []) {x1 : Int32} {s0 : Int32} {M : Mem} (h : f_X12_readSum_b114 r18 K x1 s0 M) : J X G M 114 [(0, .ref (ad G 287)), (1, .int x1)] [.int s0] := by
  unfold f_X12_readSum_b114 at h
  refine J.istore_n (q := 115) O dX12_readSum_114 rfl [(2, .int s0), (0, .ref (ad G 287)), (1, .int x1)] (by decide) rfl ?_
  exact J.sub [1, 2, 0] rfl (j_X12_readSum_b115 hG O hR hr18 h)
set_option maxHeartbeats 4000000 in
set_option maxRecDepth 20000 in
theorem j_X12_readSum_b101 {X : CX} {G : GX} {K : Int32 → Mem → Prop} (hG : Gd G) (O : Ok X G cX12_readSum 5 RX12 3) (hR : RetI X G cX12_readSum K) {r18 : Int32 × Int32 × Mem → Prop} (hr18 : ∀ a : Int32 × Int32 × Mem, r18 a → J X G a.2.2 18 [(0, .ref (ad G 287)), (1, .int a.1), (2, .int a.2.1)] []) {s0 : Int32} {M : Mem} (h : f_X12_readSum_b101 r18 K s0 M) : J X G M 101 [(0, .ref (ad G 287))] [.int s0] := by
  unfold f_X12_readSum_b101 at h
  refine J.istore_n (q := 102) O dX12_readSum_101 rfl [(1, .int s0), (0, .ref (ad G 287))] (by decide) rfl ?_
  refine J.aload_n (q := 103) O dX12_readSum_102 rfl 1 rfl ?_
  refine J.getI (q := 106) (c' := 287) (ci := 12) (k := 21) (M 287 21) rfl O dX12_readSum_103 rfl wd_6_93 (by decide) if_287_21 ?_
  refine J.if_ne (q := 109) (tgt := 113) O dX12_readSum_106 rfl (by decide) (fun z1 => ?_) (fun z1 => ?_)
  · replace h := h.1 z1
    refine J.iconst (q := 114) (v := (0 : Int32)) O dX12_readSum_113 rfl rfl ?_
    exact J.sub [1, 0] rfl (j_X12_readSum_b114 hG O hR hr18 h)
  · replace h := h.2 z1
    refine J.iconst (q := 110) (v := (1 : Int32)) O dX12_readSum_109 rfl rfl ?_
    refine J.goto (q := 114) O dX12_readSum_110 (by decide) ?_
    exact J.sub [1, 0] rfl (j_X12_readSum_b114 hG O hR hr18 h)
set_option maxHeartbeats 4000000 in
set_option maxRecDepth 20000 in
theorem j_X12_readSum_b50 {X : CX} {G : GX} {K : Int32 → Mem → Prop} (hG : Gd G) (O : Ok X G cX12_readSum 5 RX12 3) (hR : RetI X G cX12_readSum K) {r18 : Int32 × Int32 × Mem → Prop} (hr18 : ∀ a : Int32 × Int32 × Mem, r18 a → J X G a.2.2 18 [(0, .ref (ad G 287)), (1, .int a.1), (2, .int a.2.1)] []) {x1 : Int32} {x3 : Int32} {s0 : Int32} {M : Mem} (h : f_X12_readSum_b50 r18 K x1 x3 s0 M) : J X G M 50 [(0, .ref (ad G 287)), (1, .int x1), (3, .int x3)] [.int s0] := by
  unfold f_X12_readSum_b50 at h
  refine J.istore_n (q := 51) O dX12_readSum_50 rfl [(2, .int s0), (0, .ref (ad G 287)), (1, .int x1), (3, .int x3)] (by decide) rfl ?_
  refine J.iload_n (q := 52) O dX12_readSum_51 rfl 0 rfl ?_
  refine J.if_eq (q := 55) (tgt := 115) O dX12_readSum_52 rfl (by decide) (fun z2 => ?_) (fun z2 => ?_)
  · replace h := h.1 z2
    exact J.sub [1, 2, 0] rfl (j_X12_readSum_b115 hG O hR hr18 h)
  · replace h := h.2 z2
    refine J.aload_n (q := 56) O dX12_readSum_55 rfl 1 rfl ?_
    refine J.dup (q := 57) O dX12_readSum_56 rfl rfl ?_
    refine J.getI (q := 60) (c' := 287) (ci := 12) (k := 20) (M 287 20) rfl O dX12_readSum_57 rfl wd_6_92 (by decide) if_287_20 ?_
    refine J.iconst (q := 61) (v := (1 : Int32)) O dX12_readSum_60 rfl rfl ?_
    refine J.iadd (q := 62) O dX12_readSum_61 rfl ?_
    refine J.putI (q := 65) (c' := 287) (ci := 12) (k := 20) O dX12_readSum_62 rfl wd_6_92 (by decide) if_287_20 rfl rfl ?_
    refine J.aload_n (q := 66) O dX12_readSum_65 rfl 1 rfl ?_
    refine J.callVI (q := 69) [] [] [.ref (ad G 287)] rfl O dX12_readSum_66 rfl (c_X12_readUnit hG h) wd_7_221 mw_X12_readUnit io_287 rfl (by decide) (Nat.le_of_ble_eq_true rfl) (fun v3 M3 h => ?_)
    refine J.istore (q := 71) O dX12_readSum_69 rfl [(4, .int v3), (2, .int s0), (0, .ref (ad G 287)), (1, .int x1), (3, .int x3)] (by decide) rfl ?_
    refine J.iload_n (q := 72) O dX12_readSum_71 rfl 4 rfl ?_
    refine J.bipush (q := 74) (v := (43 : Int32)) O dX12_readSum_72 rfl rfl ?_
    refine J.icmp_ne (q := 77) (tgt := 84) O dX12_readSum_74 rfl (by decide) (fun z4 => ?_) (fun z4 => ?_)
    · replace h := h.1 z4
      refine J.iload_n (q := 85) O dX12_readSum_84 rfl 4 rfl ?_
      refine J.bipush (q := 87) (v := (45 : Int32)) O dX12_readSum_85 rfl rfl ?_
      refine J.icmp_ne (q := 90) (tgt := 97) O dX12_readSum_87 rfl (by decide) (fun z5 => ?_) (fun z5 => ?_)
      · replace h := h.1 z5
        refine J.iload_n (q := 98) O dX12_readSum_97 rfl 3 rfl ?_
        refine J.iload (q := 100) O dX12_readSum_98 rfl 0 rfl ?_
        refine J.imul (q := 101) O dX12_readSum_100 rfl ?_
        exact J.sub [2] rfl (j_X12_readSum_b101 hG O hR hr18 h)
      · replace h := h.2 z5
        refine J.iload_n (q := 91) O dX12_readSum_90 rfl 3 rfl ?_
        refine J.iload (q := 93) O dX12_readSum_91 rfl 0 rfl ?_
        refine J.isub (q := 94) O dX12_readSum_93 rfl ?_
        refine J.goto (q := 101) O dX12_readSum_94 (by decide) ?_
        exact J.sub [2] rfl (j_X12_readSum_b101 hG O hR hr18 h)
    · replace h := h.2 z4
      refine J.iload_n (q := 78) O dX12_readSum_77 rfl 3 rfl ?_
      refine J.iload (q := 80) O dX12_readSum_78 rfl 0 rfl ?_
      refine J.iadd (q := 81) O dX12_readSum_80 rfl ?_
      refine J.goto (q := 101) O dX12_readSum_81 (by decide) ?_
      exact J.sub [2] rfl (j_X12_readSum_b101 hG O hR hr18 h)
set_option maxHeartbeats 4000000 in
set_option maxRecDepth 20000 in
theorem j_X12_readSum_b45 {X : CX} {G : GX} {K : Int32 → Mem → Prop} (hG : Gd G) (O : Ok X G cX12_readSum 5 RX12 3) (hR : RetI X G cX12_readSum K) {r18 : Int32 × Int32 × Mem → Prop} (hr18 : ∀ a : Int32 × Int32 × Mem, r18 a → J X G a.2.2 18 [(0, .ref (ad G 287)), (1, .int a.1), (2, .int a.2.1)] []) {x1 : Int32} {x3 : Int32} {M : Mem} (h : f_X12_readSum_b45 r18 K x1 x3 M) : J X G M 45 [(0, .ref (ad G 287)), (1, .int x1), (3, .int x3)] [] := by
  unfold f_X12_readSum_b45 at h
  refine J.iconst (q := 46) (v := (1 : Int32)) O dX12_readSum_45 rfl rfl ?_
  refine J.goto (q := 50) O dX12_readSum_46 (by decide) ?_
  exact J.sub [0, 1, 2] rfl (j_X12_readSum_b50 hG O hR hr18 h)
set_option maxHeartbeats 4000000 in
set_option maxRecDepth 20000 in
theorem j_X12_readSum_c18 {X : CX} {G : GX} {K : Int32 → Mem → Prop} (hG : Gd G) (O : Ok X G cX12_readSum 5 RX12 3) (hR : RetI X G cX12_readSum K) {a : Int32 × Int32 × Mem} (h : Lp (fun (r18 : Int32 × Int32 × Mem → Prop) a => f_X12_readSum_c18 K r18 a.1 a.2.1 a.2.2) a) : J X G a.2.2 18 [(0, .ref (ad G 287)), (1, .int a.1), (2, .int a.2.1)] [] := by
  refine Lp.elim (P := fun a => J X G a.2.2 18 [(0, .ref (ad G 287)), (1, .int a.1), (2, .int a.2.1)] []) ?_ h
  clear h
  intro r18 hr18 a h
  obtain ⟨x1, x2, M⟩ := a
  unfold f_X12_readSum_c18 at h
  (try dsimp only at h ⊢)
  refine J.iload_n (q := 19) O dX12_readSum_18 rfl 2 rfl ?_
  refine J.if_eq (q := 22) (tgt := 118) O dX12_readSum_19 rfl (by decide) (fun z6 => ?_) (fun z6 => ?_)
  · replace h := h.1 z6
    refine J.iload_n (q := 119) O dX12_readSum_118 rfl 1 rfl ?_
    exact hR _ _ _ _ dX12_readSum_119 h
  · replace h := h.2 z6
    refine J.aload_n (q := 23) O dX12_readSum_22 rfl 0 rfl ?_
    refine J.callVI (q := 26) [] [] [.ref (ad G 287)] rfl O dX12_readSum_23 rfl (c_X12_byteHere hG h) wd_7_201 mw_X12_byteHere io_287 rfl (by decide) (Nat.le_of_ble_eq_true rfl) (fun v7 M7 h => ?_)
    refine J.istore_n (q := 27) O dX12_readSum_26 rfl [(3, .int v7), (0, .ref (ad G 287)), (1, .int x1), (2, .int x2)] (by decide) rfl ?_
    refine J.iload_n (q := 28) O dX12_readSum_27 rfl 0 rfl ?_
    refine J.bipush (q := 30) (v := (43 : Int32)) O dX12_readSum_28 rfl rfl ?_
    refine J.icmp_eq (q := 33) (tgt := 45) O dX12_readSum_30 rfl (by decide) (fun z8 => ?_) (fun z8 => ?_)
    · replace h := h.1 z8
      exact J.sub [1, 2, 0] rfl (j_X12_readSum_b45 hG O hR hr18 h)
    · replace h := h.2 z8
      refine J.iload_n (q := 34) O dX12_readSum_33 rfl 0 rfl ?_
      refine J.bipush (q := 36) (v := (45 : Int32)) O dX12_readSum_34 rfl rfl ?_
      refine J.icmp_eq (q := 39) (tgt := 45) O dX12_readSum_36 rfl (by decide) (fun z9 => ?_) (fun z9 => ?_)
      · replace h := h.1 z9
        exact J.sub [1, 2, 0] rfl (j_X12_readSum_b45 hG O hR hr18 h)
      · replace h := h.2 z9
        refine J.iload_n (q := 40) O dX12_readSum_39 rfl 0 rfl ?_
        refine J.bipush (q := 42) (v := (42 : Int32)) O dX12_readSum_40 rfl rfl ?_
        refine J.icmp_ne (q := 45) (tgt := 49) O dX12_readSum_42 rfl (by decide) (fun z10 => ?_) (fun z10 => ?_)
        · replace h := h.1 z10
          refine J.iconst (q := 50) (v := (0 : Int32)) O dX12_readSum_49 rfl rfl ?_
          exact J.sub [1, 2, 0] rfl (j_X12_readSum_b50 hG O hR hr18 h)
        · replace h := h.2 z10
          exact J.sub [1, 2, 0] rfl (j_X12_readSum_b45 hG O hR hr18 h)
set_option maxHeartbeats 4000000 in
set_option maxRecDepth 20000 in
theorem j_X12_readSum_b17 {X : CX} {G : GX} {K : Int32 → Mem → Prop} (hG : Gd G) (O : Ok X G cX12_readSum 5 RX12 3) (hR : RetI X G cX12_readSum K) {x1 : Int32} {s0 : Int32} {M : Mem} (h : f_X12_readSum_b17 K x1 s0 M) : J X G M 17 [(0, .ref (ad G 287)), (1, .int x1)] [.int s0] := by
  unfold f_X12_readSum_b17 at h
  refine J.istore_n (q := 18) O dX12_readSum_17 rfl [(2, .int s0), (0, .ref (ad G 287)), (1, .int x1)] (by decide) rfl ?_
  exact J.sub [1, 2, 0] rfl (j_X12_readSum_c18 hG O hR h)
set_option maxHeartbeats 4000000 in
set_option maxRecDepth 20000 in
theorem c_X12_readSum {l : Launch} {G : GX} (hG : Gd G) {M : Mem} {K : Int32 → Mem → Prop} (h : f_X12_readSum  M K) : CI l G yX12_readSum cX12_readSum 5 (some .int) 3 [.ref (ad G 287)] M K := by
  unfold f_X12_readSum at h
  refine CI.mk hG (by decide) [(0, .ref (ad G 287))] rfl (Nat.le_of_ble_eq_true rfl) (fun X O hlX hR => ?_)
  subst hlX
  refine J.aload_n (q := 1) O dX12_readSum_0 rfl 0 rfl ?_
  refine J.callVI (q := 4) [] [] [.ref (ad G 287)] rfl O dX12_readSum_1 rfl (c_X12_readUnit hG h) wd_7_221 mw_X12_readUnit io_287 rfl (by decide) (Nat.le_of_ble_eq_true rfl) (fun v11 M11 h => ?_)
  refine J.istore_n (q := 5) O dX12_readSum_4 rfl [(1, .int v11), (0, .ref (ad G 287))] (by decide) rfl ?_
  refine J.aload_n (q := 6) O dX12_readSum_5 rfl 1 rfl ?_
  refine J.getI (q := 9) (c' := 287) (ci := 12) (k := 21) (M11 287 21) rfl O dX12_readSum_6 rfl wd_6_93 (by decide) if_287_21 ?_
  refine J.if_ne (q := 12) (tgt := 16) O dX12_readSum_9 rfl (by decide) (fun z12 => ?_) (fun z12 => ?_)
  · replace h := h.1 z12
    refine J.iconst (q := 17) (v := (0 : Int32)) O dX12_readSum_16 rfl rfl ?_
    exact J.sub [1, 0] rfl (j_X12_readSum_b17 hG O hR h)
  · replace h := h.2 z12
    refine J.iconst (q := 13) (v := (1 : Int32)) O dX12_readSum_12 rfl rfl ?_
    refine J.goto (q := 17) O dX12_readSum_13 (by decide) ?_
    exact J.sub [1, 0] rfl (j_X12_readSum_b17 hG O hR h)
set_option maxHeartbeats 4000000 in
set_option maxRecDepth 20000 in
theorem j_X12_readTest_b35 {X : CX} {G : GX} {K : Int32 → Mem → Prop} (hG : Gd G) (O : Ok X G cX12_readTest 4 RX12 4) (hR : RetZ X G cX12_readTest K) {M : Mem} (h : f_X12_readTest_b35 K  M) : J X G M 35 [(0, .ref (ad G 287))] [] := by
  unfold f_X12_readTest_b35 at h
  refine J.aload_n (q := 36) O dX12_readTest_35 rfl 0 rfl ?_
  refine J.iconst (q := 37) (v := (1 : Int32)) O dX12_readTest_36 rfl rfl ?_
  refine J.putZ (q := 40) (c' := 287) (ci := 12) (k := 21) O dX12_readTest_37 rfl wd_6_93 (by decide) if_287_21 rfl rfl (Or.inr rfl) ?_
  refine J.iconst (q := 41) (v := (0 : Int32)) O dX12_readTest_40 rfl rfl ?_
  exact hR _ _ _ _ dX12_readTest_41 (Or.inl rfl) h
set_option maxHeartbeats 4000000 in
set_option maxRecDepth 20000 in
theorem j_X12_readTest_b105 {X : CX} {G : GX} {K : Int32 → Mem → Prop} (hG : Gd G) (O : Ok X G cX12_readTest 4 RX12 4) (hR : RetZ X G cX12_readTest K) {s0 : Int32} {M : Mem} (h : f_X12_readTest_b105 K s0 M) : J X G M 105 [] [.int s0] := by
  unfold f_X12_readTest_b105 at h
  exact hR _ _ _ _ dX12_readTest_105 h.1 h.2
set_option maxHeartbeats 4000000 in
set_option maxRecDepth 20000 in
theorem j_X12_readTest_b42 {X : CX} {G : GX} {K : Int32 → Mem → Prop} (hG : Gd G) (O : Ok X G cX12_readTest 4 RX12 4) (hR : RetZ X G cX12_readTest K) {x1 : Int32} {x2 : Int32} {M : Mem} (h : f_X12_readTest_b42 K x1 x2 M) : J X G M 42 [(0, .ref (ad G 287)), (1, .int x1), (2, .int x2)] [] := by
  unfold f_X12_readTest_b42 at h
  refine J.aload_n (q := 43) O dX12_readTest_42 rfl 0 rfl ?_
  refine J.dup (q := 44) O dX12_readTest_43 rfl rfl ?_
  refine J.getI (q := 47) (c' := 287) (ci := 12) (k := 20) (M 287 20) rfl O dX12_readTest_44 rfl wd_6_92 (by decide) if_287_20 ?_
  refine J.iconst (q := 48) (v := (1 : Int32)) O dX12_readTest_47 rfl rfl ?_
  refine J.iadd (q := 49) O dX12_readTest_48 rfl ?_
  refine J.putI (q := 52) (c' := 287) (ci := 12) (k := 20) O dX12_readTest_49 rfl wd_6_92 (by decide) if_287_20 rfl rfl ?_
  refine J.aload_n (q := 53) O dX12_readTest_52 rfl 0 rfl ?_
  refine J.callVI (q := 56) [] [] [.ref (ad G 287)] rfl O dX12_readTest_53 rfl (c_X12_readSum hG h) wd_7_217 mw_X12_readSum io_287 rfl (by decide) (Nat.le_of_ble_eq_true rfl) (fun v2 M2 h => ?_)
  refine J.istore_n (q := 57) O dX12_readTest_56 rfl [(3, .int v2), (0, .ref (ad G 287)), (1, .int x1), (2, .int x2)] (by decide) rfl ?_
  refine J.iload_n (q := 58) O dX12_readTest_57 rfl 3 rfl ?_
  refine J.bipush (q := 60) (v := (60 : Int32)) O dX12_readTest_58 rfl rfl ?_
  refine J.icmp_ne (q := 63) (tgt := 76) O dX12_readTest_60 rfl (by decide) (fun z3 => ?_) (fun z3 => ?_)
  · replace h := h.1 z3
    refine J.iload_n (q := 77) O dX12_readTest_76 rfl 3 rfl ?_
    refine J.bipush (q := 79) (v := (61 : Int32)) O dX12_readTest_77 rfl rfl ?_
    refine J.icmp_ne (q := 82) (tgt := 95) O dX12_readTest_79 rfl (by decide) (fun z4 => ?_) (fun z4 => ?_)
    · replace h := h.1 z4
      refine J.iload_n (q := 96) O dX12_readTest_95 rfl 2 rfl ?_
      refine J.iload_n (q := 97) O dX12_readTest_96 rfl 0 rfl ?_
      refine J.icmp_le (q := 100) (tgt := 104) O dX12_readTest_97 rfl (by decide) (fun z5 => ?_) (fun z5 => ?_)
      · replace h := h.1 z5
        refine J.iconst (q := 105) (v := (0 : Int32)) O dX12_readTest_104 rfl rfl ?_
        exact J.sub [] rfl (j_X12_readTest_b105 hG O hR h)
      · replace h := h.2 z5
        refine J.iconst (q := 101) (v := (1 : Int32)) O dX12_readTest_100 rfl rfl ?_
        refine J.goto (q := 105) O dX12_readTest_101 (by decide) ?_
        exact J.sub [] rfl (j_X12_readTest_b105 hG O hR h)
    · replace h := h.2 z4
      refine J.iload_n (q := 83) O dX12_readTest_82 rfl 2 rfl ?_
      refine J.iload_n (q := 84) O dX12_readTest_83 rfl 0 rfl ?_
      refine J.icmp_ne (q := 87) (tgt := 91) O dX12_readTest_84 rfl (by decide) (fun z6 => ?_) (fun z6 => ?_)
      · replace h := h.1 z6
        refine J.iconst (q := 92) (v := (0 : Int32)) O dX12_readTest_91 rfl rfl ?_
        refine J.goto (q := 105) O dX12_readTest_92 (by decide) ?_
        exact J.sub [] rfl (j_X12_readTest_b105 hG O hR h)
      · replace h := h.2 z6
        refine J.iconst (q := 88) (v := (1 : Int32)) O dX12_readTest_87 rfl rfl ?_
        refine J.goto (q := 105) O dX12_readTest_88 (by decide) ?_
        exact J.sub [] rfl (j_X12_readTest_b105 hG O hR h)
  · replace h := h.2 z3
    refine J.iload_n (q := 64) O dX12_readTest_63 rfl 2 rfl ?_
    refine J.iload_n (q := 65) O dX12_readTest_64 rfl 0 rfl ?_
    refine J.icmp_ge (q := 68) (tgt := 72) O dX12_readTest_65 rfl (by decide) (fun z7 => ?_) (fun z7 => ?_)
    · replace h := h.1 z7
      refine J.iconst (q := 73) (v := (0 : Int32)) O dX12_readTest_72 rfl rfl ?_
      refine J.goto (q := 105) O dX12_readTest_73 (by decide) ?_
      exact J.sub [] rfl (j_X12_readTest_b105 hG O hR h)
    · replace h := h.2 z7
      refine J.iconst (q := 69) (v := (1 : Int32)) O dX12_readTest_68 rfl rfl ?_
      refine J.goto (q := 105) O dX12_readTest_69 (by decide) ?_
      exact J.sub [] rfl (j_X12_readTest_b105 hG O hR h)
set_option maxHeartbeats 4000000 in
set_option maxRecDepth 20000 in
theorem c_X12_readTest {l : Launch} {G : GX} (hG : Gd G) {M : Mem} {K : Int32 → Mem → Prop} (h : f_X12_readTest  M K) : CI l G yX12_readTest cX12_readTest 4 (some .boolean) 4 [.ref (ad G 287)] M K := by
  unfold f_X12_readTest at h
  refine CZ.mk hG (by decide) [(0, .ref (ad G 287))] rfl (Nat.le_of_ble_eq_true rfl) (fun X O hlX hR => ?_)
  subst hlX
  refine J.aload_n (q := 1) O dX12_readTest_0 rfl 0 rfl ?_
  refine J.callVI (q := 4) [] [] [.ref (ad G 287)] rfl O dX12_readTest_1 rfl (c_X12_readSum hG h) wd_7_217 mw_X12_readSum io_287 rfl (by decide) (Nat.le_of_ble_eq_true rfl) (fun v8 M8 h => ?_)
  refine J.istore_n (q := 5) O dX12_readTest_4 rfl [(1, .int v8), (0, .ref (ad G 287))] (by decide) rfl ?_
  refine J.aload_n (q := 6) O dX12_readTest_5 rfl 1 rfl ?_
  refine J.callVI (q := 9) [] [] [.ref (ad G 287)] rfl O dX12_readTest_6 rfl (c_X12_byteHere hG h) wd_7_201 mw_X12_byteHere io_287 rfl (by decide) (Nat.le_of_ble_eq_true rfl) (fun v9 M9 h => ?_)
  refine J.istore_n (q := 10) O dX12_readTest_9 rfl [(2, .int v9), (1, .int v8), (0, .ref (ad G 287))] (by decide) rfl ?_
  refine J.aload_n (q := 11) O dX12_readTest_10 rfl 2 rfl ?_
  refine J.getI (q := 14) (c' := 287) (ci := 12) (k := 21) (M9 287 21) rfl O dX12_readTest_11 rfl wd_6_93 (by decide) if_287_21 ?_
  refine J.if_ne (q := 17) (tgt := 35) O dX12_readTest_14 rfl (by decide) (fun z10 => ?_) (fun z10 => ?_)
  · replace h := h.1 z10
    exact J.sub [2] rfl (j_X12_readTest_b35 hG O hR h)
  · replace h := h.2 z10
    refine J.iload_n (q := 18) O dX12_readTest_17 rfl 0 rfl ?_
    refine J.bipush (q := 20) (v := (60 : Int32)) O dX12_readTest_18 rfl rfl ?_
    refine J.icmp_eq (q := 23) (tgt := 42) O dX12_readTest_20 rfl (by decide) (fun z11 => ?_) (fun z11 => ?_)
    · replace h := h.1 z11
      exact J.sub [2, 1, 0] rfl (j_X12_readTest_b42 hG O hR h)
    · replace h := h.2 z11
      refine J.iload_n (q := 24) O dX12_readTest_23 rfl 0 rfl ?_
      refine J.bipush (q := 26) (v := (61 : Int32)) O dX12_readTest_24 rfl rfl ?_
      refine J.icmp_eq (q := 29) (tgt := 42) O dX12_readTest_26 rfl (by decide) (fun z12 => ?_) (fun z12 => ?_)
      · replace h := h.1 z12
        exact J.sub [2, 1, 0] rfl (j_X12_readTest_b42 hG O hR h)
      · replace h := h.2 z12
        refine J.iload_n (q := 30) O dX12_readTest_29 rfl 0 rfl ?_
        refine J.bipush (q := 32) (v := (62 : Int32)) O dX12_readTest_30 rfl rfl ?_
        refine J.icmp_eq (q := 35) (tgt := 42) O dX12_readTest_32 rfl (by decide) (fun z13 => ?_) (fun z13 => ?_)
        · replace h := h.1 z13
          exact J.sub [2, 1, 0] rfl (j_X12_readTest_b42 hG O hR h)
        · replace h := h.2 z13
          exact J.sub [2] rfl (j_X12_readTest_b35 hG O hR h)
set_option maxHeartbeats 4000000 in
set_option maxRecDepth 20000 in
theorem j_X12_topSign_b22 {X : CX} {G : GX} {K : Int32 → Mem → Prop} (hG : Gd G) (O : Ok X G cX12_topSign 1 RX12 1) (hR : RetI X G cX12_topSign K) {s0 : Int32} {M : Mem} (h : f_X12_topSign_b22 K s0 M) : J X G M 22 [] [.int s0] := by
  unfold f_X12_topSign_b22 at h
  exact hR _ _ _ _ dX12_topSign_22 h
set_option maxHeartbeats 4000000 in
set_option maxRecDepth 20000 in
theorem c_X12_topSign {l : Launch} {G : GX} (hG : Gd G) {M : Mem} {K : Int32 → Mem → Prop} (h : f_X12_topSign  M K) : CI l G yX12_topSign cX12_topSign 1 (some .int) 1 [.ref (ad G 287)] M K := by
  unfold f_X12_topSign at h
  refine CI.mk hG (by decide) [(0, .ref (ad G 287))] rfl (Nat.le_of_ble_eq_true rfl) (fun X O hlX hR => ?_)
  subst hlX
  refine J.aload_n (q := 1) O dX12_topSign_0 rfl 0 rfl ?_
  refine J.getI (q := 4) (c' := 287) (ci := 12) (k := 25) (M 287 25) rfl O dX12_topSign_1 rfl wd_6_97 (by decide) if_287_25 ?_
  refine J.if_ne (q := 7) (tgt := 11) O dX12_topSign_4 rfl (by decide) (fun z2 => ?_) (fun z2 => ?_)
  · replace h := h.1 z2
    refine J.aload_n (q := 12) O dX12_topSign_11 rfl 0 rfl ?_
    refine J.getR (q := 15) (c' := 287) (ci := 12) (k := 24) (r := 302) O dX12_topSign_12 rfl wd_6_96 (by decide) if_287_24 ?_
    refine J.aload_n (q := 16) O dX12_topSign_15 rfl 0 rfl ?_
    refine J.getI (q := 19) (c' := 287) (ci := 12) (k := 25) (M 287 25) rfl O dX12_topSign_16 rfl wd_6_97 (by decide) if_287_25 ?_
    refine J.iconst (q := 20) (v := (1 : Int32)) O dX12_topSign_19 rfl rfl ?_
    refine J.isub (q := 21) O dX12_topSign_20 rfl ?_
    obtain ⟨hv3, h⟩ := h
    refine J.iald (q := 22) (c' := 302) (j := ((M 287 25) - (1 : Int32)).toNatClampNeg) (M 302 (((M 287 25) - (1 : Int32)).toNatClampNeg)) rfl O dX12_topSign_21 rfl ar_302 hv3 rfl ?_
    exact J.sub [] rfl (j_X12_topSign_b22 hG O hR h)
  · replace h := h.2 z2
    refine J.iconst (q := 8) (v := (0 : Int32)) O dX12_topSign_7 rfl rfl ?_
    refine J.goto (q := 22) O dX12_topSign_8 (by decide) ?_
    exact J.sub [] rfl (j_X12_topSign_b22 hG O hR h)
set_option maxHeartbeats 4000000 in
set_option maxRecDepth 20000 in
theorem j_X12_partEnds_b38 {X : CX} {G : GX} {K : Mem → Prop} (hG : Gd G) (O : Ok X G cX12_partEnds 1 RX12 2) (hR : RetV X G cX12_partEnds K) {r0 : Mem → Prop} (hr0 : ∀ a : Mem, r0 a → J X G a 0 [(0, .ref (ad G 287))] []) {s0 : Int32} {s1 : Int32} {M : Mem} (h : f_X12_partEnds_b38 r0 K s0 s1 M) : J X G M 38 [(0, .ref (ad G 287))] [.int s0, .int s1, .ref (ad G 303)] := by
  unfold f_X12_partEnds_b38 at h
  obtain ⟨hv8, h⟩ := h
  obtain ⟨hb9, h⟩ := h
  refine J.zast (q := 39) (c' := 303) (j := s1.toNatClampNeg) O dX12_partEnds_38 rfl ar_303 hv8 rfl hb9 ?_
  refine J.aload_n (q := 40) O dX12_partEnds_39 rfl 0 rfl ?_
  refine J.dup (q := 41) O dX12_partEnds_40 rfl rfl ?_
  refine J.getI (q := 44) (c' := 287) (ci := 12) (k := 25) (M 287 25) rfl O dX12_partEnds_41 rfl wd_6_97 (by decide) if_287_25 ?_
  refine J.iconst (q := 45) (v := (1 : Int32)) O dX12_partEnds_44 rfl rfl ?_
  refine J.isub (q := 46) O dX12_partEnds_45 rfl ?_
  refine J.putI (q := 49) (c' := 287) (ci := 12) (k := 25) O dX12_partEnds_46 rfl wd_6_97 (by decide) if_287_25 rfl rfl ?_
  refine J.aload_n (q := 50) O dX12_partEnds_49 rfl 0 rfl ?_
  refine J.dup (q := 51) O dX12_partEnds_50 rfl rfl ?_
  refine J.getI (q := 54) (c' := 287) (ci := 12) (k := 22) (M 287 22) rfl O dX12_partEnds_51 rfl wd_6_94 (by decide) if_287_22 ?_
  refine J.iconst (q := 55) (v := (1 : Int32)) O dX12_partEnds_54 rfl rfl ?_
  refine J.isub (q := 56) O dX12_partEnds_55 rfl ?_
  refine J.putI (q := 59) (c' := 287) (ci := 12) (k := 22) O dX12_partEnds_56 rfl wd_6_94 (by decide) if_287_22 rfl rfl ?_
  refine J.goto (q := 0) O dX12_partEnds_59 (by decide) ?_
  exact J.sub [0] rfl (hr0 _ h)
set_option maxHeartbeats 4000000 in
set_option maxRecDepth 20000 in
theorem j_X12_partEnds_b122 {X : CX} {G : GX} {K : Mem → Prop} (hG : Gd G) (O : Ok X G cX12_partEnds 1 RX12 2) (hR : RetV X G cX12_partEnds K) {r62 : Mem → Prop} (hr62 : ∀ a : Mem, r62 a → J X G a 62 [(0, .ref (ad G 287))] []) {s0 : Int32} {s1 : Int32} {M : Mem} (h : f_X12_partEnds_b122 r62 K s0 s1 M) : J X G M 122 [(0, .ref (ad G 287))] [.int s0, .int s1, .ref (ad G 303)] := by
  unfold f_X12_partEnds_b122 at h
  obtain ⟨hv10, h⟩ := h
  obtain ⟨hb11, h⟩ := h
  refine J.zast (q := 123) (c' := 303) (j := s1.toNatClampNeg) O dX12_partEnds_122 rfl ar_303 hv10 rfl hb11 ?_
  refine J.aload_n (q := 124) O dX12_partEnds_123 rfl 0 rfl ?_
  refine J.dup (q := 125) O dX12_partEnds_124 rfl rfl ?_
  refine J.getI (q := 128) (c' := 287) (ci := 12) (k := 25) (M 287 25) rfl O dX12_partEnds_125 rfl wd_6_97 (by decide) if_287_25 ?_
  refine J.iconst (q := 129) (v := (1 : Int32)) O dX12_partEnds_128 rfl rfl ?_
  refine J.isub (q := 130) O dX12_partEnds_129 rfl ?_
  refine J.putI (q := 133) (c' := 287) (ci := 12) (k := 25) O dX12_partEnds_130 rfl wd_6_97 (by decide) if_287_25 rfl rfl ?_
  refine J.goto (q := 62) O dX12_partEnds_133 (by decide) ?_
  exact J.sub [0] rfl (hr62 _ h)
set_option maxHeartbeats 4000000 in
set_option maxRecDepth 20000 in
theorem j_X12_partEnds_b121 {X : CX} {G : GX} {K : Mem → Prop} (hG : Gd G) (O : Ok X G cX12_partEnds 1 RX12 2) (hR : RetV X G cX12_partEnds K) {r62 : Mem → Prop} (hr62 : ∀ a : Mem, r62 a → J X G a 62 [(0, .ref (ad G 287))] []) {s0 : Int32} {M : Mem} (h : f_X12_partEnds_b121 r62 K s0 M) : J X G M 121 [(0, .ref (ad G 287))] [.int s0, .ref (ad G 303)] := by
  unfold f_X12_partEnds_b121 at h
  refine J.iconst (q := 122) (v := (0 : Int32)) O dX12_partEnds_121 rfl rfl ?_
  exact J.sub [0] rfl (j_X12_partEnds_b122 hG O hR hr62 h)
set_option maxHeartbeats 4000000 in
set_option maxRecDepth 20000 in
theorem j_X12_partEnds_c62 {X : CX} {G : GX} {K : Mem → Prop} (hG : Gd G) (O : Ok X G cX12_partEnds 1 RX12 2) (hR : RetV X G cX12_partEnds K) {a : Mem} (h : Lp (fun (r62 : Mem → Prop) a => f_X12_partEnds_c62 K r62 a) a) : J X G a 62 [(0, .ref (ad G 287))] [] := by
  refine Lp.elim (P := fun a => J X G a 62 [(0, .ref (ad G 287))] []) ?_ h
  clear h
  intro r62 hr62 a h
  generalize a = M at h ⊢
  unfold f_X12_partEnds_c62 at h
  (try dsimp only at h ⊢)
  refine J.aload_n (q := 63) O dX12_partEnds_62 rfl 0 rfl ?_
  refine J.callVI (q := 66) [] [] [.ref (ad G 287)] rfl O dX12_partEnds_63 rfl (c_X12_topSign hG h) wd_7_232 mw_X12_topSign io_287 rfl (by decide) (Nat.le_of_ble_eq_true rfl) (fun v12 M12 h => ?_)
  refine J.bipush (q := 68) (v := (38 : Int32)) O dX12_partEnds_66 rfl rfl ?_
  refine J.icmp_ne (q := 71) (tgt := 136) O dX12_partEnds_68 rfl (by decide) (fun z13 => ?_) (fun z13 => ?_)
  · replace h := h.1 z13
    exact hR _ _ _ dX12_partEnds_136 h
  · replace h := h.2 z13
    refine J.aload_n (q := 72) O dX12_partEnds_71 rfl 0 rfl ?_
    refine J.dup (q := 73) O dX12_partEnds_72 rfl rfl ?_
    refine J.getI (q := 76) (c' := 287) (ci := 12) (k := 27) (M12 287 27) rfl O dX12_partEnds_73 rfl wd_6_99 (by decide) if_287_27 ?_
    refine J.iconst (q := 77) (v := (1 : Int32)) O dX12_partEnds_76 rfl rfl ?_
    refine J.isub (q := 78) O dX12_partEnds_77 rfl ?_
    refine J.putI (q := 81) (c' := 287) (ci := 12) (k := 27) O dX12_partEnds_78 rfl wd_6_99 (by decide) if_287_27 rfl rfl ?_
    refine J.aload_n (q := 82) O dX12_partEnds_81 rfl 0 rfl ?_
    refine J.getR (q := 85) (c' := 287) (ci := 12) (k := 26) (r := 303) O dX12_partEnds_82 rfl wd_6_98 (by decide) if_287_26 ?_
    refine J.aload_n (q := 86) O dX12_partEnds_85 rfl 0 rfl ?_
    refine J.getI (q := 89) (c' := 287) (ci := 12) (k := 27) ((M12 287 27) - (1 : Int32)) rfl O dX12_partEnds_86 rfl wd_6_99 (by decide) if_287_27 ?_
    refine J.iconst (q := 90) (v := (1 : Int32)) O dX12_partEnds_89 rfl rfl ?_
    refine J.isub (q := 91) O dX12_partEnds_90 rfl ?_
    refine J.aload_n (q := 92) O dX12_partEnds_91 rfl 0 rfl ?_
    refine J.getR (q := 95) (c' := 287) (ci := 12) (k := 26) (r := 303) O dX12_partEnds_92 rfl wd_6_98 (by decide) if_287_26 ?_
    refine J.aload_n (q := 96) O dX12_partEnds_95 rfl 0 rfl ?_
    refine J.getI (q := 99) (c' := 287) (ci := 12) (k := 27) ((M12 287 27) - (1 : Int32)) rfl O dX12_partEnds_96 rfl wd_6_99 (by decide) if_287_27 ?_
    refine J.iconst (q := 100) (v := (1 : Int32)) O dX12_partEnds_99 rfl rfl ?_
    refine J.isub (q := 101) O dX12_partEnds_100 rfl ?_
    obtain ⟨hv14, h⟩ := h
    refine J.zald (q := 102) (c' := 303) (j := (((M12 287 27) - (1 : Int32)) - (1 : Int32)).toNatClampNeg) (M12 303 ((((M12 287 27) - (1 : Int32)) - (1 : Int32)).toNatClampNeg)) rfl O dX12_partEnds_101 rfl ar_303 hv14 rfl ?_
    refine J.if_eq (q := 105) (tgt := 121) O dX12_partEnds_102 rfl (by decide) (fun z15 => ?_) (fun z15 => ?_)
    · replace h := h.1 z15
      exact J.sub [0] rfl (j_X12_partEnds_b121 hG O hR hr62 h)
    · replace h := h.2 z15
      refine J.aload_n (q := 106) O dX12_partEnds_105 rfl 0 rfl ?_
      refine J.getR (q := 109) (c' := 287) (ci := 12) (k := 26) (r := 303) O dX12_partEnds_106 rfl wd_6_98 (by decide) if_287_26 ?_
      refine J.aload_n (q := 110) O dX12_partEnds_109 rfl 0 rfl ?_
      refine J.getI (q := 113) (c' := 287) (ci := 12) (k := 27) ((M12 287 27) - (1 : Int32)) rfl O dX12_partEnds_110 rfl wd_6_99 (by decide) if_287_27 ?_
      obtain ⟨hv16, h⟩ := h
      refine J.zald (q := 114) (c' := 303) (j := ((M12 287 27) - (1 : Int32)).toNatClampNeg) (M12 303 (((M12 287 27) - (1 : Int32)).toNatClampNeg)) rfl O dX12_partEnds_113 rfl ar_303 hv16 rfl ?_
      refine J.if_eq (q := 117) (tgt := 121) O dX12_partEnds_114 rfl (by decide) (fun z17 => ?_) (fun z17 => ?_)
      · replace h := h.1 z17
        exact J.sub [0] rfl (j_X12_partEnds_b121 hG O hR hr62 h)
      · replace h := h.2 z17
        refine J.iconst (q := 118) (v := (1 : Int32)) O dX12_partEnds_117 rfl rfl ?_
        refine J.goto (q := 122) O dX12_partEnds_118 (by decide) ?_
        exact J.sub [0] rfl (j_X12_partEnds_b122 hG O hR hr62 h)
set_option maxHeartbeats 4000000 in
set_option maxRecDepth 20000 in
theorem j_X12_partEnds_c0 {X : CX} {G : GX} {K : Mem → Prop} (hG : Gd G) (O : Ok X G cX12_partEnds 1 RX12 2) (hR : RetV X G cX12_partEnds K) {a : Mem} (h : Lp (fun (r0 : Mem → Prop) a => f_X12_partEnds_c0 K r0 a) a) : J X G a 0 [(0, .ref (ad G 287))] [] := by
  refine Lp.elim (P := fun a => J X G a 0 [(0, .ref (ad G 287))] []) ?_ h
  clear h
  intro r0 hr0 a h
  generalize a = M at h ⊢
  unfold f_X12_partEnds_c0 at h
  (try dsimp only at h ⊢)
  refine J.aload_n (q := 1) O dX12_partEnds_0 rfl 0 rfl ?_
  refine J.callVI (q := 4) [] [] [.ref (ad G 287)] rfl O dX12_partEnds_1 rfl (c_X12_topSign hG h) wd_7_232 mw_X12_topSign io_287 rfl (by decide) (Nat.le_of_ble_eq_true rfl) (fun v18 M18 h => ?_)
  refine J.bipush (q := 6) (v := (33 : Int32)) O dX12_partEnds_4 rfl rfl ?_
  refine J.icmp_ne (q := 9) (tgt := 62) O dX12_partEnds_6 rfl (by decide) (fun z19 => ?_) (fun z19 => ?_)
  · replace h := h.1 z19
    exact J.sub [0] rfl (j_X12_partEnds_c62 hG O hR h)
  · replace h := h.2 z19
    refine J.aload_n (q := 10) O dX12_partEnds_9 rfl 0 rfl ?_
    refine J.getR (q := 13) (c' := 287) (ci := 12) (k := 26) (r := 303) O dX12_partEnds_10 rfl wd_6_98 (by decide) if_287_26 ?_
    refine J.aload_n (q := 14) O dX12_partEnds_13 rfl 0 rfl ?_
    refine J.getI (q := 17) (c' := 287) (ci := 12) (k := 27) (M18 287 27) rfl O dX12_partEnds_14 rfl wd_6_99 (by decide) if_287_27 ?_
    refine J.iconst (q := 18) (v := (1 : Int32)) O dX12_partEnds_17 rfl rfl ?_
    refine J.isub (q := 19) O dX12_partEnds_18 rfl ?_
    refine J.aload_n (q := 20) O dX12_partEnds_19 rfl 0 rfl ?_
    refine J.getR (q := 23) (c' := 287) (ci := 12) (k := 26) (r := 303) O dX12_partEnds_20 rfl wd_6_98 (by decide) if_287_26 ?_
    refine J.aload_n (q := 24) O dX12_partEnds_23 rfl 0 rfl ?_
    refine J.getI (q := 27) (c' := 287) (ci := 12) (k := 27) (M18 287 27) rfl O dX12_partEnds_24 rfl wd_6_99 (by decide) if_287_27 ?_
    refine J.iconst (q := 28) (v := (1 : Int32)) O dX12_partEnds_27 rfl rfl ?_
    refine J.isub (q := 29) O dX12_partEnds_28 rfl ?_
    obtain ⟨hv20, h⟩ := h
    refine J.zald (q := 30) (c' := 303) (j := ((M18 287 27) - (1 : Int32)).toNatClampNeg) (M18 303 (((M18 287 27) - (1 : Int32)).toNatClampNeg)) rfl O dX12_partEnds_29 rfl ar_303 hv20 rfl ?_
    refine J.if_ne (q := 33) (tgt := 37) O dX12_partEnds_30 rfl (by decide) (fun z21 => ?_) (fun z21 => ?_)
    · replace h := h.1 z21
      refine J.iconst (q := 38) (v := (0 : Int32)) O dX12_partEnds_37 rfl rfl ?_
      exact J.sub [0] rfl (j_X12_partEnds_b38 hG O hR hr0 h)
    · replace h := h.2 z21
      refine J.iconst (q := 34) (v := (1 : Int32)) O dX12_partEnds_33 rfl rfl ?_
      refine J.goto (q := 38) O dX12_partEnds_34 (by decide) ?_
      exact J.sub [0] rfl (j_X12_partEnds_b38 hG O hR hr0 h)
set_option maxHeartbeats 4000000 in
set_option maxRecDepth 20000 in
theorem c_X12_partEnds {l : Launch} {G : GX} (hG : Gd G) {M : Mem} {K : Mem → Prop} (h : f_X12_partEnds  M K) : CV l G yX12_partEnds cX12_partEnds 1 2 [.ref (ad G 287)] M K := by
  unfold f_X12_partEnds at h
  refine CV.mk hG (by decide) [(0, .ref (ad G 287))] rfl (Nat.le_of_ble_eq_true rfl) (fun X O hlX hR => ?_)
  subst hlX
  exact J.sub [0] rfl (j_X12_partEnds_c0 hG O hR h)
set_option maxHeartbeats 4000000 in
set_option maxRecDepth 20000 in
theorem j_X12_orsEnd_b60 {X : CX} {G : GX} {K : Mem → Prop} (hG : Gd G) (O : Ok X G cX12_orsEnd 1 RX12 2) (hR : RetV X G cX12_orsEnd K) {r0 : Mem → Prop} (hr0 : ∀ a : Mem, r0 a → J X G a 0 [(0, .ref (ad G 287))] []) {s0 : Int32} {s1 : Int32} {M : Mem} (h : f_X12_orsEnd_b60 r0 K s0 s1 M) : J X G M 60 [(0, .ref (ad G 287))] [.int s0, .int s1, .ref (ad G 303)] := by
  unfold f_X12_orsEnd_b60 at h
  obtain ⟨hv5, h⟩ := h
  obtain ⟨hb6, h⟩ := h
  refine J.zast (q := 61) (c' := 303) (j := s1.toNatClampNeg) O dX12_orsEnd_60 rfl ar_303 hv5 rfl hb6 ?_
  refine J.aload_n (q := 62) O dX12_orsEnd_61 rfl 0 rfl ?_
  refine J.dup (q := 63) O dX12_orsEnd_62 rfl rfl ?_
  refine J.getI (q := 66) (c' := 287) (ci := 12) (k := 25) (M 287 25) rfl O dX12_orsEnd_63 rfl wd_6_97 (by decide) if_287_25 ?_
  refine J.iconst (q := 67) (v := (1 : Int32)) O dX12_orsEnd_66 rfl rfl ?_
  refine J.isub (q := 68) O dX12_orsEnd_67 rfl ?_
  refine J.putI (q := 71) (c' := 287) (ci := 12) (k := 25) O dX12_orsEnd_68 rfl wd_6_97 (by decide) if_287_25 rfl rfl ?_
  refine J.goto (q := 0) O dX12_orsEnd_71 (by decide) ?_
  exact J.sub [0] rfl (hr0 _ h)
set_option maxHeartbeats 4000000 in
set_option maxRecDepth 20000 in
theorem j_X12_orsEnd_b55 {X : CX} {G : GX} {K : Mem → Prop} (hG : Gd G) (O : Ok X G cX12_orsEnd 1 RX12 2) (hR : RetV X G cX12_orsEnd K) {r0 : Mem → Prop} (hr0 : ∀ a : Mem, r0 a → J X G a 0 [(0, .ref (ad G 287))] []) {s0 : Int32} {M : Mem} (h : f_X12_orsEnd_b55 r0 K s0 M) : J X G M 55 [(0, .ref (ad G 287))] [.int s0, .ref (ad G 303)] := by
  unfold f_X12_orsEnd_b55 at h
  refine J.iconst (q := 56) (v := (1 : Int32)) O dX12_orsEnd_55 rfl rfl ?_
  refine J.goto (q := 60) O dX12_orsEnd_56 (by decide) ?_
  exact J.sub [0] rfl (j_X12_orsEnd_b60 hG O hR hr0 h)
set_option maxHeartbeats 4000000 in
set_option maxRecDepth 20000 in
theorem j_X12_orsEnd_c0 {X : CX} {G : GX} {K : Mem → Prop} (hG : Gd G) (O : Ok X G cX12_orsEnd 1 RX12 2) (hR : RetV X G cX12_orsEnd K) {a : Mem} (h : Lp (fun (r0 : Mem → Prop) a => f_X12_orsEnd_c0 K r0 a) a) : J X G a 0 [(0, .ref (ad G 287))] [] := by
  refine Lp.elim (P := fun a => J X G a 0 [(0, .ref (ad G 287))] []) ?_ h
  clear h
  intro r0 hr0 a h
  generalize a = M at h ⊢
  unfold f_X12_orsEnd_c0 at h
  (try dsimp only at h ⊢)
  refine J.aload_n (q := 1) O dX12_orsEnd_0 rfl 0 rfl ?_
  refine J.callVI (q := 4) [] [] [.ref (ad G 287)] rfl O dX12_orsEnd_1 rfl (c_X12_topSign hG h) wd_7_232 mw_X12_topSign io_287 rfl (by decide) (Nat.le_of_ble_eq_true rfl) (fun v7 M7 h => ?_)
  refine J.bipush (q := 6) (v := (124 : Int32)) O dX12_orsEnd_4 rfl rfl ?_
  refine J.icmp_ne (q := 9) (tgt := 74) O dX12_orsEnd_6 rfl (by decide) (fun z8 => ?_) (fun z8 => ?_)
  · replace h := h.1 z8
    exact hR _ _ _ dX12_orsEnd_74 h
  · replace h := h.2 z8
    refine J.aload_n (q := 10) O dX12_orsEnd_9 rfl 0 rfl ?_
    refine J.dup (q := 11) O dX12_orsEnd_10 rfl rfl ?_
    refine J.getI (q := 14) (c' := 287) (ci := 12) (k := 27) (M7 287 27) rfl O dX12_orsEnd_11 rfl wd_6_99 (by decide) if_287_27 ?_
    refine J.iconst (q := 15) (v := (1 : Int32)) O dX12_orsEnd_14 rfl rfl ?_
    refine J.isub (q := 16) O dX12_orsEnd_15 rfl ?_
    refine J.putI (q := 19) (c' := 287) (ci := 12) (k := 27) O dX12_orsEnd_16 rfl wd_6_99 (by decide) if_287_27 rfl rfl ?_
    refine J.aload_n (q := 20) O dX12_orsEnd_19 rfl 0 rfl ?_
    refine J.getR (q := 23) (c' := 287) (ci := 12) (k := 26) (r := 303) O dX12_orsEnd_20 rfl wd_6_98 (by decide) if_287_26 ?_
    refine J.aload_n (q := 24) O dX12_orsEnd_23 rfl 0 rfl ?_
    refine J.getI (q := 27) (c' := 287) (ci := 12) (k := 27) ((M7 287 27) - (1 : Int32)) rfl O dX12_orsEnd_24 rfl wd_6_99 (by decide) if_287_27 ?_
    refine J.iconst (q := 28) (v := (1 : Int32)) O dX12_orsEnd_27 rfl rfl ?_
    refine J.isub (q := 29) O dX12_orsEnd_28 rfl ?_
    refine J.aload_n (q := 30) O dX12_orsEnd_29 rfl 0 rfl ?_
    refine J.getR (q := 33) (c' := 287) (ci := 12) (k := 26) (r := 303) O dX12_orsEnd_30 rfl wd_6_98 (by decide) if_287_26 ?_
    refine J.aload_n (q := 34) O dX12_orsEnd_33 rfl 0 rfl ?_
    refine J.getI (q := 37) (c' := 287) (ci := 12) (k := 27) ((M7 287 27) - (1 : Int32)) rfl O dX12_orsEnd_34 rfl wd_6_99 (by decide) if_287_27 ?_
    refine J.iconst (q := 38) (v := (1 : Int32)) O dX12_orsEnd_37 rfl rfl ?_
    refine J.isub (q := 39) O dX12_orsEnd_38 rfl ?_
    obtain ⟨hv9, h⟩ := h
    refine J.zald (q := 40) (c' := 303) (j := (((M7 287 27) - (1 : Int32)) - (1 : Int32)).toNatClampNeg) (M7 303 ((((M7 287 27) - (1 : Int32)) - (1 : Int32)).toNatClampNeg)) rfl O dX12_orsEnd_39 rfl ar_303 hv9 rfl ?_
    refine J.if_ne (q := 43) (tgt := 55) O dX12_orsEnd_40 rfl (by decide) (fun z10 => ?_) (fun z10 => ?_)
    · replace h := h.1 z10
      exact J.sub [0] rfl (j_X12_orsEnd_b55 hG O hR hr0 h)
    · replace h := h.2 z10
      refine J.aload_n (q := 44) O dX12_orsEnd_43 rfl 0 rfl ?_
      refine J.getR (q := 47) (c' := 287) (ci := 12) (k := 26) (r := 303) O dX12_orsEnd_44 rfl wd_6_98 (by decide) if_287_26 ?_
      refine J.aload_n (q := 48) O dX12_orsEnd_47 rfl 0 rfl ?_
      refine J.getI (q := 51) (c' := 287) (ci := 12) (k := 27) ((M7 287 27) - (1 : Int32)) rfl O dX12_orsEnd_48 rfl wd_6_99 (by decide) if_287_27 ?_
      obtain ⟨hv11, h⟩ := h
      refine J.zald (q := 52) (c' := 303) (j := ((M7 287 27) - (1 : Int32)).toNatClampNeg) (M7 303 (((M7 287 27) - (1 : Int32)).toNatClampNeg)) rfl O dX12_orsEnd_51 rfl ar_303 hv11 rfl ?_
      refine J.if_eq (q := 55) (tgt := 59) O dX12_orsEnd_52 rfl (by decide) (fun z12 => ?_) (fun z12 => ?_)
      · replace h := h.1 z12
        refine J.iconst (q := 60) (v := (0 : Int32)) O dX12_orsEnd_59 rfl rfl ?_
        exact J.sub [0] rfl (j_X12_orsEnd_b60 hG O hR hr0 h)
      · replace h := h.2 z12
        exact J.sub [0] rfl (j_X12_orsEnd_b55 hG O hR hr0 h)
set_option maxHeartbeats 4000000 in
set_option maxRecDepth 20000 in
theorem c_X12_orsEnd {l : Launch} {G : GX} (hG : Gd G) {M : Mem} {K : Mem → Prop} (h : f_X12_orsEnd  M K) : CV l G yX12_orsEnd cX12_orsEnd 1 2 [.ref (ad G 287)] M K := by
  unfold f_X12_orsEnd at h
  refine CV.mk hG (by decide) [(0, .ref (ad G 287))] rfl (Nat.le_of_ble_eq_true rfl) (fun X O hlX hR => ?_)
  subst hlX
  exact J.sub [0] rfl (j_X12_orsEnd_c0 hG O hR h)
set_option maxHeartbeats 4000000 in
set_option maxRecDepth 20000 in
theorem c_X12_opens {l : Launch} {G : GX} (hG : Gd G) {a1 : Int32} {M : Mem} {K : Mem → Prop} (h : f_X12_opens a1 M K) : CV l G yX12_opens cX12_opens 2 1 [.ref (ad G 287), .int a1] M K := by
  unfold f_X12_opens at h
  refine CV.mk hG (by decide) [(0, .ref (ad G 287)), (1, .int a1)] rfl (Nat.le_of_ble_eq_true rfl) (fun X O hlX hR => ?_)
  subst hlX
  refine J.aload_n (q := 1) O dX12_opens_0 rfl 0 rfl ?_
  refine J.getI (q := 4) (c' := 287) (ci := 12) (k := 22) (M 287 22) rfl O dX12_opens_1 rfl wd_6_94 (by decide) if_287_22 ?_
  refine J.iconst (q := 5) (v := (5 : Int32)) O dX12_opens_4 rfl rfl ?_
  refine J.icmp_ne (q := 8) (tgt := 14) O dX12_opens_5 rfl (by decide) (fun z2 => ?_) (fun z2 => ?_)
  · replace h := h.1 z2
    refine J.aload_n (q := 15) O dX12_opens_14 rfl 0 rfl ?_
    refine J.dup (q := 16) O dX12_opens_15 rfl rfl ?_
    refine J.getI (q := 19) (c' := 287) (ci := 12) (k := 22) (M 287 22) rfl O dX12_opens_16 rfl wd_6_94 (by decide) if_287_22 ?_
    refine J.iconst (q := 20) (v := (1 : Int32)) O dX12_opens_19 rfl rfl ?_
    refine J.iadd (q := 21) O dX12_opens_20 rfl ?_
    refine J.putI (q := 24) (c' := 287) (ci := 12) (k := 22) O dX12_opens_21 rfl wd_6_94 (by decide) if_287_22 rfl rfl ?_
    refine J.aload_n (q := 25) O dX12_opens_24 rfl 0 rfl ?_
    refine J.getR (q := 28) (c' := 287) (ci := 12) (k := 24) (r := 302) O dX12_opens_25 rfl wd_6_96 (by decide) if_287_24 ?_
    refine J.aload_n (q := 29) O dX12_opens_28 rfl 0 rfl ?_
    refine J.getI (q := 32) (c' := 287) (ci := 12) (k := 25) (M 287 25) rfl O dX12_opens_29 rfl wd_6_97 (by decide) if_287_25 ?_
    refine J.iload_n (q := 33) O dX12_opens_32 rfl 1 rfl ?_
    obtain ⟨hv3, h⟩ := h
    refine J.iast (q := 34) (c' := 302) (j := (M 287 25).toNatClampNeg) O dX12_opens_33 rfl ar_302 hv3 rfl ?_
    refine J.aload_n (q := 35) O dX12_opens_34 rfl 0 rfl ?_
    refine J.dup (q := 36) O dX12_opens_35 rfl rfl ?_
    refine J.getI (q := 39) (c' := 287) (ci := 12) (k := 25) (M 287 25) rfl O dX12_opens_36 rfl wd_6_97 (by decide) if_287_25 ?_
    refine J.iconst (q := 40) (v := (1 : Int32)) O dX12_opens_39 rfl rfl ?_
    refine J.iadd (q := 41) O dX12_opens_40 rfl ?_
    refine J.putI (q := 44) (c' := 287) (ci := 12) (k := 25) O dX12_opens_41 rfl wd_6_97 (by decide) if_287_25 rfl rfl ?_
    refine J.aload_n (q := 45) O dX12_opens_44 rfl 0 rfl ?_
    refine J.dup (q := 46) O dX12_opens_45 rfl rfl ?_
    refine J.getI (q := 49) (c' := 287) (ci := 12) (k := 20) (M 287 20) rfl O dX12_opens_46 rfl wd_6_92 (by decide) if_287_20 ?_
    refine J.iconst (q := 50) (v := (1 : Int32)) O dX12_opens_49 rfl rfl ?_
    refine J.iadd (q := 51) O dX12_opens_50 rfl ?_
    refine J.putI (q := 54) (c' := 287) (ci := 12) (k := 20) O dX12_opens_51 rfl wd_6_92 (by decide) if_287_20 rfl rfl ?_
    exact hR _ _ _ dX12_opens_54 h
  · replace h := h.2 z2
    refine J.aload_n (q := 9) O dX12_opens_8 rfl 0 rfl ?_
    refine J.iconst (q := 10) (v := (1 : Int32)) O dX12_opens_9 rfl rfl ?_
    refine J.putZ (q := 13) (c' := 287) (ci := 12) (k := 21) O dX12_opens_10 rfl wd_6_93 (by decide) if_287_21 rfl rfl (Or.inr rfl) ?_
    exact hR _ _ _ dX12_opens_13 h
set_option maxHeartbeats 4000000 in
set_option maxRecDepth 20000 in
theorem j_X12_readRule_b237 {X : CX} {G : GX} {K : Int32 → Mem → Prop} (hG : Gd G) (O : Ok X G cX12_readRule 3 RX12 5) (hR : RetZ X G cX12_readRule K) {r17 : Int32 × Mem → Prop} (hr17 : ∀ a : Int32 × Mem, r17 a → J X G a.2 17 [(0, .ref (ad G 287)), (1, .int a.1)] []) {x1 : Int32} {M : Mem} (h : f_X12_readRule_b237 r17 K x1 M) : J X G M 237 [(0, .ref (ad G 287)), (1, .int x1)] [] := by
  unfold f_X12_readRule_b237 at h
  refine J.goto (q := 17) O dX12_readRule_237 (by decide) ?_
  exact J.sub [0, 1] rfl (hr17 _ h)
set_option maxHeartbeats 4000000 in
set_option maxRecDepth 20000 in
theorem j_X12_readRule_b60 {X : CX} {G : GX} {K : Int32 → Mem → Prop} (hG : Gd G) (O : Ok X G cX12_readRule 3 RX12 5) (hR : RetZ X G cX12_readRule K) {r17 : Int32 × Mem → Prop} (hr17 : ∀ a : Int32 × Mem, r17 a → J X G a.2 17 [(0, .ref (ad G 287)), (1, .int a.1)] []) {x1 : Int32} {x2 : Int32} {M : Mem} (h : f_X12_readRule_b60 r17 K x1 x2 M) : J X G M 60 [(0, .ref (ad G 287)), (1, .int x1), (2, .int x2)] [] := by
  unfold f_X12_readRule_b60 at h
  refine J.aload_n (q := 61) O dX12_readRule_60 rfl 0 rfl ?_
  refine J.iload_n (q := 62) O dX12_readRule_61 rfl 2 rfl ?_
  refine J.callVV (q := 65) [.int x2] [] [.int x2, .ref (ad G 287)] rfl O dX12_readRule_62 rfl (c_X12_opens hG h) wd_7_209 mw_X12_opens io_287 rfl (by decide) (Nat.le_of_ble_eq_true rfl) (fun M6 h => ?_)
  refine J.goto (q := 237) O dX12_readRule_65 (by decide) ?_
  exact J.sub [0, 1] rfl (j_X12_readRule_b237 hG O hR hr17 h)
set_option maxHeartbeats 4000000 in
set_option maxRecDepth 20000 in
theorem j_X12_readRule_b133 {X : CX} {G : GX} {K : Int32 → Mem → Prop} (hG : Gd G) (O : Ok X G cX12_readRule 3 RX12 5) (hR : RetZ X G cX12_readRule K) {r17 : Int32 × Mem → Prop} (hr17 : ∀ a : Int32 × Mem, r17 a → J X G a.2 17 [(0, .ref (ad G 287)), (1, .int a.1)] []) {x2 : Int32} {M : Mem} (h : f_X12_readRule_b133 r17 K x2 M) : J X G M 133 [(0, .ref (ad G 287)), (2, .int x2)] [] := by
  unfold f_X12_readRule_b133 at h
  refine J.aload_n (q := 134) O dX12_readRule_133 rfl 0 rfl ?_
  refine J.getR (q := 137) (c' := 287) (ci := 12) (k := 24) (r := 302) O dX12_readRule_134 rfl wd_6_96 (by decide) if_287_24 ?_
  refine J.aload_n (q := 138) O dX12_readRule_137 rfl 0 rfl ?_
  refine J.getI (q := 141) (c' := 287) (ci := 12) (k := 25) (M 287 25) rfl O dX12_readRule_138 rfl wd_6_97 (by decide) if_287_25 ?_
  refine J.iload_n (q := 142) O dX12_readRule_141 rfl 1 rfl ?_
  obtain ⟨hv7, h⟩ := h
  refine J.iast (q := 143) (c' := 302) (j := (M 287 25).toNatClampNeg) O dX12_readRule_142 rfl ar_302 hv7 rfl ?_
  refine J.aload_n (q := 144) O dX12_readRule_143 rfl 0 rfl ?_
  refine J.dup (q := 145) O dX12_readRule_144 rfl rfl ?_
  refine J.getI (q := 148) (c' := 287) (ci := 12) (k := 25) (M 287 25) rfl O dX12_readRule_145 rfl wd_6_97 (by decide) if_287_25 ?_
  refine J.iconst (q := 149) (v := (1 : Int32)) O dX12_readRule_148 rfl rfl ?_
  refine J.iadd (q := 150) O dX12_readRule_149 rfl ?_
  refine J.putI (q := 153) (c' := 287) (ci := 12) (k := 25) O dX12_readRule_150 rfl wd_6_97 (by decide) if_287_25 rfl rfl ?_
  refine J.aload_n (q := 154) O dX12_readRule_153 rfl 0 rfl ?_
  refine J.dup (q := 155) O dX12_readRule_154 rfl rfl ?_
  refine J.getI (q := 158) (c' := 287) (ci := 12) (k := 20) (M 287 20) rfl O dX12_readRule_155 rfl wd_6_92 (by decide) if_287_20 ?_
  refine J.iconst (q := 159) (v := (1 : Int32)) O dX12_readRule_158 rfl rfl ?_
  refine J.iadd (q := 160) O dX12_readRule_159 rfl ?_
  refine J.putI (q := 163) (c' := 287) (ci := 12) (k := 20) O dX12_readRule_160 rfl wd_6_92 (by decide) if_287_20 rfl rfl ?_
  refine J.iconst (q := 164) (v := (1 : Int32)) O dX12_readRule_163 rfl rfl ?_
  refine J.istore_n (q := 165) O dX12_readRule_164 rfl [(1, .int (1 : Int32)), (0, .ref (ad G 287)), (2, .int x2)] (by decide) rfl ?_
  refine J.goto (q := 237) O dX12_readRule_165 (by decide) ?_
  exact J.sub [1, 0] rfl (j_X12_readRule_b237 hG O hR hr17 h)
set_option maxHeartbeats 4000000 in
set_option maxRecDepth 20000 in
theorem j_X12_readRule_b123 {X : CX} {G : GX} {K : Int32 → Mem → Prop} (hG : Gd G) (O : Ok X G cX12_readRule 3 RX12 5) (hR : RetZ X G cX12_readRule K) {r17 : Int32 × Mem → Prop} (hr17 : ∀ a : Int32 × Mem, r17 a → J X G a.2 17 [(0, .ref (ad G 287)), (1, .int a.1)] []) {x2 : Int32} {M : Mem} (h : f_X12_readRule_b123 r17 K x2 M) : J X G M 123 [(0, .ref (ad G 287)), (2, .int x2)] [] := by
  unfold f_X12_readRule_b123 at h
  refine J.iload_n (q := 124) O dX12_readRule_123 rfl 1 rfl ?_
  refine J.bipush (q := 126) (v := (124 : Int32)) O dX12_readRule_124 rfl rfl ?_
  refine J.icmp_ne (q := 129) (tgt := 133) O dX12_readRule_126 rfl (by decide) (fun z8 => ?_) (fun z8 => ?_)
  · replace h := h.1 z8
    exact J.sub [0, 1] rfl (j_X12_readRule_b133 hG O hR hr17 h)
  · replace h := h.2 z8
    refine J.aload_n (q := 130) O dX12_readRule_129 rfl 0 rfl ?_
    refine J.callVV (q := 133) [] [] [.ref (ad G 287)] rfl O dX12_readRule_130 rfl (c_X12_orsEnd hG h) wd_7_236 mw_X12_orsEnd io_287 rfl (by decide) (Nat.le_of_ble_eq_true rfl) (fun M9 h => ?_)
    exact J.sub [0, 1] rfl (j_X12_readRule_b133 hG O hR hr17 h)
set_option maxHeartbeats 4000000 in
set_option maxRecDepth 20000 in
theorem j_X12_readRule_b193 {X : CX} {G : GX} {K : Int32 → Mem → Prop} (hG : Gd G) (O : Ok X G cX12_readRule 3 RX12 5) (hR : RetZ X G cX12_readRule K) {r17 : Int32 × Mem → Prop} (hr17 : ∀ a : Int32 × Mem, r17 a → J X G a.2 17 [(0, .ref (ad G 287)), (1, .int a.1)] []) {x1 : Int32} {s0 : Int32} {M : Mem} (h : f_X12_readRule_b193 r17 K x1 s0 M) : J X G M 193 [(0, .ref (ad G 287)), (1, .int x1)] [.int s0, .ref (ad G 287)] := by
  unfold f_X12_readRule_b193 at h
  obtain ⟨hb10, h⟩ := h
  refine J.putZ (q := 196) (c' := 287) (ci := 12) (k := 21) O dX12_readRule_193 rfl wd_6_93 (by decide) if_287_21 rfl rfl hb10 ?_
  refine J.aload_n (q := 197) O dX12_readRule_196 rfl 0 rfl ?_
  refine J.getI (q := 200) (c' := 287) (ci := 12) (k := 21) s0 rfl O dX12_readRule_197 rfl wd_6_93 (by decide) if_287_21 ?_
  refine J.if_ne (q := 203) (tgt := 237) O dX12_readRule_200 rfl (by decide) (fun z11 => ?_) (fun z11 => ?_)
  · replace h := h.1 z11
    exact J.sub [0, 1] rfl (j_X12_readRule_b237 hG O hR hr17 h)
  · replace h := h.2 z11
    refine J.aload_n (q := 204) O dX12_readRule_203 rfl 0 rfl ?_
    refine J.dup (q := 205) O dX12_readRule_204 rfl rfl ?_
    refine J.getI (q := 208) (c' := 287) (ci := 12) (k := 25) (M 287 25) rfl O dX12_readRule_205 rfl wd_6_97 (by decide) if_287_25 ?_
    refine J.iconst (q := 209) (v := (1 : Int32)) O dX12_readRule_208 rfl rfl ?_
    refine J.isub (q := 210) O dX12_readRule_209 rfl ?_
    refine J.putI (q := 213) (c' := 287) (ci := 12) (k := 25) O dX12_readRule_210 rfl wd_6_97 (by decide) if_287_25 rfl rfl ?_
    refine J.aload_n (q := 214) O dX12_readRule_213 rfl 0 rfl ?_
    refine J.dup (q := 215) O dX12_readRule_214 rfl rfl ?_
    refine J.getI (q := 218) (c' := 287) (ci := 12) (k := 22) (M 287 22) rfl O dX12_readRule_215 rfl wd_6_94 (by decide) if_287_22 ?_
    refine J.iconst (q := 219) (v := (1 : Int32)) O dX12_readRule_218 rfl rfl ?_
    refine J.isub (q := 220) O dX12_readRule_219 rfl ?_
    refine J.putI (q := 223) (c' := 287) (ci := 12) (k := 22) O dX12_readRule_220 rfl wd_6_94 (by decide) if_287_22 rfl rfl ?_
    refine J.aload_n (q := 224) O dX12_readRule_223 rfl 0 rfl ?_
    refine J.dup (q := 225) O dX12_readRule_224 rfl rfl ?_
    refine J.getI (q := 228) (c' := 287) (ci := 12) (k := 20) (M 287 20) rfl O dX12_readRule_225 rfl wd_6_92 (by decide) if_287_20 ?_
    refine J.iconst (q := 229) (v := (1 : Int32)) O dX12_readRule_228 rfl rfl ?_
    refine J.iadd (q := 230) O dX12_readRule_229 rfl ?_
    refine J.putI (q := 233) (c' := 287) (ci := 12) (k := 20) O dX12_readRule_230 rfl wd_6_92 (by decide) if_287_20 rfl rfl ?_
    refine J.aload_n (q := 234) O dX12_readRule_233 rfl 0 rfl ?_
    refine J.callVV (q := 237) [] [] [.ref (ad G 287)] rfl O dX12_readRule_234 rfl (c_X12_partEnds hG h) wd_7_228 mw_X12_partEnds io_287 rfl (by decide) (Nat.le_of_ble_eq_true rfl) (fun M12 h => ?_)
    exact J.sub [0, 1] rfl (j_X12_readRule_b237 hG O hR hr17 h)
set_option maxHeartbeats 4000000 in
set_option maxRecDepth 20000 in
theorem j_X12_readRule_b188 {X : CX} {G : GX} {K : Int32 → Mem → Prop} (hG : Gd G) (O : Ok X G cX12_readRule 3 RX12 5) (hR : RetZ X G cX12_readRule K) {r17 : Int32 × Mem → Prop} (hr17 : ∀ a : Int32 × Mem, r17 a → J X G a.2 17 [(0, .ref (ad G 287)), (1, .int a.1)] []) {x1 : Int32} {M : Mem} (h : f_X12_readRule_b188 r17 K x1 M) : J X G M 188 [(0, .ref (ad G 287)), (1, .int x1)] [.ref (ad G 287)] := by
  unfold f_X12_readRule_b188 at h
  refine J.iconst (q := 189) (v := (1 : Int32)) O dX12_readRule_188 rfl rfl ?_
  refine J.goto (q := 193) O dX12_readRule_189 (by decide) ?_
  exact J.sub [0, 1] rfl (j_X12_readRule_b193 hG O hR hr17 h)
set_option maxHeartbeats 4000000 in
set_option maxRecDepth 20000 in
theorem j_X12_readRule_b68 {X : CX} {G : GX} {K : Int32 → Mem → Prop} (hG : Gd G) (O : Ok X G cX12_readRule 3 RX12 5) (hR : RetZ X G cX12_readRule K) {r17 : Int32 × Mem → Prop} (hr17 : ∀ a : Int32 × Mem, r17 a → J X G a.2 17 [(0, .ref (ad G 287)), (1, .int a.1)] []) {x1 : Int32} {x2 : Int32} {M : Mem} (h : f_X12_readRule_b68 r17 K x1 x2 M) : J X G M 68 [(0, .ref (ad G 287)), (1, .int x1), (2, .int x2)] [] := by
  unfold f_X12_readRule_b68 at h
  refine J.iload_n (q := 69) O dX12_readRule_68 rfl 1 rfl ?_
  refine J.if_eq (q := 72) (tgt := 111) O dX12_readRule_69 rfl (by decide) (fun z13 => ?_) (fun z13 => ?_)
  · replace h := h.1 z13
    refine J.iload_n (q := 112) O dX12_readRule_111 rfl 2 rfl ?_
    refine J.bipush (q := 114) (v := (38 : Int32)) O dX12_readRule_112 rfl rfl ?_
    refine J.icmp_eq (q := 117) (tgt := 123) O dX12_readRule_114 rfl (by decide) (fun z14 => ?_) (fun z14 => ?_)
    · replace h := h.1 z14
      exact J.sub [0, 2] rfl (j_X12_readRule_b123 hG O hR hr17 h)
    · replace h := h.2 z14
      refine J.iload_n (q := 118) O dX12_readRule_117 rfl 2 rfl ?_
      refine J.bipush (q := 120) (v := (124 : Int32)) O dX12_readRule_118 rfl rfl ?_
      refine J.icmp_ne (q := 123) (tgt := 168) O dX12_readRule_120 rfl (by decide) (fun z15 => ?_) (fun z15 => ?_)
      · replace h := h.1 z15
        refine J.aload_n (q := 169) O dX12_readRule_168 rfl 0 rfl ?_
        refine J.callVV (q := 172) [] [] [.ref (ad G 287)] rfl O dX12_readRule_169 rfl (c_X12_orsEnd hG h) wd_7_236 mw_X12_orsEnd io_287 rfl (by decide) (Nat.le_of_ble_eq_true rfl) (fun M16 h => ?_)
        refine J.aload_n (q := 173) O dX12_readRule_172 rfl 0 rfl ?_
        refine J.iload_n (q := 174) O dX12_readRule_173 rfl 2 rfl ?_
        refine J.bipush (q := 176) (v := (41 : Int32)) O dX12_readRule_174 rfl rfl ?_
        refine J.icmp_ne (q := 179) (tgt := 188) O dX12_readRule_176 rfl (by decide) (fun z17 => ?_) (fun z17 => ?_)
        · replace h := h.1 z17
          exact J.sub [0, 1] rfl (j_X12_readRule_b188 hG O hR hr17 h)
        · replace h := h.2 z17
          refine J.aload_n (q := 180) O dX12_readRule_179 rfl 0 rfl ?_
          refine J.callVI (q := 183) [] [.ref (ad G 287)] [.ref (ad G 287), .ref (ad G 287)] rfl O dX12_readRule_180 rfl (c_X12_topSign hG h) wd_7_232 mw_X12_topSign io_287 rfl (by decide) (Nat.le_of_ble_eq_true rfl) (fun v18 M18 h => ?_)
          refine J.bipush (q := 185) (v := (40 : Int32)) O dX12_readRule_183 rfl rfl ?_
          refine J.icmp_eq (q := 188) (tgt := 192) O dX12_readRule_185 rfl (by decide) (fun z19 => ?_) (fun z19 => ?_)
          · replace h := h.1 z19
            refine J.iconst (q := 193) (v := (0 : Int32)) O dX12_readRule_192 rfl rfl ?_
            exact J.sub [0, 1] rfl (j_X12_readRule_b193 hG O hR hr17 h)
          · replace h := h.2 z19
            exact J.sub [0, 1] rfl (j_X12_readRule_b188 hG O hR hr17 h)
      · replace h := h.2 z15
        exact J.sub [0, 2] rfl (j_X12_readRule_b123 hG O hR hr17 h)
  · replace h := h.2 z13
    refine J.aload_n (q := 73) O dX12_readRule_72 rfl 0 rfl ?_
    refine J.getR (q := 76) (c' := 287) (ci := 12) (k := 26) (r := 303) O dX12_readRule_73 rfl wd_6_98 (by decide) if_287_26 ?_
    refine J.aload_n (q := 77) O dX12_readRule_76 rfl 0 rfl ?_
    refine J.getI (q := 80) (c' := 287) (ci := 12) (k := 27) (M 287 27) rfl O dX12_readRule_77 rfl wd_6_99 (by decide) if_287_27 ?_
    refine J.aload_n (q := 81) O dX12_readRule_80 rfl 0 rfl ?_
    refine J.callVI (q := 84) [] [.int (M 287 27), .ref (ad G 303)] [.ref (ad G 287), .int (M 287 27), .ref (ad G 303)] rfl O dX12_readRule_81 rfl (c_X12_readTest hG h) wd_7_213 mw_X12_readTest io_287 rfl (by decide) (Nat.le_of_ble_eq_true rfl) (fun v20 M20 h => ?_)
    obtain ⟨hv21, h⟩ := h
    obtain ⟨hb22, h⟩ := h
    refine J.zast (q := 85) (c' := 303) (j := (M 287 27).toNatClampNeg) O dX12_readRule_84 rfl ar_303 hv21 rfl hb22 ?_
    refine J.aload_n (q := 86) O dX12_readRule_85 rfl 0 rfl ?_
    refine J.dup (q := 87) O dX12_readRule_86 rfl rfl ?_
    refine J.getI (q := 90) (c' := 287) (ci := 12) (k := 27) (M20 287 27) rfl O dX12_readRule_87 rfl wd_6_99 (by decide) if_287_27 ?_
    refine J.iconst (q := 91) (v := (1 : Int32)) O dX12_readRule_90 rfl rfl ?_
    refine J.iadd (q := 92) O dX12_readRule_91 rfl ?_
    refine J.putI (q := 95) (c' := 287) (ci := 12) (k := 27) O dX12_readRule_92 rfl wd_6_99 (by decide) if_287_27 rfl rfl ?_
    refine J.iconst (q := 96) (v := (0 : Int32)) O dX12_readRule_95 rfl rfl ?_
    refine J.istore_n (q := 97) O dX12_readRule_96 rfl [(1, .int (0 : Int32)), (0, .ref (ad G 287)), (2, .int x2)] (by decide) rfl ?_
    refine J.aload_n (q := 98) O dX12_readRule_97 rfl 1 rfl ?_
    refine J.getI (q := 101) (c' := 287) (ci := 12) (k := 21) (M20 287 21) rfl O dX12_readRule_98 rfl wd_6_93 (by decide) if_287_21 ?_
    refine J.if_ne (q := 104) (tgt := 237) O dX12_readRule_101 rfl (by decide) (fun z23 => ?_) (fun z23 => ?_)
    · replace h := h.1 z23
      exact J.sub [1, 0] rfl (j_X12_readRule_b237 hG O hR hr17 h)
    · replace h := h.2 z23
      refine J.aload_n (q := 105) O dX12_readRule_104 rfl 1 rfl ?_
      refine J.callVV (q := 108) [] [] [.ref (ad G 287)] rfl O dX12_readRule_105 rfl (c_X12_partEnds hG h) wd_7_228 mw_X12_partEnds io_287 rfl (by decide) (Nat.le_of_ble_eq_true rfl) (fun M24 h => ?_)
      refine J.goto (q := 237) O dX12_readRule_108 (by decide) ?_
      exact J.sub [1, 0] rfl (j_X12_readRule_b237 hG O hR hr17 h)
set_option maxHeartbeats 4000000 in
set_option maxRecDepth 20000 in
theorem j_X12_readRule_b39 {X : CX} {G : GX} {K : Int32 → Mem → Prop} (hG : Gd G) (O : Ok X G cX12_readRule 3 RX12 5) (hR : RetZ X G cX12_readRule K) {r17 : Int32 × Mem → Prop} (hr17 : ∀ a : Int32 × Mem, r17 a → J X G a.2 17 [(0, .ref (ad G 287)), (1, .int a.1)] []) {x1 : Int32} {M : Mem} (h : f_X12_readRule_b39 r17 K x1 M) : J X G M 39 [(0, .ref (ad G 287)), (1, .int x1)] [] := by
  unfold f_X12_readRule_b39 at h
  refine J.aload_n (q := 40) O dX12_readRule_39 rfl 0 rfl ?_
  refine J.callVI (q := 43) [] [] [.ref (ad G 287)] rfl O dX12_readRule_40 rfl (c_X12_byteHere hG h) wd_7_201 mw_X12_byteHere io_287 rfl (by decide) (Nat.le_of_ble_eq_true rfl) (fun v25 M25 h => ?_)
  refine J.istore_n (q := 44) O dX12_readRule_43 rfl [(2, .int v25), (0, .ref (ad G 287)), (1, .int x1)] (by decide) rfl ?_
  refine J.iload_n (q := 45) O dX12_readRule_44 rfl 2 rfl ?_
  refine J.if_eq (q := 48) (tgt := 68) O dX12_readRule_45 rfl (by decide) (fun z26 => ?_) (fun z26 => ?_)
  · replace h := h.1 z26
    exact J.sub [1, 2, 0] rfl (j_X12_readRule_b68 hG O hR hr17 h)
  · replace h := h.2 z26
    refine J.iload_n (q := 49) O dX12_readRule_48 rfl 0 rfl ?_
    refine J.bipush (q := 51) (v := (33 : Int32)) O dX12_readRule_49 rfl rfl ?_
    refine J.icmp_eq (q := 54) (tgt := 60) O dX12_readRule_51 rfl (by decide) (fun z27 => ?_) (fun z27 => ?_)
    · replace h := h.1 z27
      exact J.sub [1, 2, 0] rfl (j_X12_readRule_b60 hG O hR hr17 h)
    · replace h := h.2 z27
      refine J.iload_n (q := 55) O dX12_readRule_54 rfl 0 rfl ?_
      refine J.bipush (q := 57) (v := (40 : Int32)) O dX12_readRule_55 rfl rfl ?_
      refine J.icmp_ne (q := 60) (tgt := 68) O dX12_readRule_57 rfl (by decide) (fun z28 => ?_) (fun z28 => ?_)
      · replace h := h.1 z28
        exact J.sub [1, 2, 0] rfl (j_X12_readRule_b68 hG O hR hr17 h)
      · replace h := h.2 z28
        exact J.sub [1, 2, 0] rfl (j_X12_readRule_b60 hG O hR hr17 h)
set_option maxHeartbeats 4000000 in
set_option maxRecDepth 20000 in
theorem j_X12_readRule_b288 {X : CX} {G : GX} {K : Int32 → Mem → Prop} (hG : Gd G) (O : Ok X G cX12_readRule 3 RX12 5) (hR : RetZ X G cX12_readRule K) {s0 : Int32} {M : Mem} (h : f_X12_readRule_b288 K s0 M) : J X G M 288 [] [.int s0] := by
  unfold f_X12_readRule_b288 at h
  exact hR _ _ _ _ dX12_readRule_288 h.1 h.2
set_option maxHeartbeats 4000000 in
set_option maxRecDepth 20000 in
theorem j_X12_readRule_b287 {X : CX} {G : GX} {K : Int32 → Mem → Prop} (hG : Gd G) (O : Ok X G cX12_readRule 3 RX12 5) (hR : RetZ X G cX12_readRule K) {M : Mem} (h : f_X12_readRule_b287 K  M) : J X G M 287 [] [] := by
  unfold f_X12_readRule_b287 at h
  refine J.iconst (q := 288) (v := (0 : Int32)) O dX12_readRule_287 rfl rfl ?_
  exact J.sub [] rfl (j_X12_readRule_b288 hG O hR h)
set_option maxHeartbeats 4000000 in
set_option maxRecDepth 20000 in
theorem j_X12_readRule_b267 {X : CX} {G : GX} {K : Int32 → Mem → Prop} (hG : Gd G) (O : Ok X G cX12_readRule 3 RX12 5) (hR : RetZ X G cX12_readRule K) {M : Mem} (h : f_X12_readRule_b267 K  M) : J X G M 267 [(0, .ref (ad G 287))] [] := by
  unfold f_X12_readRule_b267 at h
  refine J.aload_n (q := 268) O dX12_readRule_267 rfl 0 rfl ?_
  refine J.getI (q := 271) (c' := 287) (ci := 12) (k := 21) (M 287 21) rfl O dX12_readRule_268 rfl wd_6_93 (by decide) if_287_21 ?_
  refine J.if_ne (q := 274) (tgt := 287) O dX12_readRule_271 rfl (by decide) (fun z30 => ?_) (fun z30 => ?_)
  · replace h := h.1 z30
    exact J.sub [] rfl (j_X12_readRule_b287 hG O hR h)
  · replace h := h.2 z30
    refine J.aload_n (q := 275) O dX12_readRule_274 rfl 0 rfl ?_
    refine J.getR (q := 278) (c' := 287) (ci := 12) (k := 26) (r := 303) O dX12_readRule_275 rfl wd_6_98 (by decide) if_287_26 ?_
    refine J.iconst (q := 279) (v := (0 : Int32)) O dX12_readRule_278 rfl rfl ?_
    refine J.zald (q := 280) (c' := 303) (j := 0) (M 303 0) rfl O dX12_readRule_279 rfl ar_303 (vin_lit (by decide)) (by decide) ?_
    refine J.if_eq (q := 283) (tgt := 287) O dX12_readRule_280 rfl (by decide) (fun z31 => ?_) (fun z31 => ?_)
    · replace h := h.1 z31
      exact J.sub [] rfl (j_X12_readRule_b287 hG O hR h)
    · replace h := h.2 z31
      refine J.iconst (q := 284) (v := (1 : Int32)) O dX12_readRule_283 rfl rfl ?_
      refine J.goto (q := 288) O dX12_readRule_284 (by decide) ?_
      exact J.sub [] rfl (j_X12_readRule_b288 hG O hR h)
set_option maxHeartbeats 4000000 in
set_option maxRecDepth 20000 in
theorem j_X12_readRule_b264 {X : CX} {G : GX} {K : Int32 → Mem → Prop} (hG : Gd G) (O : Ok X G cX12_readRule 3 RX12 5) (hR : RetZ X G cX12_readRule K) {s0 : Int32} {M : Mem} (h : f_X12_readRule_b264 K s0 M) : J X G M 264 [(0, .ref (ad G 287))] [.int s0, .ref (ad G 287)] := by
  unfold f_X12_readRule_b264 at h
  obtain ⟨hb32, h⟩ := h
  refine J.putZ (q := 267) (c' := 287) (ci := 12) (k := 21) O dX12_readRule_264 rfl wd_6_93 (by decide) if_287_21 rfl rfl hb32 ?_
  exact J.sub [0] rfl (j_X12_readRule_b267 hG O hR h)
set_option maxHeartbeats 4000000 in
set_option maxRecDepth 20000 in
theorem j_X12_readRule_b240 {X : CX} {G : GX} {K : Int32 → Mem → Prop} (hG : Gd G) (O : Ok X G cX12_readRule 3 RX12 5) (hR : RetZ X G cX12_readRule K) {M : Mem} (h : f_X12_readRule_b240 K  M) : J X G M 240 [(0, .ref (ad G 287))] [] := by
  unfold f_X12_readRule_b240 at h
  refine J.aload_n (q := 241) O dX12_readRule_240 rfl 0 rfl ?_
  refine J.getI (q := 244) (c' := 287) (ci := 12) (k := 21) (M 287 21) rfl O dX12_readRule_241 rfl wd_6_93 (by decide) if_287_21 ?_
  refine J.if_ne (q := 247) (tgt := 267) O dX12_readRule_244 rfl (by decide) (fun z33 => ?_) (fun z33 => ?_)
  · replace h := h.1 z33
    exact J.sub [0] rfl (j_X12_readRule_b267 hG O hR h)
  · replace h := h.2 z33
    refine J.aload_n (q := 248) O dX12_readRule_247 rfl 0 rfl ?_
    refine J.callVV (q := 251) [] [] [.ref (ad G 287)] rfl O dX12_readRule_248 rfl (c_X12_orsEnd hG h) wd_7_236 mw_X12_orsEnd io_287 rfl (by decide) (Nat.le_of_ble_eq_true rfl) (fun M34 h => ?_)
    refine J.aload_n (q := 252) O dX12_readRule_251 rfl 0 rfl ?_
    refine J.aload_n (q := 253) O dX12_readRule_252 rfl 0 rfl ?_
    refine J.getI (q := 256) (c' := 287) (ci := 12) (k := 25) (M34 287 25) rfl O dX12_readRule_253 rfl wd_6_97 (by decide) if_287_25 ?_
    refine J.if_le (q := 259) (tgt := 263) O dX12_readRule_256 rfl (by decide) (fun z35 => ?_) (fun z35 => ?_)
    · replace h := h.1 z35
      refine J.iconst (q := 264) (v := (0 : Int32)) O dX12_readRule_263 rfl rfl ?_
      exact J.sub [0] rfl (j_X12_readRule_b264 hG O hR h)
    · replace h := h.2 z35
      refine J.iconst (q := 260) (v := (1 : Int32)) O dX12_readRule_259 rfl rfl ?_
      refine J.goto (q := 264) O dX12_readRule_260 (by decide) ?_
      exact J.sub [0] rfl (j_X12_readRule_b264 hG O hR h)
set_option maxHeartbeats 4000000 in
set_option maxRecDepth 20000 in
theorem j_X12_readRule_c17 {X : CX} {G : GX} {K : Int32 → Mem → Prop} (hG : Gd G) (O : Ok X G cX12_readRule 3 RX12 5) (hR : RetZ X G cX12_readRule K) {a : Int32 × Mem} (h : Lp (fun (r17 : Int32 × Mem → Prop) a => f_X12_readRule_c17 K r17 a.1 a.2) a) : J X G a.2 17 [(0, .ref (ad G 287)), (1, .int a.1)] [] := by
  refine Lp.elim (P := fun a => J X G a.2 17 [(0, .ref (ad G 287)), (1, .int a.1)] []) ?_ h
  clear h
  intro r17 hr17 a h
  obtain ⟨x1, M⟩ := a
  unfold f_X12_readRule_c17 at h
  (try dsimp only at h ⊢)
  refine J.aload_n (q := 18) O dX12_readRule_17 rfl 0 rfl ?_
  refine J.getI (q := 21) (c' := 287) (ci := 12) (k := 21) (M 287 21) rfl O dX12_readRule_18 rfl wd_6_93 (by decide) if_287_21 ?_
  refine J.if_ne (q := 24) (tgt := 240) O dX12_readRule_21 rfl (by decide) (fun z36 => ?_) (fun z36 => ?_)
  · replace h := h.1 z36
    exact J.sub [0] rfl (j_X12_readRule_b240 hG O hR h)
  · replace h := h.2 z36
    refine J.iload_n (q := 25) O dX12_readRule_24 rfl 1 rfl ?_
    refine J.if_ne (q := 28) (tgt := 39) O dX12_readRule_25 rfl (by decide) (fun z37 => ?_) (fun z37 => ?_)
    · replace h := h.1 z37
      exact J.sub [0, 1] rfl (j_X12_readRule_b39 hG O hR hr17 h)
    · replace h := h.2 z37
      refine J.aload_n (q := 29) O dX12_readRule_28 rfl 0 rfl ?_
      refine J.getI (q := 32) (c' := 287) (ci := 12) (k := 20) (M 287 20) rfl O dX12_readRule_29 rfl wd_6_92 (by decide) if_287_20 ?_
      refine J.aload_n (q := 33) O dX12_readRule_32 rfl 0 rfl ?_
      refine J.getI (q := 36) (c' := 287) (ci := 12) (k := 19) (M 287 19) rfl O dX12_readRule_33 rfl wd_6_91 (by decide) if_287_19 ?_
      refine J.icmp_ge (q := 39) (tgt := 240) O dX12_readRule_36 rfl (by decide) (fun z38 => ?_) (fun z38 => ?_)
      · replace h := h.1 z38
        exact J.sub [0] rfl (j_X12_readRule_b240 hG O hR h)
      · replace h := h.2 z38
        exact J.sub [0, 1] rfl (j_X12_readRule_b39 hG O hR hr17 h)
set_option maxHeartbeats 4000000 in
set_option maxRecDepth 20000 in
theorem c_X12_readRule {l : Launch} {G : GX} (hG : Gd G) {M : Mem} {K : Int32 → Mem → Prop} (h : f_X12_readRule  M K) : CI l G yX12_readRule cX12_readRule 3 (some .boolean) 5 [.ref (ad G 287)] M K := by
  unfold f_X12_readRule at h
  refine CZ.mk hG (by decide) [(0, .ref (ad G 287))] rfl (Nat.le_of_ble_eq_true rfl) (fun X O hlX hR => ?_)
  subst hlX
  refine J.aload_n (q := 1) O dX12_readRule_0 rfl 0 rfl ?_
  refine J.iconst (q := 2) (v := (0 : Int32)) O dX12_readRule_1 rfl rfl ?_
  refine J.putI (q := 5) (c' := 287) (ci := 12) (k := 25) O dX12_readRule_2 rfl wd_6_97 (by decide) if_287_25 rfl rfl ?_
  refine J.aload_n (q := 6) O dX12_readRule_5 rfl 0 rfl ?_
  refine J.iconst (q := 7) (v := (0 : Int32)) O dX12_readRule_6 rfl rfl ?_
  refine J.putI (q := 10) (c' := 287) (ci := 12) (k := 27) O dX12_readRule_7 rfl wd_6_99 (by decide) if_287_27 rfl rfl ?_
  refine J.aload_n (q := 11) O dX12_readRule_10 rfl 0 rfl ?_
  refine J.iconst (q := 12) (v := (0 : Int32)) O dX12_readRule_11 rfl rfl ?_
  refine J.putI (q := 15) (c' := 287) (ci := 12) (k := 22) O dX12_readRule_12 rfl wd_6_94 (by decide) if_287_22 rfl rfl ?_
  refine J.iconst (q := 16) (v := (1 : Int32)) O dX12_readRule_15 rfl rfl ?_
  refine J.istore_n (q := 17) O dX12_readRule_16 rfl [(1, .int (1 : Int32)), (0, .ref (ad G 287))] (by decide) rfl ?_
  exact J.sub [1, 0] rfl (j_X12_readRule_c17 hG O hR h)
set_option maxHeartbeats 4000000 in
set_option maxRecDepth 20000 in
theorem j_X12_act_b31 {X : CX} {G : GX} {K : Int32 → Mem → Prop} (hG : Gd G) (O : Ok X G cX12_act 4 RX12 6) (hR : RetI X G cX12_act K) {M : Mem} (h : f_X12_act_b31 K  M) : J X G M 31 [(0, .ref (ad G 287))] [] := by
  unfold f_X12_act_b31 at h
  refine J.aload_n (q := 32) O dX12_act_31 rfl 0 rfl ?_
  refine J.bipush (q := 34) (v := (-6 : Int32)) O dX12_act_32 rfl rfl ?_
  refine J.callVI (q := 37) [.int (-6 : Int32)] [] [.int (-6 : Int32), .ref (ad G 287)] rfl O dX12_act_34 rfl (c_X12_refuse hG h) wd_7_158 mw_X12_refuse io_287 rfl (by decide) (Nat.le_of_ble_eq_true rfl) (fun v6 M6 h => ?_)
  exact hR _ _ _ _ dX12_act_37 h
set_option maxHeartbeats 4000000 in
set_option maxRecDepth 20000 in
theorem j_X12_act_c149 {X : CX} {G : GX} {K : Int32 → Mem → Prop} (hG : Gd G) (O : Ok X G cX12_act 4 RX12 6) (hR : RetI X G cX12_act K) {a : Int32 × Int32 × Mem} (h : Lp (fun (r149 : Int32 × Int32 × Mem → Prop) a => f_X12_act_c149 K r149 a.1 a.2.1 a.2.2) a) : J X G a.2.2 149 [(0, .ref (ad G 287)), (1, .int a.1), (3, .int a.2.1)] [] := by
  refine Lp.elim (P := fun a => J X G a.2.2 149 [(0, .ref (ad G 287)), (1, .int a.1), (3, .int a.2.1)] []) ?_ h
  clear h
  intro r149 hr149 a h
  obtain ⟨x1, x3, M⟩ := a
  unfold f_X12_act_c149 at h
  (try dsimp only at h ⊢)
  refine J.iload_n (q := 150) O dX12_act_149 rfl 2 rfl ?_
  refine J.aload_n (q := 151) O dX12_act_150 rfl 0 rfl ?_
  refine J.getI (q := 154) (c' := 287) (ci := 12) (k := 19) (M 287 19) rfl O dX12_act_151 rfl wd_6_91 (by decide) if_287_19 ?_
  refine J.icmp_ge (q := 157) (tgt := 183) O dX12_act_154 rfl (by decide) (fun z7 => ?_) (fun z7 => ?_)
  · replace h := h.1 z7
    refine J.aload_n (q := 184) O dX12_act_183 rfl 0 rfl ?_
    refine J.getR (q := 187) (c' := 287) (ci := 12) (k := 14) (r := 298) O dX12_act_184 rfl wd_6_86 (by decide) if_287_14 ?_
    refine J.aload_n (q := 188) O dX12_act_187 rfl 0 rfl ?_
    refine J.getI (q := 191) (c' := 287) (ci := 12) (k := 12) (M 287 12) rfl O dX12_act_188 rfl wd_6_84 (by decide) if_287_12 ?_
    refine J.aload_n (q := 192) O dX12_act_191 rfl 0 rfl ?_
    refine J.getI (q := 195) (c' := 287) (ci := 12) (k := 19) (M 287 19) rfl O dX12_act_192 rfl wd_6_91 (by decide) if_287_19 ?_
    obtain ⟨hv8, h⟩ := h
    refine J.iast (q := 196) (c' := 298) (j := (M 287 12).toNatClampNeg) O dX12_act_195 rfl ar_298 hv8 rfl ?_
    refine J.aload_n (q := 197) O dX12_act_196 rfl 0 rfl ?_
    refine J.getR (q := 200) (c' := 287) (ci := 12) (k := 15) (r := 299) O dX12_act_197 rfl wd_6_87 (by decide) if_287_15 ?_
    refine J.aload_n (q := 201) O dX12_act_200 rfl 0 rfl ?_
    refine J.getI (q := 204) (c' := 287) (ci := 12) (k := 12) (M 287 12) rfl O dX12_act_201 rfl wd_6_84 (by decide) if_287_12 ?_
    refine J.iload_n (q := 205) O dX12_act_204 rfl 1 rfl ?_
    obtain ⟨hv9, h⟩ := h
    refine J.iast (q := 206) (c' := 299) (j := (M 287 12).toNatClampNeg) O dX12_act_205 rfl ar_299 hv9 rfl ?_
    refine J.aload_n (q := 207) O dX12_act_206 rfl 0 rfl ?_
    refine J.getR (q := 210) (c' := 287) (ci := 12) (k := 16) (r := 300) O dX12_act_207 rfl wd_6_88 (by decide) if_287_16 ?_
    refine J.aload_n (q := 211) O dX12_act_210 rfl 0 rfl ?_
    refine J.getI (q := 214) (c' := 287) (ci := 12) (k := 12) (M 287 12) rfl O dX12_act_211 rfl wd_6_84 (by decide) if_287_12 ?_
    refine J.ldcw (q := 217) O dX12_act_214 rfl wd_8_0 ?_
    obtain ⟨hv10, h⟩ := h
    refine J.iast (q := 218) (c' := 300) (j := (M 287 12).toNatClampNeg) O dX12_act_217 rfl ar_300 hv10 rfl ?_
    refine J.aload_n (q := 219) O dX12_act_218 rfl 0 rfl ?_
    refine J.dup (q := 220) O dX12_act_219 rfl rfl ?_
    refine J.getI (q := 223) (c' := 287) (ci := 12) (k := 12) (M 287 12) rfl O dX12_act_220 rfl wd_6_84 (by decide) if_287_12 ?_
    refine J.iconst (q := 224) (v := (1 : Int32)) O dX12_act_223 rfl rfl ?_
    refine J.iadd (q := 225) O dX12_act_224 rfl ?_
    refine J.putI (q := 228) (c' := 287) (ci := 12) (k := 12) O dX12_act_225 rfl wd_6_84 (by decide) if_287_12 rfl rfl ?_
    refine J.aload_n (q := 229) O dX12_act_228 rfl 0 rfl ?_
    refine J.getI (q := 232) (c' := 287) (ci := 12) (k := 12) ((M 287 12) + (1 : Int32)) rfl O dX12_act_229 rfl wd_6_84 (by decide) if_287_12 ?_
    refine J.iconst (q := 233) (v := (1 : Int32)) O dX12_act_232 rfl rfl ?_
    refine J.isub (q := 234) O dX12_act_233 rfl ?_
    exact hR _ _ _ _ dX12_act_234 h
  · replace h := h.2 z7
    refine J.aload_n (q := 158) O dX12_act_157 rfl 0 rfl ?_
    refine J.getR (q := 161) (c' := 287) (ci := 12) (k := 13) (r := 297) O dX12_act_158 rfl wd_6_85 (by decide) if_287_13 ?_
    refine J.bipush (q := 163) (v := (60 : Int32)) O dX12_act_161 rfl rfl ?_
    refine J.aload_n (q := 164) O dX12_act_163 rfl 0 rfl ?_
    refine J.getI (q := 167) (c' := 287) (ci := 12) (k := 12) (M 287 12) rfl O dX12_act_164 rfl wd_6_84 (by decide) if_287_12 ?_
    refine J.imul (q := 168) O dX12_act_167 rfl ?_
    refine J.iload_n (q := 169) O dX12_act_168 rfl 2 rfl ?_
    refine J.iadd (q := 170) O dX12_act_169 rfl ?_
    refine J.aload_n (q := 171) O dX12_act_170 rfl 0 rfl ?_
    refine J.getR (q := 174) (c' := 287) (ci := 12) (k := 10) (r := 296) O dX12_act_171 rfl wd_6_82 (by decide) if_287_10 ?_
    refine J.iload_n (q := 175) O dX12_act_174 rfl 2 rfl ?_
    obtain ⟨hv11, h⟩ := h
    refine J.iald (q := 176) (c' := 296) (j := x3.toNatClampNeg) (M 296 x3.toNatClampNeg) rfl O dX12_act_175 rfl ar_296 hv11 rfl ?_
    obtain ⟨hv12, h⟩ := h
    refine J.iast (q := 177) (c' := 297) (j := (((60 : Int32) * (M 287 12)) + x3).toNatClampNeg) O dX12_act_176 rfl ar_297 hv12 rfl ?_
    refine J.iinc (q := 180) O dX12_act_177 rfl [(3, .int (x3 + (1 : Int32))), (0, .ref (ad G 287)), (1, .int x1)] 2 rfl rfl (by decide) rfl ?_
    refine J.goto (q := 149) O dX12_act_180 (by decide) ?_
    exact J.sub [1, 2, 0] rfl (hr149 _ h)
set_option maxHeartbeats 4000000 in
set_option maxRecDepth 20000 in
theorem c_X12_act {l : Launch} {G : GX} (hG : Gd G) {a1 : Int32} {M : Mem} {K : Int32 → Mem → Prop} (h : f_X12_act a1 M K) : CI l G yX12_act cX12_act 4 (some .int) 6 [.ref (ad G 287), .int a1] M K := by
  unfold f_X12_act at h
  refine CI.mk hG (by decide) [(0, .ref (ad G 287)), (1, .int a1)] rfl (Nat.le_of_ble_eq_true rfl) (fun X O hlX hR => ?_)
  subst hlX
  refine J.iload_n (q := 1) O dX12_act_0 rfl 1 rfl ?_
  refine J.aload_n (q := 2) O dX12_act_1 rfl 0 rfl ?_
  refine J.getI (q := 5) (c' := 287) (ci := 12) (k := 0) (M 287 0) rfl O dX12_act_2 rfl wd_6_72 (by decide) if_287_0 ?_
  refine J.icmp_ge (q := 8) (tgt := 15) O dX12_act_5 rfl (by decide) (fun z13 => ?_) (fun z13 => ?_)
  · replace h := h.1 z13
    refine J.iload_n (q := 16) O dX12_act_15 rfl 1 rfl ?_
    refine J.sipush (q := 19) (v := (1000 : Int32)) O dX12_act_16 rfl rfl ?_
    refine J.icmp_gt (q := 22) (tgt := 31) O dX12_act_19 rfl (by decide) (fun z14 => ?_) (fun z14 => ?_)
    · replace h := h.1 z14
      exact J.sub [0] rfl (j_X12_act_b31 hG O hR h)
    · replace h := h.2 z14
      refine J.aload_n (q := 23) O dX12_act_22 rfl 0 rfl ?_
      refine J.getI (q := 26) (c' := 287) (ci := 12) (k := 12) (M 287 12) rfl O dX12_act_23 rfl wd_6_84 (by decide) if_287_12 ?_
      refine J.bipush (q := 28) (v := (24 : Int32)) O dX12_act_26 rfl rfl ?_
      refine J.icmp_ne (q := 31) (tgt := 38) O dX12_act_28 rfl (by decide) (fun z15 => ?_) (fun z15 => ?_)
      · replace h := h.1 z15
        refine J.aload_n (q := 39) O dX12_act_38 rfl 0 rfl ?_
        refine J.iconst (q := 40) (v := (0 : Int32)) O dX12_act_39 rfl rfl ?_
        refine J.putZ (q := 43) (c' := 287) (ci := 12) (k := 17) O dX12_act_40 rfl wd_6_89 (by decide) if_287_17 rfl rfl (Or.inl rfl) ?_
        refine J.aload_n (q := 44) O dX12_act_43 rfl 0 rfl ?_
        refine J.aload_n (q := 45) O dX12_act_44 rfl 0 rfl ?_
        refine J.getI (q := 48) (c' := 287) (ci := 12) (k := 11) (M 287 11) rfl O dX12_act_45 rfl wd_6_83 (by decide) if_287_11 ?_
        refine J.putI (q := 51) (c' := 287) (ci := 12) (k := 19) O dX12_act_48 rfl wd_6_91 (by decide) if_287_19 rfl rfl ?_
        refine J.aload_n (q := 52) O dX12_act_51 rfl 0 rfl ?_
        refine J.iconst (q := 53) (v := (0 : Int32)) O dX12_act_52 rfl rfl ?_
        refine J.putI (q := 56) (c' := 287) (ci := 12) (k := 11) O dX12_act_53 rfl wd_6_83 (by decide) if_287_11 rfl rfl ?_
        refine J.aload_n (q := 57) O dX12_act_56 rfl 0 rfl ?_
        refine J.iconst (q := 58) (v := (0 : Int32)) O dX12_act_57 rfl rfl ?_
        refine J.putZ (q := 61) (c' := 287) (ci := 12) (k := 21) O dX12_act_58 rfl wd_6_93 (by decide) if_287_21 rfl rfl (Or.inl rfl) ?_
        refine J.aload_n (q := 62) O dX12_act_61 rfl 0 rfl ?_
        refine J.iconst (q := 63) (v := (0 : Int32)) O dX12_act_62 rfl rfl ?_
        refine J.putI (q := 66) (c' := 287) (ci := 12) (k := 20) O dX12_act_63 rfl wd_6_92 (by decide) if_287_20 rfl rfl ?_
        refine J.aload_n (q := 67) O dX12_act_66 rfl 0 rfl ?_
        refine J.callVI (q := 70) [] [] [.ref (ad G 287)] rfl O dX12_act_67 rfl (c_X12_byteHere hG h) wd_7_201 mw_X12_byteHere io_287 rfl (by decide) (Nat.le_of_ble_eq_true rfl) (fun v16 M16 h => ?_)
        refine J.bipush (q := 72) (v := (65 : Int32)) O dX12_act_70 rfl rfl ?_
        refine J.bipush (q := 74) (v := (72 : Int32)) O dX12_act_72 rfl rfl ?_
        refine J.callSI (q := 77) [.int v16, .int (65 : Int32), .int (72 : Int32)] [] [.int (72 : Int32), .int (65 : Int32), .int v16] rfl O dX12_act_74 rfl (c_X12_in hG h) wd_7_181 mw_X12_in rfl (by decide) (Nat.le_of_ble_eq_true rfl) (fun v17 M17 h => ?_)
        refine J.if_ne (q := 80) (tgt := 83) O dX12_act_77 rfl (by decide) (fun z18 => ?_) (fun z18 => ?_)
        · replace h := h.1 z18
          refine J.aload_n (q := 84) O dX12_act_83 rfl 0 rfl ?_
          refine J.iconst (q := 85) (v := (1 : Int32)) O dX12_act_84 rfl rfl ?_
          refine J.putI (q := 88) (c' := 287) (ci := 12) (k := 20) O dX12_act_85 rfl wd_6_92 (by decide) if_287_20 rfl rfl ?_
          refine J.aload_n (q := 89) O dX12_act_88 rfl 0 rfl ?_
          refine J.callVI (q := 92) [] [] [.ref (ad G 287)] rfl O dX12_act_89 rfl (c_X12_byteHere hG h) wd_7_201 mw_X12_byteHere io_287 rfl (by decide) (Nat.le_of_ble_eq_true rfl) (fun v19 M19 h => ?_)
          refine J.bipush (q := 94) (v := (48 : Int32)) O dX12_act_92 rfl rfl ?_
          refine J.bipush (q := 96) (v := (52 : Int32)) O dX12_act_94 rfl rfl ?_
          refine J.callSI (q := 99) [.int v19, .int (48 : Int32), .int (52 : Int32)] [] [.int (52 : Int32), .int (48 : Int32), .int v19] rfl O dX12_act_96 rfl (c_X12_in hG h) wd_7_181 mw_X12_in rfl (by decide) (Nat.le_of_ble_eq_true rfl) (fun v20 M20 h => ?_)
          refine J.if_ne (q := 102) (tgt := 105) O dX12_act_99 rfl (by decide) (fun z21 => ?_) (fun z21 => ?_)
          · replace h := h.1 z21
            refine J.aload_n (q := 106) O dX12_act_105 rfl 0 rfl ?_
            refine J.iconst (q := 107) (v := (2 : Int32)) O dX12_act_106 rfl rfl ?_
            refine J.putI (q := 110) (c' := 287) (ci := 12) (k := 20) O dX12_act_107 rfl wd_6_92 (by decide) if_287_20 rfl rfl ?_
            refine J.aload_n (q := 111) O dX12_act_110 rfl 0 rfl ?_
            refine J.callVI (q := 114) [] [] [.ref (ad G 287)] rfl O dX12_act_111 rfl (c_X12_byteHere hG h) wd_7_201 mw_X12_byteHere io_287 rfl (by decide) (Nat.le_of_ble_eq_true rfl) (fun v22 M22 h => ?_)
            refine J.bipush (q := 116) (v := (58 : Int32)) O dX12_act_114 rfl rfl ?_
            refine J.icmp_eq (q := 119) (tgt := 122) O dX12_act_116 rfl (by decide) (fun z23 => ?_) (fun z23 => ?_)
            · replace h := h.1 z23
              refine J.aload_n (q := 123) O dX12_act_122 rfl 0 rfl ?_
              refine J.iconst (q := 124) (v := (3 : Int32)) O dX12_act_123 rfl rfl ?_
              refine J.putI (q := 127) (c' := 287) (ci := 12) (k := 20) O dX12_act_124 rfl wd_6_92 (by decide) if_287_20 rfl rfl ?_
              refine J.aload_n (q := 128) O dX12_act_127 rfl 0 rfl ?_
              refine J.callVI (q := 131) [] [] [.ref (ad G 287)] rfl O dX12_act_128 rfl (c_X12_readRule hG h) wd_7_205 mw_X12_readRule io_287 rfl (by decide) (Nat.le_of_ble_eq_true rfl) (fun v24 M24 h => ?_)
              refine J.istore_n (q := 132) O dX12_act_131 rfl [(2, .int v24), (0, .ref (ad G 287)), (1, .int a1)] (by decide) rfl ?_
              refine J.aload_n (q := 133) O dX12_act_132 rfl 1 rfl ?_
              refine J.getI (q := 136) (c' := 287) (ci := 12) (k := 21) (M24 287 21) rfl O dX12_act_133 rfl wd_6_93 (by decide) if_287_21 ?_
              refine J.if_eq (q := 139) (tgt := 147) O dX12_act_136 rfl (by decide) (fun z25 => ?_) (fun z25 => ?_)
              · replace h := h.1 z25
                refine J.iconst (q := 148) (v := (0 : Int32)) O dX12_act_147 rfl rfl ?_
                refine J.istore_n (q := 149) O dX12_act_148 rfl [(3, .int (0 : Int32)), (2, .int v24), (0, .ref (ad G 287)), (1, .int a1)] (by decide) rfl ?_
                exact J.sub [2, 3, 0] rfl (j_X12_act_c149 hG O hR h)
              · replace h := h.2 z25
                refine J.bipush (q := 141) (v := (-20 : Int32)) O dX12_act_139 rfl rfl ?_
                refine J.aload_n (q := 142) O dX12_act_141 rfl 1 rfl ?_
                refine J.getI (q := 145) (c' := 287) (ci := 12) (k := 20) (M24 287 20) rfl O dX12_act_142 rfl wd_6_92 (by decide) if_287_20 ?_
                refine J.isub (q := 146) O dX12_act_145 rfl ?_
                exact hR _ _ _ _ dX12_act_146 h
            · replace h := h.2 z23
              refine J.bipush (q := 121) (v := (-22 : Int32)) O dX12_act_119 rfl rfl ?_
              exact hR _ _ _ _ dX12_act_121 h
          · replace h := h.2 z21
            refine J.bipush (q := 104) (v := (-21 : Int32)) O dX12_act_102 rfl rfl ?_
            exact hR _ _ _ _ dX12_act_104 h
        · replace h := h.2 z18
          refine J.bipush (q := 82) (v := (-20 : Int32)) O dX12_act_80 rfl rfl ?_
          exact hR _ _ _ _ dX12_act_82 h
      · replace h := h.2 z15
        exact J.sub [0] rfl (j_X12_act_b31 hG O hR h)
  · replace h := h.2 z13
    refine J.aload_n (q := 9) O dX12_act_8 rfl 0 rfl ?_
    refine J.bipush (q := 11) (v := (-4 : Int32)) O dX12_act_9 rfl rfl ?_
    refine J.callVI (q := 14) [.int (-4 : Int32)] [] [.int (-4 : Int32), .ref (ad G 287)] rfl O dX12_act_11 rfl (c_X12_refuse hG h) wd_7_158 mw_X12_refuse io_287 rfl (by decide) (Nat.le_of_ble_eq_true rfl) (fun v26 M26 h => ?_)
    exact hR _ _ _ _ dX12_act_14 h
set_option maxHeartbeats 4000000 in
set_option maxRecDepth 20000 in
theorem c_X12_strike {l : Launch} {G : GX} (hG : Gd G) {a1 : Int32} {a2 : Int32} {M : Mem} {K : Int32 → Mem → Prop} (h : f_X12_strike a1 a2 M K) : CI l G yX12_strike cX12_strike 3 (some .int) 2 [.ref (ad G 287), .int a1, .int a2] M K := by
  unfold f_X12_strike at h
  refine CI.mk hG (by decide) [(0, .ref (ad G 287)), (1, .int a1), (2, .int a2)] rfl (Nat.le_of_ble_eq_true rfl) (fun X O hlX hR => ?_)
  subst hlX
  refine J.iload_n (q := 1) O dX12_strike_0 rfl 1 rfl ?_
  refine J.iconst (q := 2) (v := (0 : Int32)) O dX12_strike_1 rfl rfl ?_
  refine J.aload_n (q := 3) O dX12_strike_2 rfl 0 rfl ?_
  refine J.getI (q := 6) (c' := 287) (ci := 12) (k := 12) (M 287 12) rfl O dX12_strike_3 rfl wd_6_84 (by decide) if_287_12 ?_
  refine J.iconst (q := 7) (v := (1 : Int32)) O dX12_strike_6 rfl rfl ?_
  refine J.isub (q := 8) O dX12_strike_7 rfl ?_
  refine J.callSI (q := 11) [.int a1, .int (0 : Int32), .int ((M 287 12) - (1 : Int32))] [] [.int ((M 287 12) - (1 : Int32)), .int (0 : Int32), .int a1] rfl O dX12_strike_8 rfl (c_X12_in hG h) wd_7_181 mw_X12_in rfl (by decide) (Nat.le_of_ble_eq_true rfl) (fun v3 M3 h => ?_)
  refine J.if_ne (q := 14) (tgt := 20) O dX12_strike_11 rfl (by decide) (fun z4 => ?_) (fun z4 => ?_)
  · replace h := h.1 z4
    refine J.aload_n (q := 21) O dX12_strike_20 rfl 0 rfl ?_
    refine J.getR (q := 24) (c' := 287) (ci := 12) (k := 16) (r := 300) O dX12_strike_21 rfl wd_6_88 (by decide) if_287_16 ?_
    refine J.iload_n (q := 25) O dX12_strike_24 rfl 1 rfl ?_
    obtain ⟨hv5, h⟩ := h
    refine J.iald (q := 26) (c' := 300) (j := a1.toNatClampNeg) (M3 300 a1.toNatClampNeg) rfl O dX12_strike_25 rfl ar_300 hv5 rfl ?_
    refine J.ldcw (q := 29) O dX12_strike_26 rfl wd_8_0 ?_
    refine J.icmp_ge (q := 32) (tgt := 39) O dX12_strike_29 rfl (by decide) (fun z6 => ?_) (fun z6 => ?_)
    · replace h := h.1 z6
      refine J.iload_n (q := 40) O dX12_strike_39 rfl 2 rfl ?_
      refine J.aload_n (q := 41) O dX12_strike_40 rfl 0 rfl ?_
      refine J.getI (q := 44) (c' := 287) (ci := 12) (k := 0) (M3 287 0) rfl O dX12_strike_41 rfl wd_6_72 (by decide) if_287_0 ?_
      refine J.icmp_ge (q := 47) (tgt := 54) O dX12_strike_44 rfl (by decide) (fun z7 => ?_) (fun z7 => ?_)
      · replace h := h.1 z7
        refine J.iload_n (q := 55) O dX12_strike_54 rfl 2 rfl ?_
        refine J.sipush (q := 58) (v := (1000 : Int32)) O dX12_strike_55 rfl rfl ?_
        refine J.icmp_le (q := 61) (tgt := 68) O dX12_strike_58 rfl (by decide) (fun z8 => ?_) (fun z8 => ?_)
        · replace h := h.1 z8
          refine J.aload_n (q := 69) O dX12_strike_68 rfl 0 rfl ?_
          refine J.getR (q := 72) (c' := 287) (ci := 12) (k := 16) (r := 300) O dX12_strike_69 rfl wd_6_88 (by decide) if_287_16 ?_
          refine J.iload_n (q := 73) O dX12_strike_72 rfl 1 rfl ?_
          refine J.iload_n (q := 74) O dX12_strike_73 rfl 2 rfl ?_
          obtain ⟨hv9, h⟩ := h
          refine J.iast (q := 75) (c' := 300) (j := a1.toNatClampNeg) O dX12_strike_74 rfl ar_300 hv9 rfl ?_
          refine J.iconst (q := 76) (v := (1 : Int32)) O dX12_strike_75 rfl rfl ?_
          exact hR _ _ _ _ dX12_strike_76 h
        · replace h := h.2 z8
          refine J.aload_n (q := 62) O dX12_strike_61 rfl 0 rfl ?_
          refine J.bipush (q := 64) (v := (-6 : Int32)) O dX12_strike_62 rfl rfl ?_
          refine J.callVI (q := 67) [.int (-6 : Int32)] [] [.int (-6 : Int32), .ref (ad G 287)] rfl O dX12_strike_64 rfl (c_X12_refuse hG h) wd_7_158 mw_X12_refuse io_287 rfl (by decide) (Nat.le_of_ble_eq_true rfl) (fun v10 M10 h => ?_)
          exact hR _ _ _ _ dX12_strike_67 h
      · replace h := h.2 z7
        refine J.aload_n (q := 48) O dX12_strike_47 rfl 0 rfl ?_
        refine J.bipush (q := 50) (v := (-4 : Int32)) O dX12_strike_48 rfl rfl ?_
        refine J.callVI (q := 53) [.int (-4 : Int32)] [] [.int (-4 : Int32), .ref (ad G 287)] rfl O dX12_strike_50 rfl (c_X12_refuse hG h) wd_7_158 mw_X12_refuse io_287 rfl (by decide) (Nat.le_of_ble_eq_true rfl) (fun v11 M11 h => ?_)
        exact hR _ _ _ _ dX12_strike_53 h
    · replace h := h.2 z6
      refine J.aload_n (q := 33) O dX12_strike_32 rfl 0 rfl ?_
      refine J.bipush (q := 35) (v := (-3 : Int32)) O dX12_strike_33 rfl rfl ?_
      refine J.callVI (q := 38) [.int (-3 : Int32)] [] [.int (-3 : Int32), .ref (ad G 287)] rfl O dX12_strike_35 rfl (c_X12_refuse hG h) wd_7_158 mw_X12_refuse io_287 rfl (by decide) (Nat.le_of_ble_eq_true rfl) (fun v12 M12 h => ?_)
      exact hR _ _ _ _ dX12_strike_38 h
  · replace h := h.2 z4
    refine J.aload_n (q := 15) O dX12_strike_14 rfl 0 rfl ?_
    refine J.iconst (q := 16) (v := (-1 : Int32)) O dX12_strike_15 rfl rfl ?_
    refine J.callVI (q := 19) [.int (-1 : Int32)] [] [.int (-1 : Int32), .ref (ad G 287)] rfl O dX12_strike_16 rfl (c_X12_refuse hG h) wd_7_158 mw_X12_refuse io_287 rfl (by decide) (Nat.le_of_ble_eq_true rfl) (fun v13 M13 h => ?_)
    exact hR _ _ _ _ dX12_strike_19 h
set_option maxHeartbeats 4000000 in
set_option maxRecDepth 20000 in
theorem j_X12_findFacts_b87 {X : CX} {G : GX} {K : Mem → Prop} (hG : Gd G) (O : Ok X G cX12_findFacts 5 RX12 2) (hR : RetV X G cX12_findFacts K) {r17 : Int32 × Int32 × Int32 × Int32 × Mem → Prop} (hr17 : ∀ a : Int32 × Int32 × Int32 × Int32 × Mem, r17 a → J X G a.2.2.2.2 17 [(0, .ref (ad G 287)), (1, .int a.1), (2, .int a.2.1), (3, .int a.2.2.1), (4, .int a.2.2.2.1)] []) {x1 : Int32} {x2 : Int32} {x3 : Int32} {x4 : Int32} {s0 : Int32} {s1 : Int32} {s2 : Int32} {M : Mem} (h : f_X12_findFacts_b87 r17 K x1 x2 x3 x4 s0 s1 s2 M) : J X G M 87 [(0, .ref (ad G 287)), (1, .int x1), (2, .int x2), (3, .int x3), (4, .int x4)] [.int s0, .int s1, .int s2, .ref (ad G 301)] := by
  unfold f_X12_findFacts_b87 at h
  refine J.iadd (q := 88) O dX12_findFacts_87 rfl ?_
  obtain ⟨hv7, h⟩ := h
  refine J.iast (q := 89) (c' := 301) (j := s2.toNatClampNeg) O dX12_findFacts_88 rfl ar_301 hv7 rfl ?_
  refine J.iinc (q := 92) O dX12_findFacts_89 rfl [(4, .int (x4 + (1 : Int32))), (0, .ref (ad G 287)), (1, .int x1), (2, .int x2), (3, .int x3)] 4 rfl rfl (by decide) rfl ?_
  refine J.goto (q := 17) O dX12_findFacts_92 (by decide) ?_
  exact J.sub [1, 2, 3, 4, 0] rfl (hr17 _ h)
set_option maxHeartbeats 4000000 in
set_option maxRecDepth 20000 in
theorem j_X12_findFacts_b86 {X : CX} {G : GX} {K : Mem → Prop} (hG : Gd G) (O : Ok X G cX12_findFacts 5 RX12 2) (hR : RetV X G cX12_findFacts K) {r17 : Int32 × Int32 × Int32 × Int32 × Mem → Prop} (hr17 : ∀ a : Int32 × Int32 × Int32 × Int32 × Mem, r17 a → J X G a.2.2.2.2 17 [(0, .ref (ad G 287)), (1, .int a.1), (2, .int a.2.1), (3, .int a.2.2.1), (4, .int a.2.2.2.1)] []) {x1 : Int32} {x2 : Int32} {x3 : Int32} {x4 : Int32} {s0 : Int32} {s1 : Int32} {M : Mem} (h : f_X12_findFacts_b86 r17 K x1 x2 x3 x4 s0 s1 M) : J X G M 86 [(0, .ref (ad G 287)), (1, .int x1), (2, .int x2), (3, .int x3), (4, .int x4)] [.int s0, .int s1, .ref (ad G 301)] := by
  unfold f_X12_findFacts_b86 at h
  refine J.iconst (q := 87) (v := (0 : Int32)) O dX12_findFacts_86 rfl rfl ?_
  exact J.sub [0, 1, 2, 3, 4] rfl (j_X12_findFacts_b87 hG O hR hr17 h)
set_option maxHeartbeats 4000000 in
set_option maxRecDepth 20000 in
theorem j_X12_findFacts_b48 {X : CX} {G : GX} {K : Mem → Prop} (hG : Gd G) (O : Ok X G cX12_findFacts 5 RX12 2) (hR : RetV X G cX12_findFacts K) {r17 : Int32 × Int32 × Int32 × Int32 × Mem → Prop} (hr17 : ∀ a : Int32 × Int32 × Int32 × Int32 × Mem, r17 a → J X G a.2.2.2.2 17 [(0, .ref (ad G 287)), (1, .int a.1), (2, .int a.2.1), (3, .int a.2.2.1), (4, .int a.2.2.2.1)] []) {x1 : Int32} {x2 : Int32} {x3 : Int32} {x4 : Int32} {s0 : Int32} {s1 : Int32} {s2 : Int32} {M : Mem} (h : f_X12_findFacts_b48 r17 K x1 x2 x3 x4 s0 s1 s2 M) : J X G M 48 [(0, .ref (ad G 287)), (1, .int x1), (2, .int x2), (3, .int x3), (4, .int x4)] [.int s0, .int s1, .int s2, .ref (ad G 301)] := by
  unfold f_X12_findFacts_b48 at h
  refine J.iadd (q := 49) O dX12_findFacts_48 rfl ?_
  obtain ⟨hv8, h⟩ := h
  refine J.iast (q := 50) (c' := 301) (j := s2.toNatClampNeg) O dX12_findFacts_49 rfl ar_301 hv8 rfl ?_
  refine J.aload_n (q := 51) O dX12_findFacts_50 rfl 0 rfl ?_
  refine J.getR (q := 54) (c' := 287) (ci := 12) (k := 23) (r := 301) O dX12_findFacts_51 rfl wd_6_95 (by decide) if_287_23 ?_
  refine J.iconst (q := 55) (v := (0 : Int32)) O dX12_findFacts_54 rfl rfl ?_
  refine J.dup2 (q := 56) O dX12_findFacts_55 rfl rfl rfl ?_
  refine J.iald (q := 57) (c' := 301) (j := 0) ((mset M 301 s2.toNatClampNeg (s1 + s0)) 301 0) rfl O dX12_findFacts_56 rfl ar_301 (vin_lit (by decide)) (by decide) ?_
  refine J.aload_n (q := 58) O dX12_findFacts_57 rfl 0 rfl ?_
  refine J.getR (q := 61) (c' := 287) (ci := 12) (k := 8) (r := 294) O dX12_findFacts_58 rfl wd_6_80 (by decide) if_287_8 ?_
  refine J.iload (q := 63) O dX12_findFacts_61 rfl 4 rfl ?_
  obtain ⟨hv9, h⟩ := h
  refine J.zald (q := 64) (c' := 294) (j := x4.toNatClampNeg) (M 294 x4.toNatClampNeg) rfl O dX12_findFacts_63 rfl ar_294 hv9 rfl ?_
  refine J.if_ne (q := 67) (tgt := 86) O dX12_findFacts_64 rfl (by decide) (fun z10 => ?_) (fun z10 => ?_)
  · replace h := h.1 z10
    exact J.sub [0, 1, 2, 3, 4] rfl (j_X12_findFacts_b86 hG O hR hr17 h)
  · replace h := h.2 z10
    refine J.iload_n (q := 68) O dX12_findFacts_67 rfl 1 rfl ?_
    refine J.aload_n (q := 69) O dX12_findFacts_68 rfl 0 rfl ?_
    refine J.getR (q := 72) (c' := 287) (ci := 12) (k := 3) (r := 289) O dX12_findFacts_69 rfl wd_6_75 (by decide) if_287_3 ?_
    refine J.iload (q := 74) O dX12_findFacts_72 rfl 4 rfl ?_
    obtain ⟨hv11, h⟩ := h
    refine J.iald (q := 75) (c' := 289) (j := x4.toNatClampNeg) (M 289 x4.toNatClampNeg) rfl O dX12_findFacts_74 rfl ar_289 hv11 rfl ?_
    refine J.ishr (q := 76) O dX12_findFacts_75 rfl ?_
    refine J.iconst (q := 77) (v := (1 : Int32)) O dX12_findFacts_76 rfl rfl ?_
    refine J.iand (q := 78) O dX12_findFacts_77 rfl ?_
    refine J.iconst (q := 79) (v := (1 : Int32)) O dX12_findFacts_78 rfl rfl ?_
    refine J.icmp_ne (q := 82) (tgt := 86) O dX12_findFacts_79 rfl (by decide) (fun z12 => ?_) (fun z12 => ?_)
    · replace h := h.1 z12
      exact J.sub [0, 1, 2, 3, 4] rfl (j_X12_findFacts_b86 hG O hR hr17 h)
    · replace h := h.2 z12
      refine J.iconst (q := 83) (v := (1 : Int32)) O dX12_findFacts_82 rfl rfl ?_
      refine J.goto (q := 87) O dX12_findFacts_83 (by decide) ?_
      exact J.sub [0, 1, 2, 3, 4] rfl (j_X12_findFacts_b87 hG O hR hr17 h)
set_option maxHeartbeats 4000000 in
set_option maxRecDepth 20000 in
theorem j_X12_findFacts_b136 {X : CX} {G : GX} {K : Mem → Prop} (hG : Gd G) (O : Ok X G cX12_findFacts 5 RX12 2) (hR : RetV X G cX12_findFacts K) {s0 : Int32} {s1 : Int32} {M : Mem} (h : f_X12_findFacts_b136 K s0 s1 M) : J X G M 136 [] [.int s0, .int s1, .ref (ad G 301)] := by
  unfold f_X12_findFacts_b136 at h
  obtain ⟨hv13, h⟩ := h
  refine J.iast (q := 137) (c' := 301) (j := s1.toNatClampNeg) O dX12_findFacts_136 rfl ar_301 hv13 rfl ?_
  exact hR _ _ _ dX12_findFacts_137 h
set_option maxHeartbeats 4000000 in
set_option maxRecDepth 20000 in
theorem j_X12_findFacts_c17 {X : CX} {G : GX} {K : Mem → Prop} (hG : Gd G) (O : Ok X G cX12_findFacts 5 RX12 2) (hR : RetV X G cX12_findFacts K) {a : Int32 × Int32 × Int32 × Int32 × Mem} (h : Lp (fun (r17 : Int32 × Int32 × Int32 × Int32 × Mem → Prop) a => f_X12_findFacts_c17 K r17 a.1 a.2.1 a.2.2.1 a.2.2.2.1 a.2.2.2.2) a) : J X G a.2.2.2.2 17 [(0, .ref (ad G 287)), (1, .int a.1), (2, .int a.2.1), (3, .int a.2.2.1), (4, .int a.2.2.2.1)] [] := by
  refine Lp.elim (P := fun a => J X G a.2.2.2.2 17 [(0, .ref (ad G 287)), (1, .int a.1), (2, .int a.2.1), (3, .int a.2.2.1), (4, .int a.2.2.2.1)] []) ?_ h
  clear h
  intro r17 hr17 a h
  obtain ⟨x1, x2, x3, x4, M⟩ := a
  unfold f_X12_findFacts_c17 at h
  (try dsimp only at h ⊢)
  refine J.iload (q := 19) O dX12_findFacts_17 rfl 4 rfl ?_
  refine J.aload_n (q := 20) O dX12_findFacts_19 rfl 0 rfl ?_
  refine J.getI (q := 23) (c' := 287) (ci := 12) (k := 2) (M 287 2) rfl O dX12_findFacts_20 rfl wd_6_74 (by decide) if_287_2 ?_
  refine J.icmp_ge (q := 26) (tgt := 95) O dX12_findFacts_23 rfl (by decide) (fun z14 => ?_) (fun z14 => ?_)
  · replace h := h.1 z14
    refine J.aload_n (q := 96) O dX12_findFacts_95 rfl 0 rfl ?_
    refine J.getR (q := 99) (c' := 287) (ci := 12) (k := 23) (r := 301) O dX12_findFacts_96 rfl wd_6_95 (by decide) if_287_23 ?_
    refine J.iconst (q := 100) (v := (2 : Int32)) O dX12_findFacts_99 rfl rfl ?_
    refine J.iload_n (q := 101) O dX12_findFacts_100 rfl 1 rfl ?_
    refine J.callSI (q := 104) [.int x1] [.int (2 : Int32), .ref (ad G 301)] [.int x1, .int (2 : Int32), .ref (ad G 301)] rfl O dX12_findFacts_101 rfl (c_X12_ones hG h) wd_8_23 mw_X12_ones rfl (by decide) (Nat.le_of_ble_eq_true rfl) (fun v15 M15 h => ?_)
    refine J.iast (q := 105) (c' := 301) (j := 2) O dX12_findFacts_104 rfl ar_301 (vin_lit (by decide)) (by decide) ?_
    refine J.aload_n (q := 106) O dX12_findFacts_105 rfl 0 rfl ?_
    refine J.getR (q := 109) (c' := 287) (ci := 12) (k := 23) (r := 301) O dX12_findFacts_106 rfl wd_6_95 (by decide) if_287_23 ?_
    refine J.iconst (q := 110) (v := (3 : Int32)) O dX12_findFacts_109 rfl rfl ?_
    refine J.iload_n (q := 111) O dX12_findFacts_110 rfl 2 rfl ?_
    refine J.iast (q := 112) (c' := 301) (j := 3) O dX12_findFacts_111 rfl ar_301 (vin_lit (by decide)) (by decide) ?_
    refine J.aload_n (q := 113) O dX12_findFacts_112 rfl 0 rfl ?_
    refine J.getR (q := 116) (c' := 287) (ci := 12) (k := 23) (r := 301) O dX12_findFacts_113 rfl wd_6_95 (by decide) if_287_23 ?_
    refine J.iconst (q := 117) (v := (4 : Int32)) O dX12_findFacts_116 rfl rfl ?_
    refine J.aload_n (q := 118) O dX12_findFacts_117 rfl 0 rfl ?_
    refine J.getI (q := 121) (c' := 287) (ci := 12) (k := 48) (M15 287 48) rfl O dX12_findFacts_118 rfl wd_6_120 (by decide) if_287_48 ?_
    refine J.iast (q := 122) (c' := 301) (j := 4) O dX12_findFacts_121 rfl ar_301 (vin_lit (by decide)) (by decide) ?_
    refine J.aload_n (q := 123) O dX12_findFacts_122 rfl 0 rfl ?_
    refine J.getR (q := 126) (c' := 287) (ci := 12) (k := 23) (r := 301) O dX12_findFacts_123 rfl wd_6_95 (by decide) if_287_23 ?_
    refine J.iconst (q := 127) (v := (5 : Int32)) O dX12_findFacts_126 rfl rfl ?_
    refine J.iload_n (q := 128) O dX12_findFacts_127 rfl 3 rfl ?_
    refine J.if_eq (q := 131) (tgt := 135) O dX12_findFacts_128 rfl (by decide) (fun z16 => ?_) (fun z16 => ?_)
    · replace h := h.1 z16
      refine J.iconst (q := 136) (v := (0 : Int32)) O dX12_findFacts_135 rfl rfl ?_
      exact J.sub [] rfl (j_X12_findFacts_b136 hG O hR h)
    · replace h := h.2 z16
      refine J.iconst (q := 132) (v := (1 : Int32)) O dX12_findFacts_131 rfl rfl ?_
      refine J.goto (q := 136) O dX12_findFacts_132 (by decide) ?_
      exact J.sub [] rfl (j_X12_findFacts_b136 hG O hR h)
  · replace h := h.2 z14
    refine J.aload_n (q := 27) O dX12_findFacts_26 rfl 0 rfl ?_
    refine J.getR (q := 30) (c' := 287) (ci := 12) (k := 23) (r := 301) O dX12_findFacts_27 rfl wd_6_95 (by decide) if_287_23 ?_
    refine J.iconst (q := 31) (v := (1 : Int32)) O dX12_findFacts_30 rfl rfl ?_
    refine J.dup2 (q := 32) O dX12_findFacts_31 rfl rfl rfl ?_
    refine J.iald (q := 33) (c' := 301) (j := 1) (M 301 1) rfl O dX12_findFacts_32 rfl ar_301 (vin_lit (by decide)) (by decide) ?_
    refine J.aload_n (q := 34) O dX12_findFacts_33 rfl 0 rfl ?_
    refine J.getR (q := 37) (c' := 287) (ci := 12) (k := 8) (r := 294) O dX12_findFacts_34 rfl wd_6_80 (by decide) if_287_8 ?_
    refine J.iload (q := 39) O dX12_findFacts_37 rfl 4 rfl ?_
    obtain ⟨hv17, h⟩ := h
    refine J.zald (q := 40) (c' := 294) (j := x4.toNatClampNeg) (M 294 x4.toNatClampNeg) rfl O dX12_findFacts_39 rfl ar_294 hv17 rfl ?_
    refine J.if_eq (q := 43) (tgt := 47) O dX12_findFacts_40 rfl (by decide) (fun z18 => ?_) (fun z18 => ?_)
    · replace h := h.1 z18
      refine J.iconst (q := 48) (v := (1 : Int32)) O dX12_findFacts_47 rfl rfl ?_
      exact J.sub [0, 1, 2, 3, 4] rfl (j_X12_findFacts_b48 hG O hR hr17 h)
    · replace h := h.2 z18
      refine J.iconst (q := 44) (v := (0 : Int32)) O dX12_findFacts_43 rfl rfl ?_
      refine J.goto (q := 48) O dX12_findFacts_44 (by decide) ?_
      exact J.sub [0, 1, 2, 3, 4] rfl (j_X12_findFacts_b48 hG O hR hr17 h)
set_option maxHeartbeats 4000000 in
set_option maxRecDepth 20000 in
theorem c_X12_findFacts {l : Launch} {G : GX} (hG : Gd G) {a1 : Int32} {a2 : Int32} {a3 : Int32} {M : Mem} {K : Mem → Prop} (h : f_X12_findFacts a1 a2 a3 M K) : CV l G yX12_findFacts cX12_findFacts 5 2 [.ref (ad G 287), .int a1, .int a2, .int a3] M K := by
  unfold f_X12_findFacts at h
  refine CV.mk hG (by decide) [(0, .ref (ad G 287)), (1, .int a1), (2, .int a2), (3, .int a3)] rfl (Nat.le_of_ble_eq_true rfl) (fun X O hlX hR => ?_)
  subst hlX
  refine J.aload_n (q := 1) O dX12_findFacts_0 rfl 0 rfl ?_
  refine J.getR (q := 4) (c' := 287) (ci := 12) (k := 23) (r := 301) O dX12_findFacts_1 rfl wd_6_95 (by decide) if_287_23 ?_
  refine J.iconst (q := 5) (v := (0 : Int32)) O dX12_findFacts_4 rfl rfl ?_
  refine J.iconst (q := 6) (v := (0 : Int32)) O dX12_findFacts_5 rfl rfl ?_
  refine J.iast (q := 7) (c' := 301) (j := 0) O dX12_findFacts_6 rfl ar_301 (vin_lit (by decide)) (by decide) ?_
  refine J.aload_n (q := 8) O dX12_findFacts_7 rfl 0 rfl ?_
  refine J.getR (q := 11) (c' := 287) (ci := 12) (k := 23) (r := 301) O dX12_findFacts_8 rfl wd_6_95 (by decide) if_287_23 ?_
  refine J.iconst (q := 12) (v := (1 : Int32)) O dX12_findFacts_11 rfl rfl ?_
  refine J.iconst (q := 13) (v := (0 : Int32)) O dX12_findFacts_12 rfl rfl ?_
  refine J.iast (q := 14) (c' := 301) (j := 1) O dX12_findFacts_13 rfl ar_301 (vin_lit (by decide)) (by decide) ?_
  refine J.iconst (q := 15) (v := (0 : Int32)) O dX12_findFacts_14 rfl rfl ?_
  refine J.istore (q := 17) O dX12_findFacts_15 rfl [(4, .int (0 : Int32)), (0, .ref (ad G 287)), (1, .int a1), (2, .int a2), (3, .int a3)] (by decide) rfl ?_
  exact J.sub [1, 2, 3, 4, 0] rfl (j_X12_findFacts_c17 hG O hR h)
set_option maxHeartbeats 4000000 in
set_option maxRecDepth 20000 in
theorem c_X12_kindIn {l : Launch} {G : GX} (hG : Gd G) {a1 : Int32} {M : Mem} {K : Int32 → Mem → Prop} (h : f_X12_kindIn a1 M K) : CI l G yX12_kindIn cX12_kindIn 2 (some .int) 1 [.ref (ad G 287), .int a1] M K := by
  unfold f_X12_kindIn at h
  refine CI.mk hG (by decide) [(0, .ref (ad G 287)), (1, .int a1)] rfl (Nat.le_of_ble_eq_true rfl) (fun X O hlX hR => ?_)
  subst hlX
  refine J.aload_n (q := 1) O dX12_kindIn_0 rfl 0 rfl ?_
  refine J.getR (q := 4) (c' := 287) (ci := 12) (k := 13) (r := 297) O dX12_kindIn_1 rfl wd_6_85 (by decide) if_287_13 ?_
  refine J.bipush (q := 6) (v := (60 : Int32)) O dX12_kindIn_4 rfl rfl ?_
  refine J.iload_n (q := 7) O dX12_kindIn_6 rfl 1 rfl ?_
  refine J.imul (q := 8) O dX12_kindIn_7 rfl ?_
  refine J.iconst (q := 9) (v := (1 : Int32)) O dX12_kindIn_8 rfl rfl ?_
  refine J.iadd (q := 10) O dX12_kindIn_9 rfl ?_
  obtain ⟨hv2, h⟩ := h
  refine J.iald (q := 11) (c' := 297) (j := (((60 : Int32) * a1) + (1 : Int32)).toNatClampNeg) (M 297 ((((60 : Int32) * a1) + (1 : Int32)).toNatClampNeg)) rfl O dX12_kindIn_10 rfl ar_297 hv2 rfl ?_
  refine J.bipush (q := 13) (v := (48 : Int32)) O dX12_kindIn_11 rfl rfl ?_
  refine J.isub (q := 14) O dX12_kindIn_13 rfl ?_
  exact hR _ _ _ _ dX12_kindIn_14 h
set_option maxHeartbeats 4000000 in
set_option maxRecDepth 20000 in
theorem j_X12_givingAct_b163 {X : CX} {G : GX} {K : Int32 → Mem → Prop} (hG : Gd G) (O : Ok X G cX12_givingAct 7 RX12 6) (hR : RetI X G cX12_givingAct K) {r14 : Int32 × Int32 × Int32 × Mem → Prop} (hr14 : ∀ a : Int32 × Int32 × Int32 × Mem, r14 a → J X G a.2.2.2 14 [(0, .ref (ad G 287)), (1, .int a.1), (5, .int a.2.1), (6, .int a.2.2.1)] []) {x1 : Int32} {x5 : Int32} {x6 : Int32} {M : Mem} (h : f_X12_givingAct_b163 r14 K x1 x5 x6 M) : J X G M 163 [(0, .ref (ad G 287)), (1, .int x1), (5, .int x5), (6, .int x6)] [] := by
  unfold f_X12_givingAct_b163 at h
  refine J.iinc (q := 166) O dX12_givingAct_163 rfl [(6, .int (x6 + (1 : Int32))), (0, .ref (ad G 287)), (1, .int x1), (5, .int x5)] 3 rfl rfl (by decide) rfl ?_
  refine J.goto (q := 14) O dX12_givingAct_166 (by decide) ?_
  exact J.sub [1, 2, 3, 0] rfl (hr14 _ h)
set_option maxHeartbeats 4000000 in
set_option maxRecDepth 20000 in
theorem j_X12_givingAct_b161 {X : CX} {G : GX} {K : Int32 → Mem → Prop} (hG : Gd G) (O : Ok X G cX12_givingAct 7 RX12 6) (hR : RetI X G cX12_givingAct K) {r14 : Int32 × Int32 × Int32 × Mem → Prop} (hr14 : ∀ a : Int32 × Int32 × Int32 × Mem, r14 a → J X G a.2.2.2 14 [(0, .ref (ad G 287)), (1, .int a.1), (5, .int a.2.1), (6, .int a.2.2.1)] []) {x1 : Int32} {x6 : Int32} {s0 : Int32} {M : Mem} (h : f_X12_givingAct_b161 r14 K x1 x6 s0 M) : J X G M 161 [(0, .ref (ad G 287)), (1, .int x1), (6, .int x6)] [.int s0] := by
  unfold f_X12_givingAct_b161 at h
  refine J.istore (q := 163) O dX12_givingAct_161 rfl [(5, .int s0), (0, .ref (ad G 287)), (1, .int x1), (6, .int x6)] (by decide) rfl ?_
  exact J.sub [1, 2, 0, 3] rfl (j_X12_givingAct_b163 hG O hR hr14 h)
set_option maxHeartbeats 4000000 in
set_option maxRecDepth 20000 in
theorem j_X12_givingAct_b154 {X : CX} {G : GX} {K : Int32 → Mem → Prop} (hG : Gd G) (O : Ok X G cX12_givingAct 7 RX12 6) (hR : RetI X G cX12_givingAct K) {r14 : Int32 × Int32 × Int32 × Mem → Prop} (hr14 : ∀ a : Int32 × Int32 × Int32 × Mem, r14 a → J X G a.2.2.2 14 [(0, .ref (ad G 287)), (1, .int a.1), (5, .int a.2.1), (6, .int a.2.2.1)] []) {x1 : Int32} {x6 : Int32} {M : Mem} (h : f_X12_givingAct_b154 r14 K x1 x6 M) : J X G M 154 [(0, .ref (ad G 287)), (1, .int x1), (6, .int x6)] [] := by
  unfold f_X12_givingAct_b154 at h
  refine J.iload (q := 156) O dX12_givingAct_154 rfl 2 rfl ?_
  refine J.goto (q := 161) O dX12_givingAct_156 (by decide) ?_
  exact J.sub [0, 1, 2] rfl (j_X12_givingAct_b161 hG O hR hr14 h)
set_option maxHeartbeats 4000000 in
set_option maxRecDepth 20000 in
theorem j_X12_givingAct_b159 {X : CX} {G : GX} {K : Int32 → Mem → Prop} (hG : Gd G) (O : Ok X G cX12_givingAct 7 RX12 6) (hR : RetI X G cX12_givingAct K) {r14 : Int32 × Int32 × Int32 × Mem → Prop} (hr14 : ∀ a : Int32 × Int32 × Int32 × Mem, r14 a → J X G a.2.2.2 14 [(0, .ref (ad G 287)), (1, .int a.1), (5, .int a.2.1), (6, .int a.2.2.1)] []) {x1 : Int32} {x5 : Int32} {x6 : Int32} {M : Mem} (h : f_X12_givingAct_b159 r14 K x1 x5 x6 M) : J X G M 159 [(0, .ref (ad G 287)), (1, .int x1), (5, .int x5), (6, .int x6)] [] := by
  unfold f_X12_givingAct_b159 at h
  refine J.iload (q := 161) O dX12_givingAct_159 rfl 2 rfl ?_
  exact J.sub [0, 1, 3] rfl (j_X12_givingAct_b161 hG O hR hr14 h)
set_option maxHeartbeats 4000000 in
set_option maxRecDepth 20000 in
theorem j_X12_givingAct_c14 {X : CX} {G : GX} {K : Int32 → Mem → Prop} (hG : Gd G) (O : Ok X G cX12_givingAct 7 RX12 6) (hR : RetI X G cX12_givingAct K) {a : Int32 × Int32 × Int32 × Mem} (h : Lp (fun (r14 : Int32 × Int32 × Int32 × Mem → Prop) a => f_X12_givingAct_c14 K r14 a.1 a.2.1 a.2.2.1 a.2.2.2) a) : J X G a.2.2.2 14 [(0, .ref (ad G 287)), (1, .int a.1), (5, .int a.2.1), (6, .int a.2.2.1)] [] := by
  refine Lp.elim (P := fun a => J X G a.2.2.2 14 [(0, .ref (ad G 287)), (1, .int a.1), (5, .int a.2.1), (6, .int a.2.2.1)] []) ?_ h
  clear h
  intro r14 hr14 a h
  obtain ⟨x1, x5, x6, M⟩ := a
  unfold f_X12_givingAct_c14 at h
  (try dsimp only at h ⊢)
  refine J.iload (q := 16) O dX12_givingAct_14 rfl 3 rfl ?_
  refine J.aload_n (q := 17) O dX12_givingAct_16 rfl 0 rfl ?_
  refine J.getI (q := 20) (c' := 287) (ci := 12) (k := 12) (M 287 12) rfl O dX12_givingAct_17 rfl wd_6_84 (by decide) if_287_12 ?_
  refine J.icmp_ge (q := 23) (tgt := 169) O dX12_givingAct_20 rfl (by decide) (fun z11 => ?_) (fun z11 => ?_)
  · replace h := h.1 z11
    refine J.iload (q := 171) O dX12_givingAct_169 rfl 2 rfl ?_
    exact hR _ _ _ _ dX12_givingAct_171 h
  · replace h := h.2 z11
    refine J.aload_n (q := 24) O dX12_givingAct_23 rfl 0 rfl ?_
    refine J.getR (q := 27) (c' := 287) (ci := 12) (k := 28) (r := 304) O dX12_givingAct_24 rfl wd_6_100 (by decide) if_287_28 ?_
    refine J.iload (q := 29) O dX12_givingAct_27 rfl 3 rfl ?_
    refine J.iconst (q := 30) (v := (0 : Int32)) O dX12_givingAct_29 rfl rfl ?_
    obtain ⟨hv12, h⟩ := h
    refine J.zast (q := 31) (c' := 304) (j := x6.toNatClampNeg) O dX12_givingAct_30 rfl ar_304 hv12 rfl (Or.inl rfl) ?_
    refine J.aload_n (q := 32) O dX12_givingAct_31 rfl 0 rfl ?_
    refine J.getR (q := 35) (c' := 287) (ci := 12) (k := 13) (r := 297) O dX12_givingAct_32 rfl wd_6_85 (by decide) if_287_13 ?_
    refine J.bipush (q := 37) (v := (60 : Int32)) O dX12_givingAct_35 rfl rfl ?_
    refine J.iload (q := 39) O dX12_givingAct_37 rfl 3 rfl ?_
    refine J.imul (q := 40) O dX12_givingAct_39 rfl ?_
    obtain ⟨hv13, h⟩ := h
    refine J.iald (q := 41) (c' := 297) (j := ((60 : Int32) * x6).toNatClampNeg) (M 297 (((60 : Int32) * x6).toNatClampNeg)) rfl O dX12_givingAct_40 rfl ar_297 hv13 rfl ?_
    refine J.bipush (q := 43) (v := (65 : Int32)) O dX12_givingAct_41 rfl rfl ?_
    refine J.isub (q := 44) O dX12_givingAct_43 rfl ?_
    refine J.iload_n (q := 45) O dX12_givingAct_44 rfl 1 rfl ?_
    refine J.icmp_ne (q := 48) (tgt := 163) O dX12_givingAct_45 rfl (by decide) (fun z14 => ?_) (fun z14 => ?_)
    · replace h := h.1 z14
      exact J.sub [0, 1, 2, 3] rfl (j_X12_givingAct_b163 hG O hR hr14 h)
    · replace h := h.2 z14
      refine J.aload_n (q := 49) O dX12_givingAct_48 rfl 0 rfl ?_
      refine J.getR (q := 52) (c' := 287) (ci := 12) (k := 15) (r := 299) O dX12_givingAct_49 rfl wd_6_87 (by decide) if_287_15 ?_
      refine J.iload (q := 54) O dX12_givingAct_52 rfl 3 rfl ?_
      obtain ⟨hv15, h⟩ := h
      refine J.iald (q := 55) (c' := 299) (j := x6.toNatClampNeg) (M 299 x6.toNatClampNeg) rfl O dX12_givingAct_54 rfl ar_299 hv15 rfl ?_
      refine J.aload_n (q := 56) O dX12_givingAct_55 rfl 0 rfl ?_
      refine J.getI (q := 59) (c' := 287) (ci := 12) (k := 0) (M 287 0) rfl O dX12_givingAct_56 rfl wd_6_72 (by decide) if_287_0 ?_
      refine J.icmp_gt (q := 62) (tgt := 163) O dX12_givingAct_59 rfl (by decide) (fun z16 => ?_) (fun z16 => ?_)
      · replace h := h.1 z16
        exact J.sub [0, 1, 2, 3] rfl (j_X12_givingAct_b163 hG O hR hr14 h)
      · replace h := h.2 z16
        refine J.aload_n (q := 63) O dX12_givingAct_62 rfl 0 rfl ?_
        refine J.getR (q := 66) (c' := 287) (ci := 12) (k := 16) (r := 300) O dX12_givingAct_63 rfl wd_6_88 (by decide) if_287_16 ?_
        refine J.iload (q := 68) O dX12_givingAct_66 rfl 3 rfl ?_
        obtain ⟨hv17, h⟩ := h
        refine J.iald (q := 69) (c' := 300) (j := x6.toNatClampNeg) (M 300 x6.toNatClampNeg) rfl O dX12_givingAct_68 rfl ar_300 hv17 rfl ?_
        refine J.aload_n (q := 70) O dX12_givingAct_69 rfl 0 rfl ?_
        refine J.getI (q := 73) (c' := 287) (ci := 12) (k := 0) (M 287 0) rfl O dX12_givingAct_70 rfl wd_6_72 (by decide) if_287_0 ?_
        refine J.icmp_le (q := 76) (tgt := 163) O dX12_givingAct_73 rfl (by decide) (fun z18 => ?_) (fun z18 => ?_)
        · replace h := h.1 z18
          exact J.sub [0, 1, 2, 3] rfl (j_X12_givingAct_b163 hG O hR hr14 h)
        · replace h := h.2 z18
          refine J.aload_n (q := 77) O dX12_givingAct_76 rfl 0 rfl ?_
          refine J.iconst (q := 78) (v := (1 : Int32)) O dX12_givingAct_77 rfl rfl ?_
          refine J.putZ (q := 81) (c' := 287) (ci := 12) (k := 17) O dX12_givingAct_78 rfl wd_6_89 (by decide) if_287_17 rfl rfl (Or.inr rfl) ?_
          refine J.aload_n (q := 82) O dX12_givingAct_81 rfl 0 rfl ?_
          refine J.bipush (q := 84) (v := (60 : Int32)) O dX12_givingAct_82 rfl rfl ?_
          refine J.iload (q := 86) O dX12_givingAct_84 rfl 3 rfl ?_
          refine J.imul (q := 87) O dX12_givingAct_86 rfl ?_
          refine J.putI (q := 90) (c' := 287) (ci := 12) (k := 18) O dX12_givingAct_87 rfl wd_6_90 (by decide) if_287_18 rfl rfl ?_
          refine J.aload_n (q := 91) O dX12_givingAct_90 rfl 0 rfl ?_
          refine J.aload_n (q := 92) O dX12_givingAct_91 rfl 0 rfl ?_
          refine J.getR (q := 95) (c' := 287) (ci := 12) (k := 14) (r := 298) O dX12_givingAct_92 rfl wd_6_86 (by decide) if_287_14 ?_
          refine J.iload (q := 97) O dX12_givingAct_95 rfl 3 rfl ?_
          obtain ⟨hv19, h⟩ := h
          refine J.iald (q := 98) (c' := 298) (j := x6.toNatClampNeg) (M 298 x6.toNatClampNeg) rfl O dX12_givingAct_97 rfl ar_298 hv19 rfl ?_
          refine J.putI (q := 101) (c' := 287) (ci := 12) (k := 19) O dX12_givingAct_98 rfl wd_6_91 (by decide) if_287_19 rfl rfl ?_
          refine J.aload_n (q := 102) O dX12_givingAct_101 rfl 0 rfl ?_
          refine J.iconst (q := 103) (v := (3 : Int32)) O dX12_givingAct_102 rfl rfl ?_
          refine J.putI (q := 106) (c' := 287) (ci := 12) (k := 20) O dX12_givingAct_103 rfl wd_6_92 (by decide) if_287_20 rfl rfl ?_
          refine J.aload_n (q := 107) O dX12_givingAct_106 rfl 0 rfl ?_
          refine J.iconst (q := 108) (v := (0 : Int32)) O dX12_givingAct_107 rfl rfl ?_
          refine J.putZ (q := 111) (c' := 287) (ci := 12) (k := 21) O dX12_givingAct_108 rfl wd_6_93 (by decide) if_287_21 rfl rfl (Or.inl rfl) ?_
          refine J.aload_n (q := 112) O dX12_givingAct_111 rfl 0 rfl ?_
          refine J.getR (q := 115) (c' := 287) (ci := 12) (k := 28) (r := 304) O dX12_givingAct_112 rfl wd_6_100 (by decide) if_287_28 ?_
          refine J.iload (q := 117) O dX12_givingAct_115 rfl 3 rfl ?_
          refine J.aload_n (q := 118) O dX12_givingAct_117 rfl 0 rfl ?_
          refine J.callVI (q := 121) [] [.int x6, .ref (ad G 304)] [.ref (ad G 287), .int x6, .ref (ad G 304)] rfl O dX12_givingAct_118 rfl (c_X12_readRule hG h) wd_7_205 mw_X12_readRule io_287 rfl (by decide) (Nat.le_of_ble_eq_true rfl) (fun v20 M20 h => ?_)
          obtain ⟨hv21, h⟩ := h
          obtain ⟨hb22, h⟩ := h
          refine J.zast (q := 122) (c' := 304) (j := x6.toNatClampNeg) O dX12_givingAct_121 rfl ar_304 hv21 rfl hb22 ?_
          refine J.aload_n (q := 123) O dX12_givingAct_122 rfl 0 rfl ?_
          refine J.getR (q := 126) (c' := 287) (ci := 12) (k := 28) (r := 304) O dX12_givingAct_123 rfl wd_6_100 (by decide) if_287_28 ?_
          refine J.iload (q := 128) O dX12_givingAct_126 rfl 3 rfl ?_
          obtain ⟨hv23, h⟩ := h
          refine J.zald (q := 129) (c' := 304) (j := x6.toNatClampNeg) ((mset M20 304 x6.toNatClampNeg v20) 304 x6.toNatClampNeg) rfl O dX12_givingAct_128 rfl ar_304 hv23 rfl ?_
          refine J.if_eq (q := 132) (tgt := 159) O dX12_givingAct_129 rfl (by decide) (fun z24 => ?_) (fun z24 => ?_)
          · replace h := h.1 z24
            exact J.sub [0, 1, 2, 3] rfl (j_X12_givingAct_b159 hG O hR hr14 h)
          · replace h := h.2 z24
            refine J.iload (q := 134) O dX12_givingAct_132 rfl 2 rfl ?_
            refine J.if_lt (q := 137) (tgt := 154) O dX12_givingAct_134 rfl (by decide) (fun z25 => ?_) (fun z25 => ?_)
            · replace h := h.1 z25
              exact J.sub [0, 1, 3] rfl (j_X12_givingAct_b154 hG O hR hr14 h)
            · replace h := h.2 z25
              refine J.aload_n (q := 138) O dX12_givingAct_137 rfl 0 rfl ?_
              refine J.getR (q := 141) (c' := 287) (ci := 12) (k := 15) (r := 299) O dX12_givingAct_138 rfl wd_6_87 (by decide) if_287_15 ?_
              refine J.iload (q := 143) O dX12_givingAct_141 rfl 3 rfl ?_
              obtain ⟨hv26, h⟩ := h
              refine J.iald (q := 144) (c' := 299) (j := x6.toNatClampNeg) (M20 299 x6.toNatClampNeg) rfl O dX12_givingAct_143 rfl ar_299 hv26 rfl ?_
              refine J.aload_n (q := 145) O dX12_givingAct_144 rfl 0 rfl ?_
              refine J.getR (q := 148) (c' := 287) (ci := 12) (k := 15) (r := 299) O dX12_givingAct_145 rfl wd_6_87 (by decide) if_287_15 ?_
              refine J.iload (q := 150) O dX12_givingAct_148 rfl 2 rfl ?_
              obtain ⟨hv27, h⟩ := h
              refine J.iald (q := 151) (c' := 299) (j := x5.toNatClampNeg) (M20 299 x5.toNatClampNeg) rfl O dX12_givingAct_150 rfl ar_299 hv27 rfl ?_
              refine J.icmp_lt (q := 154) (tgt := 159) O dX12_givingAct_151 rfl (by decide) (fun z28 => ?_) (fun z28 => ?_)
              · replace h := h.1 z28
                exact J.sub [0, 1, 2, 3] rfl (j_X12_givingAct_b159 hG O hR hr14 h)
              · replace h := h.2 z28
                exact J.sub [0, 1, 3] rfl (j_X12_givingAct_b154 hG O hR hr14 h)
set_option maxHeartbeats 4000000 in
set_option maxRecDepth 20000 in
theorem c_X12_givingAct {l : Launch} {G : GX} (hG : Gd G) {a1 : Int32} {a2 : Int32} {a3 : Int32} {a4 : Int32} {M : Mem} {K : Int32 → Mem → Prop} (h : f_X12_givingAct a1 a2 a3 a4 M K) : CI l G yX12_givingAct cX12_givingAct 7 (some .int) 6 [.ref (ad G 287), .int a1, .int a2, .int a3, .int a4] M K := by
  unfold f_X12_givingAct at h
  refine CI.mk hG (by decide) [(0, .ref (ad G 287)), (1, .int a1), (2, .int a2), (3, .int a3), (4, .int a4)] rfl (Nat.le_of_ble_eq_true rfl) (fun X O hlX hR => ?_)
  subst hlX
  refine J.aload_n (q := 1) O dX12_givingAct_0 rfl 0 rfl ?_
  refine J.iload_n (q := 2) O dX12_givingAct_1 rfl 2 rfl ?_
  refine J.iload_n (q := 3) O dX12_givingAct_2 rfl 3 rfl ?_
  refine J.iload (q := 5) O dX12_givingAct_3 rfl 4 rfl ?_
  refine J.callVV (q := 8) [.int a2, .int a3, .int a4] [] [.int a4, .int a3, .int a2, .ref (ad G 287)] rfl O dX12_givingAct_5 rfl (c_X12_findFacts hG h) wd_8_19 mw_X12_findFacts io_287 rfl (by decide) (Nat.le_of_ble_eq_true rfl) (fun M29 h => ?_)
  refine J.iconst (q := 9) (v := (-1 : Int32)) O dX12_givingAct_8 rfl rfl ?_
  refine J.istore (q := 11) O dX12_givingAct_9 rfl [(5, .int (-1 : Int32)), (0, .ref (ad G 287)), (1, .int a1), (2, .int a2), (3, .int a3), (4, .int a4)] (by decide) rfl ?_
  refine J.iconst (q := 12) (v := (0 : Int32)) O dX12_givingAct_11 rfl rfl ?_
  refine J.istore (q := 14) O dX12_givingAct_12 rfl [(6, .int (0 : Int32)), (5, .int (-1 : Int32)), (0, .ref (ad G 287)), (1, .int a1), (2, .int a2), (3, .int a3), (4, .int a4)] (by decide) rfl ?_
  exact J.sub [2, 3, 1, 0] rfl (j_X12_givingAct_c14 hG O hR h)
set_option maxHeartbeats 4000000 in
set_option maxRecDepth 20000 in
theorem j_X12_quarrel_b60 {X : CX} {G : GX} {K : Int32 → Mem → Prop} (hG : Gd G) (O : Ok X G cX12_quarrel 4 RX12 2) (hR : RetI X G cX12_quarrel K) {s0 : Int32} {M : Mem} (h : f_X12_quarrel_b60 K s0 M) : J X G M 60 [] [.int s0] := by
  unfold f_X12_quarrel_b60 at h
  exact hR _ _ _ _ dX12_quarrel_60 h
set_option maxHeartbeats 4000000 in
set_option maxRecDepth 20000 in
theorem j_X12_quarrel_b61 {X : CX} {G : GX} {K : Int32 → Mem → Prop} (hG : Gd G) (O : Ok X G cX12_quarrel 4 RX12 2) (hR : RetI X G cX12_quarrel K) {r2 : Int32 × Int32 × Mem → Prop} (hr2 : ∀ a : Int32 × Int32 × Mem, r2 a → J X G a.2.2 2 [(0, .ref (ad G 287)), (1, .int a.1), (2, .int a.2.1)] []) {r12 : Int32 × Int32 × Int32 × Mem → Prop} (hr12 : ∀ a : Int32 × Int32 × Int32 × Mem, r12 a → J X G a.2.2.2 12 [(0, .ref (ad G 287)), (1, .int a.1), (2, .int a.2.1), (3, .int a.2.2.1)] []) {x1 : Int32} {x2 : Int32} {x3 : Int32} {M : Mem} (h : f_X12_quarrel_b61 r2 r12 K x1 x2 x3 M) : J X G M 61 [(0, .ref (ad G 287)), (1, .int x1), (2, .int x2), (3, .int x3)] [] := by
  unfold f_X12_quarrel_b61 at h
  refine J.iinc (q := 64) O dX12_quarrel_61 rfl [(3, .int (x3 + (1 : Int32))), (0, .ref (ad G 287)), (1, .int x1), (2, .int x2)] 3 rfl rfl (by decide) rfl ?_
  refine J.goto (q := 12) O dX12_quarrel_64 (by decide) ?_
  exact J.sub [1, 2, 3, 0] rfl (hr12 _ h)
set_option maxHeartbeats 4000000 in
set_option maxRecDepth 20000 in
theorem j_X12_quarrel_c12 {X : CX} {G : GX} {K : Int32 → Mem → Prop} (hG : Gd G) (O : Ok X G cX12_quarrel 4 RX12 2) (hR : RetI X G cX12_quarrel K) {r2 : Int32 × Int32 × Mem → Prop} (hr2 : ∀ a : Int32 × Int32 × Mem, r2 a → J X G a.2.2 2 [(0, .ref (ad G 287)), (1, .int a.1), (2, .int a.2.1)] []) {a : Int32 × Int32 × Int32 × Mem} (h : Lp (fun (r12 : Int32 × Int32 × Int32 × Mem → Prop) a => f_X12_quarrel_c12 r2 K r12 a.1 a.2.1 a.2.2.1 a.2.2.2) a) : J X G a.2.2.2 12 [(0, .ref (ad G 287)), (1, .int a.1), (2, .int a.2.1), (3, .int a.2.2.1)] [] := by
  refine Lp.elim (P := fun a => J X G a.2.2.2 12 [(0, .ref (ad G 287)), (1, .int a.1), (2, .int a.2.1), (3, .int a.2.2.1)] []) ?_ h
  clear h
  intro r12 hr12 a h
  obtain ⟨x1, x2, x3, M⟩ := a
  unfold f_X12_quarrel_c12 at h
  (try dsimp only at h ⊢)
  refine J.iload_n (q := 13) O dX12_quarrel_12 rfl 3 rfl ?_
  refine J.aload_n (q := 14) O dX12_quarrel_13 rfl 0 rfl ?_
  refine J.getI (q := 17) (c' := 287) (ci := 12) (k := 12) (M 287 12) rfl O dX12_quarrel_14 rfl wd_6_84 (by decide) if_287_12 ?_
  refine J.icmp_ge (q := 20) (tgt := 67) O dX12_quarrel_17 rfl (by decide) (fun z3 => ?_) (fun z3 => ?_)
  · replace h := h.1 z3
    refine J.iinc (q := 70) O dX12_quarrel_67 rfl [(2, .int (x2 + (1 : Int32))), (0, .ref (ad G 287)), (1, .int x1), (3, .int x3)] 2 rfl rfl (by decide) rfl ?_
    refine J.goto (q := 2) O dX12_quarrel_70 (by decide) ?_
    exact J.sub [1, 2, 0] rfl (hr2 _ h)
  · replace h := h.2 z3
    refine J.aload_n (q := 21) O dX12_quarrel_20 rfl 0 rfl ?_
    refine J.getR (q := 24) (c' := 287) (ci := 12) (k := 28) (r := 304) O dX12_quarrel_21 rfl wd_6_100 (by decide) if_287_28 ?_
    refine J.iload_n (q := 25) O dX12_quarrel_24 rfl 2 rfl ?_
    obtain ⟨hv4, h⟩ := h
    refine J.zald (q := 26) (c' := 304) (j := x2.toNatClampNeg) (M 304 x2.toNatClampNeg) rfl O dX12_quarrel_25 rfl ar_304 hv4 rfl ?_
    refine J.if_eq (q := 29) (tgt := 61) O dX12_quarrel_26 rfl (by decide) (fun z5 => ?_) (fun z5 => ?_)
    · replace h := h.1 z5
      exact J.sub [0, 1, 2, 3] rfl (j_X12_quarrel_b61 hG O hR hr2 hr12 h)
    · replace h := h.2 z5
      refine J.aload_n (q := 30) O dX12_quarrel_29 rfl 0 rfl ?_
      refine J.getR (q := 33) (c' := 287) (ci := 12) (k := 28) (r := 304) O dX12_quarrel_30 rfl wd_6_100 (by decide) if_287_28 ?_
      refine J.iload_n (q := 34) O dX12_quarrel_33 rfl 3 rfl ?_
      obtain ⟨hv6, h⟩ := h
      refine J.zald (q := 35) (c' := 304) (j := x3.toNatClampNeg) (M 304 x3.toNatClampNeg) rfl O dX12_quarrel_34 rfl ar_304 hv6 rfl ?_
      refine J.if_eq (q := 38) (tgt := 61) O dX12_quarrel_35 rfl (by decide) (fun z7 => ?_) (fun z7 => ?_)
      · replace h := h.1 z7
        exact J.sub [0, 1, 2, 3] rfl (j_X12_quarrel_b61 hG O hR hr2 hr12 h)
      · replace h := h.2 z7
        refine J.aload_n (q := 39) O dX12_quarrel_38 rfl 0 rfl ?_
        refine J.iload_n (q := 40) O dX12_quarrel_39 rfl 2 rfl ?_
        refine J.callVI (q := 43) [.int x2] [] [.int x2, .ref (ad G 287)] rfl O dX12_quarrel_40 rfl (c_X12_kindIn hG h) wd_8_26 mw_X12_kindIn io_287 rfl (by decide) (Nat.le_of_ble_eq_true rfl) (fun v8 M8 h => ?_)
        refine J.aload_n (q := 44) O dX12_quarrel_43 rfl 0 rfl ?_
        refine J.iload_n (q := 45) O dX12_quarrel_44 rfl 3 rfl ?_
        refine J.callVI (q := 48) [.int x3] [.int v8] [.int x3, .ref (ad G 287), .int v8] rfl O dX12_quarrel_45 rfl (c_X12_kindIn hG h) wd_8_26 mw_X12_kindIn io_287 rfl (by decide) (Nat.le_of_ble_eq_true rfl) (fun v9 M9 h => ?_)
        refine J.icmp_eq (q := 51) (tgt := 61) O dX12_quarrel_48 rfl (by decide) (fun z10 => ?_) (fun z10 => ?_)
        · replace h := h.1 z10
          exact J.sub [0, 1, 2, 3] rfl (j_X12_quarrel_b61 hG O hR hr2 hr12 h)
        · replace h := h.2 z10
          refine J.iload_n (q := 52) O dX12_quarrel_51 rfl 1 rfl ?_
          refine J.if_eq (q := 55) (tgt := 59) O dX12_quarrel_52 rfl (by decide) (fun z11 => ?_) (fun z11 => ?_)
          · replace h := h.1 z11
            refine J.iload_n (q := 60) O dX12_quarrel_59 rfl 2 rfl ?_
            exact J.sub [] rfl (j_X12_quarrel_b60 hG O hR h)
          · replace h := h.2 z11
            refine J.iload_n (q := 56) O dX12_quarrel_55 rfl 3 rfl ?_
            refine J.goto (q := 60) O dX12_quarrel_56 (by decide) ?_
            exact J.sub [] rfl (j_X12_quarrel_b60 hG O hR h)
set_option maxHeartbeats 4000000 in
set_option maxRecDepth 20000 in
theorem j_X12_quarrel_c2 {X : CX} {G : GX} {K : Int32 → Mem → Prop} (hG : Gd G) (O : Ok X G cX12_quarrel 4 RX12 2) (hR : RetI X G cX12_quarrel K) {a : Int32 × Int32 × Mem} (h : Lp (fun (r2 : Int32 × Int32 × Mem → Prop) a => f_X12_quarrel_c2 K r2 a.1 a.2.1 a.2.2) a) : J X G a.2.2 2 [(0, .ref (ad G 287)), (1, .int a.1), (2, .int a.2.1)] [] := by
  refine Lp.elim (P := fun a => J X G a.2.2 2 [(0, .ref (ad G 287)), (1, .int a.1), (2, .int a.2.1)] []) ?_ h
  clear h
  intro r2 hr2 a h
  obtain ⟨x1, x2, M⟩ := a
  unfold f_X12_quarrel_c2 at h
  (try dsimp only at h ⊢)
  refine J.iload_n (q := 3) O dX12_quarrel_2 rfl 2 rfl ?_
  refine J.aload_n (q := 4) O dX12_quarrel_3 rfl 0 rfl ?_
  refine J.getI (q := 7) (c' := 287) (ci := 12) (k := 12) (M 287 12) rfl O dX12_quarrel_4 rfl wd_6_84 (by decide) if_287_12 ?_
  refine J.icmp_ge (q := 10) (tgt := 73) O dX12_quarrel_7 rfl (by decide) (fun z12 => ?_) (fun z12 => ?_)
  · replace h := h.1 z12
    refine J.bipush (q := 75) (v := (-9 : Int32)) O dX12_quarrel_73 rfl rfl ?_
    exact hR _ _ _ _ dX12_quarrel_75 h
  · replace h := h.2 z12
    refine J.iconst (q := 11) (v := (0 : Int32)) O dX12_quarrel_10 rfl rfl ?_
    refine J.istore_n (q := 12) O dX12_quarrel_11 rfl [(3, .int (0 : Int32)), (0, .ref (ad G 287)), (1, .int x1), (2, .int x2)] (by decide) rfl ?_
    exact J.sub [1, 2, 3, 0] rfl (j_X12_quarrel_c12 hG O hR hr2 h)
set_option maxHeartbeats 4000000 in
set_option maxRecDepth 20000 in
theorem c_X12_quarrel {l : Launch} {G : GX} (hG : Gd G) {a1 : Int32} {M : Mem} {K : Int32 → Mem → Prop} (h : f_X12_quarrel a1 M K) : CI l G yX12_quarrel cX12_quarrel 4 (some .int) 2 [.ref (ad G 287), .int a1] M K := by
  unfold f_X12_quarrel at h
  refine CI.mk hG (by decide) [(0, .ref (ad G 287)), (1, .int a1)] rfl (Nat.le_of_ble_eq_true rfl) (fun X O hlX hR => ?_)
  subst hlX
  refine J.iconst (q := 1) (v := (0 : Int32)) O dX12_quarrel_0 rfl rfl ?_
  refine J.istore_n (q := 2) O dX12_quarrel_1 rfl [(2, .int (0 : Int32)), (0, .ref (ad G 287)), (1, .int a1)] (by decide) rfl ?_
  exact J.sub [1, 2, 0] rfl (j_X12_quarrel_c2 hG O hR h)
set_option maxHeartbeats 4000000 in
set_option maxRecDepth 20000 in
theorem j_X12_wrongSums_b33 {X : CX} {G : GX} {K : Int32 → Mem → Prop} (hG : Gd G) (O : Ok X G cX12_wrongSums 2 RX12 1) (hR : RetI X G cX12_wrongSums K) {s0 : Int32} {M : Mem} (h : f_X12_wrongSums_b33 K s0 M) : J X G M 33 [] [.int s0] := by
  unfold f_X12_wrongSums_b33 at h
  exact hR _ _ _ _ dX12_wrongSums_33 h
set_option maxHeartbeats 4000000 in
set_option maxRecDepth 20000 in
theorem j_X12_wrongSums_b9 {X : CX} {G : GX} {K : Int32 → Mem → Prop} (hG : Gd G) (O : Ok X G cX12_wrongSums 2 RX12 1) (hR : RetI X G cX12_wrongSums K) {M : Mem} (h : f_X12_wrongSums_b9 K  M) : J X G M 9 [] [] := by
  unfold f_X12_wrongSums_b9 at h
  refine J.bipush (q := 11) (v := (-4 : Int32)) O dX12_wrongSums_9 rfl rfl ?_
  refine J.goto (q := 33) O dX12_wrongSums_11 (by decide) ?_
  exact J.sub [] rfl (j_X12_wrongSums_b33 hG O hR h)
set_option maxHeartbeats 4000000 in
set_option maxRecDepth 20000 in
theorem j_X12_wrongSums_b27 {X : CX} {G : GX} {K : Int32 → Mem → Prop} (hG : Gd G) (O : Ok X G cX12_wrongSums 2 RX12 1) (hR : RetI X G cX12_wrongSums K) {M : Mem} (h : f_X12_wrongSums_b27 K  M) : J X G M 27 [] [] := by
  unfold f_X12_wrongSums_b27 at h
  refine J.bipush (q := 29) (v := (-6 : Int32)) O dX12_wrongSums_27 rfl rfl ?_
  refine J.goto (q := 33) O dX12_wrongSums_29 (by decide) ?_
  exact J.sub [] rfl (j_X12_wrongSums_b33 hG O hR h)
set_option maxHeartbeats 4000000 in
set_option maxRecDepth 20000 in
theorem c_X12_wrongSums {l : Launch} {G : GX} (hG : Gd G) {a1 : Int32} {a2 : Int32} {M : Mem} {K : Int32 → Mem → Prop} (h : f_X12_wrongSums a1 a2 M K) : CI l G yX12_wrongSums cX12_wrongSums 2 (some .int) 1 [.int a1, .int a2] M K := by
  unfold f_X12_wrongSums at h
  refine CI.mk hG (by decide) [(0, .int a1), (1, .int a2)] rfl (Nat.le_of_ble_eq_true rfl) (fun X O hlX hR => ?_)
  subst hlX
  refine J.iload_n (q := 1) O dX12_wrongSums_0 rfl 0 rfl ?_
  refine J.iconst (q := 2) (v := (1 : Int32)) O dX12_wrongSums_1 rfl rfl ?_
  refine J.icmp_lt (q := 5) (tgt := 9) O dX12_wrongSums_2 rfl (by decide) (fun z1 => ?_) (fun z1 => ?_)
  · replace h := h.1 z1
    exact J.sub [] rfl (j_X12_wrongSums_b9 hG O hR h)
  · replace h := h.2 z1
    refine J.iload_n (q := 6) O dX12_wrongSums_5 rfl 1 rfl ?_
    refine J.if_ge (q := 9) (tgt := 14) O dX12_wrongSums_6 rfl (by decide) (fun z2 => ?_) (fun z2 => ?_)
    · replace h := h.1 z2
      refine J.iload_n (q := 15) O dX12_wrongSums_14 rfl 0 rfl ?_
      refine J.bipush (q := 17) (v := (63 : Int32)) O dX12_wrongSums_15 rfl rfl ?_
      refine J.icmp_gt (q := 20) (tgt := 27) O dX12_wrongSums_17 rfl (by decide) (fun z3 => ?_) (fun z3 => ?_)
      · replace h := h.1 z3
        exact J.sub [] rfl (j_X12_wrongSums_b27 hG O hR h)
      · replace h := h.2 z3
        refine J.iload_n (q := 21) O dX12_wrongSums_20 rfl 1 rfl ?_
        refine J.sipush (q := 24) (v := (9999 : Int32)) O dX12_wrongSums_21 rfl rfl ?_
        refine J.icmp_le (q := 27) (tgt := 32) O dX12_wrongSums_24 rfl (by decide) (fun z4 => ?_) (fun z4 => ?_)
        · replace h := h.1 z4
          refine J.iconst (q := 33) (v := (0 : Int32)) O dX12_wrongSums_32 rfl rfl ?_
          exact J.sub [] rfl (j_X12_wrongSums_b33 hG O hR h)
        · replace h := h.2 z4
          exact J.sub [] rfl (j_X12_wrongSums_b27 hG O hR h)
    · replace h := h.2 z2
      exact J.sub [] rfl (j_X12_wrongSums_b9 hG O hR h)
set_option maxHeartbeats 4000000 in
set_option maxRecDepth 20000 in
theorem j_X12_kind_b17 {X : CX} {G : GX} {K : Int32 → Mem → Prop} (hG : Gd G) (O : Ok X G cX12_kind 7 RX12 7) (hR : RetI X G cX12_kind K) {M : Mem} (h : f_X12_kind_b17 K  M) : J X G M 17 [(0, .ref (ad G 287))] [] := by
  unfold f_X12_kind_b17 at h
  refine J.aload_n (q := 18) O dX12_kind_17 rfl 0 rfl ?_
  refine J.bipush (q := 20) (v := (-2 : Int32)) O dX12_kind_18 rfl rfl ?_
  refine J.callVI (q := 23) [.int (-2 : Int32)] [] [.int (-2 : Int32), .ref (ad G 287)] rfl O dX12_kind_20 rfl (c_X12_refuse hG h) wd_7_158 mw_X12_refuse io_287 rfl (by decide) (Nat.le_of_ble_eq_true rfl) (fun v1 M1 h => ?_)
  exact hR _ _ _ _ dX12_kind_23 h
set_option maxHeartbeats 4000000 in
set_option maxRecDepth 20000 in
theorem j_X12_kind_b112 {X : CX} {G : GX} {K : Int32 → Mem → Prop} (hG : Gd G) (O : Ok X G cX12_kind 7 RX12 7) (hR : RetI X G cX12_kind K) {s0 : Int32} {M : Mem} (h : f_X12_kind_b112 K s0 M) : J X G M 112 [] [.int s0] := by
  unfold f_X12_kind_b112 at h
  exact hR _ _ _ _ dX12_kind_112 h
set_option maxHeartbeats 4000000 in
set_option maxRecDepth 20000 in
theorem j_X12_kind_b109 {X : CX} {G : GX} {K : Int32 → Mem → Prop} (hG : Gd G) (O : Ok X G cX12_kind 7 RX12 7) (hR : RetI X G cX12_kind K) {s0 : Int32} {M : Mem} (h : f_X12_kind_b109 K s0 M) : J X G M 109 [] [.int s0, .ref (ad G 287)] := by
  unfold f_X12_kind_b109 at h
  refine J.callVI (q := 112) [.int s0] [] [.int s0, .ref (ad G 287)] rfl O dX12_kind_109 rfl (c_X12_quarrel hG h) wd_8_30 mw_X12_quarrel io_287 rfl (by decide) (Nat.le_of_ble_eq_true rfl) (fun v2 M2 h => ?_)
  exact J.sub [] rfl (j_X12_kind_b112 hG O hR h)
set_option maxHeartbeats 4000000 in
set_option maxRecDepth 20000 in
theorem c_X12_kind {l : Launch} {G : GX} (hG : Gd G) {a1 : Int32} {a2 : Int32} {a3 : Int32} {a4 : Int32} {a5 : Int32} {M : Mem} {K : Int32 → Mem → Prop} (h : f_X12_kind a1 a2 a3 a4 a5 M K) : CI l G yX12_kind cX12_kind 7 (some .int) 7 [.ref (ad G 287), .int a1, .int a2, .int a3, .int a4, .int a5] M K := by
  unfold f_X12_kind at h
  refine CI.mk hG (by decide) [(0, .ref (ad G 287)), (1, .int a1), (2, .int a2), (3, .int a3), (4, .int a4), (5, .int a5)] rfl (Nat.le_of_ble_eq_true rfl) (fun X O hlX hR => ?_)
  subst hlX
  refine J.iload_n (q := 1) O dX12_kind_0 rfl 1 rfl ?_
  refine J.callSI (q := 4) [.int a1] [] [.int a1] rfl O dX12_kind_1 rfl (c_X12_isWhat hG h) wd_8_9 mw_X12_isWhat rfl (by decide) (Nat.le_of_ble_eq_true rfl) (fun v3 M3 h => ?_)
  refine J.if_eq (q := 7) (tgt := 17) O dX12_kind_4 rfl (by decide) (fun z4 => ?_) (fun z4 => ?_)
  · replace h := h.1 z4
    exact J.sub [0] rfl (j_X12_kind_b17 hG O hR h)
  · replace h := h.2 z4
    refine J.iload (q := 9) O dX12_kind_7 rfl 5 rfl ?_
    refine J.iconst (q := 10) (v := (0 : Int32)) O dX12_kind_9 rfl rfl ?_
    refine J.iconst (q := 11) (v := (3 : Int32)) O dX12_kind_10 rfl rfl ?_
    refine J.callSI (q := 14) [.int a5, .int (0 : Int32), .int (3 : Int32)] [] [.int (3 : Int32), .int (0 : Int32), .int a5] rfl O dX12_kind_11 rfl (c_X12_in hG h) wd_7_181 mw_X12_in rfl (by decide) (Nat.le_of_ble_eq_true rfl) (fun v5 M5 h => ?_)
    refine J.if_ne (q := 17) (tgt := 24) O dX12_kind_14 rfl (by decide) (fun z6 => ?_) (fun z6 => ?_)
    · replace h := h.1 z6
      refine J.iload_n (q := 25) O dX12_kind_24 rfl 2 rfl ?_
      refine J.iload_n (q := 26) O dX12_kind_25 rfl 3 rfl ?_
      refine J.callSI (q := 29) [.int a2, .int a3] [] [.int a3, .int a2] rfl O dX12_kind_26 rfl (c_X12_wrongSums hG h) wd_8_12 mw_X12_wrongSums rfl (by decide) (Nat.le_of_ble_eq_true rfl) (fun v7 M7 h => ?_)
      refine J.if_ge (q := 32) (tgt := 42) O dX12_kind_29 rfl (by decide) (fun z8 => ?_) (fun z8 => ?_)
      · replace h := h.1 z8
        refine J.aload_n (q := 43) O dX12_kind_42 rfl 0 rfl ?_
        refine J.iload_n (q := 44) O dX12_kind_43 rfl 1 rfl ?_
        refine J.iload_n (q := 45) O dX12_kind_44 rfl 2 rfl ?_
        refine J.iload_n (q := 46) O dX12_kind_45 rfl 3 rfl ?_
        refine J.iload (q := 48) O dX12_kind_46 rfl 4 rfl ?_
        refine J.callVI (q := 51) [.int a1, .int a2, .int a3, .int a4] [] [.int a4, .int a3, .int a2, .int a1, .ref (ad G 287)] rfl O dX12_kind_48 rfl (c_X12_givingAct hG h) wd_8_15 mw_X12_givingAct io_287 rfl (by decide) (Nat.le_of_ble_eq_true rfl) (fun v9 M9 h => ?_)
        refine J.istore (q := 53) O dX12_kind_51 rfl [(6, .int v9), (0, .ref (ad G 287)), (1, .int a1), (2, .int a2), (3, .int a3), (4, .int a4), (5, .int a5)] (by decide) rfl ?_
        refine J.iload (q := 55) O dX12_kind_53 rfl 6 rfl ?_
        refine J.if_ne (q := 58) (tgt := 76) O dX12_kind_55 rfl (by decide) (fun z10 => ?_) (fun z10 => ?_)
        · replace h := h.1 z10
          refine J.iload (q := 78) O dX12_kind_76 rfl 6 rfl ?_
          refine J.iconst (q := 79) (v := (1 : Int32)) O dX12_kind_78 rfl rfl ?_
          refine J.icmp_ne (q := 82) (tgt := 97) O dX12_kind_79 rfl (by decide) (fun z11 => ?_) (fun z11 => ?_)
          · replace h := h.1 z11
            refine J.aload_n (q := 98) O dX12_kind_97 rfl 1 rfl ?_
            refine J.iload (q := 100) O dX12_kind_98 rfl 6 rfl ?_
            refine J.iconst (q := 101) (v := (3 : Int32)) O dX12_kind_100 rfl rfl ?_
            refine J.icmp_ne (q := 104) (tgt := 108) O dX12_kind_101 rfl (by decide) (fun z12 => ?_) (fun z12 => ?_)
            · replace h := h.1 z12
              refine J.iconst (q := 109) (v := (0 : Int32)) O dX12_kind_108 rfl rfl ?_
              exact J.sub [] rfl (j_X12_kind_b109 hG O hR h)
            · replace h := h.2 z12
              refine J.iconst (q := 105) (v := (1 : Int32)) O dX12_kind_104 rfl rfl ?_
              refine J.goto (q := 109) O dX12_kind_105 (by decide) ?_
              exact J.sub [] rfl (j_X12_kind_b109 hG O hR h)
          · replace h := h.2 z11
            refine J.iload (q := 84) O dX12_kind_82 rfl 0 rfl ?_
            refine J.if_ge (q := 87) (tgt := 92) O dX12_kind_84 rfl (by decide) (fun z13 => ?_) (fun z13 => ?_)
            · replace h := h.1 z13
              refine J.iload (q := 94) O dX12_kind_92 rfl 0 rfl ?_
              refine J.goto (q := 112) O dX12_kind_94 (by decide) ?_
              exact J.sub [] rfl (j_X12_kind_b112 hG O hR h)
            · replace h := h.2 z13
              refine J.bipush (q := 89) (v := (-9 : Int32)) O dX12_kind_87 rfl rfl ?_
              refine J.goto (q := 112) O dX12_kind_89 (by decide) ?_
              exact J.sub [] rfl (j_X12_kind_b112 hG O hR h)
        · replace h := h.2 z10
          refine J.iload (q := 60) O dX12_kind_58 rfl 0 rfl ?_
          refine J.if_ge (q := 63) (tgt := 67) O dX12_kind_60 rfl (by decide) (fun z14 => ?_) (fun z14 => ?_)
          · replace h := h.1 z14
            refine J.aload_n (q := 68) O dX12_kind_67 rfl 1 rfl ?_
            refine J.iload (q := 70) O dX12_kind_68 rfl 0 rfl ?_
            refine J.callVI (q := 73) [.int v9] [] [.int v9, .ref (ad G 287)] rfl O dX12_kind_70 rfl (c_X12_kindIn hG h) wd_8_26 mw_X12_kindIn io_287 rfl (by decide) (Nat.le_of_ble_eq_true rfl) (fun v15 M15 h => ?_)
            refine J.goto (q := 112) O dX12_kind_73 (by decide) ?_
            exact J.sub [] rfl (j_X12_kind_b112 hG O hR h)
          · replace h := h.2 z14
            refine J.iconst (q := 64) (v := (0 : Int32)) O dX12_kind_63 rfl rfl ?_
            refine J.goto (q := 112) O dX12_kind_64 (by decide) ?_
            exact J.sub [] rfl (j_X12_kind_b112 hG O hR h)
      · replace h := h.2 z8
        refine J.aload_n (q := 33) O dX12_kind_32 rfl 0 rfl ?_
        refine J.iload_n (q := 34) O dX12_kind_33 rfl 2 rfl ?_
        refine J.iload_n (q := 35) O dX12_kind_34 rfl 3 rfl ?_
        refine J.callSI (q := 38) [.int a2, .int a3] [.ref (ad G 287)] [.int a3, .int a2, .ref (ad G 287)] rfl O dX12_kind_35 rfl (c_X12_wrongSums hG h) wd_8_12 mw_X12_wrongSums rfl (by decide) (Nat.le_of_ble_eq_true rfl) (fun v16 M16 h => ?_)
        refine J.callVI (q := 41) [.int v16] [] [.int v16, .ref (ad G 287)] rfl O dX12_kind_38 rfl (c_X12_refuse hG h) wd_7_158 mw_X12_refuse io_287 rfl (by decide) (Nat.le_of_ble_eq_true rfl) (fun v17 M17 h => ?_)
        exact hR _ _ _ _ dX12_kind_41 h
    · replace h := h.2 z6
      exact J.sub [0] rfl (j_X12_kind_b17 hG O hR h)
set_option maxHeartbeats 4000000 in
set_option maxRecDepth 20000 in
theorem j_X12_term_b18 {X : CX} {G : GX} {K : Int32 → Mem → Prop} (hG : Gd G) (O : Ok X G cX12_term 5 RX12 2) (hR : RetI X G cX12_term K) {M : Mem} (h : f_X12_term_b18 K  M) : J X G M 18 [(0, .ref (ad G 287))] [] := by
  unfold f_X12_term_b18 at h
  refine J.aload_n (q := 19) O dX12_term_18 rfl 0 rfl ?_
  refine J.bipush (q := 21) (v := (-2 : Int32)) O dX12_term_19 rfl rfl ?_
  refine J.callVI (q := 24) [.int (-2 : Int32)] [] [.int (-2 : Int32), .ref (ad G 287)] rfl O dX12_term_21 rfl (c_X12_refuse hG h) wd_7_158 mw_X12_refuse io_287 rfl (by decide) (Nat.le_of_ble_eq_true rfl) (fun v10 M10 h => ?_)
  exact hR _ _ _ _ dX12_term_24 h
set_option maxHeartbeats 4000000 in
set_option maxRecDepth 20000 in
theorem j_X12_term_b164 {X : CX} {G : GX} {K : Int32 → Mem → Prop} (hG : Gd G) (O : Ok X G cX12_term 5 RX12 2) (hR : RetI X G cX12_term K) {x4 : Int32} {s0 : Int32} {s1 : Int32} {M : Mem} (h : f_X12_term_b164 K x4 s0 s1 M) : J X G M 164 [(4, .int x4)] [.int s0, .int s1, .ref (ad G 307)] := by
  unfold f_X12_term_b164 at h
  obtain ⟨hv11, h⟩ := h
  refine J.iast (q := 165) (c' := 307) (j := s1.toNatClampNeg) O dX12_term_164 rfl ar_307 hv11 rfl ?_
  refine J.iload (q := 167) O dX12_term_165 rfl 0 rfl ?_
  exact hR _ _ _ _ dX12_term_167 h
set_option maxHeartbeats 4000000 in
set_option maxRecDepth 20000 in
theorem j_X12_term_b143 {X : CX} {G : GX} {K : Int32 → Mem → Prop} (hG : Gd G) (O : Ok X G cX12_term 5 RX12 2) (hR : RetI X G cX12_term K) {x1 : Int32} {x2 : Int32} {x3 : Int32} {x4 : Int32} {s0 : Int32} {s1 : Int32} {M : Mem} (h : f_X12_term_b143 K x1 x2 x3 x4 s0 s1 M) : J X G M 143 [(0, .ref (ad G 287)), (1, .int x1), (2, .int x2), (3, .int x3), (4, .int x4)] [.int s0, .int s1, .ref (ad G 306)] := by
  unfold f_X12_term_b143 at h
  obtain ⟨hv12, h⟩ := h
  refine J.iast (q := 144) (c' := 306) (j := s1.toNatClampNeg) O dX12_term_143 rfl ar_306 hv12 rfl ?_
  refine J.aload_n (q := 145) O dX12_term_144 rfl 0 rfl ?_
  refine J.getR (q := 148) (c' := 287) (ci := 12) (k := 31) (r := 307) O dX12_term_145 rfl wd_6_103 (by decide) if_287_31 ?_
  refine J.iload_n (q := 149) O dX12_term_148 rfl 1 rfl ?_
  refine J.iload_n (q := 150) O dX12_term_149 rfl 2 rfl ?_
  refine J.iconst (q := 151) (v := (2 : Int32)) O dX12_term_150 rfl rfl ?_
  refine J.icmp_ne (q := 154) (tgt := 158) O dX12_term_151 rfl (by decide) (fun z13 => ?_) (fun z13 => ?_)
  · replace h := h.1 z13
    refine J.aload_n (q := 159) O dX12_term_158 rfl 0 rfl ?_
    refine J.getR (q := 162) (c' := 287) (ci := 12) (k := 31) (r := 307) O dX12_term_159 rfl wd_6_103 (by decide) if_287_31 ?_
    refine J.iload_n (q := 163) O dX12_term_162 rfl 1 rfl ?_
    obtain ⟨hv14, h⟩ := h
    refine J.iald (q := 164) (c' := 307) (j := x1.toNatClampNeg) (M 307 x1.toNatClampNeg) rfl O dX12_term_163 rfl ar_307 hv14 rfl ?_
    exact J.sub [4] rfl (j_X12_term_b164 hG O hR h)
  · replace h := h.2 z13
    refine J.iload_n (q := 155) O dX12_term_154 rfl 3 rfl ?_
    refine J.goto (q := 164) O dX12_term_155 (by decide) ?_
    exact J.sub [4] rfl (j_X12_term_b164 hG O hR h)
set_option maxHeartbeats 4000000 in
set_option maxRecDepth 20000 in
theorem j_X12_term_b122 {X : CX} {G : GX} {K : Int32 → Mem → Prop} (hG : Gd G) (O : Ok X G cX12_term 5 RX12 2) (hR : RetI X G cX12_term K) {x1 : Int32} {x2 : Int32} {x3 : Int32} {x4 : Int32} {s0 : Int32} {s1 : Int32} {M : Mem} (h : f_X12_term_b122 K x1 x2 x3 x4 s0 s1 M) : J X G M 122 [(0, .ref (ad G 287)), (1, .int x1), (2, .int x2), (3, .int x3), (4, .int x4)] [.int s0, .int s1, .ref (ad G 305)] := by
  unfold f_X12_term_b122 at h
  obtain ⟨hv15, h⟩ := h
  refine J.iast (q := 123) (c' := 305) (j := s1.toNatClampNeg) O dX12_term_122 rfl ar_305 hv15 rfl ?_
  refine J.aload_n (q := 124) O dX12_term_123 rfl 0 rfl ?_
  refine J.getR (q := 127) (c' := 287) (ci := 12) (k := 30) (r := 306) O dX12_term_124 rfl wd_6_102 (by decide) if_287_30 ?_
  refine J.iload_n (q := 128) O dX12_term_127 rfl 1 rfl ?_
  refine J.iload_n (q := 129) O dX12_term_128 rfl 2 rfl ?_
  refine J.iconst (q := 130) (v := (1 : Int32)) O dX12_term_129 rfl rfl ?_
  refine J.icmp_ne (q := 133) (tgt := 137) O dX12_term_130 rfl (by decide) (fun z16 => ?_) (fun z16 => ?_)
  · replace h := h.1 z16
    refine J.aload_n (q := 138) O dX12_term_137 rfl 0 rfl ?_
    refine J.getR (q := 141) (c' := 287) (ci := 12) (k := 30) (r := 306) O dX12_term_138 rfl wd_6_102 (by decide) if_287_30 ?_
    refine J.iload_n (q := 142) O dX12_term_141 rfl 1 rfl ?_
    obtain ⟨hv17, h⟩ := h
    refine J.iald (q := 143) (c' := 306) (j := x1.toNatClampNeg) (M 306 x1.toNatClampNeg) rfl O dX12_term_142 rfl ar_306 hv17 rfl ?_
    exact J.sub [0, 1, 2, 3, 4] rfl (j_X12_term_b143 hG O hR h)
  · replace h := h.2 z16
    refine J.iload_n (q := 134) O dX12_term_133 rfl 3 rfl ?_
    refine J.goto (q := 143) O dX12_term_134 (by decide) ?_
    exact J.sub [0, 1, 2, 3, 4] rfl (j_X12_term_b143 hG O hR h)
set_option maxHeartbeats 4000000 in
set_option maxRecDepth 20000 in
theorem j_X12_term_b101 {X : CX} {G : GX} {K : Int32 → Mem → Prop} (hG : Gd G) (O : Ok X G cX12_term 5 RX12 2) (hR : RetI X G cX12_term K) {x1 : Int32} {x2 : Int32} {x3 : Int32} {s0 : Int32} {M : Mem} (h : f_X12_term_b101 K x1 x2 x3 s0 M) : J X G M 101 [(0, .ref (ad G 287)), (1, .int x1), (2, .int x2), (3, .int x3)] [.int s0] := by
  unfold f_X12_term_b101 at h
  refine J.istore (q := 103) O dX12_term_101 rfl [(4, .int s0), (0, .ref (ad G 287)), (1, .int x1), (2, .int x2), (3, .int x3)] (by decide) rfl ?_
  refine J.aload_n (q := 104) O dX12_term_103 rfl 1 rfl ?_
  refine J.getR (q := 107) (c' := 287) (ci := 12) (k := 29) (r := 305) O dX12_term_104 rfl wd_6_101 (by decide) if_287_29 ?_
  refine J.iload_n (q := 108) O dX12_term_107 rfl 2 rfl ?_
  refine J.iload_n (q := 109) O dX12_term_108 rfl 3 rfl ?_
  refine J.if_ne (q := 112) (tgt := 116) O dX12_term_109 rfl (by decide) (fun z18 => ?_) (fun z18 => ?_)
  · replace h := h.1 z18
    refine J.aload_n (q := 117) O dX12_term_116 rfl 1 rfl ?_
    refine J.getR (q := 120) (c' := 287) (ci := 12) (k := 29) (r := 305) O dX12_term_117 rfl wd_6_101 (by decide) if_287_29 ?_
    refine J.iload_n (q := 121) O dX12_term_120 rfl 2 rfl ?_
    obtain ⟨hv19, h⟩ := h
    refine J.iald (q := 122) (c' := 305) (j := x1.toNatClampNeg) (M 305 x1.toNatClampNeg) rfl O dX12_term_121 rfl ar_305 hv19 rfl ?_
    exact J.sub [1, 2, 3, 4, 0] rfl (j_X12_term_b122 hG O hR h)
  · replace h := h.2 z18
    refine J.iload_n (q := 113) O dX12_term_112 rfl 4 rfl ?_
    refine J.goto (q := 122) O dX12_term_113 (by decide) ?_
    exact J.sub [1, 2, 3, 4, 0] rfl (j_X12_term_b122 hG O hR h)
set_option maxHeartbeats 4000000 in
set_option maxRecDepth 20000 in
theorem j_X12_term_b58 {X : CX} {G : GX} {K : Int32 → Mem → Prop} (hG : Gd G) (O : Ok X G cX12_term 5 RX12 2) (hR : RetI X G cX12_term K) {x1 : Int32} {x2 : Int32} {x3 : Int32} {s0 : Int32} {s1 : Int32} {M : Mem} (h : f_X12_term_b58 K x1 x2 x3 s0 s1 M) : J X G M 58 [(0, .ref (ad G 287)), (1, .int x1), (2, .int x2), (3, .int x3)] [.int s0, .int s1] := by
  unfold f_X12_term_b58 at h
  refine J.icmp_le (q := 61) (tgt := 68) O dX12_term_58 rfl (by decide) (fun z20 => ?_) (fun z20 => ?_)
  · replace h := h.1 z20
    refine J.iload_n (q := 69) O dX12_term_68 rfl 2 rfl ?_
    refine J.if_ne (q := 72) (tgt := 81) O dX12_term_69 rfl (by decide) (fun z21 => ?_) (fun z21 => ?_)
    · replace h := h.1 z21
      refine J.iload_n (q := 82) O dX12_term_81 rfl 2 rfl ?_
      refine J.iconst (q := 83) (v := (1 : Int32)) O dX12_term_82 rfl rfl ?_
      refine J.icmp_ne (q := 86) (tgt := 95) O dX12_term_83 rfl (by decide) (fun z22 => ?_) (fun z22 => ?_)
      · replace h := h.1 z22
        refine J.aload_n (q := 96) O dX12_term_95 rfl 0 rfl ?_
        refine J.getR (q := 99) (c' := 287) (ci := 12) (k := 31) (r := 307) O dX12_term_96 rfl wd_6_103 (by decide) if_287_31 ?_
        refine J.iload_n (q := 100) O dX12_term_99 rfl 1 rfl ?_
        obtain ⟨hv23, h⟩ := h
        refine J.iald (q := 101) (c' := 307) (j := x1.toNatClampNeg) (M 307 x1.toNatClampNeg) rfl O dX12_term_100 rfl ar_307 hv23 rfl ?_
        exact J.sub [0, 1, 2, 3] rfl (j_X12_term_b101 hG O hR h)
      · replace h := h.2 z22
        refine J.aload_n (q := 87) O dX12_term_86 rfl 0 rfl ?_
        refine J.getR (q := 90) (c' := 287) (ci := 12) (k := 30) (r := 306) O dX12_term_87 rfl wd_6_102 (by decide) if_287_30 ?_
        refine J.iload_n (q := 91) O dX12_term_90 rfl 1 rfl ?_
        obtain ⟨hv24, h⟩ := h
        refine J.iald (q := 92) (c' := 306) (j := x1.toNatClampNeg) (M 306 x1.toNatClampNeg) rfl O dX12_term_91 rfl ar_306 hv24 rfl ?_
        refine J.goto (q := 101) O dX12_term_92 (by decide) ?_
        exact J.sub [0, 1, 2, 3] rfl (j_X12_term_b101 hG O hR h)
    · replace h := h.2 z21
      refine J.aload_n (q := 73) O dX12_term_72 rfl 0 rfl ?_
      refine J.getR (q := 76) (c' := 287) (ci := 12) (k := 29) (r := 305) O dX12_term_73 rfl wd_6_101 (by decide) if_287_29 ?_
      refine J.iload_n (q := 77) O dX12_term_76 rfl 1 rfl ?_
      obtain ⟨hv25, h⟩ := h
      refine J.iald (q := 78) (c' := 305) (j := x1.toNatClampNeg) (M 305 x1.toNatClampNeg) rfl O dX12_term_77 rfl ar_305 hv25 rfl ?_
      refine J.goto (q := 101) O dX12_term_78 (by decide) ?_
      exact J.sub [0, 1, 2, 3] rfl (j_X12_term_b101 hG O hR h)
  · replace h := h.2 z20
    refine J.aload_n (q := 62) O dX12_term_61 rfl 0 rfl ?_
    refine J.bipush (q := 64) (v := (-6 : Int32)) O dX12_term_62 rfl rfl ?_
    refine J.callVI (q := 67) [.int (-6 : Int32)] [] [.int (-6 : Int32), .ref (ad G 287)] rfl O dX12_term_64 rfl (c_X12_refuse hG h) wd_7_158 mw_X12_refuse io_287 rfl (by decide) (Nat.le_of_ble_eq_true rfl) (fun v26 M26 h => ?_)
    exact hR _ _ _ _ dX12_term_67 h
set_option maxHeartbeats 4000000 in
set_option maxRecDepth 20000 in
theorem c_X12_term {l : Launch} {G : GX} (hG : Gd G) {a1 : Int32} {a2 : Int32} {a3 : Int32} {M : Mem} {K : Int32 → Mem → Prop} (h : f_X12_term a1 a2 a3 M K) : CI l G yX12_term cX12_term 5 (some .int) 2 [.ref (ad G 287), .int a1, .int a2, .int a3] M K := by
  unfold f_X12_term at h
  refine CI.mk hG (by decide) [(0, .ref (ad G 287)), (1, .int a1), (2, .int a2), (3, .int a3)] rfl (Nat.le_of_ble_eq_true rfl) (fun X O hlX hR => ?_)
  subst hlX
  refine J.iload_n (q := 1) O dX12_term_0 rfl 1 rfl ?_
  refine J.iconst (q := 2) (v := (0 : Int32)) O dX12_term_1 rfl rfl ?_
  refine J.iconst (q := 3) (v := (4 : Int32)) O dX12_term_2 rfl rfl ?_
  refine J.callSI (q := 6) [.int a1, .int (0 : Int32), .int (4 : Int32)] [] [.int (4 : Int32), .int (0 : Int32), .int a1] rfl O dX12_term_3 rfl (c_X12_in hG h) wd_7_181 mw_X12_in rfl (by decide) (Nat.le_of_ble_eq_true rfl) (fun v27 M27 h => ?_)
  refine J.if_eq (q := 9) (tgt := 18) O dX12_term_6 rfl (by decide) (fun z28 => ?_) (fun z28 => ?_)
  · replace h := h.1 z28
    exact J.sub [0] rfl (j_X12_term_b18 hG O hR h)
  · replace h := h.2 z28
    refine J.iload_n (q := 10) O dX12_term_9 rfl 2 rfl ?_
    refine J.iconst (q := 11) (v := (0 : Int32)) O dX12_term_10 rfl rfl ?_
    refine J.iconst (q := 12) (v := (2 : Int32)) O dX12_term_11 rfl rfl ?_
    refine J.callSI (q := 15) [.int a2, .int (0 : Int32), .int (2 : Int32)] [] [.int (2 : Int32), .int (0 : Int32), .int a2] rfl O dX12_term_12 rfl (c_X12_in hG h) wd_7_181 mw_X12_in rfl (by decide) (Nat.le_of_ble_eq_true rfl) (fun v29 M29 h => ?_)
    refine J.if_ne (q := 18) (tgt := 25) O dX12_term_15 rfl (by decide) (fun z30 => ?_) (fun z30 => ?_)
    · replace h := h.1 z30
      refine J.iload_n (q := 26) O dX12_term_25 rfl 3 rfl ?_
      refine J.if_ge (q := 29) (tgt := 36) O dX12_term_26 rfl (by decide) (fun z31 => ?_) (fun z31 => ?_)
      · replace h := h.1 z31
        refine J.iload_n (q := 37) O dX12_term_36 rfl 3 rfl ?_
        refine J.iload_n (q := 38) O dX12_term_37 rfl 2 rfl ?_
        refine J.if_ne (q := 41) (tgt := 47) O dX12_term_38 rfl (by decide) (fun z32 => ?_) (fun z32 => ?_)
        · replace h := h.1 z32
          refine J.iload_n (q := 48) O dX12_term_47 rfl 2 rfl ?_
          refine J.iconst (q := 49) (v := (1 : Int32)) O dX12_term_48 rfl rfl ?_
          refine J.icmp_ne (q := 52) (tgt := 57) O dX12_term_49 rfl (by decide) (fun z33 => ?_) (fun z33 => ?_)
          · replace h := h.1 z33
            refine J.iconst (q := 58) (v := (1 : Int32)) O dX12_term_57 rfl rfl ?_
            exact J.sub [0, 1, 2, 3] rfl (j_X12_term_b58 hG O hR h)
          · replace h := h.2 z33
            refine J.bipush (q := 54) (v := (30 : Int32)) O dX12_term_52 rfl rfl ?_
            refine J.goto (q := 58) O dX12_term_54 (by decide) ?_
            exact J.sub [0, 1, 2, 3] rfl (j_X12_term_b58 hG O hR h)
        · replace h := h.2 z32
          refine J.sipush (q := 44) (v := (255 : Int32)) O dX12_term_41 rfl rfl ?_
          refine J.goto (q := 58) O dX12_term_44 (by decide) ?_
          exact J.sub [0, 1, 2, 3] rfl (j_X12_term_b58 hG O hR h)
      · replace h := h.2 z31
        refine J.aload_n (q := 30) O dX12_term_29 rfl 0 rfl ?_
        refine J.bipush (q := 32) (v := (-4 : Int32)) O dX12_term_30 rfl rfl ?_
        refine J.callVI (q := 35) [.int (-4 : Int32)] [] [.int (-4 : Int32), .ref (ad G 287)] rfl O dX12_term_32 rfl (c_X12_refuse hG h) wd_7_158 mw_X12_refuse io_287 rfl (by decide) (Nat.le_of_ble_eq_true rfl) (fun v34 M34 h => ?_)
        exact hR _ _ _ _ dX12_term_35 h
    · replace h := h.2 z30
      exact J.sub [0] rfl (j_X12_term_b18 hG O hR h)
set_option maxHeartbeats 4000000 in
set_option maxRecDepth 20000 in
theorem j_X12_open_b137 {X : CX} {G : GX} {K : Int32 → Mem → Prop} (hG : Gd G) (O : Ok X G cX12_open 7 RX12 7) (hR : RetI X G cX12_open K) {x6 : Int32} {s0 : Int32} {s1 : Int32} {M : Mem} (h : f_X12_open_b137 K x6 s0 s1 M) : J X G M 137 [(0, .ref (ad G 287)), (6, .int x6)] [.int s0, .int s1, .ref (ad G 312)] := by
  unfold f_X12_open_b137 at h
  obtain ⟨hv13, h⟩ := h
  refine J.iast (q := 138) (c' := 312) (j := s1.toNatClampNeg) O dX12_open_137 rfl ar_312 hv13 rfl ?_
  refine J.aload_n (q := 139) O dX12_open_138 rfl 0 rfl ?_
  refine J.getR (q := 142) (c' := 287) (ci := 12) (k := 38) (r := 313) O dX12_open_139 rfl wd_6_110 (by decide) if_287_38 ?_
  refine J.aload_n (q := 143) O dX12_open_142 rfl 0 rfl ?_
  refine J.getI (q := 146) (c' := 287) (ci := 12) (k := 32) (M 287 32) rfl O dX12_open_143 rfl wd_6_104 (by decide) if_287_32 ?_
  refine J.aload_n (q := 147) O dX12_open_146 rfl 0 rfl ?_
  refine J.getI (q := 150) (c' := 287) (ci := 12) (k := 0) (M 287 0) rfl O dX12_open_147 rfl wd_6_72 (by decide) if_287_0 ?_
  obtain ⟨hv14, h⟩ := h
  refine J.iast (q := 151) (c' := 313) (j := (M 287 32).toNatClampNeg) O dX12_open_150 rfl ar_313 hv14 rfl ?_
  refine J.aload_n (q := 152) O dX12_open_151 rfl 0 rfl ?_
  refine J.getR (q := 155) (c' := 287) (ci := 12) (k := 39) (r := 314) O dX12_open_152 rfl wd_6_111 (by decide) if_287_39 ?_
  refine J.aload_n (q := 156) O dX12_open_155 rfl 0 rfl ?_
  refine J.getI (q := 159) (c' := 287) (ci := 12) (k := 32) (M 287 32) rfl O dX12_open_156 rfl wd_6_104 (by decide) if_287_32 ?_
  refine J.aload_n (q := 160) O dX12_open_159 rfl 0 rfl ?_
  refine J.getR (q := 163) (c' := 287) (ci := 12) (k := 29) (r := 305) O dX12_open_160 rfl wd_6_101 (by decide) if_287_29 ?_
  refine J.iload (q := 165) O dX12_open_163 rfl 1 rfl ?_
  obtain ⟨hv15, h⟩ := h
  refine J.iald (q := 166) (c' := 305) (j := x6.toNatClampNeg) (M 305 x6.toNatClampNeg) rfl O dX12_open_165 rfl ar_305 hv15 rfl ?_
  obtain ⟨hv16, h⟩ := h
  refine J.iast (q := 167) (c' := 314) (j := (M 287 32).toNatClampNeg) O dX12_open_166 rfl ar_314 hv16 rfl ?_
  refine J.aload_n (q := 168) O dX12_open_167 rfl 0 rfl ?_
  refine J.getR (q := 171) (c' := 287) (ci := 12) (k := 40) (r := 315) O dX12_open_168 rfl wd_6_112 (by decide) if_287_40 ?_
  refine J.aload_n (q := 172) O dX12_open_171 rfl 0 rfl ?_
  refine J.getI (q := 175) (c' := 287) (ci := 12) (k := 32) (M 287 32) rfl O dX12_open_172 rfl wd_6_104 (by decide) if_287_32 ?_
  refine J.aload_n (q := 176) O dX12_open_175 rfl 0 rfl ?_
  refine J.getR (q := 179) (c' := 287) (ci := 12) (k := 30) (r := 306) O dX12_open_176 rfl wd_6_102 (by decide) if_287_30 ?_
  refine J.iload (q := 181) O dX12_open_179 rfl 1 rfl ?_
  obtain ⟨hv17, h⟩ := h
  refine J.iald (q := 182) (c' := 306) (j := x6.toNatClampNeg) (M 306 x6.toNatClampNeg) rfl O dX12_open_181 rfl ar_306 hv17 rfl ?_
  obtain ⟨hv18, h⟩ := h
  refine J.iast (q := 183) (c' := 315) (j := (M 287 32).toNatClampNeg) O dX12_open_182 rfl ar_315 hv18 rfl ?_
  refine J.aload_n (q := 184) O dX12_open_183 rfl 0 rfl ?_
  refine J.getR (q := 187) (c' := 287) (ci := 12) (k := 41) (r := 316) O dX12_open_184 rfl wd_6_113 (by decide) if_287_41 ?_
  refine J.aload_n (q := 188) O dX12_open_187 rfl 0 rfl ?_
  refine J.getI (q := 191) (c' := 287) (ci := 12) (k := 32) (M 287 32) rfl O dX12_open_188 rfl wd_6_104 (by decide) if_287_32 ?_
  refine J.aload_n (q := 192) O dX12_open_191 rfl 0 rfl ?_
  refine J.getR (q := 195) (c' := 287) (ci := 12) (k := 31) (r := 307) O dX12_open_192 rfl wd_6_103 (by decide) if_287_31 ?_
  refine J.iload (q := 197) O dX12_open_195 rfl 1 rfl ?_
  obtain ⟨hv19, h⟩ := h
  refine J.iald (q := 198) (c' := 307) (j := x6.toNatClampNeg) (M 307 x6.toNatClampNeg) rfl O dX12_open_197 rfl ar_307 hv19 rfl ?_
  obtain ⟨hv20, h⟩ := h
  refine J.iast (q := 199) (c' := 316) (j := (M 287 32).toNatClampNeg) O dX12_open_198 rfl ar_316 hv20 rfl ?_
  refine J.aload_n (q := 200) O dX12_open_199 rfl 0 rfl ?_
  refine J.dup (q := 201) O dX12_open_200 rfl rfl ?_
  refine J.getI (q := 204) (c' := 287) (ci := 12) (k := 32) (M 287 32) rfl O dX12_open_201 rfl wd_6_104 (by decide) if_287_32 ?_
  refine J.iconst (q := 205) (v := (1 : Int32)) O dX12_open_204 rfl rfl ?_
  refine J.iadd (q := 206) O dX12_open_205 rfl ?_
  refine J.putI (q := 209) (c' := 287) (ci := 12) (k := 32) O dX12_open_206 rfl wd_6_104 (by decide) if_287_32 rfl rfl ?_
  refine J.aload_n (q := 210) O dX12_open_209 rfl 0 rfl ?_
  refine J.getI (q := 213) (c' := 287) (ci := 12) (k := 32) ((M 287 32) + (1 : Int32)) rfl O dX12_open_210 rfl wd_6_104 (by decide) if_287_32 ?_
  refine J.iconst (q := 214) (v := (1 : Int32)) O dX12_open_213 rfl rfl ?_
  refine J.isub (q := 215) O dX12_open_214 rfl ?_
  exact hR _ _ _ _ dX12_open_215 h
set_option maxHeartbeats 4000000 in
set_option maxRecDepth 20000 in
theorem j_X12_open_b74 {X : CX} {G : GX} {K : Int32 → Mem → Prop} (hG : Gd G) (O : Ok X G cX12_open 7 RX12 7) (hR : RetI X G cX12_open K) {x1 : Int32} {x2 : Int32} {x3 : Int32} {x5 : Int32} {s0 : Int32} {M : Mem} (h : f_X12_open_b74 K x1 x2 x3 x5 s0 M) : J X G M 74 [(0, .ref (ad G 287)), (1, .int x1), (2, .int x2), (3, .int x3), (5, .int x5)] [.int s0] := by
  unfold f_X12_open_b74 at h
  refine J.istore (q := 76) O dX12_open_74 rfl [(6, .int s0), (0, .ref (ad G 287)), (1, .int x1), (2, .int x2), (3, .int x3), (5, .int x5)] (by decide) rfl ?_
  refine J.aload_n (q := 77) O dX12_open_76 rfl 1 rfl ?_
  refine J.getR (q := 80) (c' := 287) (ci := 12) (k := 33) (r := 308) O dX12_open_77 rfl wd_6_105 (by decide) if_287_33 ?_
  refine J.aload_n (q := 81) O dX12_open_80 rfl 1 rfl ?_
  refine J.getI (q := 84) (c' := 287) (ci := 12) (k := 32) (M 287 32) rfl O dX12_open_81 rfl wd_6_104 (by decide) if_287_32 ?_
  refine J.iload_n (q := 85) O dX12_open_84 rfl 2 rfl ?_
  obtain ⟨hv21, h⟩ := h
  refine J.iast (q := 86) (c' := 308) (j := (M 287 32).toNatClampNeg) O dX12_open_85 rfl ar_308 hv21 rfl ?_
  refine J.aload_n (q := 87) O dX12_open_86 rfl 1 rfl ?_
  refine J.getR (q := 90) (c' := 287) (ci := 12) (k := 34) (r := 309) O dX12_open_87 rfl wd_6_106 (by decide) if_287_34 ?_
  refine J.aload_n (q := 91) O dX12_open_90 rfl 1 rfl ?_
  refine J.getI (q := 94) (c' := 287) (ci := 12) (k := 32) (M 287 32) rfl O dX12_open_91 rfl wd_6_104 (by decide) if_287_32 ?_
  refine J.iload_n (q := 95) O dX12_open_94 rfl 3 rfl ?_
  obtain ⟨hv22, h⟩ := h
  refine J.iast (q := 96) (c' := 309) (j := (M 287 32).toNatClampNeg) O dX12_open_95 rfl ar_309 hv22 rfl ?_
  refine J.aload_n (q := 97) O dX12_open_96 rfl 1 rfl ?_
  refine J.getR (q := 100) (c' := 287) (ci := 12) (k := 35) (r := 310) O dX12_open_97 rfl wd_6_107 (by decide) if_287_35 ?_
  refine J.aload_n (q := 101) O dX12_open_100 rfl 1 rfl ?_
  refine J.getI (q := 104) (c' := 287) (ci := 12) (k := 32) (M 287 32) rfl O dX12_open_101 rfl wd_6_104 (by decide) if_287_32 ?_
  refine J.iload_n (q := 105) O dX12_open_104 rfl 4 rfl ?_
  obtain ⟨hv23, h⟩ := h
  refine J.iast (q := 106) (c' := 310) (j := (M 287 32).toNatClampNeg) O dX12_open_105 rfl ar_310 hv23 rfl ?_
  refine J.aload_n (q := 107) O dX12_open_106 rfl 1 rfl ?_
  refine J.getR (q := 110) (c' := 287) (ci := 12) (k := 36) (r := 311) O dX12_open_107 rfl wd_6_108 (by decide) if_287_36 ?_
  refine J.aload_n (q := 111) O dX12_open_110 rfl 1 rfl ?_
  refine J.getI (q := 114) (c' := 287) (ci := 12) (k := 32) (M 287 32) rfl O dX12_open_111 rfl wd_6_104 (by decide) if_287_32 ?_
  refine J.iload (q := 116) O dX12_open_114 rfl 0 rfl ?_
  obtain ⟨hv24, h⟩ := h
  refine J.iast (q := 117) (c' := 311) (j := (M 287 32).toNatClampNeg) O dX12_open_116 rfl ar_311 hv24 rfl ?_
  refine J.aload_n (q := 118) O dX12_open_117 rfl 1 rfl ?_
  refine J.getR (q := 121) (c' := 287) (ci := 12) (k := 37) (r := 312) O dX12_open_118 rfl wd_6_109 (by decide) if_287_37 ?_
  refine J.aload_n (q := 122) O dX12_open_121 rfl 1 rfl ?_
  refine J.getI (q := 125) (c' := 287) (ci := 12) (k := 32) (M 287 32) rfl O dX12_open_122 rfl wd_6_104 (by decide) if_287_32 ?_
  refine J.iload (q := 127) O dX12_open_125 rfl 5 rfl ?_
  refine J.if_ge (q := 130) (tgt := 135) O dX12_open_127 rfl (by decide) (fun z25 => ?_) (fun z25 => ?_)
  · replace h := h.1 z25
    refine J.iload (q := 137) O dX12_open_135 rfl 5 rfl ?_
    exact J.sub [1, 0] rfl (j_X12_open_b137 hG O hR h)
  · replace h := h.2 z25
    refine J.bipush (q := 132) (v := (-9 : Int32)) O dX12_open_130 rfl rfl ?_
    refine J.goto (q := 137) O dX12_open_132 (by decide) ?_
    exact J.sub [1, 0] rfl (j_X12_open_b137 hG O hR h)
set_option maxHeartbeats 4000000 in
set_option maxRecDepth 20000 in
theorem c_X12_open {l : Launch} {G : GX} (hG : Gd G) {a1 : Int32} {a2 : Int32} {a3 : Int32} {a4 : Int32} {M : Mem} {K : Int32 → Mem → Prop} (h : f_X12_open a1 a2 a3 a4 M K) : CI l G yX12_open cX12_open 7 (some .int) 7 [.ref (ad G 287), .int a1, .int a2, .int a3, .int a4] M K := by
  unfold f_X12_open at h
  refine CI.mk hG (by decide) [(0, .ref (ad G 287)), (1, .int a1), (2, .int a2), (3, .int a3), (4, .int a4)] rfl (Nat.le_of_ble_eq_true rfl) (fun X O hlX hR => ?_)
  subst hlX
  refine J.iload_n (q := 1) O dX12_open_0 rfl 1 rfl ?_
  refine J.callSI (q := 4) [.int a1] [] [.int a1] rfl O dX12_open_1 rfl (c_X12_isWhat hG h) wd_8_9 mw_X12_isWhat rfl (by decide) (Nat.le_of_ble_eq_true rfl) (fun v26 M26 h => ?_)
  refine J.if_ne (q := 7) (tgt := 14) O dX12_open_4 rfl (by decide) (fun z27 => ?_) (fun z27 => ?_)
  · replace h := h.1 z27
    refine J.iload_n (q := 15) O dX12_open_14 rfl 2 rfl ?_
    refine J.iload_n (q := 16) O dX12_open_15 rfl 3 rfl ?_
    refine J.callSI (q := 19) [.int a2, .int a3] [] [.int a3, .int a2] rfl O dX12_open_16 rfl (c_X12_wrongSums hG h) wd_8_12 mw_X12_wrongSums rfl (by decide) (Nat.le_of_ble_eq_true rfl) (fun v28 M28 h => ?_)
    refine J.if_ge (q := 22) (tgt := 32) O dX12_open_19 rfl (by decide) (fun z29 => ?_) (fun z29 => ?_)
    · replace h := h.1 z29
      refine J.aload_n (q := 33) O dX12_open_32 rfl 0 rfl ?_
      refine J.getI (q := 36) (c' := 287) (ci := 12) (k := 32) (M28 287 32) rfl O dX12_open_33 rfl wd_6_104 (by decide) if_287_32 ?_
      refine J.bipush (q := 38) (v := (40 : Int32)) O dX12_open_36 rfl rfl ?_
      refine J.icmp_ne (q := 41) (tgt := 48) O dX12_open_38 rfl (by decide) (fun z30 => ?_) (fun z30 => ?_)
      · replace h := h.1 z30
        refine J.aload_n (q := 49) O dX12_open_48 rfl 0 rfl ?_
        refine J.iload_n (q := 50) O dX12_open_49 rfl 1 rfl ?_
        refine J.iload_n (q := 51) O dX12_open_50 rfl 2 rfl ?_
        refine J.iload_n (q := 52) O dX12_open_51 rfl 3 rfl ?_
        refine J.iload (q := 54) O dX12_open_52 rfl 4 rfl ?_
        refine J.callVI (q := 57) [.int a1, .int a2, .int a3, .int a4] [] [.int a4, .int a3, .int a2, .int a1, .ref (ad G 287)] rfl O dX12_open_54 rfl (c_X12_givingAct hG h) wd_8_15 mw_X12_givingAct io_287 rfl (by decide) (Nat.le_of_ble_eq_true rfl) (fun v31 M31 h => ?_)
        refine J.istore (q := 59) O dX12_open_57 rfl [(5, .int v31), (0, .ref (ad G 287)), (1, .int a1), (2, .int a2), (3, .int a3), (4, .int a4)] (by decide) rfl ?_
        refine J.iload (q := 61) O dX12_open_59 rfl 0 rfl ?_
        refine J.if_ge (q := 64) (tgt := 68) O dX12_open_61 rfl (by decide) (fun z32 => ?_) (fun z32 => ?_)
        · replace h := h.1 z32
          refine J.aload_n (q := 69) O dX12_open_68 rfl 1 rfl ?_
          refine J.iload (q := 71) O dX12_open_69 rfl 0 rfl ?_
          refine J.callVI (q := 74) [.int v31] [] [.int v31, .ref (ad G 287)] rfl O dX12_open_71 rfl (c_X12_kindIn hG h) wd_8_26 mw_X12_kindIn io_287 rfl (by decide) (Nat.le_of_ble_eq_true rfl) (fun v33 M33 h => ?_)
          exact J.sub [1, 2, 3, 4, 0] rfl (j_X12_open_b74 hG O hR h)
        · replace h := h.2 z32
          refine J.iconst (q := 65) (v := (0 : Int32)) O dX12_open_64 rfl rfl ?_
          refine J.goto (q := 74) O dX12_open_65 (by decide) ?_
          exact J.sub [1, 2, 3, 4, 0] rfl (j_X12_open_b74 hG O hR h)
      · replace h := h.2 z30
        refine J.aload_n (q := 42) O dX12_open_41 rfl 0 rfl ?_
        refine J.bipush (q := 44) (v := (-6 : Int32)) O dX12_open_42 rfl rfl ?_
        refine J.callVI (q := 47) [.int (-6 : Int32)] [] [.int (-6 : Int32), .ref (ad G 287)] rfl O dX12_open_44 rfl (c_X12_refuse hG h) wd_7_158 mw_X12_refuse io_287 rfl (by decide) (Nat.le_of_ble_eq_true rfl) (fun v34 M34 h => ?_)
        exact hR _ _ _ _ dX12_open_47 h
    · replace h := h.2 z29
      refine J.aload_n (q := 23) O dX12_open_22 rfl 0 rfl ?_
      refine J.iload_n (q := 24) O dX12_open_23 rfl 2 rfl ?_
      refine J.iload_n (q := 25) O dX12_open_24 rfl 3 rfl ?_
      refine J.callSI (q := 28) [.int a2, .int a3] [.ref (ad G 287)] [.int a3, .int a2, .ref (ad G 287)] rfl O dX12_open_25 rfl (c_X12_wrongSums hG h) wd_8_12 mw_X12_wrongSums rfl (by decide) (Nat.le_of_ble_eq_true rfl) (fun v35 M35 h => ?_)
      refine J.callVI (q := 31) [.int v35] [] [.int v35, .ref (ad G 287)] rfl O dX12_open_28 rfl (c_X12_refuse hG h) wd_7_158 mw_X12_refuse io_287 rfl (by decide) (Nat.le_of_ble_eq_true rfl) (fun v36 M36 h => ?_)
      exact hR _ _ _ _ dX12_open_31 h
  · replace h := h.2 z27
    refine J.aload_n (q := 8) O dX12_open_7 rfl 0 rfl ?_
    refine J.bipush (q := 10) (v := (-2 : Int32)) O dX12_open_8 rfl rfl ?_
    refine J.callVI (q := 13) [.int (-2 : Int32)] [] [.int (-2 : Int32), .ref (ad G 287)] rfl O dX12_open_10 rfl (c_X12_refuse hG h) wd_7_158 mw_X12_refuse io_287 rfl (by decide) (Nat.le_of_ble_eq_true rfl) (fun v37 M37 h => ?_)
    exact hR _ _ _ _ dX12_open_13 h
set_option maxHeartbeats 4000000 in
set_option maxRecDepth 20000 in
theorem c_X12_isMatter {l : Launch} {G : GX} (hG : Gd G) {a1 : Int32} {M : Mem} {K : Int32 → Mem → Prop} (h : f_X12_isMatter a1 M K) : CI l G yX12_isMatter cX12_isMatter 2 (some .boolean) 2 [.ref (ad G 287), .int a1] M K := by
  unfold f_X12_isMatter at h
  refine CZ.mk hG (by decide) [(0, .ref (ad G 287)), (1, .int a1)] rfl (Nat.le_of_ble_eq_true rfl) (fun X O hlX hR => ?_)
  subst hlX
  refine J.iload_n (q := 1) O dX12_isMatter_0 rfl 1 rfl ?_
  refine J.iconst (q := 2) (v := (0 : Int32)) O dX12_isMatter_1 rfl rfl ?_
  refine J.aload_n (q := 3) O dX12_isMatter_2 rfl 0 rfl ?_
  refine J.getI (q := 6) (c' := 287) (ci := 12) (k := 32) (M 287 32) rfl O dX12_isMatter_3 rfl wd_6_104 (by decide) if_287_32 ?_
  refine J.iconst (q := 7) (v := (1 : Int32)) O dX12_isMatter_6 rfl rfl ?_
  refine J.isub (q := 8) O dX12_isMatter_7 rfl ?_
  refine J.callSI (q := 11) [.int a1, .int (0 : Int32), .int ((M 287 32) - (1 : Int32))] [] [.int ((M 287 32) - (1 : Int32)), .int (0 : Int32), .int a1] rfl O dX12_isMatter_8 rfl (c_X12_in hG h) wd_7_181 mw_X12_in rfl (by decide) (Nat.le_of_ble_eq_true rfl) (fun v1 M1 h => ?_)
  exact hR _ _ _ _ dX12_isMatter_11 h.1 h.2
set_option maxHeartbeats 4000000 in
set_option maxRecDepth 20000 in
theorem c_X12_tell {l : Launch} {G : GX} (hG : Gd G) {a1 : Int32} {a2 : Int32} {a3 : Int32} {a4 : Int32} {M : Mem} {K : Mem → Prop} (h : f_X12_tell a1 a2 a3 a4 M K) : CV l G yX12_tell cX12_tell 6 1 [.ref (ad G 287), .int a1, .int a2, .int a3, .int a4] M K := by
  unfold f_X12_tell at h
  refine CV.mk hG (by decide) [(0, .ref (ad G 287)), (1, .int a1), (2, .int a2), (3, .int a3), (4, .int a4)] rfl (Nat.le_of_ble_eq_true rfl) (fun X O hlX hR => ?_)
  subst hlX
  refine J.bipush (q := 2) (v := (30 : Int32)) O dX12_tell_0 rfl rfl ?_
  refine J.iload_n (q := 3) O dX12_tell_2 rfl 1 rfl ?_
  refine J.imul (q := 4) O dX12_tell_3 rfl ?_
  refine J.aload_n (q := 5) O dX12_tell_4 rfl 0 rfl ?_
  refine J.getR (q := 8) (c' := 287) (ci := 12) (k := 42) (r := 317) O dX12_tell_5 rfl wd_6_114 (by decide) if_287_42 ?_
  refine J.iload_n (q := 9) O dX12_tell_8 rfl 1 rfl ?_
  obtain ⟨hv8, h⟩ := h
  refine J.iald (q := 10) (c' := 317) (j := a1.toNatClampNeg) (M 317 a1.toNatClampNeg) rfl O dX12_tell_9 rfl ar_317 hv8 rfl ?_
  refine J.iadd (q := 11) O dX12_tell_10 rfl ?_
  refine J.istore (q := 13) O dX12_tell_11 rfl [(5, .int (((30 : Int32) * a1) + (M 317 a1.toNatClampNeg))), (0, .ref (ad G 287)), (1, .int a1), (2, .int a2), (3, .int a3), (4, .int a4)] (by decide) rfl ?_
  refine J.aload_n (q := 14) O dX12_tell_13 rfl 1 rfl ?_
  refine J.getR (q := 17) (c' := 287) (ci := 12) (k := 43) (r := 318) O dX12_tell_14 rfl wd_6_115 (by decide) if_287_43 ?_
  refine J.iload (q := 19) O dX12_tell_17 rfl 0 rfl ?_
  refine J.iload_n (q := 20) O dX12_tell_19 rfl 3 rfl ?_
  obtain ⟨hv9, h⟩ := h
  refine J.iast (q := 21) (c' := 318) (j := (((30 : Int32) * a1) + (M 317 a1.toNatClampNeg)).toNatClampNeg) O dX12_tell_20 rfl ar_318 hv9 rfl ?_
  refine J.aload_n (q := 22) O dX12_tell_21 rfl 1 rfl ?_
  refine J.getR (q := 25) (c' := 287) (ci := 12) (k := 44) (r := 319) O dX12_tell_22 rfl wd_6_116 (by decide) if_287_44 ?_
  refine J.iload (q := 27) O dX12_tell_25 rfl 0 rfl ?_
  refine J.aload_n (q := 28) O dX12_tell_27 rfl 1 rfl ?_
  refine J.getI (q := 31) (c' := 287) (ci := 12) (k := 0) (M 287 0) rfl O dX12_tell_28 rfl wd_6_72 (by decide) if_287_0 ?_
  obtain ⟨hv10, h⟩ := h
  refine J.iast (q := 32) (c' := 319) (j := (((30 : Int32) * a1) + (M 317 a1.toNatClampNeg)).toNatClampNeg) O dX12_tell_31 rfl ar_319 hv10 rfl ?_
  refine J.aload_n (q := 33) O dX12_tell_32 rfl 1 rfl ?_
  refine J.getR (q := 36) (c' := 287) (ci := 12) (k := 45) (r := 320) O dX12_tell_33 rfl wd_6_117 (by decide) if_287_45 ?_
  refine J.iload (q := 38) O dX12_tell_36 rfl 0 rfl ?_
  refine J.iload_n (q := 39) O dX12_tell_38 rfl 4 rfl ?_
  obtain ⟨hv11, h⟩ := h
  refine J.iast (q := 40) (c' := 320) (j := (((30 : Int32) * a1) + (M 317 a1.toNatClampNeg)).toNatClampNeg) O dX12_tell_39 rfl ar_320 hv11 rfl ?_
  refine J.aload_n (q := 41) O dX12_tell_40 rfl 1 rfl ?_
  refine J.getR (q := 44) (c' := 287) (ci := 12) (k := 46) (r := 321) O dX12_tell_41 rfl wd_6_118 (by decide) if_287_46 ?_
  refine J.iload (q := 46) O dX12_tell_44 rfl 0 rfl ?_
  refine J.iload (q := 48) O dX12_tell_46 rfl 5 rfl ?_
  obtain ⟨hv12, h⟩ := h
  refine J.iast (q := 49) (c' := 321) (j := (((30 : Int32) * a1) + (M 317 a1.toNatClampNeg)).toNatClampNeg) O dX12_tell_48 rfl ar_321 hv12 rfl ?_
  refine J.aload_n (q := 50) O dX12_tell_49 rfl 1 rfl ?_
  refine J.getR (q := 53) (c' := 287) (ci := 12) (k := 42) (r := 317) O dX12_tell_50 rfl wd_6_114 (by decide) if_287_42 ?_
  refine J.iload_n (q := 54) O dX12_tell_53 rfl 2 rfl ?_
  refine J.dup2 (q := 55) O dX12_tell_54 rfl rfl rfl ?_
  obtain ⟨hv13, h⟩ := h
  refine J.iald (q := 56) (c' := 317) (j := a1.toNatClampNeg) (M 317 a1.toNatClampNeg) rfl O dX12_tell_55 rfl ar_317 hv13 rfl ?_
  refine J.iconst (q := 57) (v := (1 : Int32)) O dX12_tell_56 rfl rfl ?_
  refine J.iadd (q := 58) O dX12_tell_57 rfl ?_
  obtain ⟨hv14, h⟩ := h
  refine J.iast (q := 59) (c' := 317) (j := a1.toNatClampNeg) O dX12_tell_58 rfl ar_317 hv14 rfl ?_
  exact hR _ _ _ dX12_tell_59 h
set_option maxHeartbeats 4000000 in
set_option maxRecDepth 20000 in
theorem j_X12_isWithdrawn_b55 {X : CX} {G : GX} {K : Int32 → Mem → Prop} (hG : Gd G) (O : Ok X G cX12_isWithdrawn 5 RX12 1) (hR : RetZ X G cX12_isWithdrawn K) {r8 : Int32 × Int32 × Int32 × Int32 × Mem → Prop} (hr8 : ∀ a : Int32 × Int32 × Int32 × Int32 × Mem, r8 a → J X G a.2.2.2.2 8 [(0, .ref (ad G 287)), (1, .int a.1), (2, .int a.2.1), (3, .int a.2.2.1), (4, .int a.2.2.2.1)] []) {x1 : Int32} {x2 : Int32} {x4 : Int32} {s0 : Int32} {M : Mem} (h : f_X12_isWithdrawn_b55 r8 K x1 x2 x4 s0 M) : J X G M 55 [(0, .ref (ad G 287)), (1, .int x1), (2, .int x2), (4, .int x4)] [.int s0] := by
  unfold f_X12_isWithdrawn_b55 at h
  refine J.istore_n (q := 56) O dX12_isWithdrawn_55 rfl [(3, .int s0), (0, .ref (ad G 287)), (1, .int x1), (2, .int x2), (4, .int x4)] (by decide) rfl ?_
  refine J.iinc (q := 59) O dX12_isWithdrawn_56 rfl [(4, .int (x4 + (1 : Int32))), (3, .int s0), (0, .ref (ad G 287)), (1, .int x1), (2, .int x2)] 4 rfl rfl (by decide) rfl ?_
  refine J.goto (q := 8) O dX12_isWithdrawn_59 (by decide) ?_
  exact J.sub [2, 3, 4, 1, 0] rfl (hr8 _ h)
set_option maxHeartbeats 4000000 in
set_option maxRecDepth 20000 in
theorem j_X12_isWithdrawn_b50 {X : CX} {G : GX} {K : Int32 → Mem → Prop} (hG : Gd G) (O : Ok X G cX12_isWithdrawn 5 RX12 1) (hR : RetZ X G cX12_isWithdrawn K) {r8 : Int32 × Int32 × Int32 × Int32 × Mem → Prop} (hr8 : ∀ a : Int32 × Int32 × Int32 × Int32 × Mem, r8 a → J X G a.2.2.2.2 8 [(0, .ref (ad G 287)), (1, .int a.1), (2, .int a.2.1), (3, .int a.2.2.1), (4, .int a.2.2.2.1)] []) {x1 : Int32} {x2 : Int32} {x4 : Int32} {M : Mem} (h : f_X12_isWithdrawn_b50 r8 K x1 x2 x4 M) : J X G M 50 [(0, .ref (ad G 287)), (1, .int x1), (2, .int x2), (4, .int x4)] [] := by
  unfold f_X12_isWithdrawn_b50 at h
  refine J.iconst (q := 51) (v := (1 : Int32)) O dX12_isWithdrawn_50 rfl rfl ?_
  refine J.goto (q := 55) O dX12_isWithdrawn_51 (by decide) ?_
  exact J.sub [0, 1, 2, 3] rfl (j_X12_isWithdrawn_b55 hG O hR hr8 h)
set_option maxHeartbeats 4000000 in
set_option maxRecDepth 20000 in
theorem j_X12_isWithdrawn_b54 {X : CX} {G : GX} {K : Int32 → Mem → Prop} (hG : Gd G) (O : Ok X G cX12_isWithdrawn 5 RX12 1) (hR : RetZ X G cX12_isWithdrawn K) {r8 : Int32 × Int32 × Int32 × Int32 × Mem → Prop} (hr8 : ∀ a : Int32 × Int32 × Int32 × Int32 × Mem, r8 a → J X G a.2.2.2.2 8 [(0, .ref (ad G 287)), (1, .int a.1), (2, .int a.2.1), (3, .int a.2.2.1), (4, .int a.2.2.2.1)] []) {x1 : Int32} {x2 : Int32} {x4 : Int32} {M : Mem} (h : f_X12_isWithdrawn_b54 r8 K x1 x2 x4 M) : J X G M 54 [(0, .ref (ad G 287)), (1, .int x1), (2, .int x2), (4, .int x4)] [] := by
  unfold f_X12_isWithdrawn_b54 at h
  refine J.iconst (q := 55) (v := (0 : Int32)) O dX12_isWithdrawn_54 rfl rfl ?_
  exact J.sub [0, 1, 2, 3] rfl (j_X12_isWithdrawn_b55 hG O hR hr8 h)
set_option maxHeartbeats 4000000 in
set_option maxRecDepth 20000 in
theorem j_X12_isWithdrawn_c8 {X : CX} {G : GX} {K : Int32 → Mem → Prop} (hG : Gd G) (O : Ok X G cX12_isWithdrawn 5 RX12 1) (hR : RetZ X G cX12_isWithdrawn K) {a : Int32 × Int32 × Int32 × Int32 × Mem} (h : Lp (fun (r8 : Int32 × Int32 × Int32 × Int32 × Mem → Prop) a => f_X12_isWithdrawn_c8 K r8 a.1 a.2.1 a.2.2.1 a.2.2.2.1 a.2.2.2.2) a) : J X G a.2.2.2.2 8 [(0, .ref (ad G 287)), (1, .int a.1), (2, .int a.2.1), (3, .int a.2.2.1), (4, .int a.2.2.2.1)] [] := by
  refine Lp.elim (P := fun a => J X G a.2.2.2.2 8 [(0, .ref (ad G 287)), (1, .int a.1), (2, .int a.2.1), (3, .int a.2.2.1), (4, .int a.2.2.2.1)] []) ?_ h
  clear h
  intro r8 hr8 a h
  obtain ⟨x1, x2, x3, x4, M⟩ := a
  unfold f_X12_isWithdrawn_c8 at h
  (try dsimp only at h ⊢)
  refine J.iload (q := 10) O dX12_isWithdrawn_8 rfl 4 rfl ?_
  refine J.bipush (q := 12) (v := (30 : Int32)) O dX12_isWithdrawn_10 rfl rfl ?_
  refine J.iload_n (q := 13) O dX12_isWithdrawn_12 rfl 1 rfl ?_
  refine J.imul (q := 14) O dX12_isWithdrawn_13 rfl ?_
  refine J.aload_n (q := 15) O dX12_isWithdrawn_14 rfl 0 rfl ?_
  refine J.getR (q := 18) (c' := 287) (ci := 12) (k := 42) (r := 317) O dX12_isWithdrawn_15 rfl wd_6_114 (by decide) if_287_42 ?_
  refine J.iload_n (q := 19) O dX12_isWithdrawn_18 rfl 1 rfl ?_
  obtain ⟨hv4, h⟩ := h
  refine J.iald (q := 20) (c' := 317) (j := x1.toNatClampNeg) (M 317 x1.toNatClampNeg) rfl O dX12_isWithdrawn_19 rfl ar_317 hv4 rfl ?_
  refine J.iadd (q := 21) O dX12_isWithdrawn_20 rfl ?_
  refine J.icmp_ge (q := 24) (tgt := 62) O dX12_isWithdrawn_21 rfl (by decide) (fun z5 => ?_) (fun z5 => ?_)
  · replace h := h.1 z5
    refine J.iload_n (q := 63) O dX12_isWithdrawn_62 rfl 3 rfl ?_
    exact hR _ _ _ _ dX12_isWithdrawn_63 h.1 h.2
  · replace h := h.2 z5
    refine J.iload_n (q := 25) O dX12_isWithdrawn_24 rfl 3 rfl ?_
    refine J.if_ne (q := 28) (tgt := 50) O dX12_isWithdrawn_25 rfl (by decide) (fun z7 => ?_) (fun z7 => ?_)
    · replace h := h.1 z7
      exact J.sub [0, 1, 2, 4] rfl (j_X12_isWithdrawn_b50 hG O hR hr8 h)
    · replace h := h.2 z7
      refine J.aload_n (q := 29) O dX12_isWithdrawn_28 rfl 0 rfl ?_
      refine J.getR (q := 32) (c' := 287) (ci := 12) (k := 43) (r := 318) O dX12_isWithdrawn_29 rfl wd_6_115 (by decide) if_287_43 ?_
      refine J.iload (q := 34) O dX12_isWithdrawn_32 rfl 4 rfl ?_
      obtain ⟨hv8, h⟩ := h
      refine J.iald (q := 35) (c' := 318) (j := x4.toNatClampNeg) (M 318 x4.toNatClampNeg) rfl O dX12_isWithdrawn_34 rfl ar_318 hv8 rfl ?_
      refine J.iconst (q := 36) (v := (2 : Int32)) O dX12_isWithdrawn_35 rfl rfl ?_
      refine J.icmp_ne (q := 39) (tgt := 54) O dX12_isWithdrawn_36 rfl (by decide) (fun z9 => ?_) (fun z9 => ?_)
      · replace h := h.1 z9
        exact J.sub [0, 1, 2, 4] rfl (j_X12_isWithdrawn_b54 hG O hR hr8 h)
      · replace h := h.2 z9
        refine J.aload_n (q := 40) O dX12_isWithdrawn_39 rfl 0 rfl ?_
        refine J.getR (q := 43) (c' := 287) (ci := 12) (k := 44) (r := 319) O dX12_isWithdrawn_40 rfl wd_6_116 (by decide) if_287_44 ?_
        refine J.iload (q := 45) O dX12_isWithdrawn_43 rfl 4 rfl ?_
        obtain ⟨hv10, h⟩ := h
        refine J.iald (q := 46) (c' := 319) (j := x4.toNatClampNeg) (M 319 x4.toNatClampNeg) rfl O dX12_isWithdrawn_45 rfl ar_319 hv10 rfl ?_
        refine J.iload_n (q := 47) O dX12_isWithdrawn_46 rfl 2 rfl ?_
        refine J.icmp_gt (q := 50) (tgt := 54) O dX12_isWithdrawn_47 rfl (by decide) (fun z11 => ?_) (fun z11 => ?_)
        · replace h := h.1 z11
          exact J.sub [0, 1, 2, 4] rfl (j_X12_isWithdrawn_b54 hG O hR hr8 h)
        · replace h := h.2 z11
          exact J.sub [0, 1, 2, 4] rfl (j_X12_isWithdrawn_b50 hG O hR hr8 h)
set_option maxHeartbeats 4000000 in
set_option maxRecDepth 20000 in
theorem c_X12_isWithdrawn {l : Launch} {G : GX} (hG : Gd G) {a1 : Int32} {a2 : Int32} {M : Mem} {K : Int32 → Mem → Prop} (h : f_X12_isWithdrawn a1 a2 M K) : CI l G yX12_isWithdrawn cX12_isWithdrawn 5 (some .boolean) 1 [.ref (ad G 287), .int a1, .int a2] M K := by
  unfold f_X12_isWithdrawn at h
  refine CZ.mk hG (by decide) [(0, .ref (ad G 287)), (1, .int a1), (2, .int a2)] rfl (Nat.le_of_ble_eq_true rfl) (fun X O hlX hR => ?_)
  subst hlX
  refine J.iconst (q := 1) (v := (0 : Int32)) O dX12_isWithdrawn_0 rfl rfl ?_
  refine J.istore_n (q := 2) O dX12_isWithdrawn_1 rfl [(3, .int (0 : Int32)), (0, .ref (ad G 287)), (1, .int a1), (2, .int a2)] (by decide) rfl ?_
  refine J.bipush (q := 4) (v := (30 : Int32)) O dX12_isWithdrawn_2 rfl rfl ?_
  refine J.iload_n (q := 5) O dX12_isWithdrawn_4 rfl 2 rfl ?_
  refine J.imul (q := 6) O dX12_isWithdrawn_5 rfl ?_
  refine J.istore (q := 8) O dX12_isWithdrawn_6 rfl [(4, .int ((30 : Int32) * a1)), (3, .int (0 : Int32)), (0, .ref (ad G 287)), (1, .int a1), (2, .int a2)] (by decide) rfl ?_
  exact J.sub [2, 3, 4, 1, 0] rfl (j_X12_isWithdrawn_c8 hG O hR h)
set_option maxHeartbeats 4000000 in
set_option maxRecDepth 20000 in
theorem j_X12_givenOn_b108 {X : CX} {G : GX} {K : Int32 → Mem → Prop} (hG : Gd G) (O : Ok X G cX12_givenOn 7 RX12 1) (hR : RetI X G cX12_givenOn K) {r9 : Int32 × Int32 × Int32 × Int32 × Int32 × Int32 × Mem → Prop} (hr9 : ∀ a : Int32 × Int32 × Int32 × Int32 × Int32 × Int32 × Mem, r9 a → J X G a.2.2.2.2.2.2 9 [(0, .ref (ad G 287)), (1, .int a.1), (2, .int a.2.1), (3, .int a.2.2.1), (4, .int a.2.2.2.1), (5, .int a.2.2.2.2.1), (6, .int a.2.2.2.2.2.1)] []) {x1 : Int32} {x2 : Int32} {x3 : Int32} {x4 : Int32} {x5 : Int32} {x6 : Int32} {M : Mem} (h : f_X12_givenOn_b108 r9 K x1 x2 x3 x4 x5 x6 M) : J X G M 108 [(0, .ref (ad G 287)), (1, .int x1), (2, .int x2), (3, .int x3), (4, .int x4), (5, .int x5), (6, .int x6)] [] := by
  unfold f_X12_givenOn_b108 at h
  refine J.iinc (q := 111) O dX12_givenOn_108 rfl [(6, .int (x6 + (1 : Int32))), (0, .ref (ad G 287)), (1, .int x1), (2, .int x2), (3, .int x3), (4, .int x4), (5, .int x5)] 6 rfl rfl (by decide) rfl ?_
  refine J.goto (q := 9) O dX12_givenOn_111 (by decide) ?_
  exact J.sub [1, 2, 3, 4, 5, 6, 0] rfl (hr9 _ h)
set_option maxHeartbeats 4000000 in
set_option maxRecDepth 20000 in
theorem j_X12_givenOn_b71 {X : CX} {G : GX} {K : Int32 → Mem → Prop} (hG : Gd G) (O : Ok X G cX12_givenOn 7 RX12 1) (hR : RetI X G cX12_givenOn K) {r9 : Int32 × Int32 × Int32 × Int32 × Int32 × Int32 × Mem → Prop} (hr9 : ∀ a : Int32 × Int32 × Int32 × Int32 × Int32 × Int32 × Mem, r9 a → J X G a.2.2.2.2.2.2 9 [(0, .ref (ad G 287)), (1, .int a.1), (2, .int a.2.1), (3, .int a.2.2.1), (4, .int a.2.2.2.1), (5, .int a.2.2.2.2.1), (6, .int a.2.2.2.2.2.1)] []) {x1 : Int32} {x2 : Int32} {x3 : Int32} {x4 : Int32} {x5 : Int32} {x6 : Int32} {M : Mem} (h : f_X12_givenOn_b71 r9 K x1 x2 x3 x4 x5 x6 M) : J X G M 71 [(0, .ref (ad G 287)), (1, .int x1), (2, .int x2), (3, .int x3), (4, .int x4), (5, .int x5), (6, .int x6)] [] := by
  unfold f_X12_givenOn_b71 at h
  refine J.aload_n (q := 72) O dX12_givenOn_71 rfl 0 rfl ?_
  refine J.getR (q := 75) (c' := 287) (ci := 12) (k := 45) (r := 320) O dX12_givenOn_72 rfl wd_6_117 (by decide) if_287_45 ?_
  refine J.iload (q := 77) O dX12_givenOn_75 rfl 6 rfl ?_
  obtain ⟨hv9, h⟩ := h
  refine J.iald (q := 78) (c' := 320) (j := x6.toNatClampNeg) (M 320 x6.toNatClampNeg) rfl O dX12_givenOn_77 rfl ar_320 hv9 rfl ?_
  refine J.iload_n (q := 79) O dX12_givenOn_78 rfl 2 rfl ?_
  refine J.icmp_ne (q := 82) (tgt := 108) O dX12_givenOn_79 rfl (by decide) (fun z10 => ?_) (fun z10 => ?_)
  · replace h := h.1 z10
    exact J.sub [0, 1, 2, 3, 4, 5, 6] rfl (j_X12_givenOn_b108 hG O hR hr9 h)
  · replace h := h.2 z10
    refine J.aload_n (q := 83) O dX12_givenOn_82 rfl 0 rfl ?_
    refine J.getR (q := 86) (c' := 287) (ci := 12) (k := 43) (r := 318) O dX12_givenOn_83 rfl wd_6_115 (by decide) if_287_43 ?_
    refine J.iload (q := 88) O dX12_givenOn_86 rfl 6 rfl ?_
    obtain ⟨hv11, h⟩ := h
    refine J.iald (q := 89) (c' := 318) (j := x6.toNatClampNeg) (M 318 x6.toNatClampNeg) rfl O dX12_givenOn_88 rfl ar_318 hv11 rfl ?_
    refine J.iconst (q := 90) (v := (1 : Int32)) O dX12_givenOn_89 rfl rfl ?_
    refine J.icmp_ne (q := 93) (tgt := 108) O dX12_givenOn_90 rfl (by decide) (fun z12 => ?_) (fun z12 => ?_)
    · replace h := h.1 z12
      exact J.sub [0, 1, 2, 3, 4, 5, 6] rfl (j_X12_givenOn_b108 hG O hR hr9 h)
    · replace h := h.2 z12
      refine J.aload_n (q := 94) O dX12_givenOn_93 rfl 0 rfl ?_
      refine J.getR (q := 97) (c' := 287) (ci := 12) (k := 44) (r := 319) O dX12_givenOn_94 rfl wd_6_116 (by decide) if_287_44 ?_
      refine J.iload (q := 99) O dX12_givenOn_97 rfl 6 rfl ?_
      obtain ⟨hv13, h⟩ := h
      refine J.iald (q := 100) (c' := 319) (j := x6.toNatClampNeg) (M 319 x6.toNatClampNeg) rfl O dX12_givenOn_99 rfl ar_319 hv13 rfl ?_
      refine J.iload (q := 102) O dX12_givenOn_100 rfl 4 rfl ?_
      refine J.icmp_gt (q := 105) (tgt := 108) O dX12_givenOn_102 rfl (by decide) (fun z14 => ?_) (fun z14 => ?_)
      · replace h := h.1 z14
        exact J.sub [0, 1, 2, 3, 4, 5, 6] rfl (j_X12_givenOn_b108 hG O hR hr9 h)
      · replace h := h.2 z14
        refine J.iconst (q := 106) (v := (-1 : Int32)) O dX12_givenOn_105 rfl rfl ?_
        refine J.istore (q := 108) O dX12_givenOn_106 rfl [(5, .int (-1 : Int32)), (0, .ref (ad G 287)), (1, .int x1), (2, .int x2), (3, .int x3), (4, .int x4), (6, .int x6)] (by decide) rfl ?_
        exact J.sub [1, 2, 3, 4, 5, 0, 6] rfl (j_X12_givenOn_b108 hG O hR hr9 h)
set_option maxHeartbeats 4000000 in
set_option maxRecDepth 20000 in
theorem j_X12_givenOn_c9 {X : CX} {G : GX} {K : Int32 → Mem → Prop} (hG : Gd G) (O : Ok X G cX12_givenOn 7 RX12 1) (hR : RetI X G cX12_givenOn K) {a : Int32 × Int32 × Int32 × Int32 × Int32 × Int32 × Mem} (h : Lp (fun (r9 : Int32 × Int32 × Int32 × Int32 × Int32 × Int32 × Mem → Prop) a => f_X12_givenOn_c9 K r9 a.1 a.2.1 a.2.2.1 a.2.2.2.1 a.2.2.2.2.1 a.2.2.2.2.2.1 a.2.2.2.2.2.2) a) : J X G a.2.2.2.2.2.2 9 [(0, .ref (ad G 287)), (1, .int a.1), (2, .int a.2.1), (3, .int a.2.2.1), (4, .int a.2.2.2.1), (5, .int a.2.2.2.2.1), (6, .int a.2.2.2.2.2.1)] [] := by
  refine Lp.elim (P := fun a => J X G a.2.2.2.2.2.2 9 [(0, .ref (ad G 287)), (1, .int a.1), (2, .int a.2.1), (3, .int a.2.2.1), (4, .int a.2.2.2.1), (5, .int a.2.2.2.2.1), (6, .int a.2.2.2.2.2.1)] []) ?_ h
  clear h
  intro r9 hr9 a h
  obtain ⟨x1, x2, x3, x4, x5, x6, M⟩ := a
  unfold f_X12_givenOn_c9 at h
  (try dsimp only at h ⊢)
  refine J.iload (q := 11) O dX12_givenOn_9 rfl 6 rfl ?_
  refine J.bipush (q := 13) (v := (30 : Int32)) O dX12_givenOn_11 rfl rfl ?_
  refine J.iload_n (q := 14) O dX12_givenOn_13 rfl 1 rfl ?_
  refine J.imul (q := 15) O dX12_givenOn_14 rfl ?_
  refine J.aload_n (q := 16) O dX12_givenOn_15 rfl 0 rfl ?_
  refine J.getR (q := 19) (c' := 287) (ci := 12) (k := 42) (r := 317) O dX12_givenOn_16 rfl wd_6_114 (by decide) if_287_42 ?_
  refine J.iload_n (q := 20) O dX12_givenOn_19 rfl 1 rfl ?_
  obtain ⟨hv15, h⟩ := h
  refine J.iald (q := 21) (c' := 317) (j := x1.toNatClampNeg) (M 317 x1.toNatClampNeg) rfl O dX12_givenOn_20 rfl ar_317 hv15 rfl ?_
  refine J.iadd (q := 22) O dX12_givenOn_21 rfl ?_
  refine J.icmp_ge (q := 25) (tgt := 114) O dX12_givenOn_22 rfl (by decide) (fun z16 => ?_) (fun z16 => ?_)
  · replace h := h.1 z16
    refine J.iload (q := 116) O dX12_givenOn_114 rfl 5 rfl ?_
    exact hR _ _ _ _ dX12_givenOn_116 h
  · replace h := h.2 z16
    refine J.aload_n (q := 26) O dX12_givenOn_25 rfl 0 rfl ?_
    refine J.getR (q := 29) (c' := 287) (ci := 12) (k := 45) (r := 320) O dX12_givenOn_26 rfl wd_6_117 (by decide) if_287_45 ?_
    refine J.iload (q := 31) O dX12_givenOn_29 rfl 6 rfl ?_
    obtain ⟨hv17, h⟩ := h
    refine J.iald (q := 32) (c' := 320) (j := x6.toNatClampNeg) (M 320 x6.toNatClampNeg) rfl O dX12_givenOn_31 rfl ar_320 hv17 rfl ?_
    refine J.iload_n (q := 33) O dX12_givenOn_32 rfl 2 rfl ?_
    refine J.icmp_ne (q := 36) (tgt := 71) O dX12_givenOn_33 rfl (by decide) (fun z18 => ?_) (fun z18 => ?_)
    · replace h := h.1 z18
      exact J.sub [0, 1, 2, 3, 4, 5, 6] rfl (j_X12_givenOn_b71 hG O hR hr9 h)
    · replace h := h.2 z18
      refine J.aload_n (q := 37) O dX12_givenOn_36 rfl 0 rfl ?_
      refine J.getR (q := 40) (c' := 287) (ci := 12) (k := 43) (r := 318) O dX12_givenOn_37 rfl wd_6_115 (by decide) if_287_43 ?_
      refine J.iload (q := 42) O dX12_givenOn_40 rfl 6 rfl ?_
      obtain ⟨hv19, h⟩ := h
      refine J.iald (q := 43) (c' := 318) (j := x6.toNatClampNeg) (M 318 x6.toNatClampNeg) rfl O dX12_givenOn_42 rfl ar_318 hv19 rfl ?_
      refine J.if_ne (q := 46) (tgt := 71) O dX12_givenOn_43 rfl (by decide) (fun z20 => ?_) (fun z20 => ?_)
      · replace h := h.1 z20
        exact J.sub [0, 1, 2, 3, 4, 5, 6] rfl (j_X12_givenOn_b71 hG O hR hr9 h)
      · replace h := h.2 z20
        refine J.aload_n (q := 47) O dX12_givenOn_46 rfl 0 rfl ?_
        refine J.getR (q := 50) (c' := 287) (ci := 12) (k := 44) (r := 319) O dX12_givenOn_47 rfl wd_6_116 (by decide) if_287_44 ?_
        refine J.iload (q := 52) O dX12_givenOn_50 rfl 6 rfl ?_
        obtain ⟨hv21, h⟩ := h
        refine J.iald (q := 53) (c' := 319) (j := x6.toNatClampNeg) (M 319 x6.toNatClampNeg) rfl O dX12_givenOn_52 rfl ar_319 hv21 rfl ?_
        refine J.iload_n (q := 54) O dX12_givenOn_53 rfl 3 rfl ?_
        refine J.icmp_gt (q := 57) (tgt := 71) O dX12_givenOn_54 rfl (by decide) (fun z22 => ?_) (fun z22 => ?_)
        · replace h := h.1 z22
          exact J.sub [0, 1, 2, 3, 4, 5, 6] rfl (j_X12_givenOn_b71 hG O hR hr9 h)
        · replace h := h.2 z22
          refine J.iload (q := 59) O dX12_givenOn_57 rfl 5 rfl ?_
          refine J.if_ge (q := 62) (tgt := 71) O dX12_givenOn_59 rfl (by decide) (fun z23 => ?_) (fun z23 => ?_)
          · replace h := h.1 z23
            exact J.sub [0, 1, 2, 3, 4, 5, 6] rfl (j_X12_givenOn_b71 hG O hR hr9 h)
          · replace h := h.2 z23
            refine J.aload_n (q := 63) O dX12_givenOn_62 rfl 0 rfl ?_
            refine J.getR (q := 66) (c' := 287) (ci := 12) (k := 44) (r := 319) O dX12_givenOn_63 rfl wd_6_116 (by decide) if_287_44 ?_
            refine J.iload (q := 68) O dX12_givenOn_66 rfl 6 rfl ?_
            obtain ⟨hv24, h⟩ := h
            refine J.iald (q := 69) (c' := 319) (j := x6.toNatClampNeg) (M 319 x6.toNatClampNeg) rfl O dX12_givenOn_68 rfl ar_319 hv24 rfl ?_
            refine J.istore (q := 71) O dX12_givenOn_69 rfl [(5, .int (M 319 x6.toNatClampNeg)), (0, .ref (ad G 287)), (1, .int x1), (2, .int x2), (3, .int x3), (4, .int x4), (6, .int x6)] (by decide) rfl ?_
            exact J.sub [1, 2, 3, 4, 5, 0, 6] rfl (j_X12_givenOn_b71 hG O hR hr9 h)
set_option maxHeartbeats 4000000 in
set_option maxRecDepth 20000 in
theorem c_X12_givenOn {l : Launch} {G : GX} (hG : Gd G) {a1 : Int32} {a2 : Int32} {a3 : Int32} {a4 : Int32} {M : Mem} {K : Int32 → Mem → Prop} (h : f_X12_givenOn a1 a2 a3 a4 M K) : CI l G yX12_givenOn cX12_givenOn 7 (some .int) 1 [.ref (ad G 287), .int a1, .int a2, .int a3, .int a4] M K := by
  unfold f_X12_givenOn at h
  refine CI.mk hG (by decide) [(0, .ref (ad G 287)), (1, .int a1), (2, .int a2), (3, .int a3), (4, .int a4)] rfl (Nat.le_of_ble_eq_true rfl) (fun X O hlX hR => ?_)
  subst hlX
  refine J.iconst (q := 1) (v := (-1 : Int32)) O dX12_givenOn_0 rfl rfl ?_
  refine J.istore (q := 3) O dX12_givenOn_1 rfl [(5, .int (-1 : Int32)), (0, .ref (ad G 287)), (1, .int a1), (2, .int a2), (3, .int a3), (4, .int a4)] (by decide) rfl ?_
  refine J.bipush (q := 5) (v := (30 : Int32)) O dX12_givenOn_3 rfl rfl ?_
  refine J.iload_n (q := 6) O dX12_givenOn_5 rfl 2 rfl ?_
  refine J.imul (q := 7) O dX12_givenOn_6 rfl ?_
  refine J.istore (q := 9) O dX12_givenOn_7 rfl [(6, .int ((30 : Int32) * a1)), (5, .int (-1 : Int32)), (0, .ref (ad G 287)), (1, .int a1), (2, .int a2), (3, .int a3), (4, .int a4)] (by decide) rfl ?_
  exact J.sub [2, 3, 4, 5, 6, 1, 0] rfl (j_X12_givenOn_c9 hG O hR h)
set_option maxHeartbeats 4000000 in
set_option maxRecDepth 20000 in
theorem j_X12_wholeSince_b74 {X : CX} {G : GX} {K : Int32 → Mem → Prop} (hG : Gd G) (O : Ok X G cX12_wholeSince 7 RX12 2) (hR : RetI X G cX12_wholeSince K) {r11 : Int32 × Int32 × Int32 × Int32 × Int32 × Mem → Prop} (hr11 : ∀ a : Int32 × Int32 × Int32 × Int32 × Int32 × Mem, r11 a → J X G a.2.2.2.2.2 11 [(0, .ref (ad G 287)), (1, .int a.1), (2, .int a.2.1), (3, .int a.2.2.1), (4, .int a.2.2.2.1), (5, .int a.2.2.2.2.1)] []) {x1 : Int32} {x2 : Int32} {x3 : Int32} {x4 : Int32} {x5 : Int32} {M : Mem} (h : f_X12_wholeSince_b74 r11 K x1 x2 x3 x4 x5 M) : J X G M 74 [(0, .ref (ad G 287)), (1, .int x1), (2, .int x2), (3, .int x3), (4, .int x4), (5, .int x5)] [] := by
  unfold f_X12_wholeSince_b74 at h
  refine J.iinc (q := 77) O dX12_wholeSince_74 rfl [(5, .int (x5 + (1 : Int32))), (0, .ref (ad G 287)), (1, .int x1), (2, .int x2), (3, .int x3), (4, .int x4)] 5 rfl rfl (by decide) rfl ?_
  refine J.goto (q := 11) O dX12_wholeSince_77 (by decide) ?_
  exact J.sub [1, 2, 3, 4, 5, 0] rfl (hr11 _ h)
set_option maxHeartbeats 4000000 in
set_option maxRecDepth 20000 in
theorem j_X12_wholeSince_b72 {X : CX} {G : GX} {K : Int32 → Mem → Prop} (hG : Gd G) (O : Ok X G cX12_wholeSince 7 RX12 2) (hR : RetI X G cX12_wholeSince K) {r11 : Int32 × Int32 × Int32 × Int32 × Int32 × Mem → Prop} (hr11 : ∀ a : Int32 × Int32 × Int32 × Int32 × Int32 × Mem, r11 a → J X G a.2.2.2.2.2 11 [(0, .ref (ad G 287)), (1, .int a.1), (2, .int a.2.1), (3, .int a.2.2.1), (4, .int a.2.2.2.1), (5, .int a.2.2.2.2.1)] []) {x1 : Int32} {x2 : Int32} {x3 : Int32} {x5 : Int32} {s0 : Int32} {M : Mem} (h : f_X12_wholeSince_b72 r11 K x1 x2 x3 x5 s0 M) : J X G M 72 [(0, .ref (ad G 287)), (1, .int x1), (2, .int x2), (3, .int x3), (5, .int x5)] [.int s0] := by
  unfold f_X12_wholeSince_b72 at h
  refine J.istore (q := 74) O dX12_wholeSince_72 rfl [(4, .int s0), (0, .ref (ad G 287)), (1, .int x1), (2, .int x2), (3, .int x3), (5, .int x5)] (by decide) rfl ?_
  exact J.sub [1, 2, 3, 4, 0, 5] rfl (j_X12_wholeSince_b74 hG O hR hr11 h)
set_option maxHeartbeats 4000000 in
set_option maxRecDepth 20000 in
theorem j_X12_wholeSince_b54 {X : CX} {G : GX} {K : Int32 → Mem → Prop} (hG : Gd G) (O : Ok X G cX12_wholeSince 7 RX12 2) (hR : RetI X G cX12_wholeSince K) {r11 : Int32 × Int32 × Int32 × Int32 × Int32 × Mem → Prop} (hr11 : ∀ a : Int32 × Int32 × Int32 × Int32 × Int32 × Mem, r11 a → J X G a.2.2.2.2.2 11 [(0, .ref (ad G 287)), (1, .int a.1), (2, .int a.2.1), (3, .int a.2.2.1), (4, .int a.2.2.2.1), (5, .int a.2.2.2.2.1)] []) {x1 : Int32} {x2 : Int32} {x3 : Int32} {x5 : Int32} {M : Mem} (h : f_X12_wholeSince_b54 r11 K x1 x2 x3 x5 M) : J X G M 54 [(0, .ref (ad G 287)), (1, .int x1), (2, .int x2), (3, .int x3), (5, .int x5)] [] := by
  unfold f_X12_wholeSince_b54 at h
  refine J.iconst (q := 55) (v := (-1 : Int32)) O dX12_wholeSince_54 rfl rfl ?_
  refine J.goto (q := 72) O dX12_wholeSince_55 (by decide) ?_
  exact J.sub [0, 1, 2, 3, 4] rfl (j_X12_wholeSince_b72 hG O hR hr11 h)
set_option maxHeartbeats 4000000 in
set_option maxRecDepth 20000 in
theorem j_X12_wholeSince_c11 {X : CX} {G : GX} {K : Int32 → Mem → Prop} (hG : Gd G) (O : Ok X G cX12_wholeSince 7 RX12 2) (hR : RetI X G cX12_wholeSince K) {a : Int32 × Int32 × Int32 × Int32 × Int32 × Mem} (h : Lp (fun (r11 : Int32 × Int32 × Int32 × Int32 × Int32 × Mem → Prop) a => f_X12_wholeSince_c11 K r11 a.1 a.2.1 a.2.2.1 a.2.2.2.1 a.2.2.2.2.1 a.2.2.2.2.2) a) : J X G a.2.2.2.2.2 11 [(0, .ref (ad G 287)), (1, .int a.1), (2, .int a.2.1), (3, .int a.2.2.1), (4, .int a.2.2.2.1), (5, .int a.2.2.2.2.1)] [] := by
  refine Lp.elim (P := fun a => J X G a.2.2.2.2.2 11 [(0, .ref (ad G 287)), (1, .int a.1), (2, .int a.2.1), (3, .int a.2.2.1), (4, .int a.2.2.2.1), (5, .int a.2.2.2.2.1)] []) ?_ h
  clear h
  intro r11 hr11 a h
  obtain ⟨x1, x2, x3, x4, x5, M⟩ := a
  unfold f_X12_wholeSince_c11 at h
  (try dsimp only at h ⊢)
  refine J.iload (q := 13) O dX12_wholeSince_11 rfl 5 rfl ?_
  refine J.bipush (q := 15) (v := (8 : Int32)) O dX12_wholeSince_13 rfl rfl ?_
  refine J.icmp_ge (q := 18) (tgt := 80) O dX12_wholeSince_15 rfl (by decide) (fun z3 => ?_) (fun z3 => ?_)
  · replace h := h.1 z3
    refine J.iload (q := 82) O dX12_wholeSince_80 rfl 4 rfl ?_
    exact hR _ _ _ _ dX12_wholeSince_82 h
  · replace h := h.2 z3
    refine J.aload_n (q := 19) O dX12_wholeSince_18 rfl 0 rfl ?_
    refine J.getR (q := 22) (c' := 287) (ci := 12) (k := 39) (r := 314) O dX12_wholeSince_19 rfl wd_6_111 (by decide) if_287_39 ?_
    refine J.iload_n (q := 23) O dX12_wholeSince_22 rfl 1 rfl ?_
    obtain ⟨hv4, h⟩ := h
    refine J.iald (q := 24) (c' := 314) (j := x1.toNatClampNeg) (M 314 x1.toNatClampNeg) rfl O dX12_wholeSince_23 rfl ar_314 hv4 rfl ?_
    refine J.iload (q := 26) O dX12_wholeSince_24 rfl 5 rfl ?_
    refine J.ishr (q := 27) O dX12_wholeSince_26 rfl ?_
    refine J.iconst (q := 28) (v := (1 : Int32)) O dX12_wholeSince_27 rfl rfl ?_
    refine J.iand (q := 29) O dX12_wholeSince_28 rfl ?_
    refine J.iconst (q := 30) (v := (1 : Int32)) O dX12_wholeSince_29 rfl rfl ?_
    refine J.icmp_ne (q := 33) (tgt := 74) O dX12_wholeSince_30 rfl (by decide) (fun z5 => ?_) (fun z5 => ?_)
    · replace h := h.1 z5
      exact J.sub [0, 1, 2, 3, 4, 5] rfl (j_X12_wholeSince_b74 hG O hR hr11 h)
    · replace h := h.2 z5
      refine J.aload_n (q := 34) O dX12_wholeSince_33 rfl 0 rfl ?_
      refine J.iload_n (q := 35) O dX12_wholeSince_34 rfl 1 rfl ?_
      refine J.iload (q := 37) O dX12_wholeSince_35 rfl 5 rfl ?_
      refine J.iload_n (q := 38) O dX12_wholeSince_37 rfl 2 rfl ?_
      refine J.iload_n (q := 39) O dX12_wholeSince_38 rfl 3 rfl ?_
      refine J.callVI (q := 42) [.int x1, .int x5, .int x2, .int x3] [] [.int x3, .int x2, .int x5, .int x1, .ref (ad G 287)] rfl O dX12_wholeSince_39 rfl (c_X12_givenOn hG h) wd_8_54 mw_X12_givenOn io_287 rfl (by decide) (Nat.le_of_ble_eq_true rfl) (fun v6 M6 h => ?_)
      refine J.istore (q := 44) O dX12_wholeSince_42 rfl [(6, .int v6), (0, .ref (ad G 287)), (1, .int x1), (2, .int x2), (3, .int x3), (4, .int x4), (5, .int x5)] (by decide) rfl ?_
      refine J.iload (q := 46) O dX12_wholeSince_44 rfl 0 rfl ?_
      refine J.if_lt (q := 49) (tgt := 54) O dX12_wholeSince_46 rfl (by decide) (fun z7 => ?_) (fun z7 => ?_)
      · replace h := h.1 z7
        exact J.sub [1, 2, 3, 4, 6] rfl (j_X12_wholeSince_b54 hG O hR hr11 h)
      · replace h := h.2 z7
        refine J.iload (q := 51) O dX12_wholeSince_49 rfl 5 rfl ?_
        refine J.if_ge (q := 54) (tgt := 58) O dX12_wholeSince_51 rfl (by decide) (fun z8 => ?_) (fun z8 => ?_)
        · replace h := h.1 z8
          refine J.iload (q := 60) O dX12_wholeSince_58 rfl 0 rfl ?_
          refine J.iload (q := 62) O dX12_wholeSince_60 rfl 5 rfl ?_
          refine J.icmp_le (q := 65) (tgt := 70) O dX12_wholeSince_62 rfl (by decide) (fun z9 => ?_) (fun z9 => ?_)
          · replace h := h.1 z9
            refine J.iload (q := 72) O dX12_wholeSince_70 rfl 5 rfl ?_
            exact J.sub [1, 2, 3, 4, 6] rfl (j_X12_wholeSince_b72 hG O hR hr11 h)
          · replace h := h.2 z9
            refine J.iload (q := 67) O dX12_wholeSince_65 rfl 0 rfl ?_
            refine J.goto (q := 72) O dX12_wholeSince_67 (by decide) ?_
            exact J.sub [1, 2, 3, 4, 6] rfl (j_X12_wholeSince_b72 hG O hR hr11 h)
        · replace h := h.2 z8
          exact J.sub [1, 2, 3, 4, 6] rfl (j_X12_wholeSince_b54 hG O hR hr11 h)
set_option maxHeartbeats 4000000 in
set_option maxRecDepth 20000 in
theorem c_X12_wholeSince {l : Launch} {G : GX} (hG : Gd G) {a1 : Int32} {a2 : Int32} {a3 : Int32} {M : Mem} {K : Int32 → Mem → Prop} (h : f_X12_wholeSince a1 a2 a3 M K) : CI l G yX12_wholeSince cX12_wholeSince 7 (some .int) 2 [.ref (ad G 287), .int a1, .int a2, .int a3] M K := by
  unfold f_X12_wholeSince at h
  refine CI.mk hG (by decide) [(0, .ref (ad G 287)), (1, .int a1), (2, .int a2), (3, .int a3)] rfl (Nat.le_of_ble_eq_true rfl) (fun X O hlX hR => ?_)
  subst hlX
  refine J.aload_n (q := 1) O dX12_wholeSince_0 rfl 0 rfl ?_
  refine J.getR (q := 4) (c' := 287) (ci := 12) (k := 38) (r := 313) O dX12_wholeSince_1 rfl wd_6_110 (by decide) if_287_38 ?_
  refine J.iload_n (q := 5) O dX12_wholeSince_4 rfl 1 rfl ?_
  obtain ⟨hv10, h⟩ := h
  refine J.iald (q := 6) (c' := 313) (j := a1.toNatClampNeg) (M 313 a1.toNatClampNeg) rfl O dX12_wholeSince_5 rfl ar_313 hv10 rfl ?_
  refine J.istore (q := 8) O dX12_wholeSince_6 rfl [(4, .int (M 313 a1.toNatClampNeg)), (0, .ref (ad G 287)), (1, .int a1), (2, .int a2), (3, .int a3)] (by decide) rfl ?_
  refine J.iconst (q := 9) (v := (0 : Int32)) O dX12_wholeSince_8 rfl rfl ?_
  refine J.istore (q := 11) O dX12_wholeSince_9 rfl [(5, .int (0 : Int32)), (4, .int (M 313 a1.toNatClampNeg)), (0, .ref (ad G 287)), (1, .int a1), (2, .int a2), (3, .int a3)] (by decide) rfl ?_
  exact J.sub [2, 3, 4, 5, 1, 0] rfl (j_X12_wholeSince_c11 hG O hR h)
set_option maxHeartbeats 4000000 in
set_option maxRecDepth 20000 in
theorem j_X12_ruling_b85 {X : CX} {G : GX} {K : Int32 → Mem → Prop} (hG : Gd G) (O : Ok X G cX12_ruling 6 RX12 1) (hR : RetI X G cX12_ruling K) {r9 : Int32 × Int32 × Int32 × Int32 × Int32 × Mem → Prop} (hr9 : ∀ a : Int32 × Int32 × Int32 × Int32 × Int32 × Mem, r9 a → J X G a.2.2.2.2.2 9 [(0, .ref (ad G 287)), (1, .int a.1), (2, .int a.2.1), (3, .int a.2.2.1), (4, .int a.2.2.2.1), (5, .int a.2.2.2.2.1)] []) {x1 : Int32} {x2 : Int32} {x3 : Int32} {x5 : Int32} {s0 : Int32} {M : Mem} (h : f_X12_ruling_b85 r9 K x1 x2 x3 x5 s0 M) : J X G M 85 [(0, .ref (ad G 287)), (1, .int x1), (2, .int x2), (3, .int x3), (5, .int x5)] [.int s0] := by
  unfold f_X12_ruling_b85 at h
  refine J.istore (q := 87) O dX12_ruling_85 rfl [(4, .int s0), (0, .ref (ad G 287)), (1, .int x1), (2, .int x2), (3, .int x3), (5, .int x5)] (by decide) rfl ?_
  refine J.iinc (q := 90) O dX12_ruling_87 rfl [(5, .int (x5 + (1 : Int32))), (4, .int s0), (0, .ref (ad G 287)), (1, .int x1), (2, .int x2), (3, .int x3)] 5 rfl rfl (by decide) rfl ?_
  refine J.goto (q := 9) O dX12_ruling_90 (by decide) ?_
  exact J.sub [2, 3, 4, 5, 1, 0] rfl (hr9 _ h)
set_option maxHeartbeats 4000000 in
set_option maxRecDepth 20000 in
theorem j_X12_ruling_b83 {X : CX} {G : GX} {K : Int32 → Mem → Prop} (hG : Gd G) (O : Ok X G cX12_ruling 6 RX12 1) (hR : RetI X G cX12_ruling K) {r9 : Int32 × Int32 × Int32 × Int32 × Int32 × Mem → Prop} (hr9 : ∀ a : Int32 × Int32 × Int32 × Int32 × Int32 × Mem, r9 a → J X G a.2.2.2.2.2 9 [(0, .ref (ad G 287)), (1, .int a.1), (2, .int a.2.1), (3, .int a.2.2.1), (4, .int a.2.2.2.1), (5, .int a.2.2.2.2.1)] []) {x1 : Int32} {x2 : Int32} {x3 : Int32} {x4 : Int32} {x5 : Int32} {M : Mem} (h : f_X12_ruling_b83 r9 K x1 x2 x3 x4 x5 M) : J X G M 83 [(0, .ref (ad G 287)), (1, .int x1), (2, .int x2), (3, .int x3), (4, .int x4), (5, .int x5)] [] := by
  unfold f_X12_ruling_b83 at h
  refine J.iload (q := 85) O dX12_ruling_83 rfl 4 rfl ?_
  exact J.sub [0, 1, 2, 3, 5] rfl (j_X12_ruling_b85 hG O hR hr9 h)
set_option maxHeartbeats 4000000 in
set_option maxRecDepth 20000 in
theorem j_X12_ruling_b57 {X : CX} {G : GX} {K : Int32 → Mem → Prop} (hG : Gd G) (O : Ok X G cX12_ruling 6 RX12 1) (hR : RetI X G cX12_ruling K) {r9 : Int32 × Int32 × Int32 × Int32 × Int32 × Mem → Prop} (hr9 : ∀ a : Int32 × Int32 × Int32 × Int32 × Int32 × Mem, r9 a → J X G a.2.2.2.2.2 9 [(0, .ref (ad G 287)), (1, .int a.1), (2, .int a.2.1), (3, .int a.2.2.1), (4, .int a.2.2.2.1), (5, .int a.2.2.2.2.1)] []) {x1 : Int32} {x2 : Int32} {x3 : Int32} {x4 : Int32} {x5 : Int32} {M : Mem} (h : f_X12_ruling_b57 r9 K x1 x2 x3 x4 x5 M) : J X G M 57 [(0, .ref (ad G 287)), (1, .int x1), (2, .int x2), (3, .int x3), (4, .int x4), (5, .int x5)] [] := by
  unfold f_X12_ruling_b57 at h
  refine J.aload_n (q := 58) O dX12_ruling_57 rfl 0 rfl ?_
  refine J.getR (q := 61) (c' := 287) (ci := 12) (k := 43) (r := 318) O dX12_ruling_58 rfl wd_6_115 (by decide) if_287_43 ?_
  refine J.iload (q := 63) O dX12_ruling_61 rfl 5 rfl ?_
  obtain ⟨hv7, h⟩ := h
  refine J.iald (q := 64) (c' := 318) (j := x5.toNatClampNeg) (M 318 x5.toNatClampNeg) rfl O dX12_ruling_63 rfl ar_318 hv7 rfl ?_
  refine J.iconst (q := 65) (v := (5 : Int32)) O dX12_ruling_64 rfl rfl ?_
  refine J.icmp_ne (q := 68) (tgt := 83) O dX12_ruling_65 rfl (by decide) (fun z8 => ?_) (fun z8 => ?_)
  · replace h := h.1 z8
    exact J.sub [0, 1, 2, 3, 4, 5] rfl (j_X12_ruling_b83 hG O hR hr9 h)
  · replace h := h.2 z8
    refine J.aload_n (q := 69) O dX12_ruling_68 rfl 0 rfl ?_
    refine J.getR (q := 72) (c' := 287) (ci := 12) (k := 44) (r := 319) O dX12_ruling_69 rfl wd_6_116 (by decide) if_287_44 ?_
    refine J.iload (q := 74) O dX12_ruling_72 rfl 5 rfl ?_
    obtain ⟨hv9, h⟩ := h
    refine J.iald (q := 75) (c' := 319) (j := x5.toNatClampNeg) (M 319 x5.toNatClampNeg) rfl O dX12_ruling_74 rfl ar_319 hv9 rfl ?_
    refine J.iload_n (q := 76) O dX12_ruling_75 rfl 3 rfl ?_
    refine J.icmp_gt (q := 79) (tgt := 83) O dX12_ruling_76 rfl (by decide) (fun z10 => ?_) (fun z10 => ?_)
    · replace h := h.1 z10
      exact J.sub [0, 1, 2, 3, 4, 5] rfl (j_X12_ruling_b83 hG O hR hr9 h)
    · replace h := h.2 z10
      refine J.iconst (q := 80) (v := (-1 : Int32)) O dX12_ruling_79 rfl rfl ?_
      refine J.goto (q := 85) O dX12_ruling_80 (by decide) ?_
      exact J.sub [0, 1, 2, 3, 5] rfl (j_X12_ruling_b85 hG O hR hr9 h)
set_option maxHeartbeats 4000000 in
set_option maxRecDepth 20000 in
theorem j_X12_ruling_c9 {X : CX} {G : GX} {K : Int32 → Mem → Prop} (hG : Gd G) (O : Ok X G cX12_ruling 6 RX12 1) (hR : RetI X G cX12_ruling K) {a : Int32 × Int32 × Int32 × Int32 × Int32 × Mem} (h : Lp (fun (r9 : Int32 × Int32 × Int32 × Int32 × Int32 × Mem → Prop) a => f_X12_ruling_c9 K r9 a.1 a.2.1 a.2.2.1 a.2.2.2.1 a.2.2.2.2.1 a.2.2.2.2.2) a) : J X G a.2.2.2.2.2 9 [(0, .ref (ad G 287)), (1, .int a.1), (2, .int a.2.1), (3, .int a.2.2.1), (4, .int a.2.2.2.1), (5, .int a.2.2.2.2.1)] [] := by
  refine Lp.elim (P := fun a => J X G a.2.2.2.2.2 9 [(0, .ref (ad G 287)), (1, .int a.1), (2, .int a.2.1), (3, .int a.2.2.1), (4, .int a.2.2.2.1), (5, .int a.2.2.2.2.1)] []) ?_ h
  clear h
  intro r9 hr9 a h
  obtain ⟨x1, x2, x3, x4, x5, M⟩ := a
  unfold f_X12_ruling_c9 at h
  (try dsimp only at h ⊢)
  refine J.iload (q := 11) O dX12_ruling_9 rfl 5 rfl ?_
  refine J.bipush (q := 13) (v := (30 : Int32)) O dX12_ruling_11 rfl rfl ?_
  refine J.iload_n (q := 14) O dX12_ruling_13 rfl 1 rfl ?_
  refine J.imul (q := 15) O dX12_ruling_14 rfl ?_
  refine J.aload_n (q := 16) O dX12_ruling_15 rfl 0 rfl ?_
  refine J.getR (q := 19) (c' := 287) (ci := 12) (k := 42) (r := 317) O dX12_ruling_16 rfl wd_6_114 (by decide) if_287_42 ?_
  refine J.iload_n (q := 20) O dX12_ruling_19 rfl 1 rfl ?_
  obtain ⟨hv11, h⟩ := h
  refine J.iald (q := 21) (c' := 317) (j := x1.toNatClampNeg) (M 317 x1.toNatClampNeg) rfl O dX12_ruling_20 rfl ar_317 hv11 rfl ?_
  refine J.iadd (q := 22) O dX12_ruling_21 rfl ?_
  refine J.icmp_ge (q := 25) (tgt := 93) O dX12_ruling_22 rfl (by decide) (fun z12 => ?_) (fun z12 => ?_)
  · replace h := h.1 z12
    refine J.iload (q := 95) O dX12_ruling_93 rfl 4 rfl ?_
    exact hR _ _ _ _ dX12_ruling_95 h
  · replace h := h.2 z12
    refine J.aload_n (q := 26) O dX12_ruling_25 rfl 0 rfl ?_
    refine J.getR (q := 29) (c' := 287) (ci := 12) (k := 43) (r := 318) O dX12_ruling_26 rfl wd_6_115 (by decide) if_287_43 ?_
    refine J.iload (q := 31) O dX12_ruling_29 rfl 5 rfl ?_
    obtain ⟨hv13, h⟩ := h
    refine J.iald (q := 32) (c' := 318) (j := x5.toNatClampNeg) (M 318 x5.toNatClampNeg) rfl O dX12_ruling_31 rfl ar_318 hv13 rfl ?_
    refine J.iconst (q := 33) (v := (4 : Int32)) O dX12_ruling_32 rfl rfl ?_
    refine J.icmp_ne (q := 36) (tgt := 57) O dX12_ruling_33 rfl (by decide) (fun z14 => ?_) (fun z14 => ?_)
    · replace h := h.1 z14
      exact J.sub [0, 1, 2, 3, 4, 5] rfl (j_X12_ruling_b57 hG O hR hr9 h)
    · replace h := h.2 z14
      refine J.aload_n (q := 37) O dX12_ruling_36 rfl 0 rfl ?_
      refine J.getR (q := 40) (c' := 287) (ci := 12) (k := 44) (r := 319) O dX12_ruling_37 rfl wd_6_116 (by decide) if_287_44 ?_
      refine J.iload (q := 42) O dX12_ruling_40 rfl 5 rfl ?_
      obtain ⟨hv15, h⟩ := h
      refine J.iald (q := 43) (c' := 319) (j := x5.toNatClampNeg) (M 319 x5.toNatClampNeg) rfl O dX12_ruling_42 rfl ar_319 hv15 rfl ?_
      refine J.iload_n (q := 44) O dX12_ruling_43 rfl 2 rfl ?_
      refine J.icmp_gt (q := 47) (tgt := 57) O dX12_ruling_44 rfl (by decide) (fun z16 => ?_) (fun z16 => ?_)
      · replace h := h.1 z16
        exact J.sub [0, 1, 2, 3, 4, 5] rfl (j_X12_ruling_b57 hG O hR hr9 h)
      · replace h := h.2 z16
        refine J.aload_n (q := 48) O dX12_ruling_47 rfl 0 rfl ?_
        refine J.getR (q := 51) (c' := 287) (ci := 12) (k := 45) (r := 320) O dX12_ruling_48 rfl wd_6_117 (by decide) if_287_45 ?_
        refine J.iload (q := 53) O dX12_ruling_51 rfl 5 rfl ?_
        obtain ⟨hv17, h⟩ := h
        refine J.iald (q := 54) (c' := 320) (j := x5.toNatClampNeg) (M 320 x5.toNatClampNeg) rfl O dX12_ruling_53 rfl ar_320 hv17 rfl ?_
        refine J.goto (q := 85) O dX12_ruling_54 (by decide) ?_
        exact J.sub [0, 1, 2, 3, 5] rfl (j_X12_ruling_b85 hG O hR hr9 h)
set_option maxHeartbeats 4000000 in
set_option maxRecDepth 20000 in
theorem c_X12_ruling {l : Launch} {G : GX} (hG : Gd G) {a1 : Int32} {a2 : Int32} {a3 : Int32} {M : Mem} {K : Int32 → Mem → Prop} (h : f_X12_ruling a1 a2 a3 M K) : CI l G yX12_ruling cX12_ruling 6 (some .int) 1 [.ref (ad G 287), .int a1, .int a2, .int a3] M K := by
  unfold f_X12_ruling at h
  refine CI.mk hG (by decide) [(0, .ref (ad G 287)), (1, .int a1), (2, .int a2), (3, .int a3)] rfl (Nat.le_of_ble_eq_true rfl) (fun X O hlX hR => ?_)
  subst hlX
  refine J.iconst (q := 1) (v := (-1 : Int32)) O dX12_ruling_0 rfl rfl ?_
  refine J.istore (q := 3) O dX12_ruling_1 rfl [(4, .int (-1 : Int32)), (0, .ref (ad G 287)), (1, .int a1), (2, .int a2), (3, .int a3)] (by decide) rfl ?_
  refine J.bipush (q := 5) (v := (30 : Int32)) O dX12_ruling_3 rfl rfl ?_
  refine J.iload_n (q := 6) O dX12_ruling_5 rfl 2 rfl ?_
  refine J.imul (q := 7) O dX12_ruling_6 rfl ?_
  refine J.istore (q := 9) O dX12_ruling_7 rfl [(5, .int ((30 : Int32) * a1)), (4, .int (-1 : Int32)), (0, .ref (ad G 287)), (1, .int a1), (2, .int a2), (3, .int a3)] (by decide) rfl ?_
  exact J.sub [2, 3, 4, 5, 1, 0] rfl (j_X12_ruling_c9 hG O hR h)
set_option maxHeartbeats 4000000 in
set_option maxRecDepth 20000 in
theorem j_X12_answer_b75 {X : CX} {G : GX} {K : Int32 → Mem → Prop} (hG : Gd G) (O : Ok X G cX12_answer 6 RX12 1) (hR : RetI X G cX12_answer K) {r9 : Int32 × Int32 × Int32 × Int32 × Int32 × Mem → Prop} (hr9 : ∀ a : Int32 × Int32 × Int32 × Int32 × Int32 × Mem, r9 a → J X G a.2.2.2.2.2 9 [(0, .ref (ad G 287)), (1, .int a.1), (2, .int a.2.1), (3, .int a.2.2.1), (4, .int a.2.2.2.1), (5, .int a.2.2.2.2.1)] []) {x1 : Int32} {x2 : Int32} {x3 : Int32} {x5 : Int32} {s0 : Int32} {M : Mem} (h : f_X12_answer_b75 r9 K x1 x2 x3 x5 s0 M) : J X G M 75 [(0, .ref (ad G 287)), (1, .int x1), (2, .int x2), (3, .int x3), (5, .int x5)] [.int s0] := by
  unfold f_X12_answer_b75 at h
  refine J.istore (q := 77) O dX12_answer_75 rfl [(4, .int s0), (0, .ref (ad G 287)), (1, .int x1), (2, .int x2), (3, .int x3), (5, .int x5)] (by decide) rfl ?_
  refine J.iinc (q := 80) O dX12_answer_77 rfl [(5, .int (x5 + (1 : Int32))), (4, .int s0), (0, .ref (ad G 287)), (1, .int x1), (2, .int x2), (3, .int x3)] 5 rfl rfl (by decide) rfl ?_
  refine J.goto (q := 9) O dX12_answer_80 (by decide) ?_
  exact J.sub [2, 3, 4, 5, 1, 0] rfl (hr9 _ h)
set_option maxHeartbeats 4000000 in
set_option maxRecDepth 20000 in
theorem j_X12_answer_b73 {X : CX} {G : GX} {K : Int32 → Mem → Prop} (hG : Gd G) (O : Ok X G cX12_answer 6 RX12 1) (hR : RetI X G cX12_answer K) {r9 : Int32 × Int32 × Int32 × Int32 × Int32 × Mem → Prop} (hr9 : ∀ a : Int32 × Int32 × Int32 × Int32 × Int32 × Mem, r9 a → J X G a.2.2.2.2.2 9 [(0, .ref (ad G 287)), (1, .int a.1), (2, .int a.2.1), (3, .int a.2.2.1), (4, .int a.2.2.2.1), (5, .int a.2.2.2.2.1)] []) {x1 : Int32} {x2 : Int32} {x3 : Int32} {x4 : Int32} {x5 : Int32} {M : Mem} (h : f_X12_answer_b73 r9 K x1 x2 x3 x4 x5 M) : J X G M 73 [(0, .ref (ad G 287)), (1, .int x1), (2, .int x2), (3, .int x3), (4, .int x4), (5, .int x5)] [] := by
  unfold f_X12_answer_b73 at h
  refine J.iload (q := 75) O dX12_answer_73 rfl 4 rfl ?_
  exact J.sub [0, 1, 2, 3, 5] rfl (j_X12_answer_b75 hG O hR hr9 h)
set_option maxHeartbeats 4000000 in
set_option maxRecDepth 20000 in
theorem j_X12_answer_c9 {X : CX} {G : GX} {K : Int32 → Mem → Prop} (hG : Gd G) (O : Ok X G cX12_answer 6 RX12 1) (hR : RetI X G cX12_answer K) {a : Int32 × Int32 × Int32 × Int32 × Int32 × Mem} (h : Lp (fun (r9 : Int32 × Int32 × Int32 × Int32 × Int32 × Mem → Prop) a => f_X12_answer_c9 K r9 a.1 a.2.1 a.2.2.1 a.2.2.2.1 a.2.2.2.2.1 a.2.2.2.2.2) a) : J X G a.2.2.2.2.2 9 [(0, .ref (ad G 287)), (1, .int a.1), (2, .int a.2.1), (3, .int a.2.2.1), (4, .int a.2.2.2.1), (5, .int a.2.2.2.2.1)] [] := by
  refine Lp.elim (P := fun a => J X G a.2.2.2.2.2 9 [(0, .ref (ad G 287)), (1, .int a.1), (2, .int a.2.1), (3, .int a.2.2.1), (4, .int a.2.2.2.1), (5, .int a.2.2.2.2.1)] []) ?_ h
  clear h
  intro r9 hr9 a h
  obtain ⟨x1, x2, x3, x4, x5, M⟩ := a
  unfold f_X12_answer_c9 at h
  (try dsimp only at h ⊢)
  refine J.iload (q := 11) O dX12_answer_9 rfl 5 rfl ?_
  refine J.bipush (q := 13) (v := (30 : Int32)) O dX12_answer_11 rfl rfl ?_
  refine J.iload_n (q := 14) O dX12_answer_13 rfl 1 rfl ?_
  refine J.imul (q := 15) O dX12_answer_14 rfl ?_
  refine J.aload_n (q := 16) O dX12_answer_15 rfl 0 rfl ?_
  refine J.getR (q := 19) (c' := 287) (ci := 12) (k := 42) (r := 317) O dX12_answer_16 rfl wd_6_114 (by decide) if_287_42 ?_
  refine J.iload_n (q := 20) O dX12_answer_19 rfl 1 rfl ?_
  obtain ⟨hv7, h⟩ := h
  refine J.iald (q := 21) (c' := 317) (j := x1.toNatClampNeg) (M 317 x1.toNatClampNeg) rfl O dX12_answer_20 rfl ar_317 hv7 rfl ?_
  refine J.iadd (q := 22) O dX12_answer_21 rfl ?_
  refine J.icmp_ge (q := 25) (tgt := 83) O dX12_answer_22 rfl (by decide) (fun z8 => ?_) (fun z8 => ?_)
  · replace h := h.1 z8
    refine J.iload (q := 85) O dX12_answer_83 rfl 4 rfl ?_
    exact hR _ _ _ _ dX12_answer_85 h
  · replace h := h.2 z8
    refine J.aload_n (q := 26) O dX12_answer_25 rfl 0 rfl ?_
    refine J.getR (q := 29) (c' := 287) (ci := 12) (k := 43) (r := 318) O dX12_answer_26 rfl wd_6_115 (by decide) if_287_43 ?_
    refine J.iload (q := 31) O dX12_answer_29 rfl 5 rfl ?_
    obtain ⟨hv9, h⟩ := h
    refine J.iald (q := 32) (c' := 318) (j := x5.toNatClampNeg) (M 318 x5.toNatClampNeg) rfl O dX12_answer_31 rfl ar_318 hv9 rfl ?_
    refine J.iconst (q := 33) (v := (3 : Int32)) O dX12_answer_32 rfl rfl ?_
    refine J.icmp_ne (q := 36) (tgt := 73) O dX12_answer_33 rfl (by decide) (fun z10 => ?_) (fun z10 => ?_)
    · replace h := h.1 z10
      exact J.sub [0, 1, 2, 3, 4, 5] rfl (j_X12_answer_b73 hG O hR hr9 h)
    · replace h := h.2 z10
      refine J.aload_n (q := 37) O dX12_answer_36 rfl 0 rfl ?_
      refine J.getR (q := 40) (c' := 287) (ci := 12) (k := 44) (r := 319) O dX12_answer_37 rfl wd_6_116 (by decide) if_287_44 ?_
      refine J.iload (q := 42) O dX12_answer_40 rfl 5 rfl ?_
      obtain ⟨hv11, h⟩ := h
      refine J.iald (q := 43) (c' := 319) (j := x5.toNatClampNeg) (M 319 x5.toNatClampNeg) rfl O dX12_answer_42 rfl ar_319 hv11 rfl ?_
      refine J.iload_n (q := 44) O dX12_answer_43 rfl 2 rfl ?_
      refine J.icmp_gt (q := 47) (tgt := 73) O dX12_answer_44 rfl (by decide) (fun z12 => ?_) (fun z12 => ?_)
      · replace h := h.1 z12
        exact J.sub [0, 1, 2, 3, 4, 5] rfl (j_X12_answer_b73 hG O hR hr9 h)
      · replace h := h.2 z12
        refine J.aload_n (q := 48) O dX12_answer_47 rfl 0 rfl ?_
        refine J.getR (q := 51) (c' := 287) (ci := 12) (k := 56) (r := 329) O dX12_answer_48 rfl wd_6_128 (by decide) if_287_56 ?_
        refine J.aload_n (q := 52) O dX12_answer_51 rfl 0 rfl ?_
        refine J.getR (q := 55) (c' := 287) (ci := 12) (k := 46) (r := 321) O dX12_answer_52 rfl wd_6_118 (by decide) if_287_46 ?_
        refine J.iload (q := 57) O dX12_answer_55 rfl 5 rfl ?_
        obtain ⟨hv13, h⟩ := h
        refine J.iald (q := 58) (c' := 321) (j := x5.toNatClampNeg) (M 321 x5.toNatClampNeg) rfl O dX12_answer_57 rfl ar_321 hv13 rfl ?_
        obtain ⟨hv14, h⟩ := h
        refine J.iald (q := 59) (c' := 329) (j := (M 321 x5.toNatClampNeg).toNatClampNeg) (M 329 ((M 321 x5.toNatClampNeg).toNatClampNeg)) rfl O dX12_answer_58 rfl ar_329 hv14 rfl ?_
        refine J.iload_n (q := 60) O dX12_answer_59 rfl 3 rfl ?_
        refine J.icmp_le (q := 63) (tgt := 73) O dX12_answer_60 rfl (by decide) (fun z15 => ?_) (fun z15 => ?_)
        · replace h := h.1 z15
          exact J.sub [0, 1, 2, 3, 4, 5] rfl (j_X12_answer_b73 hG O hR hr9 h)
        · replace h := h.2 z15
          refine J.aload_n (q := 64) O dX12_answer_63 rfl 0 rfl ?_
          refine J.getR (q := 67) (c' := 287) (ci := 12) (k := 45) (r := 320) O dX12_answer_64 rfl wd_6_117 (by decide) if_287_45 ?_
          refine J.iload (q := 69) O dX12_answer_67 rfl 5 rfl ?_
          obtain ⟨hv16, h⟩ := h
          refine J.iald (q := 70) (c' := 320) (j := x5.toNatClampNeg) (M 320 x5.toNatClampNeg) rfl O dX12_answer_69 rfl ar_320 hv16 rfl ?_
          refine J.goto (q := 75) O dX12_answer_70 (by decide) ?_
          exact J.sub [0, 1, 2, 3, 5] rfl (j_X12_answer_b75 hG O hR hr9 h)
set_option maxHeartbeats 4000000 in
set_option maxRecDepth 20000 in
theorem c_X12_answer {l : Launch} {G : GX} (hG : Gd G) {a1 : Int32} {a2 : Int32} {a3 : Int32} {M : Mem} {K : Int32 → Mem → Prop} (h : f_X12_answer a1 a2 a3 M K) : CI l G yX12_answer cX12_answer 6 (some .int) 1 [.ref (ad G 287), .int a1, .int a2, .int a3] M K := by
  unfold f_X12_answer at h
  refine CI.mk hG (by decide) [(0, .ref (ad G 287)), (1, .int a1), (2, .int a2), (3, .int a3)] rfl (Nat.le_of_ble_eq_true rfl) (fun X O hlX hR => ?_)
  subst hlX
  refine J.iconst (q := 1) (v := (-1 : Int32)) O dX12_answer_0 rfl rfl ?_
  refine J.istore (q := 3) O dX12_answer_1 rfl [(4, .int (-1 : Int32)), (0, .ref (ad G 287)), (1, .int a1), (2, .int a2), (3, .int a3)] (by decide) rfl ?_
  refine J.bipush (q := 5) (v := (30 : Int32)) O dX12_answer_3 rfl rfl ?_
  refine J.iload_n (q := 6) O dX12_answer_5 rfl 2 rfl ?_
  refine J.imul (q := 7) O dX12_answer_6 rfl ?_
  refine J.istore (q := 9) O dX12_answer_7 rfl [(5, .int ((30 : Int32) * a1)), (4, .int (-1 : Int32)), (0, .ref (ad G 287)), (1, .int a1), (2, .int a2), (3, .int a3)] (by decide) rfl ?_
  exact J.sub [2, 3, 4, 5, 1, 0] rfl (j_X12_answer_c9 hG O hR h)
