set_option maxHeartbeats 4000000 in
set_option maxRecDepth 20000 in
theorem j_L_lawa_b117 {E : Int32 → Mem → Prop} {tx : Nat} {b L : Nat} {xs : Nat → Int32} {X : CX} {G : GX} {K : Int32 → Mem → Prop} (hG : Gd G) (O : Ok X G cL_law 13 RL 9) (hR : RetZ X G cL_law K) (OX : OkX G b L xs) (htx : arL G tx 6) (hE : ∀ (x2 : Int32) (M : Mem), E x2 M → J X G M 10 [(0, .ref b), (1, .ref (ad G 0)), (2, .int x2)] []) {M : Mem} (h : f_L_lawa_b117 L xs tx E K  M) : J X G M 117 [] [] := by
  unfold f_L_lawa_b117 at h
  refine J.iconst (q := 118) (v := (0 : Int32)) O dL_law_117 rfl rfl ?_
  exact hR _ _ _ _ dL_law_118 (Or.inl rfl) h
set_option maxHeartbeats 4000000 in
set_option maxRecDepth 20000 in
theorem j_L_lawa_b53 {E : Int32 → Mem → Prop} {tx : Nat} {b L : Nat} {xs : Nat → Int32} {X : CX} {G : GX} {K : Int32 → Mem → Prop} (hG : Gd G) (O : Ok X G cL_law 13 RL 9) (hR : RetZ X G cL_law K) (OX : OkX G b L xs) (htx : arL G tx 6) (hE : ∀ (x2 : Int32) (M : Mem), E x2 M → J X G M 10 [(0, .ref b), (1, .ref (ad G 0)), (2, .int x2)] []) {x2 : Int32} {M : Mem} (h : f_L_lawa_b53 L xs tx E K x2 M) : J X G M 53 [(0, .ref b), (1, .ref (ad G 0)), (2, .int x2)] [.ref (ad G tx)] := by
  unfold f_L_lawa_b53 at h
  refine J.astore_n (q := 54) O dL_law_53 rfl [(3, .ref (ad G tx)), (0, .ref b), (1, .ref (ad G 0)), (2, .int x2)] (by decide) rfl ?_
  refine J.aload_n (q := 55) O dL_law_54 rfl 2 rfl ?_
  refine J.aload_n (q := 56) O dL_law_55 rfl 0 rfl ?_
  refine J.bipush (q := 58) (v := (6 : Int32)) O dL_law_56 rfl rfl ?_
  refine J.callSI (q := 61) [.ref (ad G 0), .ref (ad G tx), .int (6 : Int32)] [] [.int (6 : Int32), .ref (ad G tx), .ref (ad G 0)] rfl O dL_law_58 rfl (c_L_feed htx hG h) wd_4_88 mw_L_feed rfl (by decide) (Nat.le_of_ble_eq_true rfl) (fun v1 M1 h => ?_)
  refine J.bipush (q := 63) (v := (6 : Int32)) O dL_law_61 rfl rfl ?_
  refine J.icmp_ne (q := 66) (tgt := 117) O dL_law_63 rfl (by decide) (fun z2 => ?_) (fun z2 => ?_)
  · replace h := h.1 z2
    exact J.sub [] rfl (j_L_lawa_b117 hG O hR OX htx hE h)
  · replace h := h.2 z2
    refine J.aload_n (q := 67) O dL_law_66 rfl 2 rfl ?_
    refine J.iconst (q := 68) (v := (0 : Int32)) O dL_law_67 rfl rfl ?_
    refine J.callVI (q := 71) [.int (0 : Int32)] [] [.int (0 : Int32), .ref (ad G 0)] rfl O dL_law_68 rfl (c_X11_act hG h) wd_3_31 mw_X11_act io_0 rfl (by decide) (Nat.le_of_ble_eq_true rfl) (fun v3 M3 h => ?_)
    refine J.iload_n (q := 72) O dL_law_71 rfl 3 rfl ?_
    refine J.icmp_ne (q := 75) (tgt := 117) O dL_law_72 rfl (by decide) (fun z4 => ?_) (fun z4 => ?_)
    · replace h := h.1 z4
      exact J.sub [] rfl (j_L_lawa_b117 hG O hR OX htx hE h)
    · replace h := h.2 z4
      refine J.aload_n (q := 76) O dL_law_75 rfl 2 rfl ?_
      refine J.iload_n (q := 77) O dL_law_76 rfl 3 rfl ?_
      refine J.iconst (q := 78) (v := (1 : Int32)) O dL_law_77 rfl rfl ?_
      refine J.iadd (q := 79) O dL_law_78 rfl ?_
      refine J.iconst (q := 80) (v := (0 : Int32)) O dL_law_79 rfl rfl ?_
      refine J.aload_n (q := 81) O dL_law_80 rfl 1 rfl ?_
      refine J.iload_n (q := 82) O dL_law_81 rfl 3 rfl ?_
      refine J.callSI (q := 85) [.ref b, .int x2] [.int (0 : Int32), .int (x2 + (1 : Int32)), .ref (ad G 0)] [.int x2, .ref b, .int (0 : Int32), .int (x2 + (1 : Int32)), .ref (ad G 0)] rfl O dL_law_82 rfl (c_L_cell OX hG h) wd_4_84 mw_L_cell rfl (by decide) (Nat.le_of_ble_eq_true rfl) (fun v5 M5 h => ?_)
      refine J.iconst (q := 86) (v := (3 : Int32)) O dL_law_85 rfl rfl ?_
      refine J.iand (q := 87) O dL_law_86 rfl ?_
      refine J.callVI (q := 90) [.int (x2 + (1 : Int32)), .int (0 : Int32), .int (v5 &&& (3 : Int32))] [] [.int (v5 &&& (3 : Int32)), .int (0 : Int32), .int (x2 + (1 : Int32)), .ref (ad G 0)] rfl O dL_law_87 rfl (c_X11_term hG h) wd_3_120 mw_X11_term io_0 rfl (by decide) (Nat.le_of_ble_eq_true rfl) (fun v6 M6 h => ?_)
      refine J.if_ne (q := 93) (tgt := 117) O dL_law_90 rfl (by decide) (fun z7 => ?_) (fun z7 => ?_)
      · replace h := h.1 z7
        exact J.sub [] rfl (j_L_lawa_b117 hG O hR OX htx hE h)
      · replace h := h.2 z7
        refine J.aload_n (q := 94) O dL_law_93 rfl 2 rfl ?_
        refine J.iload_n (q := 95) O dL_law_94 rfl 3 rfl ?_
        refine J.iconst (q := 96) (v := (1 : Int32)) O dL_law_95 rfl rfl ?_
        refine J.iadd (q := 97) O dL_law_96 rfl ?_
        refine J.iconst (q := 98) (v := (1 : Int32)) O dL_law_97 rfl rfl ?_
        refine J.aload_n (q := 99) O dL_law_98 rfl 1 rfl ?_
        refine J.iconst (q := 100) (v := (4 : Int32)) O dL_law_99 rfl rfl ?_
        refine J.callSI (q := 103) [.ref b, .int (4 : Int32)] [.int (1 : Int32), .int (x2 + (1 : Int32)), .ref (ad G 0)] [.int (4 : Int32), .ref b, .int (1 : Int32), .int (x2 + (1 : Int32)), .ref (ad G 0)] rfl O dL_law_100 rfl (c_L_cell OX hG h) wd_4_84 mw_L_cell rfl (by decide) (Nat.le_of_ble_eq_true rfl) (fun v8 M8 h => ?_)
        refine J.iconst (q := 104) (v := (4 : Int32)) O dL_law_103 rfl rfl ?_
        refine J.iload_n (q := 105) O dL_law_104 rfl 3 rfl ?_
        refine J.imul (q := 106) O dL_law_105 rfl ?_
        refine J.iushr (q := 107) O dL_law_106 rfl ?_
        refine J.bipush (q := 109) (v := (7 : Int32)) O dL_law_107 rfl rfl ?_
        refine J.iand (q := 110) O dL_law_109 rfl ?_
        refine J.callVI (q := 113) [.int (x2 + (1 : Int32)), .int (1 : Int32), .int ((v8.toUInt32 >>> (((4 : Int32) * x2).toUInt32 &&& Int32.toUInt32 31)).toInt32 &&& (7 : Int32))] [] [.int ((v8.toUInt32 >>> (((4 : Int32) * x2).toUInt32 &&& Int32.toUInt32 31)).toInt32 &&& (7 : Int32)), .int (1 : Int32), .int (x2 + (1 : Int32)), .ref (ad G 0)] rfl O dL_law_110 rfl (c_X11_term hG h) wd_3_120 mw_X11_term io_0 rfl (by decide) (Nat.le_of_ble_eq_true rfl) (fun v9 M9 h => ?_)
        refine J.iconst (q := 114) (v := (5 : Int32)) O dL_law_113 rfl rfl ?_
        refine J.icmp_eq (q := 117) (tgt := 119) O dL_law_114 rfl (by decide) (fun z10 => ?_) (fun z10 => ?_)
        · replace h := h.1 z10
          refine J.iinc (q := 122) O dL_law_119 rfl [(2, .int (x2 + (1 : Int32))), (3, .ref (ad G tx)), (0, .ref b), (1, .ref (ad G 0))] 3 rfl rfl (by decide) rfl ?_
          refine J.goto (q := 10) O dL_law_122 (by decide) ?_
          exact J.sub [2, 3, 0] rfl (hE _ _ h)
        · replace h := h.2 z10
          exact J.sub [] rfl (j_L_lawa_b117 hG O hR OX htx hE h)
set_option maxHeartbeats 4000000 in
set_option maxRecDepth 20000 in
theorem j_L_lawb_b202 {E : Mem → Prop} {b L : Nat} {xs : Nat → Int32} {X : CX} {G : GX} {K : Int32 → Mem → Prop} (hG : Gd G) (O : Ok X G cL_law 13 RL 9) (hR : RetZ X G cL_law K) (OX : OkX G b L xs) (hE : ∀ (M : Mem), E M → J X G M 207 [(0, .ref b), (1, .ref (ad G 0))] []) {s0 : Int32} {s1 : Int32} {M : Mem} (h : f_L_lawb_b202 L xs E K s0 s1 M) : J X G M 202 [(0, .ref b), (1, .ref (ad G 0))] [.int s0, .int s1] := by
  unfold f_L_lawb_b202 at h
  refine J.icmp_eq (q := 205) (tgt := 207) O dL_law_202 rfl (by decide) (fun z1 => ?_) (fun z1 => ?_)
  · replace h := h.1 z1
    exact J.sub [0, 1] rfl (hE _ h)
  · replace h := h.2 z1
    refine J.iconst (q := 206) (v := (0 : Int32)) O dL_law_205 rfl rfl ?_
    exact hR _ _ _ _ dL_law_206 (Or.inl rfl) h
set_option maxHeartbeats 4000000 in
set_option maxRecDepth 20000 in
theorem j_L_lawb_c129 {E : Mem → Prop} {b L : Nat} {xs : Nat → Int32} {X : CX} {G : GX} {K : Int32 → Mem → Prop} (hG : Gd G) (O : Ok X G cL_law 13 RL 9) (hR : RetZ X G cL_law K) (OX : OkX G b L xs) (hE : ∀ (M : Mem), E M → J X G M 207 [(0, .ref b), (1, .ref (ad G 0))] []) {a : Int32 × Int32 × Mem} (h : Lp (fun (r129 : Int32 × Int32 × Mem → Prop) a => f_L_lawb_c129 L xs E K r129 a.1 a.2.1 a.2.2) a) : J X G a.2.2 129 [(0, .ref b), (1, .ref (ad G 0)), (2, .int a.1), (3, .int a.2.1)] [] := by
  refine Lp.elim (P := fun a => J X G a.2.2 129 [(0, .ref b), (1, .ref (ad G 0)), (2, .int a.1), (3, .int a.2.1)] []) ?_ h
  clear h
  intro r129 hr129 a h
  obtain ⟨x2, x3, M⟩ := a
  unfold f_L_lawb_c129 at h
  (try dsimp only at h ⊢)
  refine J.iload_n (q := 130) O dL_law_129 rfl 3 rfl ?_
  refine J.bipush (q := 132) (v := (6 : Int32)) O dL_law_130 rfl rfl ?_
  refine J.icmp_ge (q := 135) (tgt := 173) O dL_law_132 rfl (by decide) (fun z2 => ?_) (fun z2 => ?_)
  · replace h := h.1 z2
    refine J.iconst (q := 174) (v := (1 : Int32)) O dL_law_173 rfl rfl ?_
    refine J.aload_n (q := 175) O dL_law_174 rfl 0 rfl ?_
    refine J.bipush (q := 177) (v := (11 : Int32)) O dL_law_175 rfl rfl ?_
    refine J.callSI (q := 180) [.ref b, .int (11 : Int32)] [.int (1 : Int32)] [.int (11 : Int32), .ref b, .int (1 : Int32)] rfl O dL_law_177 rfl (c_L_cell OX hG h) wd_4_84 mw_L_cell rfl (by decide) (Nat.le_of_ble_eq_true rfl) (fun v3 M3 h => ?_)
    refine J.ldc (q := 182) O dL_law_180 rfl wd_4_99 ?_
    refine J.iand (q := 183) O dL_law_182 rfl ?_
    refine J.bipush (q := 185) (v := (9 : Int32)) O dL_law_183 rfl rfl ?_
    refine J.irem (q := 186) O dL_law_185 rfl (by decide) ?_
    refine J.iadd (q := 187) O dL_law_186 rfl ?_
    refine J.istore_n (q := 188) O dL_law_187 rfl [(3, .int ((1 : Int32) + ((v3 &&& (2147483647 : Int32)) - (v3 &&& (2147483647 : Int32)) / (9 : Int32) * (9 : Int32)))), (0, .ref b), (1, .ref (ad G 0)), (2, .int x2)] (by decide) rfl ?_
    refine J.aload_n (q := 189) O dL_law_188 rfl 2 rfl ?_
    refine J.iload_n (q := 190) O dL_law_189 rfl 0 rfl ?_
    refine J.callVI (q := 193) [.int ((1 : Int32) + ((v3 &&& (2147483647 : Int32)) - (v3 &&& (2147483647 : Int32)) / (9 : Int32) * (9 : Int32)))] [] [.int ((1 : Int32) + ((v3 &&& (2147483647 : Int32)) - (v3 &&& (2147483647 : Int32)) / (9 : Int32) * (9 : Int32))), .ref (ad G 0)] rfl O dL_law_190 rfl (c_X11_elect hG h) wd_4_16 mw_X11_elect io_0 rfl (by decide) (Nat.le_of_ble_eq_true rfl) (fun v4 M4 h => ?_)
    refine J.iload_n (q := 194) O dL_law_193 rfl 3 rfl ?_
    refine J.if_le (q := 197) (tgt := 201) O dL_law_194 rfl (by decide) (fun z5 => ?_) (fun z5 => ?_)
    · replace h := h.1 z5
      refine J.iconst (q := 202) (v := (0 : Int32)) O dL_law_201 rfl rfl ?_
      exact J.sub [1, 2] rfl (j_L_lawb_b202 hG O hR OX hE h)
    · replace h := h.2 z5
      refine J.iload_n (q := 198) O dL_law_197 rfl 0 rfl ?_
      refine J.goto (q := 202) O dL_law_198 (by decide) ?_
      exact J.sub [1, 2] rfl (j_L_lawb_b202 hG O hR OX hE h)
  · replace h := h.2 z2
    refine J.aload_n (q := 136) O dL_law_135 rfl 0 rfl ?_
    refine J.iconst (q := 137) (v := (5 : Int32)) O dL_law_136 rfl rfl ?_
    refine J.iload_n (q := 138) O dL_law_137 rfl 3 rfl ?_
    refine J.iadd (q := 139) O dL_law_138 rfl ?_
    refine J.callSI (q := 142) [.ref b, .int ((5 : Int32) + x3)] [] [.int ((5 : Int32) + x3), .ref b] rfl O dL_law_139 rfl (c_L_cell OX hG h) wd_4_84 mw_L_cell rfl (by decide) (Nat.le_of_ble_eq_true rfl) (fun v6 M6 h => ?_)
    refine J.ldc (q := 144) O dL_law_142 rfl wd_4_99 ?_
    refine J.iand (q := 145) O dL_law_144 rfl ?_
    refine J.bipush (q := 147) (v := (50 : Int32)) O dL_law_145 rfl rfl ?_
    refine J.irem (q := 148) O dL_law_147 rfl (by decide) ?_
    refine J.istore (q := 150) O dL_law_148 rfl [(4, .int ((v6 &&& (2147483647 : Int32)) - (v6 &&& (2147483647 : Int32)) / (50 : Int32) * (50 : Int32))), (0, .ref b), (1, .ref (ad G 0)), (2, .int x2), (3, .int x3)] (by decide) rfl ?_
    refine J.iload_n (q := 151) O dL_law_150 rfl 3 rfl ?_
    refine J.iload (q := 153) O dL_law_151 rfl 0 rfl ?_
    refine J.iadd (q := 154) O dL_law_153 rfl ?_
    refine J.istore_n (q := 155) O dL_law_154 rfl [(2, .int (x2 + ((v6 &&& (2147483647 : Int32)) - (v6 &&& (2147483647 : Int32)) / (50 : Int32) * (50 : Int32)))), (4, .int ((v6 &&& (2147483647 : Int32)) - (v6 &&& (2147483647 : Int32)) / (50 : Int32) * (50 : Int32))), (0, .ref b), (1, .ref (ad G 0)), (3, .int x3)] (by decide) rfl ?_
    refine J.aload_n (q := 156) O dL_law_155 rfl 3 rfl ?_
    refine J.iload_n (q := 157) O dL_law_156 rfl 4 rfl ?_
    refine J.iload (q := 159) O dL_law_157 rfl 1 rfl ?_
    refine J.callVI (q := 162) [.int x3, .int ((v6 &&& (2147483647 : Int32)) - (v6 &&& (2147483647 : Int32)) / (50 : Int32) * (50 : Int32))] [] [.int ((v6 &&& (2147483647 : Int32)) - (v6 &&& (2147483647 : Int32)) / (50 : Int32) * (50 : Int32)), .int x3, .ref (ad G 0)] rfl O dL_law_159 rfl (c_X11_votes hG h) wd_4_9 mw_X11_votes io_0 rfl (by decide) (Nat.le_of_ble_eq_true rfl) (fun v7 M7 h => ?_)
    refine J.if_eq (q := 165) (tgt := 167) O dL_law_162 rfl (by decide) (fun z8 => ?_) (fun z8 => ?_)
    · replace h := h.1 z8
      refine J.iinc (q := 170) O dL_law_167 rfl [(3, .int (x3 + (1 : Int32))), (2, .int (x2 + ((v6 &&& (2147483647 : Int32)) - (v6 &&& (2147483647 : Int32)) / (50 : Int32) * (50 : Int32)))), (4, .int ((v6 &&& (2147483647 : Int32)) - (v6 &&& (2147483647 : Int32)) / (50 : Int32) * (50 : Int32))), (0, .ref b), (1, .ref (ad G 0))] 4 rfl rfl (by decide) rfl ?_
      refine J.goto (q := 129) O dL_law_170 (by decide) ?_
      exact J.sub [3, 4, 1, 0] rfl (hr129 _ h)
    · replace h := h.2 z8
      refine J.iconst (q := 166) (v := (0 : Int32)) O dL_law_165 rfl rfl ?_
      exact hR _ _ _ _ dL_law_166 (Or.inl rfl) h
set_option maxHeartbeats 4000000 in
set_option maxRecDepth 20000 in
theorem j_L_lawb_b125 {E : Mem → Prop} {b L : Nat} {xs : Nat → Int32} {X : CX} {G : GX} {K : Int32 → Mem → Prop} (hG : Gd G) (O : Ok X G cL_law 13 RL 9) (hR : RetZ X G cL_law K) (OX : OkX G b L xs) (hE : ∀ (M : Mem), E M → J X G M 207 [(0, .ref b), (1, .ref (ad G 0))] []) {M : Mem} (h : f_L_lawb_b125 L xs E K  M) : J X G M 125 [(0, .ref b), (1, .ref (ad G 0))] [] := by
  unfold f_L_lawb_b125 at h
  refine J.iconst (q := 126) (v := (0 : Int32)) O dL_law_125 rfl rfl ?_
  refine J.istore_n (q := 127) O dL_law_126 rfl [(2, .int (0 : Int32)), (0, .ref b), (1, .ref (ad G 0))] (by decide) rfl ?_
  refine J.iconst (q := 128) (v := (0 : Int32)) O dL_law_127 rfl rfl ?_
  refine J.istore_n (q := 129) O dL_law_128 rfl [(3, .int (0 : Int32)), (2, .int (0 : Int32)), (0, .ref b), (1, .ref (ad G 0))] (by decide) rfl ?_
  exact J.sub [2, 3, 1, 0] rfl (j_L_lawb_c129 hG O hR OX hE h)
set_option maxHeartbeats 4000000 in
set_option maxRecDepth 20000 in
theorem j_L_lawc_b356 {tx : Nat} {b L : Nat} {xs : Nat → Int32} {X : CX} {G : GX} {K : Int32 → Mem → Prop} (hG : Gd G) (O : Ok X G cL_law 13 RL 9) (hR : RetZ X G cL_law K) (OX : OkX G b L xs) (htx : arL G tx 6) {M : Mem} (h : f_L_lawc_b356 L xs tx K  M) : J X G M 356 [] [] := by
  unfold f_L_lawc_b356 at h
  refine J.iconst (q := 357) (v := (0 : Int32)) O dL_law_356 rfl rfl ?_
  exact hR _ _ _ _ dL_law_357 (Or.inl rfl) h
set_option maxHeartbeats 4000000 in
set_option maxRecDepth 20000 in
theorem j_L_lawc_b358 {tx : Nat} {b L : Nat} {xs : Nat → Int32} {X : CX} {G : GX} {K : Int32 → Mem → Prop} (hG : Gd G) (O : Ok X G cL_law 13 RL 9) (hR : RetZ X G cL_law K) (OX : OkX G b L xs) (htx : arL G tx 6) {r249 : Int32 × Mem → Prop} (hr249 : ∀ a : Int32 × Mem, r249 a → J X G a.2 249 [(0, .ref b), (1, .ref (ad G 0)), (4, .ref (ad G tx)), (5, .int a.1)] []) {r259 : Int32 × Int32 × Mem → Prop} (hr259 : ∀ a : Int32 × Int32 × Mem, r259 a → J X G a.2.2 259 [(0, .ref b), (1, .ref (ad G 0)), (4, .ref (ad G tx)), (5, .int a.1), (6, .int a.2.1)] []) {x5 : Int32} {x6 : Int32} {M : Mem} (h : f_L_lawc_b358 L xs tx r249 r259 K x5 x6 M) : J X G M 358 [(0, .ref b), (1, .ref (ad G 0)), (4, .ref (ad G tx)), (5, .int x5), (6, .int x6)] [] := by
  unfold f_L_lawc_b358 at h
  refine J.iinc (q := 361) O dL_law_358 rfl [(6, .int (x6 + (1 : Int32))), (0, .ref b), (1, .ref (ad G 0)), (4, .ref (ad G tx)), (5, .int x5)] 4 rfl rfl (by decide) rfl ?_
  refine J.goto (q := 259) O dL_law_361 (by decide) ?_
  exact J.sub [1, 2, 3, 4, 0] rfl (hr259 _ h)
set_option maxHeartbeats 4000000 in
set_option maxRecDepth 20000 in
theorem j_L_lawc_b327 {tx : Nat} {b L : Nat} {xs : Nat → Int32} {X : CX} {G : GX} {K : Int32 → Mem → Prop} (hG : Gd G) (O : Ok X G cL_law 13 RL 9) (hR : RetZ X G cL_law K) (OX : OkX G b L xs) (htx : arL G tx 6) {r249 : Int32 × Mem → Prop} (hr249 : ∀ a : Int32 × Mem, r249 a → J X G a.2 249 [(0, .ref b), (1, .ref (ad G 0)), (4, .ref (ad G tx)), (5, .int a.1)] []) {r259 : Int32 × Int32 × Mem → Prop} (hr259 : ∀ a : Int32 × Int32 × Mem, r259 a → J X G a.2.2 259 [(0, .ref b), (1, .ref (ad G 0)), (4, .ref (ad G tx)), (5, .int a.1), (6, .int a.2.1)] []) {x5 : Int32} {x6 : Int32} {x7 : Int32} {x8 : Int32} {M : Mem} (h : f_L_lawc_b327 L xs tx r249 r259 K x5 x6 x7 x8 M) : J X G M 327 [(0, .ref b), (1, .ref (ad G 0)), (4, .ref (ad G tx)), (5, .int x5), (6, .int x6), (7, .int x7), (8, .int x8)] [] := by
  unfold f_L_lawc_b327 at h
  refine J.aload_n (q := 328) O dL_law_327 rfl 1 rfl ?_
  refine J.iload (q := 330) O dL_law_328 rfl 3 rfl ?_
  refine J.iload (q := 332) O dL_law_330 rfl 5 rfl ?_
  refine J.callVI (q := 335) [.int x5, .int x7] [] [.int x7, .int x5, .ref (ad G 0)] rfl O dL_law_332 rfl (c_X11_votes hG h) wd_4_9 mw_X11_votes io_0 rfl (by decide) (Nat.le_of_ble_eq_true rfl) (fun v10 M10 h => ?_)
  refine J.if_ne (q := 338) (tgt := 356) O dL_law_335 rfl (by decide) (fun z11 => ?_) (fun z11 => ?_)
  · replace h := h.1 z11
    exact J.sub [] rfl (j_L_lawc_b356 hG O hR OX htx h)
  · replace h := h.2 z11
    refine J.iload (q := 340) O dL_law_338 rfl 3 rfl ?_
    refine J.iload (q := 342) O dL_law_340 rfl 4 rfl ?_
    refine J.icmp_eq (q := 345) (tgt := 358) O dL_law_342 rfl (by decide) (fun z12 => ?_) (fun z12 => ?_)
    · replace h := h.1 z12
      exact J.sub [0, 1, 2, 3, 4] rfl (j_L_lawc_b358 hG O hR OX htx hr249 hr259 h)
    · replace h := h.2 z12
      refine J.aload_n (q := 346) O dL_law_345 rfl 1 rfl ?_
      refine J.iload (q := 348) O dL_law_346 rfl 4 rfl ?_
      refine J.iload (q := 350) O dL_law_348 rfl 6 rfl ?_
      refine J.callVI (q := 353) [.int x6, .int x8] [] [.int x8, .int x6, .ref (ad G 0)] rfl O dL_law_350 rfl (c_X11_votes hG h) wd_4_9 mw_X11_votes io_0 rfl (by decide) (Nat.le_of_ble_eq_true rfl) (fun v13 M13 h => ?_)
      refine J.if_eq (q := 356) (tgt := 358) O dL_law_353 rfl (by decide) (fun z14 => ?_) (fun z14 => ?_)
      · replace h := h.1 z14
        exact J.sub [0, 1, 2, 3, 4] rfl (j_L_lawc_b358 hG O hR OX htx hr249 hr259 h)
      · replace h := h.2 z14
        exact J.sub [] rfl (j_L_lawc_b356 hG O hR OX htx h)
set_option maxHeartbeats 4000000 in
set_option maxRecDepth 20000 in
theorem j_L_lawc_b294 {tx : Nat} {b L : Nat} {xs : Nat → Int32} {X : CX} {G : GX} {K : Int32 → Mem → Prop} (hG : Gd G) (O : Ok X G cL_law 13 RL 9) (hR : RetZ X G cL_law K) (OX : OkX G b L xs) (htx : arL G tx 6) {r249 : Int32 × Mem → Prop} (hr249 : ∀ a : Int32 × Mem, r249 a → J X G a.2 249 [(0, .ref b), (1, .ref (ad G 0)), (4, .ref (ad G tx)), (5, .int a.1)] []) {r259 : Int32 × Int32 × Mem → Prop} (hr259 : ∀ a : Int32 × Int32 × Mem, r259 a → J X G a.2.2 259 [(0, .ref b), (1, .ref (ad G 0)), (4, .ref (ad G tx)), (5, .int a.1), (6, .int a.2.1)] []) {x5 : Int32} {x6 : Int32} {x7 : Int32} {s0 : Int32} {M : Mem} (h : f_L_lawc_b294 L xs tx r249 r259 K x5 x6 x7 s0 M) : J X G M 294 [(0, .ref b), (1, .ref (ad G 0)), (4, .ref (ad G tx)), (5, .int x5), (6, .int x6), (7, .int x7)] [.int s0] := by
  unfold f_L_lawc_b294 at h
  refine J.istore (q := 296) O dL_law_294 rfl [(8, .int s0), (0, .ref b), (1, .ref (ad G 0)), (4, .ref (ad G tx)), (5, .int x5), (6, .int x6), (7, .int x7)] (by decide) rfl ?_
  refine J.aload (q := 298) O dL_law_296 rfl 3 rfl ?_
  refine J.iload (q := 300) O dL_law_298 rfl 5 rfl ?_
  obtain ⟨hv15, h⟩ := h
  refine J.ialdL (q := 301) (c' := tx) (j := x6.toNatClampNeg) (M tx x6.toNatClampNeg) rfl O dL_law_300 rfl htx hv15 rfl ?_
  refine J.if_le (q := 304) (tgt := 327) O dL_law_301 rfl (by decide) (fun z16 => ?_) (fun z16 => ?_)
  · replace h := h.1 z16
    exact J.sub [1, 2, 3, 4, 5, 6, 0] rfl (j_L_lawc_b327 hG O hR OX htx hr249 hr259 h)
  · replace h := h.2 z16
    refine J.iload (q := 306) O dL_law_304 rfl 6 rfl ?_
    refine J.aload (q := 308) O dL_law_306 rfl 3 rfl ?_
    refine J.iload (q := 310) O dL_law_308 rfl 5 rfl ?_
    obtain ⟨hv17, h⟩ := h
    refine J.ialdL (q := 311) (c' := tx) (j := x6.toNatClampNeg) (M tx x6.toNatClampNeg) rfl O dL_law_310 rfl htx hv17 rfl ?_
    refine J.imul (q := 312) O dL_law_311 rfl ?_
    refine J.iload (q := 314) O dL_law_312 rfl 0 rfl ?_
    refine J.aload (q := 316) O dL_law_314 rfl 3 rfl ?_
    refine J.iload (q := 318) O dL_law_316 rfl 4 rfl ?_
    obtain ⟨hv18, h⟩ := h
    refine J.ialdL (q := 319) (c' := tx) (j := x5.toNatClampNeg) (M tx x5.toNatClampNeg) rfl O dL_law_318 rfl htx hv18 rfl ?_
    refine J.iconst (q := 320) (v := (1 : Int32)) O dL_law_319 rfl rfl ?_
    refine J.iadd (q := 321) O dL_law_320 rfl ?_
    refine J.imul (q := 322) O dL_law_321 rfl ?_
    refine J.icmp_le (q := 325) (tgt := 327) O dL_law_322 rfl (by decide) (fun z19 => ?_) (fun z19 => ?_)
    · replace h := h.1 z19
      exact J.sub [1, 2, 3, 4, 5, 6, 0] rfl (j_L_lawc_b327 hG O hR OX htx hr249 hr259 h)
    · replace h := h.2 z19
      refine J.iconst (q := 326) (v := (0 : Int32)) O dL_law_325 rfl rfl ?_
      exact hR _ _ _ _ dL_law_326 (Or.inl rfl) h
set_option maxHeartbeats 4000000 in
set_option maxRecDepth 20000 in
theorem j_L_lawc_c259 {tx : Nat} {b L : Nat} {xs : Nat → Int32} {X : CX} {G : GX} {K : Int32 → Mem → Prop} (hG : Gd G) (O : Ok X G cL_law 13 RL 9) (hR : RetZ X G cL_law K) (OX : OkX G b L xs) (htx : arL G tx 6) {r249 : Int32 × Mem → Prop} (hr249 : ∀ a : Int32 × Mem, r249 a → J X G a.2 249 [(0, .ref b), (1, .ref (ad G 0)), (4, .ref (ad G tx)), (5, .int a.1)] []) {a : Int32 × Int32 × Mem} (h : Lp (fun (r259 : Int32 × Int32 × Mem → Prop) a => f_L_lawc_c259 L xs tx r249 K r259 a.1 a.2.1 a.2.2) a) : J X G a.2.2 259 [(0, .ref b), (1, .ref (ad G 0)), (4, .ref (ad G tx)), (5, .int a.1), (6, .int a.2.1)] [] := by
  refine Lp.elim (P := fun a => J X G a.2.2 259 [(0, .ref b), (1, .ref (ad G 0)), (4, .ref (ad G tx)), (5, .int a.1), (6, .int a.2.1)] []) ?_ h
  clear h
  intro r259 hr259 a h
  obtain ⟨x5, x6, M⟩ := a
  unfold f_L_lawc_c259 at h
  (try dsimp only at h ⊢)
  refine J.iload (q := 261) O dL_law_259 rfl 4 rfl ?_
  refine J.bipush (q := 263) (v := (6 : Int32)) O dL_law_261 rfl rfl ?_
  refine J.icmp_ge (q := 266) (tgt := 364) O dL_law_263 rfl (by decide) (fun z20 => ?_) (fun z20 => ?_)
  · replace h := h.1 z20
    refine J.iinc (q := 367) O dL_law_364 rfl [(5, .int (x5 + (1 : Int32))), (0, .ref b), (1, .ref (ad G 0)), (4, .ref (ad G tx)), (6, .int x6)] 3 rfl rfl (by decide) rfl ?_
    refine J.goto (q := 249) O dL_law_367 (by decide) ?_
    exact J.sub [1, 2, 3, 0] rfl (hr249 _ h)
  · replace h := h.2 z20
    refine J.aload_n (q := 267) O dL_law_266 rfl 1 rfl ?_
    refine J.iload (q := 269) O dL_law_267 rfl 3 rfl ?_
    refine J.iconst (q := 270) (v := (0 : Int32)) O dL_law_269 rfl rfl ?_
    refine J.callVI (q := 273) [.int x5, .int (0 : Int32)] [] [.int (0 : Int32), .int x5, .ref (ad G 0)] rfl O dL_law_270 rfl (c_X11_votes hG h) wd_4_9 mw_X11_votes io_0 rfl (by decide) (Nat.le_of_ble_eq_true rfl) (fun v21 M21 h => ?_)
    refine J.istore (q := 275) O dL_law_273 rfl [(7, .int v21), (0, .ref b), (1, .ref (ad G 0)), (4, .ref (ad G tx)), (5, .int x5), (6, .int x6)] (by decide) rfl ?_
    refine J.iload (q := 277) O dL_law_275 rfl 4 rfl ?_
    refine J.iload (q := 279) O dL_law_277 rfl 5 rfl ?_
    refine J.icmp_ne (q := 282) (tgt := 287) O dL_law_279 rfl (by decide) (fun z22 => ?_) (fun z22 => ?_)
    · replace h := h.1 z22
      refine J.aload_n (q := 288) O dL_law_287 rfl 2 rfl ?_
      refine J.iload (q := 290) O dL_law_288 rfl 5 rfl ?_
      refine J.iconst (q := 291) (v := (0 : Int32)) O dL_law_290 rfl rfl ?_
      refine J.callVI (q := 294) [.int x6, .int (0 : Int32)] [] [.int (0 : Int32), .int x6, .ref (ad G 0)] rfl O dL_law_291 rfl (c_X11_votes hG h) wd_4_9 mw_X11_votes io_0 rfl (by decide) (Nat.le_of_ble_eq_true rfl) (fun v23 M23 h => ?_)
      exact J.sub [1, 2, 3, 4, 5, 0] rfl (j_L_lawc_b294 hG O hR OX htx hr249 hr259 h)
    · replace h := h.2 z22
      refine J.iload (q := 284) O dL_law_282 rfl 0 rfl ?_
      refine J.goto (q := 294) O dL_law_284 (by decide) ?_
      exact J.sub [1, 2, 3, 4, 5, 0] rfl (j_L_lawc_b294 hG O hR OX htx hr249 hr259 h)
set_option maxHeartbeats 4000000 in
set_option maxRecDepth 20000 in
theorem j_L_lawc_b584 {tx : Nat} {b L : Nat} {xs : Nat → Int32} {X : CX} {G : GX} {K : Int32 → Mem → Prop} (hG : Gd G) (O : Ok X G cL_law 13 RL 9) (hR : RetZ X G cL_law K) (OX : OkX G b L xs) (htx : arL G tx 6) {r379 : Int32 × Int32 × Int32 × Mem → Prop} (hr379 : ∀ a : Int32 × Int32 × Int32 × Mem, r379 a → J X G a.2.2.2 379 [(0, .ref b), (1, .ref (ad G 0)), (5, .int a.1), (6, .int a.2.1), (7, .int a.2.2.1)] []) {x5 : Int32} {x6 : Int32} {x7 : Int32} {M : Mem} (h : f_L_lawc_b584 L xs tx r379 K x5 x6 x7 M) : J X G M 584 [(0, .ref b), (1, .ref (ad G 0)), (5, .int x5), (6, .int x6), (7, .int x7)] [] := by
  unfold f_L_lawc_b584 at h
  refine J.iinc (q := 587) O dL_law_584 rfl [(7, .int (x7 + (1 : Int32))), (0, .ref b), (1, .ref (ad G 0)), (5, .int x5), (6, .int x6)] 4 rfl rfl (by decide) rfl ?_
  refine J.goto (q := 379) O dL_law_587 (by decide) ?_
  exact J.sub [1, 2, 3, 4, 0] rfl (hr379 _ h)
set_option maxHeartbeats 4000000 in
set_option maxRecDepth 20000 in
theorem j_L_lawc_b460 {tx : Nat} {b L : Nat} {xs : Nat → Int32} {X : CX} {G : GX} {K : Int32 → Mem → Prop} (hG : Gd G) (O : Ok X G cL_law 13 RL 9) (hR : RetZ X G cL_law K) (OX : OkX G b L xs) (htx : arL G tx 6) {r379 : Int32 × Int32 × Int32 × Mem → Prop} (hr379 : ∀ a : Int32 × Int32 × Int32 × Mem, r379 a → J X G a.2.2.2 379 [(0, .ref b), (1, .ref (ad G 0)), (5, .int a.1), (6, .int a.2.1), (7, .int a.2.2.1)] []) {x5 : Int32} {x6 : Int32} {x7 : Int32} {x8 : Int32} {M : Mem} (h : f_L_lawc_b460 L xs tx r379 K x5 x6 x7 x8 M) : J X G M 460 [(0, .ref b), (1, .ref (ad G 0)), (5, .int x5), (6, .int x6), (7, .int x7), (8, .int x8)] [] := by
  unfold f_L_lawc_b460 at h
  refine J.aload_n (q := 461) O dL_law_460 rfl 1 rfl ?_
  refine J.iload (q := 463) O dL_law_461 rfl 5 rfl ?_
  refine J.iconst (q := 464) (v := (3 : Int32)) O dL_law_463 rfl rfl ?_
  refine J.idiv (q := 465) O dL_law_464 rfl (by decide) ?_
  refine J.iconst (q := 466) (v := (5 : Int32)) O dL_law_465 rfl rfl ?_
  refine J.irem (q := 467) O dL_law_466 rfl (by decide) ?_
  refine J.iconst (q := 468) (v := (1 : Int32)) O dL_law_467 rfl rfl ?_
  refine J.iload (q := 470) O dL_law_468 rfl 5 rfl ?_
  refine J.bipush (q := 472) (v := (15 : Int32)) O dL_law_470 rfl rfl ?_
  refine J.idiv (q := 473) O dL_law_472 rfl (by decide) ?_
  refine J.bipush (q := 475) (v := (63 : Int32)) O dL_law_473 rfl rfl ?_
  refine J.irem (q := 476) O dL_law_475 rfl (by decide) ?_
  refine J.iadd (q := 477) O dL_law_476 rfl ?_
  refine J.iload (q := 479) O dL_law_477 rfl 5 rfl ?_
  refine J.sipush (q := 482) (v := (1000 : Int32)) O dL_law_479 rfl rfl ?_
  refine J.idiv (q := 483) O dL_law_482 rfl (by decide) ?_
  refine J.bipush (q := 485) (v := (9 : Int32)) O dL_law_483 rfl rfl ?_
  refine J.irem (q := 486) O dL_law_485 rfl (by decide) ?_
  refine J.iconst (q := 487) (v := (0 : Int32)) O dL_law_486 rfl rfl ?_
  refine J.callVI (q := 490) [.int ((x8 / (3 : Int32)) - (x8 / (3 : Int32)) / (5 : Int32) * (5 : Int32)), .int ((1 : Int32) + ((x8 / (15 : Int32)) - (x8 / (15 : Int32)) / (63 : Int32) * (63 : Int32))), .int ((x8 / (1000 : Int32)) - (x8 / (1000 : Int32)) / (9 : Int32) * (9 : Int32)), .int (0 : Int32)] [] [.int (0 : Int32), .int ((x8 / (1000 : Int32)) - (x8 / (1000 : Int32)) / (9 : Int32) * (9 : Int32)), .int ((1 : Int32) + ((x8 / (15 : Int32)) - (x8 / (15 : Int32)) / (63 : Int32) * (63 : Int32))), .int ((x8 / (3 : Int32)) - (x8 / (3 : Int32)) / (5 : Int32) * (5 : Int32)), .ref (ad G 0)] rfl O dL_law_487 rfl (c_X11_open hG h) wd_3_126 mw_X11_open io_0 rfl (by decide) (Nat.le_of_ble_eq_true rfl) (fun v24 M24 h => ?_)
  refine J.iload (q := 492) O dL_law_490 rfl 3 rfl ?_
  refine J.icmp_eq (q := 495) (tgt := 497) O dL_law_492 rfl (by decide) (fun z25 => ?_) (fun z25 => ?_)
  · replace h := h.1 z25
    refine J.iinc (q := 500) O dL_law_497 rfl [(6, .int (x6 + (1 : Int32))), (0, .ref b), (1, .ref (ad G 0)), (5, .int x5), (7, .int x7), (8, .int x8)] 3 rfl rfl (by decide) rfl ?_
    refine J.goto (q := 584) O dL_law_500 (by decide) ?_
    exact J.sub [1, 2, 3, 0, 4] rfl (j_L_lawc_b584 hG O hR OX htx hr379 h)
  · replace h := h.2 z25
    refine J.iconst (q := 496) (v := (0 : Int32)) O dL_law_495 rfl rfl ?_
    exact hR _ _ _ _ dL_law_496 (Or.inl rfl) h
set_option maxHeartbeats 4000000 in
set_option maxRecDepth 20000 in
theorem j_L_lawc_b582 {tx : Nat} {b L : Nat} {xs : Nat → Int32} {X : CX} {G : GX} {K : Int32 → Mem → Prop} (hG : Gd G) (O : Ok X G cL_law 13 RL 9) (hR : RetZ X G cL_law K) (OX : OkX G b L xs) (htx : arL G tx 6) {M : Mem} (h : f_L_lawc_b582 L xs tx K  M) : J X G M 582 [] [] := by
  unfold f_L_lawc_b582 at h
  refine J.iconst (q := 583) (v := (0 : Int32)) O dL_law_582 rfl rfl ?_
  exact hR _ _ _ _ dL_law_583 (Or.inl rfl) h
set_option maxHeartbeats 4000000 in
set_option maxRecDepth 20000 in
theorem j_L_lawc_b558 {tx : Nat} {b L : Nat} {xs : Nat → Int32} {X : CX} {G : GX} {K : Int32 → Mem → Prop} (hG : Gd G) (O : Ok X G cL_law 13 RL 9) (hR : RetZ X G cL_law K) (OX : OkX G b L xs) (htx : arL G tx 6) {r379 : Int32 × Int32 × Int32 × Mem → Prop} (hr379 : ∀ a : Int32 × Int32 × Int32 × Mem, r379 a → J X G a.2.2.2 379 [(0, .ref b), (1, .ref (ad G 0)), (5, .int a.1), (6, .int a.2.1), (7, .int a.2.2.1)] []) {x5 : Int32} {x6 : Int32} {x7 : Int32} {x10 : Int32} {s0 : Int32} {M : Mem} (h : f_L_lawc_b558 L xs tx r379 K x5 x6 x7 x10 s0 M) : J X G M 558 [(0, .ref b), (1, .ref (ad G 0)), (5, .int x5), (6, .int x6), (7, .int x7), (10, .int x10)] [.int s0] := by
  unfold f_L_lawc_b558 at h
  refine J.istore (q := 560) O dL_law_558 rfl [(11, .int s0), (0, .ref b), (1, .ref (ad G 0)), (5, .int x5), (6, .int x6), (7, .int x7), (10, .int x10)] (by decide) rfl ?_
  refine J.iload (q := 562) O dL_law_560 rfl 6 rfl ?_
  refine J.iconst (q := 563) (v := (1 : Int32)) O dL_law_562 rfl rfl ?_
  refine J.icmp_ne (q := 566) (tgt := 576) O dL_law_563 rfl (by decide) (fun z26 => ?_) (fun z26 => ?_)
  · replace h := h.1 z26
    refine J.iload (q := 578) O dL_law_576 rfl 0 rfl ?_
    refine J.iconst (q := 579) (v := (1 : Int32)) O dL_law_578 rfl rfl ?_
    refine J.icmp_ge (q := 582) (tgt := 584) O dL_law_579 rfl (by decide) (fun z27 => ?_) (fun z27 => ?_)
    · replace h := h.1 z27
      exact J.sub [1, 2, 3, 4, 5] rfl (j_L_lawc_b584 hG O hR OX htx hr379 h)
    · replace h := h.2 z27
      exact J.sub [] rfl (j_L_lawc_b582 hG O hR OX htx h)
  · replace h := h.2 z26
    refine J.iload (q := 568) O dL_law_566 rfl 0 rfl ?_
    refine J.bipush (q := 570) (v := (-3 : Int32)) O dL_law_568 rfl rfl ?_
    refine J.icmp_eq (q := 573) (tgt := 584) O dL_law_570 rfl (by decide) (fun z28 => ?_) (fun z28 => ?_)
    · replace h := h.1 z28
      exact J.sub [1, 2, 3, 4, 5] rfl (j_L_lawc_b584 hG O hR OX htx hr379 h)
    · replace h := h.2 z28
      refine J.goto (q := 582) O dL_law_573 (by decide) ?_
      exact J.sub [] rfl (j_L_lawc_b582 hG O hR OX htx h)
set_option maxHeartbeats 4000000 in
set_option maxRecDepth 20000 in
theorem j_L_lawc_b447 {tx : Nat} {b L : Nat} {xs : Nat → Int32} {X : CX} {G : GX} {K : Int32 → Mem → Prop} (hG : Gd G) (O : Ok X G cL_law 13 RL 9) (hR : RetZ X G cL_law K) (OX : OkX G b L xs) (htx : arL G tx 6) {r379 : Int32 × Int32 × Int32 × Mem → Prop} (hr379 : ∀ a : Int32 × Int32 × Int32 × Mem, r379 a → J X G a.2.2.2 379 [(0, .ref b), (1, .ref (ad G 0)), (5, .int a.1), (6, .int a.2.1), (7, .int a.2.2.1)] []) {x5 : Int32} {x6 : Int32} {x7 : Int32} {x8 : Int32} {M : Mem} (h : f_L_lawc_b447 L xs tx r379 K x5 x6 x7 x8 M) : J X G M 447 [(0, .ref b), (1, .ref (ad G 0)), (5, .int x5), (6, .int x6), (7, .int x7), (8, .int x8)] [] := by
  unfold f_L_lawc_b447 at h
  refine J.iload (q := 449) O dL_law_447 rfl 5 rfl ?_
  refine J.iconst (q := 450) (v := (3 : Int32)) O dL_law_449 rfl rfl ?_
  refine J.irem (q := 451) O dL_law_450 rfl (by decide) ?_
  refine J.iconst (q := 452) (v := (1 : Int32)) O dL_law_451 rfl rfl ?_
  refine J.icmp_eq (q := 455) (tgt := 460) O dL_law_452 rfl (by decide) (fun z29 => ?_) (fun z29 => ?_)
  · replace h := h.1 z29
    exact J.sub [0, 1, 2, 3, 4, 5] rfl (j_L_lawc_b460 hG O hR OX htx hr379 h)
  · replace h := h.2 z29
    refine J.iload (q := 457) O dL_law_455 rfl 3 rfl ?_
    refine J.if_ne (q := 460) (tgt := 503) O dL_law_457 rfl (by decide) (fun z30 => ?_) (fun z30 => ?_)
    · replace h := h.1 z30
      refine J.iload (q := 505) O dL_law_503 rfl 5 rfl ?_
      refine J.iconst (q := 506) (v := (3 : Int32)) O dL_law_505 rfl rfl ?_
      refine J.idiv (q := 507) O dL_law_506 rfl (by decide) ?_
      refine J.iload (q := 509) O dL_law_507 rfl 3 rfl ?_
      obtain ⟨hz31, h⟩ := h
      refine J.irem (q := 510) O dL_law_509 rfl hz31 ?_
      refine J.istore (q := 512) O dL_law_510 rfl [(9, .int ((x8 / (3 : Int32)) - (x8 / (3 : Int32)) / x6 * x6)), (0, .ref b), (1, .ref (ad G 0)), (5, .int x5), (6, .int x6), (7, .int x7), (8, .int x8)] (by decide) rfl ?_
      refine J.aload_n (q := 513) O dL_law_512 rfl 2 rfl ?_
      refine J.iload (q := 515) O dL_law_513 rfl 0 rfl ?_
      refine J.iload (q := 517) O dL_law_515 rfl 3 rfl ?_
      refine J.iload (q := 519) O dL_law_517 rfl 3 rfl ?_
      refine J.callVI (q := 522) [.int ((x8 / (3 : Int32)) - (x8 / (3 : Int32)) / x6 * x6), .int x5, .int x5] [] [.int x5, .int x5, .int ((x8 / (3 : Int32)) - (x8 / (3 : Int32)) / x6 * x6), .ref (ad G 0)] rfl O dL_law_519 rfl (c_X11_state hG h) wd_3_202 mw_X11_state io_0 rfl (by decide) (Nat.le_of_ble_eq_true rfl) (fun v32 M32 h => ?_)
      refine J.istore (q := 524) O dL_law_522 rfl [(10, .int v32), (9, .int ((x8 / (3 : Int32)) - (x8 / (3 : Int32)) / x6 * x6)), (0, .ref b), (1, .ref (ad G 0)), (5, .int x5), (6, .int x6), (7, .int x7), (8, .int x8)] (by decide) rfl ?_
      refine J.iload (q := 526) O dL_law_524 rfl 7 rfl ?_
      refine J.bipush (q := 528) (v := (20 : Int32)) O dL_law_526 rfl rfl ?_
      refine J.iushr (q := 529) O dL_law_528 rfl ?_
      refine J.bipush (q := 531) (v := (7 : Int32)) O dL_law_529 rfl rfl ?_
      refine J.iand (q := 532) O dL_law_531 rfl ?_
      refine J.if_ne (q := 535) (tgt := 544) O dL_law_532 rfl (by decide) (fun z33 => ?_) (fun z33 => ?_)
      · replace h := h.1 z33
        refine J.aload_n (q := 545) O dL_law_544 rfl 3 rfl ?_
        refine J.iload (q := 547) O dL_law_545 rfl 1 rfl ?_
        refine J.iload (q := 549) O dL_law_547 rfl 7 rfl ?_
        refine J.bipush (q := 551) (v := (24 : Int32)) O dL_law_549 rfl rfl ?_
        refine J.iushr (q := 552) O dL_law_551 rfl ?_
        refine J.iconst (q := 553) (v := (1 : Int32)) O dL_law_552 rfl rfl ?_
        refine J.iand (q := 554) O dL_law_553 rfl ?_
        refine J.iconst (q := 555) (v := (1 : Int32)) O dL_law_554 rfl rfl ?_
        refine J.callVI (q := 558) [.int ((x8 / (3 : Int32)) - (x8 / (3 : Int32)) / x6 * x6), .int ((x8.toUInt32 >>> ((24 : Int32).toUInt32 &&& Int32.toUInt32 31)).toInt32 &&& (1 : Int32)), .int (1 : Int32)] [] [.int (1 : Int32), .int ((x8.toUInt32 >>> ((24 : Int32).toUInt32 &&& Int32.toUInt32 31)).toInt32 &&& (1 : Int32)), .int ((x8 / (3 : Int32)) - (x8 / (3 : Int32)) / x6 * x6), .ref (ad G 0)] rfl O dL_law_555 rfl (c_X11_paper hG h) wd_3_174 mw_X11_paper io_0 rfl (by decide) (Nat.le_of_ble_eq_true rfl) (fun v34 M34 h => ?_)
        exact J.sub [2, 3, 4, 5, 6, 0] rfl (j_L_lawc_b558 hG O hR OX htx hr379 h)
      · replace h := h.2 z33
        refine J.aload_n (q := 536) O dL_law_535 rfl 3 rfl ?_
        refine J.iload (q := 538) O dL_law_536 rfl 1 rfl ?_
        refine J.callVI (q := 541) [.int ((x8 / (3 : Int32)) - (x8 / (3 : Int32)) / x6 * x6)] [] [.int ((x8 / (3 : Int32)) - (x8 / (3 : Int32)) / x6 * x6), .ref (ad G 0)] rfl O dL_law_538 rfl (c_X11_withdraw hG h) wd_3_198 mw_X11_withdraw io_0 rfl (by decide) (Nat.le_of_ble_eq_true rfl) (fun v35 M35 h => ?_)
        refine J.goto (q := 558) O dL_law_541 (by decide) ?_
        exact J.sub [2, 3, 4, 5, 6, 0] rfl (j_L_lawc_b558 hG O hR OX htx hr379 h)
    · replace h := h.2 z30
      exact J.sub [0, 1, 2, 3, 4, 5] rfl (j_L_lawc_b460 hG O hR OX htx hr379 h)
set_option maxHeartbeats 4000000 in
set_option maxRecDepth 20000 in
theorem j_L_lawc_b654 {tx : Nat} {b L : Nat} {xs : Nat → Int32} {X : CX} {G : GX} {K : Int32 → Mem → Prop} (hG : Gd G) (O : Ok X G cL_law 13 RL 9) (hR : RetZ X G cL_law K) (OX : OkX G b L xs) (htx : arL G tx 6) {r628 : Int32 × Int32 × Int32 × Int32 × Int32 × Int32 × Mem → Prop} (hr628 : ∀ a : Int32 × Int32 × Int32 × Int32 × Int32 × Int32 × Mem, r628 a → J X G a.2.2.2.2.2.2 628 [(0, .ref b), (1, .ref (ad G 0)), (5, .int a.1), (6, .int a.2.1), (7, .int a.2.2.1), (8, .int a.2.2.2.1), (9, .int a.2.2.2.2.1), (10, .int a.2.2.2.2.2.1)] []) {x5 : Int32} {x6 : Int32} {x7 : Int32} {x8 : Int32} {x10 : Int32} {s0 : Int32} {s1 : Int32} {M : Mem} (h : f_L_lawc_b654 L xs tx r628 K x5 x6 x7 x8 x10 s0 s1 M) : J X G M 654 [(0, .ref b), (1, .ref (ad G 0)), (5, .int x5), (6, .int x6), (7, .int x7), (8, .int x8), (10, .int x10)] [.int s0, .int s1] := by
  unfold f_L_lawc_b654 at h
  refine J.iadd (q := 655) O dL_law_654 rfl ?_
  refine J.istore (q := 657) O dL_law_655 rfl [(9, .int (s1 + s0)), (0, .ref b), (1, .ref (ad G 0)), (5, .int x5), (6, .int x6), (7, .int x7), (8, .int x8), (10, .int x10)] (by decide) rfl ?_
  refine J.iinc (q := 660) O dL_law_657 rfl [(10, .int (x10 + (1 : Int32))), (9, .int (s1 + s0)), (0, .ref b), (1, .ref (ad G 0)), (5, .int x5), (6, .int x6), (7, .int x7), (8, .int x8)] 7 rfl rfl (by decide) rfl ?_
  refine J.goto (q := 628) O dL_law_660 (by decide) ?_
  exact J.sub [2, 3, 4, 5, 6, 7, 1, 0] rfl (hr628 _ h)
set_option maxHeartbeats 4000000 in
set_option maxRecDepth 20000 in
theorem j_L_lawc_b727 {tx : Nat} {b L : Nat} {xs : Nat → Int32} {X : CX} {G : GX} {K : Int32 → Mem → Prop} (hG : Gd G) (O : Ok X G cL_law 13 RL 9) (hR : RetZ X G cL_law K) (OX : OkX G b L xs) (htx : arL G tx 6) {r682 : Int32 × Int32 × Int32 × Int32 × Int32 × Int32 × Int32 × Mem → Prop} (hr682 : ∀ a : Int32 × Int32 × Int32 × Int32 × Int32 × Int32 × Int32 × Mem, r682 a → J X G a.2.2.2.2.2.2.2 682 [(1, .ref (ad G 0)), (5, .int a.1), (6, .int a.2.1), (7, .int a.2.2.1), (8, .int a.2.2.2.1), (9, .int a.2.2.2.2.1), (10, .int a.2.2.2.2.2.1), (11, .int a.2.2.2.2.2.2.1)] []) {r691 : Int32 × Int32 × Int32 × Int32 × Int32 × Int32 × Int32 × Int32 × Mem → Prop} (hr691 : ∀ a : Int32 × Int32 × Int32 × Int32 × Int32 × Int32 × Int32 × Int32 × Mem, r691 a → J X G a.2.2.2.2.2.2.2.2 691 [(1, .ref (ad G 0)), (5, .int a.1), (6, .int a.2.1), (7, .int a.2.2.1), (8, .int a.2.2.2.1), (9, .int a.2.2.2.2.1), (10, .int a.2.2.2.2.2.1), (11, .int a.2.2.2.2.2.2.1), (12, .int a.2.2.2.2.2.2.2.1)] []) {x5 : Int32} {x6 : Int32} {x7 : Int32} {x8 : Int32} {x9 : Int32} {x10 : Int32} {x11 : Int32} {x12 : Int32} {s0 : Int32} {s1 : Int32} {M : Mem} (h : f_L_lawc_b727 L xs tx r682 r691 K x5 x6 x7 x8 x9 x10 x11 x12 s0 s1 M) : J X G M 727 [(1, .ref (ad G 0)), (5, .int x5), (6, .int x6), (7, .int x7), (8, .int x8), (9, .int x9), (10, .int x10), (11, .int x11), (12, .int x12)] [.int s0, .int s1, .ref (ad G 0)] := by
  unfold f_L_lawc_b727 at h
  refine J.iadd (q := 728) O dL_law_727 rfl ?_
  refine J.callVI (q := 731) [.int (s1 + s0)] [] [.int (s1 + s0), .ref (ad G 0)] rfl O dL_law_728 rfl (c_X11_put hG h) wd_4_36 mw_X11_put io_0 rfl (by decide) (Nat.le_of_ble_eq_true rfl) (fun v36 M36 h => ?_)
  refine J.iload (q := 733) O dL_law_731 rfl 8 rfl ?_
  refine J.iconst (q := 734) (v := (1 : Int32)) O dL_law_733 rfl rfl ?_
  refine J.iadd (q := 735) O dL_law_734 rfl ?_
  refine J.icmp_eq (q := 738) (tgt := 740) O dL_law_735 rfl (by decide) (fun z37 => ?_) (fun z37 => ?_)
  · replace h := h.1 z37
    refine J.iinc (q := 743) O dL_law_740 rfl [(12, .int (x12 + (1 : Int32))), (1, .ref (ad G 0)), (5, .int x5), (6, .int x6), (7, .int x7), (8, .int x8), (9, .int x9), (10, .int x10), (11, .int x11)] 8 rfl rfl (by decide) rfl ?_
    refine J.goto (q := 691) O dL_law_743 (by decide) ?_
    exact J.sub [1, 2, 3, 4, 5, 6, 7, 8, 0] rfl (hr691 _ h)
  · replace h := h.2 z37
    refine J.iconst (q := 739) (v := (0 : Int32)) O dL_law_738 rfl rfl ?_
    exact hR _ _ _ _ dL_law_739 (Or.inl rfl) h
set_option maxHeartbeats 4000000 in
set_option maxRecDepth 20000 in
theorem j_L_lawc_b726 {tx : Nat} {b L : Nat} {xs : Nat → Int32} {X : CX} {G : GX} {K : Int32 → Mem → Prop} (hG : Gd G) (O : Ok X G cL_law 13 RL 9) (hR : RetZ X G cL_law K) (OX : OkX G b L xs) (htx : arL G tx 6) {r682 : Int32 × Int32 × Int32 × Int32 × Int32 × Int32 × Int32 × Mem → Prop} (hr682 : ∀ a : Int32 × Int32 × Int32 × Int32 × Int32 × Int32 × Int32 × Mem, r682 a → J X G a.2.2.2.2.2.2.2 682 [(1, .ref (ad G 0)), (5, .int a.1), (6, .int a.2.1), (7, .int a.2.2.1), (8, .int a.2.2.2.1), (9, .int a.2.2.2.2.1), (10, .int a.2.2.2.2.2.1), (11, .int a.2.2.2.2.2.2.1)] []) {r691 : Int32 × Int32 × Int32 × Int32 × Int32 × Int32 × Int32 × Int32 × Mem → Prop} (hr691 : ∀ a : Int32 × Int32 × Int32 × Int32 × Int32 × Int32 × Int32 × Int32 × Mem, r691 a → J X G a.2.2.2.2.2.2.2.2 691 [(1, .ref (ad G 0)), (5, .int a.1), (6, .int a.2.1), (7, .int a.2.2.1), (8, .int a.2.2.2.1), (9, .int a.2.2.2.2.1), (10, .int a.2.2.2.2.2.1), (11, .int a.2.2.2.2.2.2.1), (12, .int a.2.2.2.2.2.2.2.1)] []) {x5 : Int32} {x6 : Int32} {x7 : Int32} {x8 : Int32} {x9 : Int32} {x10 : Int32} {x11 : Int32} {x12 : Int32} {s0 : Int32} {M : Mem} (h : f_L_lawc_b726 L xs tx r682 r691 K x5 x6 x7 x8 x9 x10 x11 x12 s0 M) : J X G M 726 [(1, .ref (ad G 0)), (5, .int x5), (6, .int x6), (7, .int x7), (8, .int x8), (9, .int x9), (10, .int x10), (11, .int x11), (12, .int x12)] [.int s0, .ref (ad G 0)] := by
  unfold f_L_lawc_b726 at h
  refine J.iconst (q := 727) (v := (0 : Int32)) O dL_law_726 rfl rfl ?_
  exact J.sub [0, 1, 2, 3, 4, 5, 6, 7, 8] rfl (j_L_lawc_b727 hG O hR OX htx hr682 hr691 h)
set_option maxHeartbeats 4000000 in
set_option maxRecDepth 20000 in
theorem j_L_lawc_b786 {tx : Nat} {b L : Nat} {xs : Nat → Int32} {X : CX} {G : GX} {K : Int32 → Mem → Prop} (hG : Gd G) (O : Ok X G cL_law 13 RL 9) (hR : RetZ X G cL_law K) (OX : OkX G b L xs) (htx : arL G tx 6) {M : Mem} (h : f_L_lawc_b786 L xs tx K  M) : J X G M 786 [] [] := by
  unfold f_L_lawc_b786 at h
  refine J.iconst (q := 787) (v := (0 : Int32)) O dL_law_786 rfl rfl ?_
  exact hR _ _ _ _ dL_law_787 (Or.inl rfl) h
set_option maxHeartbeats 4000000 in
set_option maxRecDepth 20000 in
theorem j_L_lawc_b774 {tx : Nat} {b L : Nat} {xs : Nat → Int32} {X : CX} {G : GX} {K : Int32 → Mem → Prop} (hG : Gd G) (O : Ok X G cL_law 13 RL 9) (hR : RetZ X G cL_law K) (OX : OkX G b L xs) (htx : arL G tx 6) {r682 : Int32 × Int32 × Int32 × Int32 × Int32 × Int32 × Int32 × Mem → Prop} (hr682 : ∀ a : Int32 × Int32 × Int32 × Int32 × Int32 × Int32 × Int32 × Mem, r682 a → J X G a.2.2.2.2.2.2.2 682 [(1, .ref (ad G 0)), (5, .int a.1), (6, .int a.2.1), (7, .int a.2.2.1), (8, .int a.2.2.2.1), (9, .int a.2.2.2.2.1), (10, .int a.2.2.2.2.2.1), (11, .int a.2.2.2.2.2.2.1)] []) {x5 : Int32} {x6 : Int32} {x7 : Int32} {x8 : Int32} {x9 : Int32} {x10 : Int32} {x11 : Int32} {s0 : Int32} {s1 : Int32} {M : Mem} (h : f_L_lawc_b774 L xs tx r682 K x5 x6 x7 x8 x9 x10 x11 s0 s1 M) : J X G M 774 [(1, .ref (ad G 0)), (5, .int x5), (6, .int x6), (7, .int x7), (8, .int x8), (9, .int x9), (10, .int x10), (11, .int x11)] [.int s0, .int s1] := by
  unfold f_L_lawc_b774 at h
  refine J.icmp_ne (q := 777) (tgt := 786) O dL_law_774 rfl (by decide) (fun z38 => ?_) (fun z38 => ?_)
  · replace h := h.1 z38
    exact J.sub [] rfl (j_L_lawc_b786 hG O hR OX htx h)
  · replace h := h.2 z38
    refine J.aload_n (q := 778) O dL_law_777 rfl 0 rfl ?_
    refine J.bipush (q := 780) (v := (10 : Int32)) O dL_law_778 rfl rfl ?_
    refine J.callVI (q := 783) [.int (10 : Int32)] [] [.int (10 : Int32), .ref (ad G 0)] rfl O dL_law_780 rfl (c_X11_count hG h) wd_4_44 mw_X11_count io_0 rfl (by decide) (Nat.le_of_ble_eq_true rfl) (fun v39 M39 h => ?_)
    refine J.if_eq (q := 786) (tgt := 788) O dL_law_783 rfl (by decide) (fun z40 => ?_) (fun z40 => ?_)
    · replace h := h.1 z40
      refine J.iinc (q := 791) O dL_law_788 rfl [(11, .int (x11 + (1 : Int32))), (1, .ref (ad G 0)), (5, .int x5), (6, .int x6), (7, .int x7), (8, .int x8), (9, .int x9), (10, .int x10)] 7 rfl rfl (by decide) rfl ?_
      refine J.goto (q := 682) O dL_law_791 (by decide) ?_
      exact J.sub [1, 2, 3, 4, 5, 6, 7, 0] rfl (hr682 _ h)
    · replace h := h.2 z40
      exact J.sub [] rfl (j_L_lawc_b786 hG O hR OX htx h)
set_option maxHeartbeats 4000000 in
set_option maxRecDepth 20000 in
theorem j_L_lawc_b772 {tx : Nat} {b L : Nat} {xs : Nat → Int32} {X : CX} {G : GX} {K : Int32 → Mem → Prop} (hG : Gd G) (O : Ok X G cL_law 13 RL 9) (hR : RetZ X G cL_law K) (OX : OkX G b L xs) (htx : arL G tx 6) {r682 : Int32 × Int32 × Int32 × Int32 × Int32 × Int32 × Int32 × Mem → Prop} (hr682 : ∀ a : Int32 × Int32 × Int32 × Int32 × Int32 × Int32 × Int32 × Mem, r682 a → J X G a.2.2.2.2.2.2.2 682 [(1, .ref (ad G 0)), (5, .int a.1), (6, .int a.2.1), (7, .int a.2.2.1), (8, .int a.2.2.2.1), (9, .int a.2.2.2.2.1), (10, .int a.2.2.2.2.2.1), (11, .int a.2.2.2.2.2.2.1)] []) {x5 : Int32} {x6 : Int32} {x7 : Int32} {x8 : Int32} {x9 : Int32} {x10 : Int32} {x11 : Int32} {s0 : Int32} {M : Mem} (h : f_L_lawc_b772 L xs tx r682 K x5 x6 x7 x8 x9 x10 x11 s0 M) : J X G M 772 [(1, .ref (ad G 0)), (5, .int x5), (6, .int x6), (7, .int x7), (8, .int x8), (9, .int x9), (10, .int x10), (11, .int x11)] [.int s0] := by
  unfold f_L_lawc_b772 at h
  refine J.bipush (q := 774) (v := (-9 : Int32)) O dL_law_772 rfl rfl ?_
  exact J.sub [0, 1, 2, 3, 4, 5, 6, 7] rfl (j_L_lawc_b774 hG O hR OX htx hr682 h)
set_option maxHeartbeats 4000000 in
set_option maxRecDepth 20000 in
theorem j_L_lawc_c691 {tx : Nat} {b L : Nat} {xs : Nat → Int32} {X : CX} {G : GX} {K : Int32 → Mem → Prop} (hG : Gd G) (O : Ok X G cL_law 13 RL 9) (hR : RetZ X G cL_law K) (OX : OkX G b L xs) (htx : arL G tx 6) {r682 : Int32 × Int32 × Int32 × Int32 × Int32 × Int32 × Int32 × Mem → Prop} (hr682 : ∀ a : Int32 × Int32 × Int32 × Int32 × Int32 × Int32 × Int32 × Mem, r682 a → J X G a.2.2.2.2.2.2.2 682 [(1, .ref (ad G 0)), (5, .int a.1), (6, .int a.2.1), (7, .int a.2.2.1), (8, .int a.2.2.2.1), (9, .int a.2.2.2.2.1), (10, .int a.2.2.2.2.2.1), (11, .int a.2.2.2.2.2.2.1)] []) {a : Int32 × Int32 × Int32 × Int32 × Int32 × Int32 × Int32 × Int32 × Mem} (h : Lp (fun (r691 : Int32 × Int32 × Int32 × Int32 × Int32 × Int32 × Int32 × Int32 × Mem → Prop) a => f_L_lawc_c691 L xs tx r682 K r691 a.1 a.2.1 a.2.2.1 a.2.2.2.1 a.2.2.2.2.1 a.2.2.2.2.2.1 a.2.2.2.2.2.2.1 a.2.2.2.2.2.2.2.1 a.2.2.2.2.2.2.2.2) a) : J X G a.2.2.2.2.2.2.2.2 691 [(1, .ref (ad G 0)), (5, .int a.1), (6, .int a.2.1), (7, .int a.2.2.1), (8, .int a.2.2.2.1), (9, .int a.2.2.2.2.1), (10, .int a.2.2.2.2.2.1), (11, .int a.2.2.2.2.2.2.1), (12, .int a.2.2.2.2.2.2.2.1)] [] := by
  refine Lp.elim (P := fun a => J X G a.2.2.2.2.2.2.2.2 691 [(1, .ref (ad G 0)), (5, .int a.1), (6, .int a.2.1), (7, .int a.2.2.1), (8, .int a.2.2.2.1), (9, .int a.2.2.2.2.1), (10, .int a.2.2.2.2.2.1), (11, .int a.2.2.2.2.2.2.1), (12, .int a.2.2.2.2.2.2.2.1)] []) ?_ h
  clear h
  intro r691 hr691 a h
  obtain ⟨x5, x6, x7, x8, x9, x10, x11, x12, M⟩ := a
  unfold f_L_lawc_c691 at h
  (try dsimp only at h ⊢)
  refine J.iload (q := 693) O dL_law_691 rfl 8 rfl ?_
  refine J.iload (q := 695) O dL_law_693 rfl 5 rfl ?_
  refine J.icmp_ge (q := 698) (tgt := 746) O dL_law_695 rfl (by decide) (fun z41 => ?_) (fun z41 => ?_)
  · replace h := h.1 z41
    refine J.aload_n (q := 747) O dL_law_746 rfl 0 rfl ?_
    refine J.iload (q := 749) O dL_law_747 rfl 4 rfl ?_
    refine J.iload (q := 751) O dL_law_749 rfl 3 rfl ?_
    refine J.callVI (q := 754) [.int x8, .int x7] [] [.int x7, .int x8, .ref (ad G 0)] rfl O dL_law_751 rfl (c_X11_check hG h) wd_4_40 mw_X11_check io_0 rfl (by decide) (Nat.le_of_ble_eq_true rfl) (fun v42 M42 h => ?_)
    refine J.iload (q := 756) O dL_law_754 rfl 7 rfl ?_
    refine J.iconst (q := 757) (v := (1 : Int32)) O dL_law_756 rfl rfl ?_
    refine J.icmp_ne (q := 760) (tgt := 772) O dL_law_757 rfl (by decide) (fun z43 => ?_) (fun z43 => ?_)
    · replace h := h.1 z43
      exact J.sub [0, 1, 2, 3, 4, 5, 6, 7] rfl (j_L_lawc_b772 hG O hR OX htx hr682 h)
    · replace h := h.2 z43
      refine J.iload (q := 762) O dL_law_760 rfl 6 rfl ?_
      refine J.iload (q := 764) O dL_law_762 rfl 5 rfl ?_
      refine J.icmp_ge (q := 767) (tgt := 772) O dL_law_764 rfl (by decide) (fun z44 => ?_) (fun z44 => ?_)
      · replace h := h.1 z44
        exact J.sub [0, 1, 2, 3, 4, 5, 6, 7] rfl (j_L_lawc_b772 hG O hR OX htx hr682 h)
      · replace h := h.2 z44
        refine J.iload (q := 769) O dL_law_767 rfl 6 rfl ?_
        refine J.goto (q := 774) O dL_law_769 (by decide) ?_
        exact J.sub [0, 1, 2, 3, 4, 5, 6, 7] rfl (j_L_lawc_b774 hG O hR OX htx hr682 h)
  · replace h := h.2 z41
    refine J.aload_n (q := 699) O dL_law_698 rfl 0 rfl ?_
    refine J.aload_n (q := 700) O dL_law_699 rfl 0 rfl ?_
    refine J.iload (q := 702) O dL_law_700 rfl 8 rfl ?_
    refine J.iload (q := 704) O dL_law_702 rfl 4 rfl ?_
    refine J.iload (q := 706) O dL_law_704 rfl 3 rfl ?_
    refine J.callVI (q := 709) [.int x12, .int x8, .int x7] [.ref (ad G 0)] [.int x7, .int x8, .int x12, .ref (ad G 0), .ref (ad G 0)] rfl O dL_law_706 rfl (c_X11_state hG h) wd_3_202 mw_X11_state io_0 rfl (by decide) (Nat.le_of_ble_eq_true rfl) (fun v45 M45 h => ?_)
    refine J.iload (q := 711) O dL_law_709 rfl 7 rfl ?_
    refine J.iconst (q := 712) (v := (1 : Int32)) O dL_law_711 rfl rfl ?_
    refine J.icmp_ne (q := 715) (tgt := 726) O dL_law_712 rfl (by decide) (fun z46 => ?_) (fun z46 => ?_)
    · replace h := h.1 z46
      exact J.sub [0, 1, 2, 3, 4, 5, 6, 7, 8] rfl (j_L_lawc_b726 hG O hR OX htx hr682 hr691 h)
    · replace h := h.2 z46
      refine J.iload (q := 717) O dL_law_715 rfl 8 rfl ?_
      refine J.iload (q := 719) O dL_law_717 rfl 6 rfl ?_
      refine J.icmp_ne (q := 722) (tgt := 726) O dL_law_719 rfl (by decide) (fun z47 => ?_) (fun z47 => ?_)
      · replace h := h.1 z47
        exact J.sub [0, 1, 2, 3, 4, 5, 6, 7, 8] rfl (j_L_lawc_b726 hG O hR OX htx hr682 hr691 h)
      · replace h := h.2 z47
        refine J.iconst (q := 723) (v := (1 : Int32)) O dL_law_722 rfl rfl ?_
        refine J.goto (q := 727) O dL_law_723 (by decide) ?_
        exact J.sub [0, 1, 2, 3, 4, 5, 6, 7, 8] rfl (j_L_lawc_b727 hG O hR OX htx hr682 hr691 h)
set_option maxHeartbeats 4000000 in
set_option maxRecDepth 20000 in
theorem j_L_lawc_b886 {tx : Nat} {b L : Nat} {xs : Nat → Int32} {X : CX} {G : GX} {K : Int32 → Mem → Prop} (hG : Gd G) (O : Ok X G cL_law 13 RL 9) (hR : RetZ X G cL_law K) (OX : OkX G b L xs) (htx : arL G tx 6) {s0 : Int32} {M : Mem} (h : f_L_lawc_b886 L xs tx K s0 M) : J X G M 886 [] [.int s0] := by
  unfold f_L_lawc_b886 at h
  exact hR _ _ _ _ dL_law_886 h.1 h.2
set_option maxHeartbeats 4000000 in
set_option maxRecDepth 20000 in
theorem j_L_lawc_b885 {tx : Nat} {b L : Nat} {xs : Nat → Int32} {X : CX} {G : GX} {K : Int32 → Mem → Prop} (hG : Gd G) (O : Ok X G cL_law 13 RL 9) (hR : RetZ X G cL_law K) (OX : OkX G b L xs) (htx : arL G tx 6) {M : Mem} (h : f_L_lawc_b885 L xs tx K  M) : J X G M 885 [] [] := by
  unfold f_L_lawc_b885 at h
  refine J.iconst (q := 886) (v := (0 : Int32)) O dL_law_885 rfl rfl ?_
  exact J.sub [] rfl (j_L_lawc_b886 hG O hR OX htx h)
set_option maxHeartbeats 4000000 in
set_option maxRecDepth 20000 in
theorem j_L_lawc_c797 {tx : Nat} {b L : Nat} {xs : Nat → Int32} {X : CX} {G : GX} {K : Int32 → Mem → Prop} (hG : Gd G) (O : Ok X G cL_law 13 RL 9) (hR : RetZ X G cL_law K) (OX : OkX G b L xs) (htx : arL G tx 6) {a : Int32 × Int32 × Int32 × Int32 × Int32 × Int32 × Mem} (h : Lp (fun (r797 : Int32 × Int32 × Int32 × Int32 × Int32 × Int32 × Mem → Prop) a => f_L_lawc_c797 L xs tx K r797 a.1 a.2.1 a.2.2.1 a.2.2.2.1 a.2.2.2.2.1 a.2.2.2.2.2.1 a.2.2.2.2.2.2) a) : J X G a.2.2.2.2.2.2 797 [(1, .ref (ad G 0)), (5, .int a.1), (6, .int a.2.1), (7, .int a.2.2.1), (8, .int a.2.2.2.1), (9, .int a.2.2.2.2.1), (11, .int a.2.2.2.2.2.1)] [] := by
  refine Lp.elim (P := fun a => J X G a.2.2.2.2.2.2 797 [(1, .ref (ad G 0)), (5, .int a.1), (6, .int a.2.1), (7, .int a.2.2.1), (8, .int a.2.2.2.1), (9, .int a.2.2.2.2.1), (11, .int a.2.2.2.2.2.1)] []) ?_ h
  clear h
  intro r797 hr797 a h
  obtain ⟨x5, x6, x7, x8, x9, x11, M⟩ := a
  unfold f_L_lawc_c797 at h
  (try dsimp only at h ⊢)
  refine J.iload (q := 799) O dL_law_797 rfl 6 rfl ?_
  refine J.iload (q := 801) O dL_law_799 rfl 5 rfl ?_
  refine J.icmp_ge (q := 804) (tgt := 835) O dL_law_801 rfl (by decide) (fun z49 => ?_) (fun z49 => ?_)
  · replace h := h.1 z49
    refine J.aload_n (q := 836) O dL_law_835 rfl 0 rfl ?_
    refine J.iconst (q := 837) (v := (0 : Int32)) O dL_law_836 rfl rfl ?_
    refine J.callVI (q := 840) [.int (0 : Int32)] [] [.int (0 : Int32), .ref (ad G 0)] rfl O dL_law_837 rfl (c_X11_put hG h) wd_4_36 mw_X11_put io_0 rfl (by decide) (Nat.le_of_ble_eq_true rfl) (fun v50 M50 h => ?_)
    refine J.iconst (q := 841) (v := (1 : Int32)) O dL_law_840 rfl rfl ?_
    refine J.icmp_ne (q := 844) (tgt := 885) O dL_law_841 rfl (by decide) (fun z51 => ?_) (fun z51 => ?_)
    · replace h := h.1 z51
      exact J.sub [] rfl (j_L_lawc_b885 hG O hR OX htx h)
    · replace h := h.2 z51
      refine J.aload_n (q := 845) O dL_law_844 rfl 0 rfl ?_
      refine J.iload (q := 847) O dL_law_845 rfl 1 rfl ?_
      refine J.iconst (q := 848) (v := (1 : Int32)) O dL_law_847 rfl rfl ?_
      refine J.iadd (q := 849) O dL_law_848 rfl ?_
      refine J.iload (q := 851) O dL_law_849 rfl 1 rfl ?_
      refine J.iconst (q := 852) (v := (1 : Int32)) O dL_law_851 rfl rfl ?_
      refine J.iadd (q := 853) O dL_law_852 rfl ?_
      refine J.callVI (q := 856) [.int (x5 + (1 : Int32)), .int (x5 + (1 : Int32))] [] [.int (x5 + (1 : Int32)), .int (x5 + (1 : Int32)), .ref (ad G 0)] rfl O dL_law_853 rfl (c_X11_check hG h) wd_4_40 mw_X11_check io_0 rfl (by decide) (Nat.le_of_ble_eq_true rfl) (fun v52 M52 h => ?_)
      refine J.bipush (q := 858) (v := (-3 : Int32)) O dL_law_856 rfl rfl ?_
      refine J.icmp_ne (q := 861) (tgt := 885) O dL_law_858 rfl (by decide) (fun z53 => ?_) (fun z53 => ?_)
      · replace h := h.1 z53
        exact J.sub [] rfl (j_L_lawc_b885 hG O hR OX htx h)
      · replace h := h.2 z53
        refine J.aload_n (q := 862) O dL_law_861 rfl 0 rfl ?_
        refine J.bipush (q := 864) (v := (10 : Int32)) O dL_law_862 rfl rfl ?_
        refine J.callVI (q := 867) [.int (10 : Int32)] [] [.int (10 : Int32), .ref (ad G 0)] rfl O dL_law_864 rfl (c_X11_count hG h) wd_4_44 mw_X11_count io_0 rfl (by decide) (Nat.le_of_ble_eq_true rfl) (fun v54 M54 h => ?_)
        refine J.iconst (q := 868) (v := (1 : Int32)) O dL_law_867 rfl rfl ?_
        refine J.icmp_ne (q := 871) (tgt := 885) O dL_law_868 rfl (by decide) (fun z55 => ?_) (fun z55 => ?_)
        · replace h := h.1 z55
          exact J.sub [] rfl (j_L_lawc_b885 hG O hR OX htx h)
        · replace h := h.2 z55
          refine J.aload_n (q := 872) O dL_law_871 rfl 0 rfl ?_
          refine J.iconst (q := 873) (v := (3 : Int32)) O dL_law_872 rfl rfl ?_
          refine J.callVI (q := 876) [.int (3 : Int32)] [] [.int (3 : Int32), .ref (ad G 0)] rfl O dL_law_873 rfl (c_X11_count hG h) wd_4_44 mw_X11_count io_0 rfl (by decide) (Nat.le_of_ble_eq_true rfl) (fun v56 M56 h => ?_)
          refine J.iload (q := 878) O dL_law_876 rfl 2 rfl ?_
          refine J.icmp_ne (q := 881) (tgt := 885) O dL_law_878 rfl (by decide) (fun z57 => ?_) (fun z57 => ?_)
          · replace h := h.1 z57
            exact J.sub [] rfl (j_L_lawc_b885 hG O hR OX htx h)
          · replace h := h.2 z57
            refine J.iconst (q := 882) (v := (1 : Int32)) O dL_law_881 rfl rfl ?_
            refine J.goto (q := 886) O dL_law_882 (by decide) ?_
            exact J.sub [] rfl (j_L_lawc_b886 hG O hR OX htx h)
  · replace h := h.2 z49
    refine J.aload_n (q := 805) O dL_law_804 rfl 0 rfl ?_
    refine J.iload (q := 807) O dL_law_805 rfl 6 rfl ?_
    refine J.iload (q := 809) O dL_law_807 rfl 4 rfl ?_
    refine J.iload (q := 811) O dL_law_809 rfl 3 rfl ?_
    refine J.callVI (q := 814) [.int x11, .int x8, .int x7] [] [.int x7, .int x8, .int x11, .ref (ad G 0)] rfl O dL_law_811 rfl (c_X11_state hG h) wd_3_202 mw_X11_state io_0 rfl (by decide) (Nat.le_of_ble_eq_true rfl) (fun v58 M58 h => ?_)
    refine J.aload_n (q := 815) O dL_law_814 rfl 0 rfl ?_
    refine J.iload (q := 817) O dL_law_815 rfl 6 rfl ?_
    refine J.iload (q := 819) O dL_law_817 rfl 4 rfl ?_
    refine J.iload (q := 821) O dL_law_819 rfl 1 rfl ?_
    refine J.callVI (q := 824) [.int x11, .int x8, .int x5] [.int v58] [.int x5, .int x8, .int x11, .ref (ad G 0), .int v58] rfl O dL_law_821 rfl (c_X11_state hG h) wd_3_202 mw_X11_state io_0 rfl (by decide) (Nat.le_of_ble_eq_true rfl) (fun v59 M59 h => ?_)
    refine J.icmp_eq (q := 827) (tgt := 829) O dL_law_824 rfl (by decide) (fun z60 => ?_) (fun z60 => ?_)
    · replace h := h.1 z60
      refine J.iinc (q := 832) O dL_law_829 rfl [(11, .int (x11 + (1 : Int32))), (1, .ref (ad G 0)), (5, .int x5), (6, .int x6), (7, .int x7), (8, .int x8), (9, .int x9)] 6 rfl rfl (by decide) rfl ?_
      refine J.goto (q := 797) O dL_law_832 (by decide) ?_
      exact J.sub [1, 2, 3, 4, 5, 6, 0] rfl (hr797 _ h)
    · replace h := h.2 z60
      refine J.iconst (q := 828) (v := (0 : Int32)) O dL_law_827 rfl rfl ?_
      exact hR _ _ _ _ dL_law_828 (Or.inl rfl) h
set_option maxHeartbeats 4000000 in
set_option maxRecDepth 20000 in
theorem j_L_lawc_c682 {tx : Nat} {b L : Nat} {xs : Nat → Int32} {X : CX} {G : GX} {K : Int32 → Mem → Prop} (hG : Gd G) (O : Ok X G cL_law 13 RL 9) (hR : RetZ X G cL_law K) (OX : OkX G b L xs) (htx : arL G tx 6) {a : Int32 × Int32 × Int32 × Int32 × Int32 × Int32 × Int32 × Mem} (h : Lp (fun (r682 : Int32 × Int32 × Int32 × Int32 × Int32 × Int32 × Int32 × Mem → Prop) a => f_L_lawc_c682 L xs tx K r682 a.1 a.2.1 a.2.2.1 a.2.2.2.1 a.2.2.2.2.1 a.2.2.2.2.2.1 a.2.2.2.2.2.2.1 a.2.2.2.2.2.2.2) a) : J X G a.2.2.2.2.2.2.2 682 [(1, .ref (ad G 0)), (5, .int a.1), (6, .int a.2.1), (7, .int a.2.2.1), (8, .int a.2.2.2.1), (9, .int a.2.2.2.2.1), (10, .int a.2.2.2.2.2.1), (11, .int a.2.2.2.2.2.2.1)] [] := by
  refine Lp.elim (P := fun a => J X G a.2.2.2.2.2.2.2 682 [(1, .ref (ad G 0)), (5, .int a.1), (6, .int a.2.1), (7, .int a.2.2.1), (8, .int a.2.2.2.1), (9, .int a.2.2.2.2.1), (10, .int a.2.2.2.2.2.1), (11, .int a.2.2.2.2.2.2.1)] []) ?_ h
  clear h
  intro r682 hr682 a h
  obtain ⟨x5, x6, x7, x8, x9, x10, x11, M⟩ := a
  unfold f_L_lawc_c682 at h
  (try dsimp only at h ⊢)
  refine J.iload (q := 684) O dL_law_682 rfl 7 rfl ?_
  refine J.iconst (q := 685) (v := (2 : Int32)) O dL_law_684 rfl rfl ?_
  refine J.icmp_ge (q := 688) (tgt := 794) O dL_law_685 rfl (by decide) (fun z61 => ?_) (fun z61 => ?_)
  · replace h := h.1 z61
    refine J.iconst (q := 795) (v := (0 : Int32)) O dL_law_794 rfl rfl ?_
    refine J.istore (q := 797) O dL_law_795 rfl [(11, .int (0 : Int32)), (1, .ref (ad G 0)), (5, .int x5), (6, .int x6), (7, .int x7), (8, .int x8), (9, .int x9), (10, .int x10)] (by decide) rfl ?_
    exact J.sub [1, 2, 3, 4, 5, 6, 0] rfl (j_L_lawc_c797 hG O hR OX htx h)
  · replace h := h.2 z61
    refine J.iconst (q := 689) (v := (0 : Int32)) O dL_law_688 rfl rfl ?_
    refine J.istore (q := 691) O dL_law_689 rfl [(12, .int (0 : Int32)), (1, .ref (ad G 0)), (5, .int x5), (6, .int x6), (7, .int x7), (8, .int x8), (9, .int x9), (10, .int x10), (11, .int x11)] (by decide) rfl ?_
    exact J.sub [1, 2, 3, 4, 5, 6, 7, 8, 0] rfl (j_L_lawc_c691 hG O hR OX htx hr682 h)
set_option maxHeartbeats 4000000 in
set_option maxRecDepth 20000 in
theorem j_L_lawc_c628 {tx : Nat} {b L : Nat} {xs : Nat → Int32} {X : CX} {G : GX} {K : Int32 → Mem → Prop} (hG : Gd G) (O : Ok X G cL_law 13 RL 9) (hR : RetZ X G cL_law K) (OX : OkX G b L xs) (htx : arL G tx 6) {a : Int32 × Int32 × Int32 × Int32 × Int32 × Int32 × Mem} (h : Lp (fun (r628 : Int32 × Int32 × Int32 × Int32 × Int32 × Int32 × Mem → Prop) a => f_L_lawc_c628 L xs tx K r628 a.1 a.2.1 a.2.2.1 a.2.2.2.1 a.2.2.2.2.1 a.2.2.2.2.2.1 a.2.2.2.2.2.2) a) : J X G a.2.2.2.2.2.2 628 [(0, .ref b), (1, .ref (ad G 0)), (5, .int a.1), (6, .int a.2.1), (7, .int a.2.2.1), (8, .int a.2.2.2.1), (9, .int a.2.2.2.2.1), (10, .int a.2.2.2.2.2.1)] [] := by
  refine Lp.elim (P := fun a => J X G a.2.2.2.2.2.2 628 [(0, .ref b), (1, .ref (ad G 0)), (5, .int a.1), (6, .int a.2.1), (7, .int a.2.2.1), (8, .int a.2.2.2.1), (9, .int a.2.2.2.2.1), (10, .int a.2.2.2.2.2.1)] []) ?_ h
  clear h
  intro r628 hr628 a h
  obtain ⟨x5, x6, x7, x8, x9, x10, M⟩ := a
  unfold f_L_lawc_c628 at h
  (try dsimp only at h ⊢)
  refine J.iload (q := 630) O dL_law_628 rfl 7 rfl ?_
  refine J.iload (q := 632) O dL_law_630 rfl 3 rfl ?_
  refine J.icmp_ge (q := 635) (tgt := 663) O dL_law_632 rfl (by decide) (fun z62 => ?_) (fun z62 => ?_)
  · replace h := h.1 z62
    refine J.aload_n (q := 664) O dL_law_663 rfl 0 rfl ?_
    refine J.bipush (q := 666) (v := (32 : Int32)) O dL_law_664 rfl rfl ?_
    refine J.callSI (q := 669) [.ref b, .int (32 : Int32)] [] [.int (32 : Int32), .ref b] rfl O dL_law_666 rfl (c_L_cell OX hG h) wd_4_84 mw_L_cell rfl (by decide) (Nat.le_of_ble_eq_true rfl) (fun v63 M63 h => ?_)
    refine J.ldc (q := 671) O dL_law_669 rfl wd_4_99 ?_
    refine J.iand (q := 672) O dL_law_671 rfl ?_
    refine J.iload (q := 674) O dL_law_672 rfl 6 rfl ?_
    refine J.iconst (q := 675) (v := (2 : Int32)) O dL_law_674 rfl rfl ?_
    refine J.iadd (q := 676) O dL_law_675 rfl ?_
    obtain ⟨hz64, h⟩ := h
    refine J.irem (q := 677) O dL_law_676 rfl hz64 ?_
    refine J.istore (q := 679) O dL_law_677 rfl [(10, .int ((v63 &&& (2147483647 : Int32)) - (v63 &&& (2147483647 : Int32)) / (x9 + (2 : Int32)) * (x9 + (2 : Int32)))), (0, .ref b), (1, .ref (ad G 0)), (5, .int x5), (6, .int x6), (7, .int x7), (8, .int x8), (9, .int x9)] (by decide) rfl ?_
    refine J.iconst (q := 680) (v := (0 : Int32)) O dL_law_679 rfl rfl ?_
    refine J.istore (q := 682) O dL_law_680 rfl [(11, .int (0 : Int32)), (10, .int ((v63 &&& (2147483647 : Int32)) - (v63 &&& (2147483647 : Int32)) / (x9 + (2 : Int32)) * (x9 + (2 : Int32)))), (0, .ref b), (1, .ref (ad G 0)), (5, .int x5), (6, .int x6), (7, .int x7), (8, .int x8), (9, .int x9)] (by decide) rfl ?_
    exact J.sub [3, 4, 5, 6, 7, 8, 1, 0] rfl (j_L_lawc_c682 hG O hR OX htx h)
  · replace h := h.2 z62
    refine J.iload (q := 637) O dL_law_635 rfl 6 rfl ?_
    refine J.aload_n (q := 638) O dL_law_637 rfl 1 rfl ?_
    refine J.iload (q := 640) O dL_law_638 rfl 7 rfl ?_
    refine J.iconst (q := 641) (v := (1 : Int32)) O dL_law_640 rfl rfl ?_
    refine J.callVI (q := 644) [.int x10, .int (1 : Int32)] [.int x9] [.int (1 : Int32), .int x10, .ref (ad G 0), .int x9] rfl O dL_law_641 rfl (c_X11_matterOf hG h) wd_3_235 mw_X11_matterOf io_0 rfl (by decide) (Nat.le_of_ble_eq_true rfl) (fun v65 M65 h => ?_)
    refine J.iload (q := 646) O dL_law_644 rfl 5 rfl ?_
    refine J.icmp_gt (q := 649) (tgt := 653) O dL_law_646 rfl (by decide) (fun z66 => ?_) (fun z66 => ?_)
    · replace h := h.1 z66
      refine J.iconst (q := 654) (v := (0 : Int32)) O dL_law_653 rfl rfl ?_
      exact J.sub [0, 1, 2, 3, 4, 5, 7] rfl (j_L_lawc_b654 hG O hR OX htx hr628 h)
    · replace h := h.2 z66
      refine J.iconst (q := 650) (v := (1 : Int32)) O dL_law_649 rfl rfl ?_
      refine J.goto (q := 654) O dL_law_650 (by decide) ?_
      exact J.sub [0, 1, 2, 3, 4, 5, 7] rfl (j_L_lawc_b654 hG O hR OX htx hr628 h)
set_option maxHeartbeats 4000000 in
set_option maxRecDepth 20000 in
theorem j_L_lawc_c379 {tx : Nat} {b L : Nat} {xs : Nat → Int32} {X : CX} {G : GX} {K : Int32 → Mem → Prop} (hG : Gd G) (O : Ok X G cL_law 13 RL 9) (hR : RetZ X G cL_law K) (OX : OkX G b L xs) (htx : arL G tx 6) {a : Int32 × Int32 × Int32 × Mem} (h : Lp (fun (r379 : Int32 × Int32 × Int32 × Mem → Prop) a => f_L_lawc_c379 L xs tx K r379 a.1 a.2.1 a.2.2.1 a.2.2.2) a) : J X G a.2.2.2 379 [(0, .ref b), (1, .ref (ad G 0)), (5, .int a.1), (6, .int a.2.1), (7, .int a.2.2.1)] [] := by
  refine Lp.elim (P := fun a => J X G a.2.2.2 379 [(0, .ref b), (1, .ref (ad G 0)), (5, .int a.1), (6, .int a.2.1), (7, .int a.2.2.1)] []) ?_ h
  clear h
  intro r379 hr379 a h
  obtain ⟨x5, x6, x7, M⟩ := a
  unfold f_L_lawc_c379 at h
  (try dsimp only at h ⊢)
  refine J.iload (q := 381) O dL_law_379 rfl 4 rfl ?_
  refine J.bipush (q := 383) (v := (16 : Int32)) O dL_law_381 rfl rfl ?_
  refine J.icmp_ge (q := 386) (tgt := 590) O dL_law_383 rfl (by decide) (fun z67 => ?_) (fun z67 => ?_)
  · replace h := h.1 z67
    refine J.aload_n (q := 591) O dL_law_590 rfl 0 rfl ?_
    refine J.bipush (q := 593) (v := (30 : Int32)) O dL_law_591 rfl rfl ?_
    refine J.callSI (q := 596) [.ref b, .int (30 : Int32)] [] [.int (30 : Int32), .ref b] rfl O dL_law_593 rfl (c_L_cell OX hG h) wd_4_84 mw_L_cell rfl (by decide) (Nat.le_of_ble_eq_true rfl) (fun v68 M68 h => ?_)
    refine J.ldc (q := 598) O dL_law_596 rfl wd_4_99 ?_
    refine J.iand (q := 599) O dL_law_598 rfl ?_
    refine J.iload (q := 601) O dL_law_599 rfl 2 rfl ?_
    refine J.iconst (q := 602) (v := (1 : Int32)) O dL_law_601 rfl rfl ?_
    refine J.iadd (q := 603) O dL_law_602 rfl ?_
    obtain ⟨hz69, h⟩ := h
    refine J.irem (q := 604) O dL_law_603 rfl hz69 ?_
    refine J.istore (q := 606) O dL_law_604 rfl [(7, .int ((v68 &&& (2147483647 : Int32)) - (v68 &&& (2147483647 : Int32)) / (x5 + (1 : Int32)) * (x5 + (1 : Int32)))), (0, .ref b), (1, .ref (ad G 0)), (5, .int x5), (6, .int x6)] (by decide) rfl ?_
    refine J.aload_n (q := 607) O dL_law_606 rfl 1 rfl ?_
    refine J.bipush (q := 609) (v := (31 : Int32)) O dL_law_607 rfl rfl ?_
    refine J.callSI (q := 612) [.ref b, .int (31 : Int32)] [] [.int (31 : Int32), .ref b] rfl O dL_law_609 rfl (c_L_cell OX hG h) wd_4_84 mw_L_cell rfl (by decide) (Nat.le_of_ble_eq_true rfl) (fun v70 M70 h => ?_)
    refine J.ldc (q := 614) O dL_law_612 rfl wd_4_99 ?_
    refine J.iand (q := 615) O dL_law_614 rfl ?_
    refine J.iload (q := 617) O dL_law_615 rfl 0 rfl ?_
    refine J.iconst (q := 618) (v := (1 : Int32)) O dL_law_617 rfl rfl ?_
    refine J.iadd (q := 619) O dL_law_618 rfl ?_
    obtain ⟨hz71, h⟩ := h
    refine J.irem (q := 620) O dL_law_619 rfl hz71 ?_
    refine J.istore (q := 622) O dL_law_620 rfl [(8, .int ((v70 &&& (2147483647 : Int32)) - (v70 &&& (2147483647 : Int32)) / (((v68 &&& (2147483647 : Int32)) - (v68 &&& (2147483647 : Int32)) / (x5 + (1 : Int32)) * (x5 + (1 : Int32))) + (1 : Int32)) * (((v68 &&& (2147483647 : Int32)) - (v68 &&& (2147483647 : Int32)) / (x5 + (1 : Int32)) * (x5 + (1 : Int32))) + (1 : Int32)))), (7, .int ((v68 &&& (2147483647 : Int32)) - (v68 &&& (2147483647 : Int32)) / (x5 + (1 : Int32)) * (x5 + (1 : Int32)))), (0, .ref b), (1, .ref (ad G 0)), (5, .int x5), (6, .int x6)] (by decide) rfl ?_
    refine J.iconst (q := 623) (v := (0 : Int32)) O dL_law_622 rfl rfl ?_
    refine J.istore (q := 625) O dL_law_623 rfl [(9, .int (0 : Int32)), (8, .int ((v70 &&& (2147483647 : Int32)) - (v70 &&& (2147483647 : Int32)) / (((v68 &&& (2147483647 : Int32)) - (v68 &&& (2147483647 : Int32)) / (x5 + (1 : Int32)) * (x5 + (1 : Int32))) + (1 : Int32)) * (((v68 &&& (2147483647 : Int32)) - (v68 &&& (2147483647 : Int32)) / (x5 + (1 : Int32)) * (x5 + (1 : Int32))) + (1 : Int32)))), (7, .int ((v68 &&& (2147483647 : Int32)) - (v68 &&& (2147483647 : Int32)) / (x5 + (1 : Int32)) * (x5 + (1 : Int32)))), (0, .ref b), (1, .ref (ad G 0)), (5, .int x5), (6, .int x6)] (by decide) rfl ?_
    refine J.iconst (q := 626) (v := (0 : Int32)) O dL_law_625 rfl rfl ?_
    refine J.istore (q := 628) O dL_law_626 rfl [(10, .int (0 : Int32)), (9, .int (0 : Int32)), (8, .int ((v70 &&& (2147483647 : Int32)) - (v70 &&& (2147483647 : Int32)) / (((v68 &&& (2147483647 : Int32)) - (v68 &&& (2147483647 : Int32)) / (x5 + (1 : Int32)) * (x5 + (1 : Int32))) + (1 : Int32)) * (((v68 &&& (2147483647 : Int32)) - (v68 &&& (2147483647 : Int32)) / (x5 + (1 : Int32)) * (x5 + (1 : Int32))) + (1 : Int32)))), (7, .int ((v68 &&& (2147483647 : Int32)) - (v68 &&& (2147483647 : Int32)) / (x5 + (1 : Int32)) * (x5 + (1 : Int32)))), (0, .ref b), (1, .ref (ad G 0)), (5, .int x5), (6, .int x6)] (by decide) rfl ?_
    exact J.sub [4, 5, 6, 7, 3, 2, 1, 0] rfl (j_L_lawc_c628 hG O hR OX htx h)
  · replace h := h.2 z67
    refine J.aload_n (q := 387) O dL_law_386 rfl 0 rfl ?_
    refine J.bipush (q := 389) (v := (12 : Int32)) O dL_law_387 rfl rfl ?_
    refine J.iload (q := 391) O dL_law_389 rfl 4 rfl ?_
    refine J.iadd (q := 392) O dL_law_391 rfl ?_
    refine J.callSI (q := 395) [.ref b, .int ((12 : Int32) + x7)] [] [.int ((12 : Int32) + x7), .ref b] rfl O dL_law_392 rfl (c_L_cell OX hG h) wd_4_84 mw_L_cell rfl (by decide) (Nat.le_of_ble_eq_true rfl) (fun v72 M72 h => ?_)
    refine J.ldc (q := 397) O dL_law_395 rfl wd_4_99 ?_
    refine J.iand (q := 398) O dL_law_397 rfl ?_
    refine J.istore (q := 400) O dL_law_398 rfl [(8, .int (v72 &&& (2147483647 : Int32))), (0, .ref b), (1, .ref (ad G 0)), (5, .int x5), (6, .int x6), (7, .int x7)] (by decide) rfl ?_
    refine J.iload (q := 402) O dL_law_400 rfl 0 rfl ?_
    refine J.iconst (q := 403) (v := (3 : Int32)) O dL_law_402 rfl rfl ?_
    refine J.irem (q := 404) O dL_law_403 rfl (by decide) ?_
    refine J.if_ne (q := 407) (tgt := 447) O dL_law_404 rfl (by decide) (fun z73 => ?_) (fun z73 => ?_)
    · replace h := h.1 z73
      exact J.sub [1, 2, 3, 4, 5, 0] rfl (j_L_lawc_b447 hG O hR OX htx hr379 h)
    · replace h := h.2 z73
      refine J.iload (q := 409) O dL_law_407 rfl 3 rfl ?_
      refine J.sipush (q := 412) (v := (900 : Int32)) O dL_law_409 rfl rfl ?_
      refine J.icmp_ge (q := 415) (tgt := 447) O dL_law_412 rfl (by decide) (fun z74 => ?_) (fun z74 => ?_)
      · replace h := h.1 z74
        exact J.sub [1, 2, 3, 4, 5, 0] rfl (j_L_lawc_b447 hG O hR OX htx hr379 h)
      · replace h := h.2 z74
        refine J.iload (q := 417) O dL_law_415 rfl 3 rfl ?_
        refine J.iconst (q := 418) (v := (1 : Int32)) O dL_law_417 rfl rfl ?_
        refine J.iload (q := 420) O dL_law_418 rfl 0 rfl ?_
        refine J.iconst (q := 421) (v := (3 : Int32)) O dL_law_420 rfl rfl ?_
        refine J.idiv (q := 422) O dL_law_421 rfl (by decide) ?_
        refine J.iconst (q := 423) (v := (4 : Int32)) O dL_law_422 rfl rfl ?_
        refine J.irem (q := 424) O dL_law_423 rfl (by decide) ?_
        refine J.iadd (q := 425) O dL_law_424 rfl ?_
        refine J.iadd (q := 426) O dL_law_425 rfl ?_
        refine J.istore (q := 428) O dL_law_426 rfl [(5, .int (x5 + ((1 : Int32) + (((v72 &&& (2147483647 : Int32)) / (3 : Int32)) - ((v72 &&& (2147483647 : Int32)) / (3 : Int32)) / (4 : Int32) * (4 : Int32))))), (8, .int (v72 &&& (2147483647 : Int32))), (0, .ref b), (1, .ref (ad G 0)), (6, .int x6), (7, .int x7)] (by decide) rfl ?_
        refine J.aload_n (q := 429) O dL_law_428 rfl 3 rfl ?_
        refine J.iload (q := 431) O dL_law_429 rfl 0 rfl ?_
        refine J.aload_n (q := 432) O dL_law_431 rfl 3 rfl ?_
        refine J.iconst (q := 433) (v := (0 : Int32)) O dL_law_432 rfl rfl ?_
        refine J.callVI (q := 436) [.int (0 : Int32)] [.int (x5 + ((1 : Int32) + (((v72 &&& (2147483647 : Int32)) / (3 : Int32)) - ((v72 &&& (2147483647 : Int32)) / (3 : Int32)) / (4 : Int32) * (4 : Int32)))), .ref (ad G 0)] [.int (0 : Int32), .ref (ad G 0), .int (x5 + ((1 : Int32) + (((v72 &&& (2147483647 : Int32)) / (3 : Int32)) - ((v72 &&& (2147483647 : Int32)) / (3 : Int32)) / (4 : Int32) * (4 : Int32)))), .ref (ad G 0)] rfl O dL_law_433 rfl (c_X11_count hG h) wd_4_44 mw_X11_count io_0 rfl (by decide) (Nat.le_of_ble_eq_true rfl) (fun v75 M75 h => ?_)
        refine J.isub (q := 437) O dL_law_436 rfl ?_
        refine J.callVI (q := 440) [.int ((x5 + ((1 : Int32) + (((v72 &&& (2147483647 : Int32)) / (3 : Int32)) - ((v72 &&& (2147483647 : Int32)) / (3 : Int32)) / (4 : Int32) * (4 : Int32)))) - v75)] [] [.int ((x5 + ((1 : Int32) + (((v72 &&& (2147483647 : Int32)) / (3 : Int32)) - ((v72 &&& (2147483647 : Int32)) / (3 : Int32)) / (4 : Int32) * (4 : Int32)))) - v75), .ref (ad G 0)] rfl O dL_law_437 rfl (c_X11_days hG h) wd_3_23 mw_X11_days io_0 rfl (by decide) (Nat.le_of_ble_eq_true rfl) (fun v76 M76 h => ?_)
        refine J.iload (q := 442) O dL_law_440 rfl 0 rfl ?_
        refine J.icmp_eq (q := 445) (tgt := 584) O dL_law_442 rfl (by decide) (fun z77 => ?_) (fun z77 => ?_)
        · replace h := h.1 z77
          exact J.sub [2, 3, 0, 4, 5] rfl (j_L_lawc_b584 hG O hR OX htx hr379 h)
        · replace h := h.2 z77
          refine J.iconst (q := 446) (v := (0 : Int32)) O dL_law_445 rfl rfl ?_
          exact hR _ _ _ _ dL_law_446 (Or.inl rfl) h
set_option maxHeartbeats 4000000 in
set_option maxRecDepth 20000 in
theorem j_L_lawc_c249 {tx : Nat} {b L : Nat} {xs : Nat → Int32} {X : CX} {G : GX} {K : Int32 → Mem → Prop} (hG : Gd G) (O : Ok X G cL_law 13 RL 9) (hR : RetZ X G cL_law K) (OX : OkX G b L xs) (htx : arL G tx 6) {a : Int32 × Mem} (h : Lp (fun (r249 : Int32 × Mem → Prop) a => f_L_lawc_c249 L xs tx K r249 a.1 a.2) a) : J X G a.2 249 [(0, .ref b), (1, .ref (ad G 0)), (4, .ref (ad G tx)), (5, .int a.1)] [] := by
  refine Lp.elim (P := fun a => J X G a.2 249 [(0, .ref b), (1, .ref (ad G 0)), (4, .ref (ad G tx)), (5, .int a.1)] []) ?_ h
  clear h
  intro r249 hr249 a h
  obtain ⟨x5, M⟩ := a
  unfold f_L_lawc_c249 at h
  (try dsimp only at h ⊢)
  refine J.iload (q := 251) O dL_law_249 rfl 3 rfl ?_
  refine J.bipush (q := 253) (v := (6 : Int32)) O dL_law_251 rfl rfl ?_
  refine J.icmp_ge (q := 256) (tgt := 370) O dL_law_253 rfl (by decide) (fun z78 => ?_) (fun z78 => ?_)
  · replace h := h.1 z78
    refine J.iconst (q := 371) (v := (0 : Int32)) O dL_law_370 rfl rfl ?_
    refine J.istore (q := 373) O dL_law_371 rfl [(5, .int (0 : Int32)), (0, .ref b), (1, .ref (ad G 0)), (4, .ref (ad G tx))] (by decide) rfl ?_
    refine J.iconst (q := 374) (v := (0 : Int32)) O dL_law_373 rfl rfl ?_
    refine J.istore (q := 376) O dL_law_374 rfl [(6, .int (0 : Int32)), (5, .int (0 : Int32)), (0, .ref b), (1, .ref (ad G 0)), (4, .ref (ad G tx))] (by decide) rfl ?_
    refine J.iconst (q := 377) (v := (0 : Int32)) O dL_law_376 rfl rfl ?_
    refine J.istore (q := 379) O dL_law_377 rfl [(7, .int (0 : Int32)), (6, .int (0 : Int32)), (5, .int (0 : Int32)), (0, .ref b), (1, .ref (ad G 0)), (4, .ref (ad G tx))] (by decide) rfl ?_
    exact J.sub [3, 4, 2, 1, 0] rfl (j_L_lawc_c379 hG O hR OX htx h)
  · replace h := h.2 z78
    refine J.iconst (q := 257) (v := (0 : Int32)) O dL_law_256 rfl rfl ?_
    refine J.istore (q := 259) O dL_law_257 rfl [(6, .int (0 : Int32)), (0, .ref b), (1, .ref (ad G 0)), (4, .ref (ad G tx)), (5, .int x5)] (by decide) rfl ?_
    exact J.sub [1, 2, 3, 4, 0] rfl (j_L_lawc_c259 hG O hR OX htx hr249 h)
set_option maxHeartbeats 4000000 in
set_option maxRecDepth 20000 in
theorem j_L_lawc_c216 {tx : Nat} {b L : Nat} {xs : Nat → Int32} {X : CX} {G : GX} {K : Int32 → Mem → Prop} (hG : Gd G) (O : Ok X G cL_law 13 RL 9) (hR : RetZ X G cL_law K) (OX : OkX G b L xs) (htx : arL G tx 6) {a : Int32 × Mem} (h : Lp (fun (r216 : Int32 × Mem → Prop) a => f_L_lawc_c216 L xs tx K r216 a.1 a.2) a) : J X G a.2 216 [(0, .ref b), (1, .ref (ad G 0)), (4, .ref (ad G tx)), (5, .int a.1)] [] := by
  refine Lp.elim (P := fun a => J X G a.2 216 [(0, .ref b), (1, .ref (ad G 0)), (4, .ref (ad G tx)), (5, .int a.1)] []) ?_ h
  clear h
  intro r216 hr216 a h
  obtain ⟨x5, M⟩ := a
  unfold f_L_lawc_c216 at h
  (try dsimp only at h ⊢)
  refine J.iload (q := 218) O dL_law_216 rfl 3 rfl ?_
  refine J.aload_n (q := 219) O dL_law_218 rfl 1 rfl ?_
  refine J.iconst (q := 220) (v := (4 : Int32)) O dL_law_219 rfl rfl ?_
  refine J.callVI (q := 223) [.int (4 : Int32)] [.int x5] [.int (4 : Int32), .ref (ad G 0), .int x5] rfl O dL_law_220 rfl (c_X11_count hG h) wd_4_44 mw_X11_count io_0 rfl (by decide) (Nat.le_of_ble_eq_true rfl) (fun v79 M79 h => ?_)
  refine J.icmp_ge (q := 226) (tgt := 246) O dL_law_223 rfl (by decide) (fun z80 => ?_) (fun z80 => ?_)
  · replace h := h.1 z80
    refine J.iconst (q := 247) (v := (0 : Int32)) O dL_law_246 rfl rfl ?_
    refine J.istore (q := 249) O dL_law_247 rfl [(5, .int (0 : Int32)), (0, .ref b), (1, .ref (ad G 0)), (4, .ref (ad G tx))] (by decide) rfl ?_
    exact J.sub [1, 2, 3, 0] rfl (j_L_lawc_c249 hG O hR OX htx h)
  · replace h := h.2 z80
    refine J.aload (q := 228) O dL_law_226 rfl 2 rfl ?_
    refine J.aload_n (q := 229) O dL_law_228 rfl 1 rfl ?_
    refine J.iload (q := 231) O dL_law_229 rfl 3 rfl ?_
    refine J.iconst (q := 232) (v := (0 : Int32)) O dL_law_231 rfl rfl ?_
    refine J.callVI (q := 235) [.int x5, .int (0 : Int32)] [.ref (ad G tx)] [.int (0 : Int32), .int x5, .ref (ad G 0), .ref (ad G tx)] rfl O dL_law_232 rfl (c_X11_seat hG h) wd_4_28 mw_X11_seat io_0 rfl (by decide) (Nat.le_of_ble_eq_true rfl) (fun v81 M81 h => ?_)
    refine J.dup2 (q := 236) O dL_law_235 rfl rfl rfl ?_
    obtain ⟨hv82, h⟩ := h
    refine J.ialdL (q := 237) (c' := tx) (j := v81.toNatClampNeg) (M81 tx v81.toNatClampNeg) rfl O dL_law_236 rfl htx hv82 rfl ?_
    refine J.iconst (q := 238) (v := (1 : Int32)) O dL_law_237 rfl rfl ?_
    refine J.iadd (q := 239) O dL_law_238 rfl ?_
    obtain ⟨hv83, h⟩ := h
    refine J.iastL (q := 240) (c' := tx) (j := v81.toNatClampNeg) O dL_law_239 rfl htx hv83 rfl ?_
    refine J.iinc (q := 243) O dL_law_240 rfl [(5, .int (x5 + (1 : Int32))), (0, .ref b), (1, .ref (ad G 0)), (4, .ref (ad G tx))] 3 rfl rfl (by decide) rfl ?_
    refine J.goto (q := 216) O dL_law_243 (by decide) ?_
    exact J.sub [1, 2, 3, 0] rfl (hr216 _ h)
set_option maxHeartbeats 4000000 in
set_option maxRecDepth 20000 in
theorem j_L_lawc_b213 {tx : Nat} {b L : Nat} {xs : Nat → Int32} {X : CX} {G : GX} {K : Int32 → Mem → Prop} (hG : Gd G) (O : Ok X G cL_law 13 RL 9) (hR : RetZ X G cL_law K) (OX : OkX G b L xs) (htx : arL G tx 6) {M : Mem} (h : f_L_lawc_b213 L xs tx K  M) : J X G M 213 [(0, .ref b), (1, .ref (ad G 0)), (4, .ref (ad G tx))] [] := by
  unfold f_L_lawc_b213 at h
  refine J.iconst (q := 214) (v := (0 : Int32)) O dL_law_213 rfl rfl ?_
  refine J.istore (q := 216) O dL_law_214 rfl [(5, .int (0 : Int32)), (0, .ref b), (1, .ref (ad G 0)), (4, .ref (ad G tx))] (by decide) rfl ?_
  exact J.sub [1, 2, 3, 0] rfl (j_L_lawc_c216 hG O hR OX htx h)
