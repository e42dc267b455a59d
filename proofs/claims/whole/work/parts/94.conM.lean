/-! the model's constructor -/
theorem n_X12 {l : Launch} {G : GX} (hA : ∀ q, G.2.2.1 ≤ q → G.2.2.2.1 q) {f : Nat → va_E} (hw : ∀ k, 287 ≤ k → k < 369 → f k = fE G k) : CC l G yX12_init cX12_init 2 1 81 10178 [.ref (ad G 287)] 288 369 (updE f 287 (newE 12)) f := by
  refine CC.mk hA (by decide) rfl [(0, .ref (ad G 287))] rfl (Nat.le_of_ble_eq_true rfl) (fun X O hini hX hret => ?_)
  obtain ⟨g, hgd⟩ : ∃ g, g = updE (updE (updE f 336 (aE G 0 8 (fun _ => 0))) 307 (aE G 0 5 (fun _ => 0))) 306 (aE G 0 5 (fun _ => 0)) := ⟨_, rfl⟩
  have hg : ∀ k, 287 ≤ k → k < 369 → (k ≠ 306 ∧ k ≠ 307 ∧ k ≠ 336) → g k = fE G k := fun k h1 h2 h3 => by
    refine Eq.trans ?_ (hw k h1 h2)
    subst hgd
    unfold updE
    repeat rw [if_neg (by omega)]
  refine JC.castW (f' := updE g 287 (obF G 12 (M0 287) fsC287 (fun _ => false))) (fun k hk => ?_) ?_
  · by_cases hk9 : k = 287
    · subst hk9
      rw [updE_eq, updE_eq]
      rfl
    · rw [updE_ne _ _ hk9, updE_ne _ _ hk9]
      subst hgd
      unfold updE
      repeat rw [if_neg (by omega)]
  have hg306 : g 306 = aE G 0 5 (fun _ => 0) := by subst hgd; exact updE_eq _ _ _
  have hg307 : g 307 = aE G 0 5 (fun _ => 0) := by subst hgd; exact (updE_ne _ _ (by decide)).trans (updE_eq _ _ _)
  have hg336 : g 336 = aE G 0 8 (fun _ => 0) := by subst hgd; exact (updE_ne _ _ (by decide)).trans ((updE_ne _ _ (by decide)).trans (updE_eq _ _ _))
  refine JC.aload_n (q := 1) O dX12_init_0 rfl 0 rfl ?_
  refine JC.objInit (q := 4) O dX12_init_1 rfl wd_6_71 (by decide) (by decide) ?_
  refine JC.aload_n (q := 5) O dX12_init_4 rfl 0 rfl ?_
  refine JC.sipush (q := 8) (v := (1001 : Int32)) O dX12_init_5 rfl (by decide) ?_
  refine JC.newZ (q := 10) (N := 1001) (o := 287) O dX12_init_8 rfl wd_1_42 (by decide) (by decide) (by decide) (by decide) (by decide) (by omega) ((hg (288) (by omega) (by omega) (by omega)).trans (fe_288 G)) ?_
  refine JC.cast (congrArg (updE _ 287) (obF_skip G 12 (B := (fun j => decide (j < 1))) (N9 := 107) rfl (by decide))) ?_
  refine JC.put (q := 13) (c9 := 287) (ci := 12) (k := 1) (code := 290) (B9 := (fun j => decide (j < 2))) (N9 := 107) O dX12_init_10 rfl hini wd_6_73 (by decide) (by decide) rfl (by omega) rfl rfl rfl rfl rfl (by decide) ?_
  refine JC.aload_n (q := 14) O dX12_init_13 rfl 0 rfl ?_
  refine JC.bipush (q := 16) (v := (24 : Int32)) O dX12_init_14 rfl (by decide) ?_
  refine JC.newI (q := 18) (N := 24) (o := 287) O dX12_init_16 rfl wd_1_43 (by decide) (by decide) (by decide) (by decide) (by decide) (by omega) ((hg (289) (by omega) (by omega) (by omega)).trans (fe_289 G)) ?_
  refine JC.cast (congrArg (updE _ 287) (obF_skip G 12 (B := (fun j => decide (j < 3))) (N9 := 107) rfl (by decide))) ?_
  refine JC.put (q := 21) (c9 := 287) (ci := 12) (k := 3) (code := 291) (B9 := (fun j => decide (j < 4))) (N9 := 107) O dX12_init_18 rfl hini wd_6_75 (by decide) (by decide) rfl (by omega) rfl rfl rfl rfl rfl (by decide) ?_
  refine JC.aload_n (q := 22) O dX12_init_21 rfl 0 rfl ?_
  refine JC.bipush (q := 24) (v := (24 : Int32)) O dX12_init_22 rfl (by decide) ?_
  refine JC.newI (q := 26) (N := 24) (o := 287) O dX12_init_24 rfl wd_1_43 (by decide) (by decide) (by decide) (by decide) (by decide) (by omega) ((hg (290) (by omega) (by omega) (by omega)).trans (fe_290 G)) ?_
  refine JC.put (q := 29) (c9 := 287) (ci := 12) (k := 4) (code := 292) (B9 := (fun j => decide (j < 5))) (N9 := 107) O dX12_init_26 rfl hini wd_6_76 (by decide) (by decide) rfl (by omega) rfl rfl rfl rfl rfl (by decide) ?_
  refine JC.aload_n (q := 30) O dX12_init_29 rfl 0 rfl ?_
  refine JC.bipush (q := 32) (v := (24 : Int32)) O dX12_init_30 rfl (by decide) ?_
  refine JC.newI (q := 34) (N := 24) (o := 287) O dX12_init_32 rfl wd_1_43 (by decide) (by decide) (by decide) (by decide) (by decide) (by omega) ((hg (291) (by omega) (by omega) (by omega)).trans (fe_291 G)) ?_
  refine JC.put (q := 37) (c9 := 287) (ci := 12) (k := 5) (code := 293) (B9 := (fun j => decide (j < 6))) (N9 := 107) O dX12_init_34 rfl hini wd_6_77 (by decide) (by decide) rfl (by omega) rfl rfl rfl rfl rfl (by decide) ?_
  refine JC.aload_n (q := 38) O dX12_init_37 rfl 0 rfl ?_
  refine JC.bipush (q := 40) (v := (48 : Int32)) O dX12_init_38 rfl (by decide) ?_
  refine JC.newI (q := 42) (N := 48) (o := 287) O dX12_init_40 rfl wd_1_43 (by decide) (by decide) (by decide) (by decide) (by decide) (by omega) ((hg (292) (by omega) (by omega) (by omega)).trans (fe_292 G)) ?_
  refine JC.put (q := 45) (c9 := 287) (ci := 12) (k := 6) (code := 294) (B9 := (fun j => decide (j < 7))) (N9 := 107) O dX12_init_42 rfl hini wd_6_78 (by decide) (by decide) rfl (by omega) rfl rfl rfl rfl rfl (by decide) ?_
  refine JC.aload_n (q := 46) O dX12_init_45 rfl 0 rfl ?_
  refine JC.bipush (q := 48) (v := (48 : Int32)) O dX12_init_46 rfl (by decide) ?_
  refine JC.newI (q := 50) (N := 48) (o := 287) O dX12_init_48 rfl wd_1_43 (by decide) (by decide) (by decide) (by decide) (by decide) (by omega) ((hg (293) (by omega) (by omega) (by omega)).trans (fe_293 G)) ?_
  refine JC.put (q := 53) (c9 := 287) (ci := 12) (k := 7) (code := 295) (B9 := (fun j => decide (j < 8))) (N9 := 107) O dX12_init_50 rfl hini wd_6_79 (by decide) (by decide) rfl (by omega) rfl rfl rfl rfl rfl (by decide) ?_
  refine JC.aload_n (q := 54) O dX12_init_53 rfl 0 rfl ?_
  refine JC.bipush (q := 56) (v := (24 : Int32)) O dX12_init_54 rfl (by decide) ?_
  refine JC.newZ (q := 58) (N := 24) (o := 287) O dX12_init_56 rfl wd_1_42 (by decide) (by decide) (by decide) (by decide) (by decide) (by omega) ((hg (294) (by omega) (by omega) (by omega)).trans (fe_294 G)) ?_
  refine JC.put (q := 61) (c9 := 287) (ci := 12) (k := 8) (code := 296) (B9 := (fun j => decide (j < 9))) (N9 := 107) O dX12_init_58 rfl hini wd_6_80 (by decide) (by decide) rfl (by omega) rfl rfl rfl rfl rfl (by decide) ?_
  refine JC.aload_n (q := 62) O dX12_init_61 rfl 0 rfl ?_
  refine JC.bipush (q := 64) (v := (7 : Int32)) O dX12_init_62 rfl (by decide) ?_
  refine JC.newI (q := 66) (N := 7) (o := 287) O dX12_init_64 rfl wd_1_43 (by decide) (by decide) (by decide) (by decide) (by decide) (by omega) ((hg (295) (by omega) (by omega) (by omega)).trans (fe_295 G)) ?_
  refine JC.put (q := 69) (c9 := 287) (ci := 12) (k := 9) (code := 297) (B9 := (fun j => decide (j < 10))) (N9 := 107) O dX12_init_66 rfl hini wd_6_81 (by decide) (by decide) rfl (by omega) rfl rfl rfl rfl rfl (by decide) ?_
  refine JC.aload_n (q := 70) O dX12_init_69 rfl 0 rfl ?_
  refine JC.bipush (q := 72) (v := (60 : Int32)) O dX12_init_70 rfl (by decide) ?_
  refine JC.newI (q := 74) (N := 60) (o := 287) O dX12_init_72 rfl wd_1_43 (by decide) (by decide) (by decide) (by decide) (by decide) (by omega) ((hg (296) (by omega) (by omega) (by omega)).trans (fe_296 G)) ?_
  refine JC.put (q := 77) (c9 := 287) (ci := 12) (k := 10) (code := 298) (B9 := (fun j => decide (j < 11))) (N9 := 107) O dX12_init_74 rfl hini wd_6_82 (by decide) (by decide) rfl (by omega) rfl rfl rfl rfl rfl (by decide) ?_
  refine JC.aload_n (q := 78) O dX12_init_77 rfl 0 rfl ?_
  refine JC.sipush (q := 81) (v := (1440 : Int32)) O dX12_init_78 rfl (by decide) ?_
  refine JC.newI (q := 83) (N := 1440) (o := 287) O dX12_init_81 rfl wd_1_43 (by decide) (by decide) (by decide) (by decide) (by decide) (by omega) ((hg (297) (by omega) (by omega) (by omega)).trans (fe_297 G)) ?_
  refine JC.cast (congrArg (updE _ 287) (obF_skip G 12 (B := (fun j => decide (j < 13))) (N9 := 107) rfl (by decide))) ?_
  refine JC.put (q := 86) (c9 := 287) (ci := 12) (k := 13) (code := 299) (B9 := (fun j => decide (j < 14))) (N9 := 107) O dX12_init_83 rfl hini wd_6_85 (by decide) (by decide) rfl (by omega) rfl rfl rfl rfl rfl (by decide) ?_
  refine JC.aload_n (q := 87) O dX12_init_86 rfl 0 rfl ?_
  refine JC.bipush (q := 89) (v := (24 : Int32)) O dX12_init_87 rfl (by decide) ?_
  refine JC.newI (q := 91) (N := 24) (o := 287) O dX12_init_89 rfl wd_1_43 (by decide) (by decide) (by decide) (by decide) (by decide) (by omega) ((hg (298) (by omega) (by omega) (by omega)).trans (fe_298 G)) ?_
  refine JC.put (q := 94) (c9 := 287) (ci := 12) (k := 14) (code := 300) (B9 := (fun j => decide (j < 15))) (N9 := 107) O dX12_init_91 rfl hini wd_6_86 (by decide) (by decide) rfl (by omega) rfl rfl rfl rfl rfl (by decide) ?_
  refine JC.aload_n (q := 95) O dX12_init_94 rfl 0 rfl ?_
  refine JC.bipush (q := 97) (v := (24 : Int32)) O dX12_init_95 rfl (by decide) ?_
  refine JC.newI (q := 99) (N := 24) (o := 287) O dX12_init_97 rfl wd_1_43 (by decide) (by decide) (by decide) (by decide) (by decide) (by omega) ((hg (299) (by omega) (by omega) (by omega)).trans (fe_299 G)) ?_
  refine JC.put (q := 102) (c9 := 287) (ci := 12) (k := 15) (code := 301) (B9 := (fun j => decide (j < 16))) (N9 := 107) O dX12_init_99 rfl hini wd_6_87 (by decide) (by decide) rfl (by omega) rfl rfl rfl rfl rfl (by decide) ?_
  refine JC.aload_n (q := 103) O dX12_init_102 rfl 0 rfl ?_
  refine JC.bipush (q := 105) (v := (24 : Int32)) O dX12_init_103 rfl (by decide) ?_
  refine JC.newI (q := 107) (N := 24) (o := 287) O dX12_init_105 rfl wd_1_43 (by decide) (by decide) (by decide) (by decide) (by decide) (by omega) ((hg (300) (by omega) (by omega) (by omega)).trans (fe_300 G)) ?_
  refine JC.put (q := 110) (c9 := 287) (ci := 12) (k := 16) (code := 302) (B9 := (fun j => decide (j < 17))) (N9 := 107) O dX12_init_107 rfl hini wd_6_88 (by decide) (by decide) rfl (by omega) rfl rfl rfl rfl rfl (by decide) ?_
  refine JC.aload_n (q := 111) O dX12_init_110 rfl 0 rfl ?_
  refine JC.bipush (q := 113) (v := (6 : Int32)) O dX12_init_111 rfl (by decide) ?_
  refine JC.newI (q := 115) (N := 6) (o := 287) O dX12_init_113 rfl wd_1_43 (by decide) (by decide) (by decide) (by decide) (by decide) (by omega) ((hg (301) (by omega) (by omega) (by omega)).trans (fe_301 G)) ?_
  refine JC.cast (congrArg (updE _ 287) (obF_skip G 12 (B := (fun j => decide (j < 23))) (N9 := 107) rfl (by decide))) ?_
  refine JC.put (q := 118) (c9 := 287) (ci := 12) (k := 23) (code := 303) (B9 := (fun j => decide (j < 24))) (N9 := 107) O dX12_init_115 rfl hini wd_6_95 (by decide) (by decide) rfl (by omega) rfl rfl rfl rfl rfl (by decide) ?_
  refine JC.aload_n (q := 119) O dX12_init_118 rfl 0 rfl ?_
  refine JC.bipush (q := 121) (v := (80 : Int32)) O dX12_init_119 rfl (by decide) ?_
  refine JC.newI (q := 123) (N := 80) (o := 287) O dX12_init_121 rfl wd_1_43 (by decide) (by decide) (by decide) (by decide) (by decide) (by omega) ((hg (302) (by omega) (by omega) (by omega)).trans (fe_302 G)) ?_
  refine JC.put (q := 126) (c9 := 287) (ci := 12) (k := 24) (code := 304) (B9 := (fun j => decide (j < 25))) (N9 := 107) O dX12_init_123 rfl hini wd_6_96 (by decide) (by decide) rfl (by omega) rfl rfl rfl rfl rfl (by decide) ?_
  refine JC.aload_n (q := 127) O dX12_init_126 rfl 0 rfl ?_
  refine JC.bipush (q := 129) (v := (80 : Int32)) O dX12_init_127 rfl (by decide) ?_
  refine JC.newZ (q := 131) (N := 80) (o := 287) O dX12_init_129 rfl wd_1_42 (by decide) (by decide) (by decide) (by decide) (by decide) (by omega) ((hg (303) (by omega) (by omega) (by omega)).trans (fe_303 G)) ?_
  refine JC.cast (congrArg (updE _ 287) (obF_skip G 12 (B := (fun j => decide (j < 26))) (N9 := 107) rfl (by decide))) ?_
  refine JC.put (q := 134) (c9 := 287) (ci := 12) (k := 26) (code := 305) (B9 := (fun j => decide (j < 27))) (N9 := 107) O dX12_init_131 rfl hini wd_6_98 (by decide) (by decide) rfl (by omega) rfl rfl rfl rfl rfl (by decide) ?_
  refine JC.aload_n (q := 135) O dX12_init_134 rfl 0 rfl ?_
  refine JC.bipush (q := 137) (v := (24 : Int32)) O dX12_init_135 rfl (by decide) ?_
  refine JC.newZ (q := 139) (N := 24) (o := 287) O dX12_init_137 rfl wd_1_42 (by decide) (by decide) (by decide) (by decide) (by decide) (by omega) ((hg (304) (by omega) (by omega) (by omega)).trans (fe_304 G)) ?_
  refine JC.cast (congrArg (updE _ 287) (obF_skip G 12 (B := (fun j => decide (j < 28))) (N9 := 107) rfl (by decide))) ?_
  refine JC.put (q := 142) (c9 := 287) (ci := 12) (k := 28) (code := 306) (B9 := (fun j => decide (j < 29))) (N9 := 107) O dX12_init_139 rfl hini wd_6_100 (by decide) (by decide) rfl (by omega) rfl rfl rfl rfl rfl (by decide) ?_
  refine JC.aload_n (q := 143) O dX12_init_142 rfl 0 rfl ?_
  refine JC.iconst (q := 144) (v := (5 : Int32)) O dX12_init_143 rfl (by decide) ?_
  refine JC.newI (q := 146) (N := 5) (o := 287) O dX12_init_144 rfl wd_1_43 (by decide) (by decide) (by decide) (by decide) (by decide) (by omega) ((hg (305) (by omega) (by omega) (by omega)).trans (fe_305 G)) ?_
  refine JC.put (q := 149) (c9 := 287) (ci := 12) (k := 29) (code := 307) (B9 := (fun j => decide (j < 30))) (N9 := 107) O dX12_init_146 rfl hini wd_6_101 (by decide) (by decide) rfl (by omega) rfl rfl rfl rfl rfl (by decide) ?_
  refine JC.aload_n (q := 150) O dX12_init_149 rfl 0 rfl ?_
  refine JC.iconst (q := 151) (v := (5 : Int32)) O dX12_init_150 rfl (by decide) ?_
  refine JC.newI (q := 153) (N := 5) (o := 287) O dX12_init_151 rfl wd_1_43 (by decide) (by decide) (by decide) (by decide) (by decide) (by omega) hg306 ?_
  refine JC.put (q := 156) (c9 := 287) (ci := 12) (k := 30) (code := 308) (B9 := (fun j => decide (j < 31))) (N9 := 107) O dX12_init_153 rfl hini wd_6_102 (by decide) (by decide) rfl (by omega) rfl rfl rfl rfl rfl (by decide) ?_
  refine JC.aload_n (q := 157) O dX12_init_156 rfl 0 rfl ?_
  refine JC.iconst (q := 158) (v := (5 : Int32)) O dX12_init_157 rfl (by decide) ?_
  refine JC.newI (q := 160) (N := 5) (o := 287) O dX12_init_158 rfl wd_1_43 (by decide) (by decide) (by decide) (by decide) (by decide) (by omega) hg307 ?_
  refine JC.put (q := 163) (c9 := 287) (ci := 12) (k := 31) (code := 309) (B9 := (fun j => decide (j < 32))) (N9 := 107) O dX12_init_160 rfl hini wd_6_103 (by decide) (by decide) rfl (by omega) rfl rfl rfl rfl rfl (by decide) ?_
  refine JC.aload_n (q := 164) O dX12_init_163 rfl 0 rfl ?_
  refine JC.bipush (q := 166) (v := (40 : Int32)) O dX12_init_164 rfl (by decide) ?_
  refine JC.newI (q := 168) (N := 40) (o := 287) O dX12_init_166 rfl wd_1_43 (by decide) (by decide) (by decide) (by decide) (by decide) (by omega) ((hg (308) (by omega) (by omega) (by omega)).trans (fe_308 G)) ?_
  refine JC.cast (congrArg (updE _ 287) (obF_skip G 12 (B := (fun j => decide (j < 33))) (N9 := 107) rfl (by decide))) ?_
  refine JC.put (q := 171) (c9 := 287) (ci := 12) (k := 33) (code := 310) (B9 := (fun j => decide (j < 34))) (N9 := 107) O dX12_init_168 rfl hini wd_6_105 (by decide) (by decide) rfl (by omega) rfl rfl rfl rfl rfl (by decide) ?_
  refine JC.aload_n (q := 172) O dX12_init_171 rfl 0 rfl ?_
  refine JC.bipush (q := 174) (v := (40 : Int32)) O dX12_init_172 rfl (by decide) ?_
  refine JC.newI (q := 176) (N := 40) (o := 287) O dX12_init_174 rfl wd_1_43 (by decide) (by decide) (by decide) (by decide) (by decide) (by omega) ((hg (309) (by omega) (by omega) (by omega)).trans (fe_309 G)) ?_
  refine JC.put (q := 179) (c9 := 287) (ci := 12) (k := 34) (code := 311) (B9 := (fun j => decide (j < 35))) (N9 := 107) O dX12_init_176 rfl hini wd_6_106 (by decide) (by decide) rfl (by omega) rfl rfl rfl rfl rfl (by decide) ?_
  refine JC.aload_n (q := 180) O dX12_init_179 rfl 0 rfl ?_
  refine JC.bipush (q := 182) (v := (40 : Int32)) O dX12_init_180 rfl (by decide) ?_
  refine JC.newI (q := 184) (N := 40) (o := 287) O dX12_init_182 rfl wd_1_43 (by decide) (by decide) (by decide) (by decide) (by decide) (by omega) ((hg (310) (by omega) (by omega) (by omega)).trans (fe_310 G)) ?_
  refine JC.put (q := 187) (c9 := 287) (ci := 12) (k := 35) (code := 312) (B9 := (fun j => decide (j < 36))) (N9 := 107) O dX12_init_184 rfl hini wd_6_107 (by decide) (by decide) rfl (by omega) rfl rfl rfl rfl rfl (by decide) ?_
  refine JC.aload_n (q := 188) O dX12_init_187 rfl 0 rfl ?_
  refine JC.bipush (q := 190) (v := (40 : Int32)) O dX12_init_188 rfl (by decide) ?_
  refine JC.newI (q := 192) (N := 40) (o := 287) O dX12_init_190 rfl wd_1_43 (by decide) (by decide) (by decide) (by decide) (by decide) (by omega) ((hg (311) (by omega) (by omega) (by omega)).trans (fe_311 G)) ?_
  refine JC.put (q := 195) (c9 := 287) (ci := 12) (k := 36) (code := 313) (B9 := (fun j => decide (j < 37))) (N9 := 107) O dX12_init_192 rfl hini wd_6_108 (by decide) (by decide) rfl (by omega) rfl rfl rfl rfl rfl (by decide) ?_
  refine JC.aload_n (q := 196) O dX12_init_195 rfl 0 rfl ?_
  refine JC.bipush (q := 198) (v := (40 : Int32)) O dX12_init_196 rfl (by decide) ?_
  refine JC.newI (q := 200) (N := 40) (o := 287) O dX12_init_198 rfl wd_1_43 (by decide) (by decide) (by decide) (by decide) (by decide) (by omega) ((hg (312) (by omega) (by omega) (by omega)).trans (fe_312 G)) ?_
  refine JC.put (q := 203) (c9 := 287) (ci := 12) (k := 37) (code := 314) (B9 := (fun j => decide (j < 38))) (N9 := 107) O dX12_init_200 rfl hini wd_6_109 (by decide) (by decide) rfl (by omega) rfl rfl rfl rfl rfl (by decide) ?_
  refine JC.aload_n (q := 204) O dX12_init_203 rfl 0 rfl ?_
  refine JC.bipush (q := 206) (v := (40 : Int32)) O dX12_init_204 rfl (by decide) ?_
  refine JC.newI (q := 208) (N := 40) (o := 287) O dX12_init_206 rfl wd_1_43 (by decide) (by decide) (by decide) (by decide) (by decide) (by omega) ((hg (313) (by omega) (by omega) (by omega)).trans (fe_313 G)) ?_
  refine JC.put (q := 211) (c9 := 287) (ci := 12) (k := 38) (code := 315) (B9 := (fun j => decide (j < 39))) (N9 := 107) O dX12_init_208 rfl hini wd_6_110 (by decide) (by decide) rfl (by omega) rfl rfl rfl rfl rfl (by decide) ?_
  refine JC.aload_n (q := 212) O dX12_init_211 rfl 0 rfl ?_
  refine JC.bipush (q := 214) (v := (40 : Int32)) O dX12_init_212 rfl (by decide) ?_
  refine JC.newI (q := 216) (N := 40) (o := 287) O dX12_init_214 rfl wd_1_43 (by decide) (by decide) (by decide) (by decide) (by decide) (by omega) ((hg (314) (by omega) (by omega) (by omega)).trans (fe_314 G)) ?_
  refine JC.put (q := 219) (c9 := 287) (ci := 12) (k := 39) (code := 316) (B9 := (fun j => decide (j < 40))) (N9 := 107) O dX12_init_216 rfl hini wd_6_111 (by decide) (by decide) rfl (by omega) rfl rfl rfl rfl rfl (by decide) ?_
  refine JC.aload_n (q := 220) O dX12_init_219 rfl 0 rfl ?_
  refine JC.bipush (q := 222) (v := (40 : Int32)) O dX12_init_220 rfl (by decide) ?_
  refine JC.newI (q := 224) (N := 40) (o := 287) O dX12_init_222 rfl wd_1_43 (by decide) (by decide) (by decide) (by decide) (by decide) (by omega) ((hg (315) (by omega) (by omega) (by omega)).trans (fe_315 G)) ?_
  refine JC.put (q := 227) (c9 := 287) (ci := 12) (k := 40) (code := 317) (B9 := (fun j => decide (j < 41))) (N9 := 107) O dX12_init_224 rfl hini wd_6_112 (by decide) (by decide) rfl (by omega) rfl rfl rfl rfl rfl (by decide) ?_
  refine JC.aload_n (q := 228) O dX12_init_227 rfl 0 rfl ?_
  refine JC.bipush (q := 230) (v := (40 : Int32)) O dX12_init_228 rfl (by decide) ?_
  refine JC.newI (q := 232) (N := 40) (o := 287) O dX12_init_230 rfl wd_1_43 (by decide) (by decide) (by decide) (by decide) (by decide) (by omega) ((hg (316) (by omega) (by omega) (by omega)).trans (fe_316 G)) ?_
  refine JC.put (q := 235) (c9 := 287) (ci := 12) (k := 41) (code := 318) (B9 := (fun j => decide (j < 42))) (N9 := 107) O dX12_init_232 rfl hini wd_6_113 (by decide) (by decide) rfl (by omega) rfl rfl rfl rfl rfl (by decide) ?_
  refine JC.aload_n (q := 236) O dX12_init_235 rfl 0 rfl ?_
  refine JC.bipush (q := 238) (v := (40 : Int32)) O dX12_init_236 rfl (by decide) ?_
  refine JC.newI (q := 240) (N := 40) (o := 287) O dX12_init_238 rfl wd_1_43 (by decide) (by decide) (by decide) (by decide) (by decide) (by omega) ((hg (317) (by omega) (by omega) (by omega)).trans (fe_317 G)) ?_
  refine JC.put (q := 243) (c9 := 287) (ci := 12) (k := 42) (code := 319) (B9 := (fun j => decide (j < 43))) (N9 := 107) O dX12_init_240 rfl hini wd_6_114 (by decide) (by decide) rfl (by omega) rfl rfl rfl rfl rfl (by decide) ?_
  refine JC.aload_n (q := 244) O dX12_init_243 rfl 0 rfl ?_
  refine JC.sipush (q := 247) (v := (1200 : Int32)) O dX12_init_244 rfl (by decide) ?_
  refine JC.newI (q := 249) (N := 1200) (o := 287) O dX12_init_247 rfl wd_1_43 (by decide) (by decide) (by decide) (by decide) (by decide) (by omega) ((hg (318) (by omega) (by omega) (by omega)).trans (fe_318 G)) ?_
  refine JC.put (q := 252) (c9 := 287) (ci := 12) (k := 43) (code := 320) (B9 := (fun j => decide (j < 44))) (N9 := 107) O dX12_init_249 rfl hini wd_6_115 (by decide) (by decide) rfl (by omega) rfl rfl rfl rfl rfl (by decide) ?_
  refine JC.aload_n (q := 253) O dX12_init_252 rfl 0 rfl ?_
  refine JC.sipush (q := 256) (v := (1200 : Int32)) O dX12_init_253 rfl (by decide) ?_
  refine JC.newI (q := 258) (N := 1200) (o := 287) O dX12_init_256 rfl wd_1_43 (by decide) (by decide) (by decide) (by decide) (by decide) (by omega) ((hg (319) (by omega) (by omega) (by omega)).trans (fe_319 G)) ?_
  refine JC.put (q := 261) (c9 := 287) (ci := 12) (k := 44) (code := 321) (B9 := (fun j => decide (j < 45))) (N9 := 107) O dX12_init_258 rfl hini wd_6_116 (by decide) (by decide) rfl (by omega) rfl rfl rfl rfl rfl (by decide) ?_
  refine JC.aload_n (q := 262) O dX12_init_261 rfl 0 rfl ?_
  refine JC.sipush (q := 265) (v := (1200 : Int32)) O dX12_init_262 rfl (by decide) ?_
  refine JC.newI (q := 267) (N := 1200) (o := 287) O dX12_init_265 rfl wd_1_43 (by decide) (by decide) (by decide) (by decide) (by decide) (by omega) ((hg (320) (by omega) (by omega) (by omega)).trans (fe_320 G)) ?_
  refine JC.put (q := 270) (c9 := 287) (ci := 12) (k := 45) (code := 322) (B9 := (fun j => decide (j < 46))) (N9 := 107) O dX12_init_267 rfl hini wd_6_117 (by decide) (by decide) rfl (by omega) rfl rfl rfl rfl rfl (by decide) ?_
  refine JC.aload_n (q := 271) O dX12_init_270 rfl 0 rfl ?_
  refine JC.sipush (q := 274) (v := (1200 : Int32)) O dX12_init_271 rfl (by decide) ?_
  refine JC.newI (q := 276) (N := 1200) (o := 287) O dX12_init_274 rfl wd_1_43 (by decide) (by decide) (by decide) (by decide) (by decide) (by omega) ((hg (321) (by omega) (by omega) (by omega)).trans (fe_321 G)) ?_
  refine JC.put (q := 279) (c9 := 287) (ci := 12) (k := 46) (code := 323) (B9 := (fun j => decide (j < 47))) (N9 := 107) O dX12_init_276 rfl hini wd_6_118 (by decide) (by decide) rfl (by omega) rfl rfl rfl rfl rfl (by decide) ?_
  refine JC.aload_n (q := 280) O dX12_init_279 rfl 0 rfl ?_
  refine JC.bipush (q := 282) (v := (6 : Int32)) O dX12_init_280 rfl (by decide) ?_
  refine JC.newI (q := 284) (N := 6) (o := 287) O dX12_init_282 rfl wd_1_43 (by decide) (by decide) (by decide) (by decide) (by decide) (by omega) ((hg (322) (by omega) (by omega) (by omega)).trans (fe_322 G)) ?_
  refine JC.put (q := 287) (c9 := 287) (ci := 12) (k := 47) (code := 324) (B9 := (fun j => decide (j < 48))) (N9 := 107) O dX12_init_284 rfl hini wd_6_119 (by decide) (by decide) rfl (by omega) rfl rfl rfl rfl rfl (by decide) ?_
  refine JC.aload_n (q := 288) O dX12_init_287 rfl 0 rfl ?_
  refine JC.bipush (q := 290) (v := (9 : Int32)) O dX12_init_288 rfl (by decide) ?_
  refine JC.newI (q := 292) (N := 9) (o := 287) O dX12_init_290 rfl wd_1_43 (by decide) (by decide) (by decide) (by decide) (by decide) (by omega) ((hg (323) (by omega) (by omega) (by omega)).trans (fe_323 G)) ?_
  refine JC.cast (congrArg (updE _ 287) (obF_skip G 12 (B := (fun j => decide (j < 49))) (N9 := 107) rfl (by decide))) ?_
  refine JC.put (q := 295) (c9 := 287) (ci := 12) (k := 49) (code := 325) (B9 := (fun j => decide (j < 50))) (N9 := 107) O dX12_init_292 rfl hini wd_6_121 (by decide) (by decide) rfl (by omega) rfl rfl rfl rfl rfl (by decide) ?_
  refine JC.aload_n (q := 296) O dX12_init_295 rfl 0 rfl ?_
  refine JC.bipush (q := 298) (v := (9 : Int32)) O dX12_init_296 rfl (by decide) ?_
  refine JC.newI (q := 300) (N := 9) (o := 287) O dX12_init_298 rfl wd_1_43 (by decide) (by decide) (by decide) (by decide) (by decide) (by omega) ((hg (324) (by omega) (by omega) (by omega)).trans (fe_324 G)) ?_
  refine JC.put (q := 303) (c9 := 287) (ci := 12) (k := 50) (code := 326) (B9 := (fun j => decide (j < 51))) (N9 := 107) O dX12_init_300 rfl hini wd_6_122 (by decide) (by decide) rfl (by omega) rfl rfl rfl rfl rfl (by decide) ?_
  refine JC.aload_n (q := 304) O dX12_init_303 rfl 0 rfl ?_
  refine JC.iconst (q := 305) (v := (5 : Int32)) O dX12_init_304 rfl (by decide) ?_
  refine JC.newIf (q := 307) (N := 5) O dX12_init_305 rfl wd_1_43 (by decide) (by decide) (by decide) (by decide) (by decide) ?_
  refine JC.dup (q := 308) O dX12_init_307 rfl rfl ?_
  refine JC.iconst (q := 309) (v := (0 : Int32)) O dX12_init_308 rfl (by decide) ?_
  refine JC.iconst (q := 310) (v := (3 : Int32)) O dX12_init_309 rfl (by decide) ?_
  refine JC.iast (q := 311) (c9 := 325) (N := 5) (i := (0 : Int32)) O dX12_init_310 rfl (by decide) (by unfold vp_in; decide) ?_
  refine JC.dup (q := 312) O dX12_init_311 rfl rfl ?_
  refine JC.iconst (q := 313) (v := (1 : Int32)) O dX12_init_312 rfl (by decide) ?_
  refine JC.bipush (q := 315) (v := (30 : Int32)) O dX12_init_313 rfl (by decide) ?_
  refine JC.iast (q := 316) (c9 := 325) (N := 5) (i := (1 : Int32)) O dX12_init_315 rfl (by decide) (by unfold vp_in; decide) ?_
  refine JC.dup (q := 317) O dX12_init_316 rfl rfl ?_
  refine JC.iconst (q := 318) (v := (2 : Int32)) O dX12_init_317 rfl (by decide) ?_
  refine JC.bipush (q := 320) (v := (14 : Int32)) O dX12_init_318 rfl (by decide) ?_
  refine JC.iast (q := 321) (c9 := 325) (N := 5) (i := (2 : Int32)) O dX12_init_320 rfl (by decide) (by unfold vp_in; decide) ?_
  refine JC.dup (q := 322) O dX12_init_321 rfl rfl ?_
  refine JC.iconst (q := 323) (v := (3 : Int32)) O dX12_init_322 rfl (by decide) ?_
  refine JC.iconst (q := 324) (v := (3 : Int32)) O dX12_init_323 rfl (by decide) ?_
  refine JC.iast (q := 325) (c9 := 325) (N := 5) (i := (3 : Int32)) O dX12_init_324 rfl (by decide) (by unfold vp_in; decide) ?_
  refine JC.dup (q := 326) O dX12_init_325 rfl rfl ?_
  refine JC.iconst (q := 327) (v := (4 : Int32)) O dX12_init_326 rfl (by decide) ?_
  refine JC.iconst (q := 328) (v := (3 : Int32)) O dX12_init_327 rfl (by decide) ?_
  refine JC.iast (q := 329) (c9 := 325) (N := 5) (i := (4 : Int32)) O dX12_init_328 rfl (by decide) (by unfold vp_in; decide) ?_
  refine JC.close ((updE_ne _ _ (by decide)).trans ((hg (325) (by omega) (by omega) (by omega)).trans (fe_325 G))) (by decide) ?_
  refine JC.put (q := 332) (c9 := 287) (ci := 12) (k := 51) (code := 327) (B9 := (fun j => decide (j < 52))) (N9 := 107) O dX12_init_329 rfl hini wd_6_123 (by decide) (by decide) rfl (by omega) rfl rfl rfl rfl rfl (by decide) ?_
  refine JC.aload_n (q := 333) O dX12_init_332 rfl 0 rfl ?_
  refine JC.bipush (q := 335) (v := (30 : Int32)) O dX12_init_333 rfl (by decide) ?_
  refine JC.newI (q := 337) (N := 30) (o := 287) O dX12_init_335 rfl wd_1_43 (by decide) (by decide) (by decide) (by decide) (by decide) (by omega) ((hg (326) (by omega) (by omega) (by omega)).trans (fe_326 G)) ?_
  refine JC.cast (congrArg (updE _ 287) (obF_skip G 12 (B := (fun j => decide (j < 53))) (N9 := 107) rfl (by decide))) ?_
  refine JC.put (q := 340) (c9 := 287) (ci := 12) (k := 53) (code := 328) (B9 := (fun j => decide (j < 54))) (N9 := 107) O dX12_init_337 rfl hini wd_6_125 (by decide) (by decide) rfl (by omega) rfl rfl rfl rfl rfl (by decide) ?_
  refine JC.aload_n (q := 341) O dX12_init_340 rfl 0 rfl ?_
  refine JC.bipush (q := 343) (v := (30 : Int32)) O dX12_init_341 rfl (by decide) ?_
  refine JC.newI (q := 345) (N := 30) (o := 287) O dX12_init_343 rfl wd_1_43 (by decide) (by decide) (by decide) (by decide) (by decide) (by omega) ((hg (327) (by omega) (by omega) (by omega)).trans (fe_327 G)) ?_
  refine JC.put (q := 348) (c9 := 287) (ci := 12) (k := 54) (code := 329) (B9 := (fun j => decide (j < 55))) (N9 := 107) O dX12_init_345 rfl hini wd_6_126 (by decide) (by decide) rfl (by omega) rfl rfl rfl rfl rfl (by decide) ?_
  refine JC.aload_n (q := 349) O dX12_init_348 rfl 0 rfl ?_
  refine JC.bipush (q := 351) (v := (30 : Int32)) O dX12_init_349 rfl (by decide) ?_
  refine JC.newZ (q := 353) (N := 30) (o := 287) O dX12_init_351 rfl wd_1_42 (by decide) (by decide) (by decide) (by decide) (by decide) (by omega) ((hg (328) (by omega) (by omega) (by omega)).trans (fe_328 G)) ?_
  refine JC.put (q := 356) (c9 := 287) (ci := 12) (k := 55) (code := 330) (B9 := (fun j => decide (j < 56))) (N9 := 107) O dX12_init_353 rfl hini wd_6_127 (by decide) (by decide) rfl (by omega) rfl rfl rfl rfl rfl (by decide) ?_
  refine JC.aload_n (q := 357) O dX12_init_356 rfl 0 rfl ?_
  refine JC.bipush (q := 359) (v := (30 : Int32)) O dX12_init_357 rfl (by decide) ?_
  refine JC.newI (q := 361) (N := 30) (o := 287) O dX12_init_359 rfl wd_1_43 (by decide) (by decide) (by decide) (by decide) (by decide) (by omega) ((hg (329) (by omega) (by omega) (by omega)).trans (fe_329 G)) ?_
  refine JC.put (q := 364) (c9 := 287) (ci := 12) (k := 56) (code := 331) (B9 := (fun j => decide (j < 57))) (N9 := 107) O dX12_init_361 rfl hini wd_6_128 (by decide) (by decide) rfl (by omega) rfl rfl rfl rfl rfl (by decide) ?_
  refine JC.aload_n (q := 365) O dX12_init_364 rfl 0 rfl ?_
  refine JC.bipush (q := 367) (v := (30 : Int32)) O dX12_init_365 rfl (by decide) ?_
  refine JC.newI (q := 369) (N := 30) (o := 287) O dX12_init_367 rfl wd_1_43 (by decide) (by decide) (by decide) (by decide) (by decide) (by omega) ((hg (330) (by omega) (by omega) (by omega)).trans (fe_330 G)) ?_
  refine JC.cast (congrArg (updE _ 287) (obF_skip G 12 (B := (fun j => decide (j < 58))) (N9 := 107) rfl (by decide))) ?_
  refine JC.put (q := 372) (c9 := 287) (ci := 12) (k := 58) (code := 332) (B9 := (fun j => decide (j < 59))) (N9 := 107) O dX12_init_369 rfl hini wd_6_130 (by decide) (by decide) rfl (by omega) rfl rfl rfl rfl rfl (by decide) ?_
  refine JC.aload_n (q := 373) O dX12_init_372 rfl 0 rfl ?_
  refine JC.bipush (q := 375) (v := (30 : Int32)) O dX12_init_373 rfl (by decide) ?_
  refine JC.newI (q := 377) (N := 30) (o := 287) O dX12_init_375 rfl wd_1_43 (by decide) (by decide) (by decide) (by decide) (by decide) (by omega) ((hg (331) (by omega) (by omega) (by omega)).trans (fe_331 G)) ?_
  refine JC.put (q := 380) (c9 := 287) (ci := 12) (k := 59) (code := 333) (B9 := (fun j => decide (j < 60))) (N9 := 107) O dX12_init_377 rfl hini wd_6_131 (by decide) (by decide) rfl (by omega) rfl rfl rfl rfl rfl (by decide) ?_
  refine JC.aload_n (q := 381) O dX12_init_380 rfl 0 rfl ?_
  refine JC.bipush (q := 383) (v := (30 : Int32)) O dX12_init_381 rfl (by decide) ?_
  refine JC.newI (q := 385) (N := 30) (o := 287) O dX12_init_383 rfl wd_1_43 (by decide) (by decide) (by decide) (by decide) (by decide) (by omega) ((hg (332) (by omega) (by omega) (by omega)).trans (fe_332 G)) ?_
  refine JC.put (q := 388) (c9 := 287) (ci := 12) (k := 60) (code := 334) (B9 := (fun j => decide (j < 61))) (N9 := 107) O dX12_init_385 rfl hini wd_6_132 (by decide) (by decide) rfl (by omega) rfl rfl rfl rfl rfl (by decide) ?_
  refine JC.aload_n (q := 389) O dX12_init_388 rfl 0 rfl ?_
  refine JC.bipush (q := 391) (v := (30 : Int32)) O dX12_init_389 rfl (by decide) ?_
  refine JC.newI (q := 393) (N := 30) (o := 287) O dX12_init_391 rfl wd_1_43 (by decide) (by decide) (by decide) (by decide) (by decide) (by omega) ((hg (333) (by omega) (by omega) (by omega)).trans (fe_333 G)) ?_
  refine JC.put (q := 396) (c9 := 287) (ci := 12) (k := 61) (code := 335) (B9 := (fun j => decide (j < 62))) (N9 := 107) O dX12_init_393 rfl hini wd_6_133 (by decide) (by decide) rfl (by omega) rfl rfl rfl rfl rfl (by decide) ?_
  refine JC.aload_n (q := 397) O dX12_init_396 rfl 0 rfl ?_
  refine JC.bipush (q := 399) (v := (30 : Int32)) O dX12_init_397 rfl (by decide) ?_
  refine JC.newI (q := 401) (N := 30) (o := 287) O dX12_init_399 rfl wd_1_43 (by decide) (by decide) (by decide) (by decide) (by decide) (by omega) ((hg (334) (by omega) (by omega) (by omega)).trans (fe_334 G)) ?_
  refine JC.put (q := 404) (c9 := 287) (ci := 12) (k := 62) (code := 336) (B9 := (fun j => decide (j < 63))) (N9 := 107) O dX12_init_401 rfl hini wd_6_134 (by decide) (by decide) rfl (by omega) rfl rfl rfl rfl rfl (by decide) ?_
  refine JC.aload_n (q := 405) O dX12_init_404 rfl 0 rfl ?_
  refine JC.bipush (q := 407) (v := (30 : Int32)) O dX12_init_405 rfl (by decide) ?_
  refine JC.newZ (q := 409) (N := 30) (o := 287) O dX12_init_407 rfl wd_1_42 (by decide) (by decide) (by decide) (by decide) (by decide) (by omega) ((hg (335) (by omega) (by omega) (by omega)).trans (fe_335 G)) ?_
  refine JC.put (q := 412) (c9 := 287) (ci := 12) (k := 63) (code := 337) (B9 := (fun j => decide (j < 64))) (N9 := 107) O dX12_init_409 rfl hini wd_6_135 (by decide) (by decide) rfl (by omega) rfl rfl rfl rfl rfl (by decide) ?_
  refine JC.aload_n (q := 413) O dX12_init_412 rfl 0 rfl ?_
  refine JC.bipush (q := 415) (v := (8 : Int32)) O dX12_init_413 rfl (by decide) ?_
  refine JC.newI (q := 417) (N := 8) (o := 287) O dX12_init_415 rfl wd_1_43 (by decide) (by decide) (by decide) (by decide) (by decide) (by omega) hg336 ?_
  refine JC.put (q := 420) (c9 := 287) (ci := 12) (k := 64) (code := 338) (B9 := (fun j => decide (j < 65))) (N9 := 107) O dX12_init_417 rfl hini wd_6_136 (by decide) (by decide) rfl (by omega) rfl rfl rfl rfl rfl (by decide) ?_
  refine JC.aload_n (q := 421) O dX12_init_420 rfl 0 rfl ?_
  refine JC.bipush (q := 423) (v := (8 : Int32)) O dX12_init_421 rfl (by decide) ?_
  refine JC.newI (q := 425) (N := 8) (o := 287) O dX12_init_423 rfl wd_1_43 (by decide) (by decide) (by decide) (by decide) (by decide) (by omega) ((hg (337) (by omega) (by omega) (by omega)).trans (fe_337 G)) ?_
  refine JC.put (q := 428) (c9 := 287) (ci := 12) (k := 65) (code := 339) (B9 := (fun j => decide (j < 66))) (N9 := 107) O dX12_init_425 rfl hini wd_6_137 (by decide) (by decide) rfl (by omega) rfl rfl rfl rfl rfl (by decide) ?_
  refine JC.aload_n (q := 429) O dX12_init_428 rfl 0 rfl ?_
  refine JC.bipush (q := 431) (v := (8 : Int32)) O dX12_init_429 rfl (by decide) ?_
  refine JC.newZ (q := 433) (N := 8) (o := 287) O dX12_init_431 rfl wd_1_42 (by decide) (by decide) (by decide) (by decide) (by decide) (by omega) ((hg (338) (by omega) (by omega) (by omega)).trans (fe_338 G)) ?_
  refine JC.put (q := 436) (c9 := 287) (ci := 12) (k := 66) (code := 340) (B9 := (fun j => decide (j < 67))) (N9 := 107) O dX12_init_433 rfl hini wd_6_138 (by decide) (by decide) rfl (by omega) rfl rfl rfl rfl rfl (by decide) ?_
  refine JC.aload_n (q := 437) O dX12_init_436 rfl 0 rfl ?_
  refine JC.bipush (q := 439) (v := (60 : Int32)) O dX12_init_437 rfl (by decide) ?_
  refine JC.newI (q := 441) (N := 60) (o := 287) O dX12_init_439 rfl wd_1_43 (by decide) (by decide) (by decide) (by decide) (by decide) (by omega) ((hg (339) (by omega) (by omega) (by omega)).trans (fe_339 G)) ?_
  refine JC.cast (congrArg (updE _ 287) (obF_skip G 12 (B := (fun j => decide (j < 68))) (N9 := 107) rfl (by decide))) ?_
  refine JC.put (q := 444) (c9 := 287) (ci := 12) (k := 68) (code := 341) (B9 := (fun j => decide (j < 69))) (N9 := 107) O dX12_init_441 rfl hini wd_6_140 (by decide) (by decide) rfl (by omega) rfl rfl rfl rfl rfl (by decide) ?_
  refine JC.aload_n (q := 445) O dX12_init_444 rfl 0 rfl ?_
  refine JC.bipush (q := 447) (v := (60 : Int32)) O dX12_init_445 rfl (by decide) ?_
  refine JC.newI (q := 449) (N := 60) (o := 287) O dX12_init_447 rfl wd_1_43 (by decide) (by decide) (by decide) (by decide) (by decide) (by omega) ((hg (340) (by omega) (by omega) (by omega)).trans (fe_340 G)) ?_
  refine JC.put (q := 452) (c9 := 287) (ci := 12) (k := 69) (code := 342) (B9 := (fun j => decide (j < 70))) (N9 := 107) O dX12_init_449 rfl hini wd_6_141 (by decide) (by decide) rfl (by omega) rfl rfl rfl rfl rfl (by decide) ?_
  refine JC.aload_n (q := 453) O dX12_init_452 rfl 0 rfl ?_
  refine JC.bipush (q := 455) (v := (60 : Int32)) O dX12_init_453 rfl (by decide) ?_
  refine JC.newI (q := 457) (N := 60) (o := 287) O dX12_init_455 rfl wd_1_43 (by decide) (by decide) (by decide) (by decide) (by decide) (by omega) ((hg (341) (by omega) (by omega) (by omega)).trans (fe_341 G)) ?_
  refine JC.put (q := 460) (c9 := 287) (ci := 12) (k := 70) (code := 343) (B9 := (fun j => decide (j < 71))) (N9 := 107) O dX12_init_457 rfl hini wd_6_142 (by decide) (by decide) rfl (by omega) rfl rfl rfl rfl rfl (by decide) ?_
  refine JC.aload_n (q := 461) O dX12_init_460 rfl 0 rfl ?_
  refine JC.bipush (q := 463) (v := (60 : Int32)) O dX12_init_461 rfl (by decide) ?_
  refine JC.newI (q := 465) (N := 60) (o := 287) O dX12_init_463 rfl wd_1_43 (by decide) (by decide) (by decide) (by decide) (by decide) (by omega) ((hg (342) (by omega) (by omega) (by omega)).trans (fe_342 G)) ?_
  refine JC.put (q := 468) (c9 := 287) (ci := 12) (k := 71) (code := 344) (B9 := (fun j => decide (j < 72))) (N9 := 107) O dX12_init_465 rfl hini wd_6_143 (by decide) (by decide) rfl (by omega) rfl rfl rfl rfl rfl (by decide) ?_
  refine JC.aload_n (q := 469) O dX12_init_468 rfl 0 rfl ?_
  refine JC.bipush (q := 471) (v := (60 : Int32)) O dX12_init_469 rfl (by decide) ?_
  refine JC.newI (q := 473) (N := 60) (o := 287) O dX12_init_471 rfl wd_1_43 (by decide) (by decide) (by decide) (by decide) (by decide) (by omega) ((hg (343) (by omega) (by omega) (by omega)).trans (fe_343 G)) ?_
  refine JC.put (q := 476) (c9 := 287) (ci := 12) (k := 72) (code := 345) (B9 := (fun j => decide (j < 73))) (N9 := 107) O dX12_init_473 rfl hini wd_6_144 (by decide) (by decide) rfl (by omega) rfl rfl rfl rfl rfl (by decide) ?_
  refine JC.aload_n (q := 477) O dX12_init_476 rfl 0 rfl ?_
  refine JC.bipush (q := 479) (v := (100 : Int32)) O dX12_init_477 rfl (by decide) ?_
  refine JC.newI (q := 481) (N := 100) (o := 287) O dX12_init_479 rfl wd_1_43 (by decide) (by decide) (by decide) (by decide) (by decide) (by omega) ((hg (344) (by omega) (by omega) (by omega)).trans (fe_344 G)) ?_
  refine JC.cast (congrArg (updE _ 287) (obF_skip G 12 (B := (fun j => decide (j < 74))) (N9 := 107) rfl (by decide))) ?_
  refine JC.put (q := 484) (c9 := 287) (ci := 12) (k := 74) (code := 346) (B9 := (fun j => decide (j < 75))) (N9 := 107) O dX12_init_481 rfl hini wd_6_146 (by decide) (by decide) rfl (by omega) rfl rfl rfl rfl rfl (by decide) ?_
  refine JC.aload_n (q := 485) O dX12_init_484 rfl 0 rfl ?_
  refine JC.bipush (q := 487) (v := (100 : Int32)) O dX12_init_485 rfl (by decide) ?_
  refine JC.newI (q := 489) (N := 100) (o := 287) O dX12_init_487 rfl wd_1_43 (by decide) (by decide) (by decide) (by decide) (by decide) (by omega) ((hg (345) (by omega) (by omega) (by omega)).trans (fe_345 G)) ?_
  refine JC.put (q := 492) (c9 := 287) (ci := 12) (k := 75) (code := 347) (B9 := (fun j => decide (j < 76))) (N9 := 107) O dX12_init_489 rfl hini wd_6_147 (by decide) (by decide) rfl (by omega) rfl rfl rfl rfl rfl (by decide) ?_
  refine JC.aload_n (q := 493) O dX12_init_492 rfl 0 rfl ?_
  refine JC.bipush (q := 495) (v := (100 : Int32)) O dX12_init_493 rfl (by decide) ?_
  refine JC.newI (q := 497) (N := 100) (o := 287) O dX12_init_495 rfl wd_1_43 (by decide) (by decide) (by decide) (by decide) (by decide) (by omega) ((hg (346) (by omega) (by omega) (by omega)).trans (fe_346 G)) ?_
  refine JC.put (q := 500) (c9 := 287) (ci := 12) (k := 76) (code := 348) (B9 := (fun j => decide (j < 77))) (N9 := 107) O dX12_init_497 rfl hini wd_6_148 (by decide) (by decide) rfl (by omega) rfl rfl rfl rfl rfl (by decide) ?_
  refine JC.aload_n (q := 501) O dX12_init_500 rfl 0 rfl ?_
  refine JC.iconst (q := 502) (v := (3 : Int32)) O dX12_init_501 rfl (by decide) ?_
  refine JC.newIf (q := 504) (N := 3) O dX12_init_502 rfl wd_1_43 (by decide) (by decide) (by decide) (by decide) (by decide) ?_
  refine JC.dup (q := 505) O dX12_init_504 rfl rfl ?_
  refine JC.iconst (q := 506) (v := (0 : Int32)) O dX12_init_505 rfl (by decide) ?_
  refine JC.iconst (q := 507) (v := (1 : Int32)) O dX12_init_506 rfl (by decide) ?_
  refine JC.iast (q := 508) (c9 := 347) (N := 3) (i := (0 : Int32)) O dX12_init_507 rfl (by decide) (by unfold vp_in; decide) ?_
  refine JC.dup (q := 509) O dX12_init_508 rfl rfl ?_
  refine JC.iconst (q := 510) (v := (1 : Int32)) O dX12_init_509 rfl (by decide) ?_
  refine JC.iconst (q := 511) (v := (1 : Int32)) O dX12_init_510 rfl (by decide) ?_
  refine JC.iast (q := 512) (c9 := 347) (N := 3) (i := (1 : Int32)) O dX12_init_511 rfl (by decide) (by unfold vp_in; decide) ?_
  refine JC.dup (q := 513) O dX12_init_512 rfl rfl ?_
  refine JC.iconst (q := 514) (v := (2 : Int32)) O dX12_init_513 rfl (by decide) ?_
  refine JC.iconst (q := 515) (v := (1 : Int32)) O dX12_init_514 rfl (by decide) ?_
  refine JC.iast (q := 516) (c9 := 347) (N := 3) (i := (2 : Int32)) O dX12_init_515 rfl (by decide) (by unfold vp_in; decide) ?_
  refine JC.close ((updE_ne _ _ (by decide)).trans ((hg (347) (by omega) (by omega) (by omega)).trans (fe_347 G))) (by decide) ?_
  refine JC.put (q := 519) (c9 := 287) (ci := 12) (k := 77) (code := 349) (B9 := (fun j => decide (j < 78))) (N9 := 107) O dX12_init_516 rfl hini wd_6_149 (by decide) (by decide) rfl (by omega) rfl rfl rfl rfl rfl (by decide) ?_
  refine JC.aload_n (q := 520) O dX12_init_519 rfl 0 rfl ?_
  refine JC.sipush (q := 523) (v := (288 : Int32)) O dX12_init_520 rfl (by decide) ?_
  refine JC.newZ (q := 525) (N := 288) (o := 287) O dX12_init_523 rfl wd_1_42 (by decide) (by decide) (by decide) (by decide) (by decide) (by omega) ((hg (348) (by omega) (by omega) (by omega)).trans (fe_348 G)) ?_
  refine JC.put (q := 528) (c9 := 287) (ci := 12) (k := 78) (code := 350) (B9 := (fun j => decide (j < 79))) (N9 := 107) O dX12_init_525 rfl hini wd_6_150 (by decide) (by decide) rfl (by omega) rfl rfl rfl rfl rfl (by decide) ?_
  refine JC.aload_n (q := 529) O dX12_init_528 rfl 0 rfl ?_
  refine JC.iconst (q := 530) (v := (4 : Int32)) O dX12_init_529 rfl (by decide) ?_
  refine JC.newI (q := 532) (N := 4) (o := 287) O dX12_init_530 rfl wd_1_43 (by decide) (by decide) (by decide) (by decide) (by decide) (by omega) ((hg (349) (by omega) (by omega) (by omega)).trans (fe_349 G)) ?_
  refine JC.put (q := 535) (c9 := 287) (ci := 12) (k := 79) (code := 351) (B9 := (fun j => decide (j < 80))) (N9 := 107) O dX12_init_532 rfl hini wd_6_151 (by decide) (by decide) rfl (by omega) rfl rfl rfl rfl rfl (by decide) ?_
  refine JC.aload_n (q := 536) O dX12_init_535 rfl 0 rfl ?_
  refine JC.iconst (q := 537) (v := (4 : Int32)) O dX12_init_536 rfl (by decide) ?_
  refine JC.newI (q := 539) (N := 4) (o := 287) O dX12_init_537 rfl wd_1_43 (by decide) (by decide) (by decide) (by decide) (by decide) (by omega) ((hg (350) (by omega) (by omega) (by omega)).trans (fe_350 G)) ?_
  refine JC.cast (congrArg (updE _ 287) (obF_skip G 12 (B := (fun j => decide (j < 81))) (N9 := 107) rfl (by decide))) ?_
  refine JC.put (q := 542) (c9 := 287) (ci := 12) (k := 81) (code := 352) (B9 := (fun j => decide (j < 82))) (N9 := 107) O dX12_init_539 rfl hini wd_6_153 (by decide) (by decide) rfl (by omega) rfl rfl rfl rfl rfl (by decide) ?_
  refine JC.aload_n (q := 543) O dX12_init_542 rfl 0 rfl ?_
  refine JC.iconst (q := 544) (v := (5 : Int32)) O dX12_init_543 rfl (by decide) ?_
  refine JC.newI (q := 546) (N := 5) (o := 287) O dX12_init_544 rfl wd_1_43 (by decide) (by decide) (by decide) (by decide) (by decide) (by omega) ((hg (351) (by omega) (by omega) (by omega)).trans (fe_351 G)) ?_
  refine JC.put (q := 549) (c9 := 287) (ci := 12) (k := 82) (code := 353) (B9 := (fun j => decide (j < 83))) (N9 := 107) O dX12_init_546 rfl hini wd_6_154 (by decide) (by decide) rfl (by omega) rfl rfl rfl rfl rfl (by decide) ?_
  refine JC.aload_n (q := 550) O dX12_init_549 rfl 0 rfl ?_
  refine JC.iconst (q := 551) (v := (4 : Int32)) O dX12_init_550 rfl (by decide) ?_
  refine JC.newI (q := 553) (N := 4) (o := 287) O dX12_init_551 rfl wd_1_43 (by decide) (by decide) (by decide) (by decide) (by decide) (by omega) ((hg (352) (by omega) (by omega) (by omega)).trans (fe_352 G)) ?_
  refine JC.put (q := 556) (c9 := 287) (ci := 12) (k := 83) (code := 354) (B9 := (fun j => decide (j < 84))) (N9 := 107) O dX12_init_553 rfl hini wd_6_155 (by decide) (by decide) rfl (by omega) rfl rfl rfl rfl rfl (by decide) ?_
  refine JC.aload_n (q := 557) O dX12_init_556 rfl 0 rfl ?_
  refine JC.sipush (q := 560) (v := (256 : Int32)) O dX12_init_557 rfl (by decide) ?_
  refine JC.newI (q := 562) (N := 256) (o := 287) O dX12_init_560 rfl wd_1_43 (by decide) (by decide) (by decide) (by decide) (by decide) (by omega) ((hg (353) (by omega) (by omega) (by omega)).trans (fe_353 G)) ?_
  refine JC.put (q := 565) (c9 := 287) (ci := 12) (k := 84) (code := 355) (B9 := (fun j => decide (j < 85))) (N9 := 107) O dX12_init_562 rfl hini wd_6_156 (by decide) (by decide) rfl (by omega) rfl rfl rfl rfl rfl (by decide) ?_
  refine JC.aload_n (q := 566) O dX12_init_565 rfl 0 rfl ?_
  refine JC.sipush (q := 569) (v := (256 : Int32)) O dX12_init_566 rfl (by decide) ?_
  refine JC.newI (q := 571) (N := 256) (o := 287) O dX12_init_569 rfl wd_1_43 (by decide) (by decide) (by decide) (by decide) (by decide) (by omega) ((hg (354) (by omega) (by omega) (by omega)).trans (fe_354 G)) ?_
  refine JC.put (q := 574) (c9 := 287) (ci := 12) (k := 85) (code := 356) (B9 := (fun j => decide (j < 86))) (N9 := 107) O dX12_init_571 rfl hini wd_6_157 (by decide) (by decide) rfl (by omega) rfl rfl rfl rfl rfl (by decide) ?_
  refine JC.aload_n (q := 575) O dX12_init_574 rfl 0 rfl ?_
  refine JC.iconst (q := 576) (v := (4 : Int32)) O dX12_init_575 rfl (by decide) ?_
  refine JC.newI (q := 578) (N := 4) (o := 287) O dX12_init_576 rfl wd_1_43 (by decide) (by decide) (by decide) (by decide) (by decide) (by omega) ((hg (355) (by omega) (by omega) (by omega)).trans (fe_355 G)) ?_
  refine JC.cast (congrArg (updE _ 287) (obF_skip G 12 (B := (fun j => decide (j < 87))) (N9 := 107) rfl (by decide))) ?_
  refine JC.put (q := 581) (c9 := 287) (ci := 12) (k := 87) (code := 357) (B9 := (fun j => decide (j < 88))) (N9 := 107) O dX12_init_578 rfl hini wd_6_159 (by decide) (by decide) rfl (by omega) rfl rfl rfl rfl rfl (by decide) ?_
  refine JC.aload_n (q := 582) O dX12_init_581 rfl 0 rfl ?_
  refine JC.iconst (q := 583) (v := (5 : Int32)) O dX12_init_582 rfl (by decide) ?_
  refine JC.newI (q := 585) (N := 5) (o := 287) O dX12_init_583 rfl wd_1_43 (by decide) (by decide) (by decide) (by decide) (by decide) (by omega) ((hg (356) (by omega) (by omega) (by omega)).trans (fe_356 G)) ?_
  refine JC.put (q := 588) (c9 := 287) (ci := 12) (k := 88) (code := 358) (B9 := (fun j => decide (j < 89))) (N9 := 107) O dX12_init_585 rfl hini wd_6_160 (by decide) (by decide) rfl (by omega) rfl rfl rfl rfl rfl (by decide) ?_
  refine JC.aload_n (q := 589) O dX12_init_588 rfl 0 rfl ?_
  refine JC.iconst (q := 590) (v := (-1 : Int32)) O dX12_init_589 rfl (by decide) ?_
  refine JC.put (q := 593) (c9 := 287) (ci := 12) (k := 89) (code := 0) (B9 := (fun j => decide (j < 90))) (N9 := 107) O dX12_init_590 rfl hini wd_6_161 (by decide) (by decide) rfl (by omega) rfl rfl rfl rfl rfl (by decide) ?_
  refine JC.aload_n (q := 594) O dX12_init_593 rfl 0 rfl ?_
  refine JC.iconst (q := 595) (v := (5 : Int32)) O dX12_init_594 rfl (by decide) ?_
  refine JC.newI (q := 597) (N := 5) (o := 287) O dX12_init_595 rfl wd_1_43 (by decide) (by decide) (by decide) (by decide) (by decide) (by omega) ((hg (357) (by omega) (by omega) (by omega)).trans (fe_357 G)) ?_
  refine JC.cast (congrArg (updE _ 287) (obF_skip G 12 (B := (fun j => decide (j < 92))) (N9 := 107) rfl (by decide))) ?_
  refine JC.put (q := 600) (c9 := 287) (ci := 12) (k := 92) (code := 359) (B9 := (fun j => decide (j < 93))) (N9 := 107) O dX12_init_597 rfl hini wd_6_164 (by decide) (by decide) rfl (by omega) rfl rfl rfl rfl rfl (by decide) ?_
  refine JC.aload_n (q := 601) O dX12_init_600 rfl 0 rfl ?_
  refine JC.bipush (q := 603) (v := (60 : Int32)) O dX12_init_601 rfl (by decide) ?_
  refine JC.newI (q := 605) (N := 60) (o := 287) O dX12_init_603 rfl wd_1_43 (by decide) (by decide) (by decide) (by decide) (by decide) (by omega) ((hg (358) (by omega) (by omega) (by omega)).trans (fe_358 G)) ?_
  refine JC.put (q := 608) (c9 := 287) (ci := 12) (k := 93) (code := 360) (B9 := (fun j => decide (j < 94))) (N9 := 107) O dX12_init_605 rfl hini wd_6_165 (by decide) (by decide) rfl (by omega) rfl rfl rfl rfl rfl (by decide) ?_
  refine JC.aload_n (q := 609) O dX12_init_608 rfl 0 rfl ?_
  refine JC.bipush (q := 611) (v := (60 : Int32)) O dX12_init_609 rfl (by decide) ?_
  refine JC.newI (q := 613) (N := 60) (o := 287) O dX12_init_611 rfl wd_1_43 (by decide) (by decide) (by decide) (by decide) (by decide) (by omega) ((hg (359) (by omega) (by omega) (by omega)).trans (fe_359 G)) ?_
  refine JC.put (q := 616) (c9 := 287) (ci := 12) (k := 94) (code := 361) (B9 := (fun j => decide (j < 95))) (N9 := 107) O dX12_init_613 rfl hini wd_6_166 (by decide) (by decide) rfl (by omega) rfl rfl rfl rfl rfl (by decide) ?_
  refine JC.aload_n (q := 617) O dX12_init_616 rfl 0 rfl ?_
  refine JC.iconst (q := 618) (v := (4 : Int32)) O dX12_init_617 rfl (by decide) ?_
  refine JC.newIf (q := 620) (N := 4) O dX12_init_618 rfl wd_1_43 (by decide) (by decide) (by decide) (by decide) (by decide) ?_
  refine JC.dup (q := 621) O dX12_init_620 rfl rfl ?_
  refine JC.iconst (q := 622) (v := (0 : Int32)) O dX12_init_621 rfl (by decide) ?_
  refine JC.iconst (q := 623) (v := (1 : Int32)) O dX12_init_622 rfl (by decide) ?_
  refine JC.iast (q := 624) (c9 := 360) (N := 4) (i := (0 : Int32)) O dX12_init_623 rfl (by decide) (by unfold vp_in; decide) ?_
  refine JC.dup (q := 625) O dX12_init_624 rfl rfl ?_
  refine JC.iconst (q := 626) (v := (1 : Int32)) O dX12_init_625 rfl (by decide) ?_
  refine JC.iconst (q := 627) (v := (1 : Int32)) O dX12_init_626 rfl (by decide) ?_
  refine JC.iast (q := 628) (c9 := 360) (N := 4) (i := (1 : Int32)) O dX12_init_627 rfl (by decide) (by unfold vp_in; decide) ?_
  refine JC.dup (q := 629) O dX12_init_628 rfl rfl ?_
  refine JC.iconst (q := 630) (v := (2 : Int32)) O dX12_init_629 rfl (by decide) ?_
  refine JC.iconst (q := 631) (v := (1 : Int32)) O dX12_init_630 rfl (by decide) ?_
  refine JC.iast (q := 632) (c9 := 360) (N := 4) (i := (2 : Int32)) O dX12_init_631 rfl (by decide) (by unfold vp_in; decide) ?_
  refine JC.dup (q := 633) O dX12_init_632 rfl rfl ?_
  refine JC.iconst (q := 634) (v := (3 : Int32)) O dX12_init_633 rfl (by decide) ?_
  refine JC.iconst (q := 635) (v := (1 : Int32)) O dX12_init_634 rfl (by decide) ?_
  refine JC.iast (q := 636) (c9 := 360) (N := 4) (i := (3 : Int32)) O dX12_init_635 rfl (by decide) (by unfold vp_in; decide) ?_
  refine JC.close ((updE_ne _ _ (by decide)).trans ((hg (360) (by omega) (by omega) (by omega)).trans (fe_360 G))) (by decide) ?_
  refine JC.put (q := 639) (c9 := 287) (ci := 12) (k := 95) (code := 362) (B9 := (fun j => decide (j < 96))) (N9 := 107) O dX12_init_636 rfl hini wd_6_167 (by decide) (by decide) rfl (by omega) rfl rfl rfl rfl rfl (by decide) ?_
  refine JC.aload_n (q := 640) O dX12_init_639 rfl 0 rfl ?_
  refine JC.iconst (q := 641) (v := (-1 : Int32)) O dX12_init_640 rfl (by decide) ?_
  refine JC.put (q := 644) (c9 := 287) (ci := 12) (k := 96) (code := 0) (B9 := (fun j => decide (j < 97))) (N9 := 107) O dX12_init_641 rfl hini wd_6_168 (by decide) (by decide) rfl (by omega) rfl rfl rfl rfl rfl (by decide) ?_
  refine JC.aload_n (q := 645) O dX12_init_644 rfl 0 rfl ?_
  refine JC.bipush (q := 647) (v := (7 : Int32)) O dX12_init_645 rfl (by decide) ?_
  refine JC.newI (q := 649) (N := 7) (o := 287) O dX12_init_647 rfl wd_1_43 (by decide) (by decide) (by decide) (by decide) (by decide) (by omega) ((hg (361) (by omega) (by omega) (by omega)).trans (fe_361 G)) ?_
  refine JC.cast (congrArg (updE _ 287) (obF_skip G 12 (B := (fun j => decide (j < 98))) (N9 := 107) rfl (by decide))) ?_
  refine JC.put (q := 652) (c9 := 287) (ci := 12) (k := 98) (code := 363) (B9 := (fun j => decide (j < 99))) (N9 := 107) O dX12_init_649 rfl hini wd_6_170 (by decide) (by decide) rfl (by omega) rfl rfl rfl rfl rfl (by decide) ?_
  refine JC.aload_n (q := 653) O dX12_init_652 rfl 0 rfl ?_
  refine JC.bipush (q := 655) (v := (7 : Int32)) O dX12_init_653 rfl (by decide) ?_
  refine JC.newI (q := 657) (N := 7) (o := 287) O dX12_init_655 rfl wd_1_43 (by decide) (by decide) (by decide) (by decide) (by decide) (by omega) ((hg (362) (by omega) (by omega) (by omega)).trans (fe_362 G)) ?_
  refine JC.put (q := 660) (c9 := 287) (ci := 12) (k := 99) (code := 364) (B9 := (fun j => decide (j < 100))) (N9 := 107) O dX12_init_657 rfl hini wd_6_171 (by decide) (by decide) rfl (by omega) rfl rfl rfl rfl rfl (by decide) ?_
  refine JC.aload_n (q := 661) O dX12_init_660 rfl 0 rfl ?_
  refine JC.bipush (q := 663) (v := (7 : Int32)) O dX12_init_661 rfl (by decide) ?_
  refine JC.newI (q := 665) (N := 7) (o := 287) O dX12_init_663 rfl wd_1_43 (by decide) (by decide) (by decide) (by decide) (by decide) (by omega) ((hg (363) (by omega) (by omega) (by omega)).trans (fe_363 G)) ?_
  refine JC.put (q := 668) (c9 := 287) (ci := 12) (k := 100) (code := 365) (B9 := (fun j => decide (j < 101))) (N9 := 107) O dX12_init_665 rfl hini wd_6_172 (by decide) (by decide) rfl (by omega) rfl rfl rfl rfl rfl (by decide) ?_
  refine JC.aload_n (q := 669) O dX12_init_668 rfl 0 rfl ?_
  refine JC.bipush (q := 671) (v := (7 : Int32)) O dX12_init_669 rfl (by decide) ?_
  refine JC.newI (q := 673) (N := 7) (o := 287) O dX12_init_671 rfl wd_1_43 (by decide) (by decide) (by decide) (by decide) (by decide) (by omega) ((hg (364) (by omega) (by omega) (by omega)).trans (fe_364 G)) ?_
  refine JC.put (q := 676) (c9 := 287) (ci := 12) (k := 101) (code := 366) (B9 := (fun j => decide (j < 102))) (N9 := 107) O dX12_init_673 rfl hini wd_6_173 (by decide) (by decide) rfl (by omega) rfl rfl rfl rfl rfl (by decide) ?_
  refine JC.aload_n (q := 677) O dX12_init_676 rfl 0 rfl ?_
  refine JC.bipush (q := 679) (v := (7 : Int32)) O dX12_init_677 rfl (by decide) ?_
  refine JC.newI (q := 681) (N := 7) (o := 287) O dX12_init_679 rfl wd_1_43 (by decide) (by decide) (by decide) (by decide) (by decide) (by omega) ((hg (365) (by omega) (by omega) (by omega)).trans (fe_365 G)) ?_
  refine JC.put (q := 684) (c9 := 287) (ci := 12) (k := 102) (code := 367) (B9 := (fun j => decide (j < 103))) (N9 := 107) O dX12_init_681 rfl hini wd_6_174 (by decide) (by decide) rfl (by omega) rfl rfl rfl rfl rfl (by decide) ?_
  refine JC.aload_n (q := 685) O dX12_init_684 rfl 0 rfl ?_
  refine JC.bipush (q := 687) (v := (8 : Int32)) O dX12_init_685 rfl (by decide) ?_
  refine JC.newI (q := 689) (N := 8) (o := 287) O dX12_init_687 rfl wd_1_43 (by decide) (by decide) (by decide) (by decide) (by decide) (by omega) ((hg (366) (by omega) (by omega) (by omega)).trans (fe_366 G)) ?_
  refine JC.put (q := 692) (c9 := 287) (ci := 12) (k := 103) (code := 368) (B9 := (fun j => decide (j < 104))) (N9 := 107) O dX12_init_689 rfl hini wd_6_175 (by decide) (by decide) rfl (by omega) rfl rfl rfl rfl rfl (by decide) ?_
  refine JC.aload_n (q := 693) O dX12_init_692 rfl 0 rfl ?_
  refine JC.bipush (q := 695) (v := (7 : Int32)) O dX12_init_693 rfl (by decide) ?_
  refine JC.newI (q := 697) (N := 7) (o := 287) O dX12_init_695 rfl wd_1_43 (by decide) (by decide) (by decide) (by decide) (by decide) (by omega) ((hg (367) (by omega) (by omega) (by omega)).trans (fe_367 G)) ?_
  refine JC.put (q := 700) (c9 := 287) (ci := 12) (k := 104) (code := 369) (B9 := (fun j => decide (j < 105))) (N9 := 107) O dX12_init_697 rfl hini wd_6_176 (by decide) (by decide) rfl (by omega) rfl rfl rfl rfl rfl (by decide) ?_
  refine JC.aload_n (q := 701) O dX12_init_700 rfl 0 rfl ?_
  refine JC.bipush (q := 703) (v := (40 : Int32)) O dX12_init_701 rfl (by decide) ?_
  refine JC.newI (q := 705) (N := 40) (o := 287) O dX12_init_703 rfl wd_1_43 (by decide) (by decide) (by decide) (by decide) (by decide) (by omega) ((hg (368) (by omega) (by omega) (by omega)).trans (fe_368 G)) ?_
  refine JC.put (q := 708) (c9 := 287) (ci := 12) (k := 105) (code := 370) (B9 := (fun j => decide (j < 106))) (N9 := 107) O dX12_init_705 rfl hini wd_6_177 (by decide) (by decide) rfl (by omega) rfl rfl rfl rfl rfl (by decide) ?_
  obtain ⟨ob, hob⟩ : ∃ ob, ob = obF G 12 (M0 287) fsC287 (fun j => decide (j < 106)) := ⟨_, rfl⟩
  refine JC.cast (f' := updE (updE (updE (updE f 287 ob) 336 (aE G 0 8 (fun _ => 0))) 307 (aE G 0 5 (fun _ => 0))) 306 (aE G 0 5 (fun _ => 0))) (by subst hgd; subst hob; rw [updE_comm (k := 306) (j := 287) _ _ _ (by decide), updE_comm (k := 307) (j := 287) _ _ _ (by decide), updE_comm (k := 336) (j := 287) _ _ _ (by decide)]) ?_
  subst hob
  refine JC.iconst (q := 709) (v := (0 : Int32)) O dX12_init_708 rfl (by decide) ?_
  refine JC.istore_n (q := 710) O dX12_init_709 rfl [(1, .int (0 : Int32)), (0, .ref (ad G 287))] (by decide) rfl ?_
  refine JC.iload_n (q := 711) O dX12_init_710 rfl 0 rfl ?_
  refine JC.iconst (q := 712) (v := (5 : Int32)) O dX12_init_711 rfl (by decide) ?_
  refine JC.icmp_ge (q := 715) (tgt := 749) O dX12_init_712 rfl (by decide) (fun z => absurd z (by decide)) (fun _ => ?_)
  refine JC.aload_n (q := 716) O dX12_init_715 rfl 1 rfl ?_
  refine JC.get (q := 719) (c9 := 287) (ci := 12) (k := 30) (v := .ref (ad G 306)) O dX12_init_716 rfl wd_6_102 (by decide) (by decide) (by decide) rfl rfl ?_
  refine JC.iload_n (q := 720) O dX12_init_719 rfl 0 rfl ?_
  refine JC.iconst (q := 721) (v := (5 : Int32)) O dX12_init_720 rfl (by decide) ?_
  refine JC.iast (c9 := 306) (N := 5) (i := (0 : Int32)) O dX12_init_721 rfl (by decide) (by unfold vp_in; decide) ?_
  refine JC.aload_n (q := 723) O dX12_init_722 rfl 1 rfl ?_
  refine JC.get (q := 726) (c9 := 287) (ci := 12) (k := 31) (v := .ref (ad G 307)) O dX12_init_723 rfl wd_6_103 (by decide) (by decide) (by decide) rfl rfl ?_
  refine JC.iload_n (q := 727) O dX12_init_726 rfl 0 rfl ?_
  refine JC.iload_n (q := 728) O dX12_init_727 rfl 0 rfl ?_
  refine JC.iconst (q := 729) (v := (1 : Int32)) O dX12_init_728 rfl (by decide) ?_
  refine JC.icmp_eq (q := 732) (tgt := 737) O dX12_init_729 rfl (by decide) (fun z => absurd z (by decide)) (fun _ => ?_)
  refine JC.iload_n (q := 733) O dX12_init_732 rfl 0 rfl ?_
  refine JC.iconst (q := 734) (v := (2 : Int32)) O dX12_init_733 rfl (by decide) ?_
  refine JC.icmp_ne (q := 737) (tgt := 741) O dX12_init_734 rfl (by decide) (fun _ => ?_) (fun z => absurd z (by decide))
  refine JC.iconst (q := 742) (v := (0 : Int32)) O dX12_init_741 rfl (by decide) ?_
  refine JC.cast (updE_comm _ _ _ (by decide)) ?_
  refine JC.iast (c9 := 307) (N := 5) (i := (0 : Int32)) O dX12_init_742 rfl (by decide) (by unfold vp_in; decide) ?_
  refine JC.iinc (q := 746) (v := (1 : Int32)) O dX12_init_743 rfl [(1, .int (1 : Int32)), (0, .ref (ad G 287))] 0 rfl (by decide) (by decide) rfl ?_
  refine JC.goto (q := 710) O dX12_init_746 (by decide) ?_
  refine JC.iload_n (q := 711) O dX12_init_710 rfl 0 rfl ?_
  refine JC.iconst (q := 712) (v := (5 : Int32)) O dX12_init_711 rfl (by decide) ?_
  refine JC.icmp_ge (q := 715) (tgt := 749) O dX12_init_712 rfl (by decide) (fun z => absurd z (by decide)) (fun _ => ?_)
  refine JC.aload_n (q := 716) O dX12_init_715 rfl 1 rfl ?_
  refine JC.get (q := 719) (c9 := 287) (ci := 12) (k := 30) (v := .ref (ad G 306)) O dX12_init_716 rfl wd_6_102 (by decide) (by decide) (by decide) rfl rfl ?_
  refine JC.iload_n (q := 720) O dX12_init_719 rfl 0 rfl ?_
  refine JC.iconst (q := 721) (v := (5 : Int32)) O dX12_init_720 rfl (by decide) ?_
  refine JC.cast (updE_comm _ _ _ (by decide)) ?_
  refine JC.iast (c9 := 306) (N := 5) (i := (1 : Int32)) O dX12_init_721 rfl (by decide) (by unfold vp_in; decide) ?_
  refine JC.aload_n (q := 723) O dX12_init_722 rfl 1 rfl ?_
  refine JC.get (q := 726) (c9 := 287) (ci := 12) (k := 31) (v := .ref (ad G 307)) O dX12_init_723 rfl wd_6_103 (by decide) (by decide) (by decide) rfl rfl ?_
  refine JC.iload_n (q := 727) O dX12_init_726 rfl 0 rfl ?_
  refine JC.iload_n (q := 728) O dX12_init_727 rfl 0 rfl ?_
  refine JC.iconst (q := 729) (v := (1 : Int32)) O dX12_init_728 rfl (by decide) ?_
  refine JC.icmp_eq (q := 732) (tgt := 737) O dX12_init_729 rfl (by decide) (fun _ => ?_) (fun z => absurd (by decide) z)
  refine JC.iconst (q := 738) (v := (1 : Int32)) O dX12_init_737 rfl (by decide) ?_
  refine JC.goto (q := 742) O dX12_init_738 (by decide) ?_
  refine JC.cast (updE_comm _ _ _ (by decide)) ?_
  refine JC.iast (c9 := 307) (N := 5) (i := (1 : Int32)) O dX12_init_742 rfl (by decide) (by unfold vp_in; decide) ?_
  refine JC.iinc (q := 746) (v := (2 : Int32)) O dX12_init_743 rfl [(1, .int (2 : Int32)), (0, .ref (ad G 287))] 0 rfl (by decide) (by decide) rfl ?_
  refine JC.goto (q := 710) O dX12_init_746 (by decide) ?_
  refine JC.iload_n (q := 711) O dX12_init_710 rfl 0 rfl ?_
  refine JC.iconst (q := 712) (v := (5 : Int32)) O dX12_init_711 rfl (by decide) ?_
  refine JC.icmp_ge (q := 715) (tgt := 749) O dX12_init_712 rfl (by decide) (fun z => absurd z (by decide)) (fun _ => ?_)
  refine JC.aload_n (q := 716) O dX12_init_715 rfl 1 rfl ?_
  refine JC.get (q := 719) (c9 := 287) (ci := 12) (k := 30) (v := .ref (ad G 306)) O dX12_init_716 rfl wd_6_102 (by decide) (by decide) (by decide) rfl rfl ?_
  refine JC.iload_n (q := 720) O dX12_init_719 rfl 0 rfl ?_
  refine JC.iconst (q := 721) (v := (5 : Int32)) O dX12_init_720 rfl (by decide) ?_
  refine JC.cast (updE_comm _ _ _ (by decide)) ?_
  refine JC.iast (c9 := 306) (N := 5) (i := (2 : Int32)) O dX12_init_721 rfl (by decide) (by unfold vp_in; decide) ?_
  refine JC.aload_n (q := 723) O dX12_init_722 rfl 1 rfl ?_
  refine JC.get (q := 726) (c9 := 287) (ci := 12) (k := 31) (v := .ref (ad G 307)) O dX12_init_723 rfl wd_6_103 (by decide) (by decide) (by decide) rfl rfl ?_
  refine JC.iload_n (q := 727) O dX12_init_726 rfl 0 rfl ?_
  refine JC.iload_n (q := 728) O dX12_init_727 rfl 0 rfl ?_
  refine JC.iconst (q := 729) (v := (1 : Int32)) O dX12_init_728 rfl (by decide) ?_
  refine JC.icmp_eq (q := 732) (tgt := 737) O dX12_init_729 rfl (by decide) (fun z => absurd z (by decide)) (fun _ => ?_)
  refine JC.iload_n (q := 733) O dX12_init_732 rfl 0 rfl ?_
  refine JC.iconst (q := 734) (v := (2 : Int32)) O dX12_init_733 rfl (by decide) ?_
  refine JC.icmp_ne (q := 737) (tgt := 741) O dX12_init_734 rfl (by decide) (fun z => absurd (by decide) z) (fun _ => ?_)
  refine JC.iconst (q := 738) (v := (1 : Int32)) O dX12_init_737 rfl (by decide) ?_
  refine JC.goto (q := 742) O dX12_init_738 (by decide) ?_
  refine JC.cast (updE_comm _ _ _ (by decide)) ?_
  refine JC.iast (c9 := 307) (N := 5) (i := (2 : Int32)) O dX12_init_742 rfl (by decide) (by unfold vp_in; decide) ?_
  refine JC.iinc (q := 746) (v := (3 : Int32)) O dX12_init_743 rfl [(1, .int (3 : Int32)), (0, .ref (ad G 287))] 0 rfl (by decide) (by decide) rfl ?_
  refine JC.goto (q := 710) O dX12_init_746 (by decide) ?_
  refine JC.iload_n (q := 711) O dX12_init_710 rfl 0 rfl ?_
  refine JC.iconst (q := 712) (v := (5 : Int32)) O dX12_init_711 rfl (by decide) ?_
  refine JC.icmp_ge (q := 715) (tgt := 749) O dX12_init_712 rfl (by decide) (fun z => absurd z (by decide)) (fun _ => ?_)
  refine JC.aload_n (q := 716) O dX12_init_715 rfl 1 rfl ?_
  refine JC.get (q := 719) (c9 := 287) (ci := 12) (k := 30) (v := .ref (ad G 306)) O dX12_init_716 rfl wd_6_102 (by decide) (by decide) (by decide) rfl rfl ?_
  refine JC.iload_n (q := 720) O dX12_init_719 rfl 0 rfl ?_
  refine JC.iconst (q := 721) (v := (5 : Int32)) O dX12_init_720 rfl (by decide) ?_
  refine JC.cast (updE_comm _ _ _ (by decide)) ?_
  refine JC.iast (c9 := 306) (N := 5) (i := (3 : Int32)) O dX12_init_721 rfl (by decide) (by unfold vp_in; decide) ?_
  refine JC.aload_n (q := 723) O dX12_init_722 rfl 1 rfl ?_
  refine JC.get (q := 726) (c9 := 287) (ci := 12) (k := 31) (v := .ref (ad G 307)) O dX12_init_723 rfl wd_6_103 (by decide) (by decide) (by decide) rfl rfl ?_
  refine JC.iload_n (q := 727) O dX12_init_726 rfl 0 rfl ?_
  refine JC.iload_n (q := 728) O dX12_init_727 rfl 0 rfl ?_
  refine JC.iconst (q := 729) (v := (1 : Int32)) O dX12_init_728 rfl (by decide) ?_
  refine JC.icmp_eq (q := 732) (tgt := 737) O dX12_init_729 rfl (by decide) (fun z => absurd z (by decide)) (fun _ => ?_)
  refine JC.iload_n (q := 733) O dX12_init_732 rfl 0 rfl ?_
  refine JC.iconst (q := 734) (v := (2 : Int32)) O dX12_init_733 rfl (by decide) ?_
  refine JC.icmp_ne (q := 737) (tgt := 741) O dX12_init_734 rfl (by decide) (fun _ => ?_) (fun z => absurd z (by decide))
  refine JC.iconst (q := 742) (v := (0 : Int32)) O dX12_init_741 rfl (by decide) ?_
  refine JC.cast (updE_comm _ _ _ (by decide)) ?_
  refine JC.iast (c9 := 307) (N := 5) (i := (3 : Int32)) O dX12_init_742 rfl (by decide) (by unfold vp_in; decide) ?_
  refine JC.iinc (q := 746) (v := (4 : Int32)) O dX12_init_743 rfl [(1, .int (4 : Int32)), (0, .ref (ad G 287))] 0 rfl (by decide) (by decide) rfl ?_
  refine JC.goto (q := 710) O dX12_init_746 (by decide) ?_
  refine JC.iload_n (q := 711) O dX12_init_710 rfl 0 rfl ?_
  refine JC.iconst (q := 712) (v := (5 : Int32)) O dX12_init_711 rfl (by decide) ?_
  refine JC.icmp_ge (q := 715) (tgt := 749) O dX12_init_712 rfl (by decide) (fun z => absurd z (by decide)) (fun _ => ?_)
  refine JC.aload_n (q := 716) O dX12_init_715 rfl 1 rfl ?_
  refine JC.get (q := 719) (c9 := 287) (ci := 12) (k := 30) (v := .ref (ad G 306)) O dX12_init_716 rfl wd_6_102 (by decide) (by decide) (by decide) rfl rfl ?_
  refine JC.iload_n (q := 720) O dX12_init_719 rfl 0 rfl ?_
  refine JC.iconst (q := 721) (v := (5 : Int32)) O dX12_init_720 rfl (by decide) ?_
  refine JC.cast (updE_comm _ _ _ (by decide)) ?_
  refine JC.iast (c9 := 306) (N := 5) (i := (4 : Int32)) O dX12_init_721 rfl (by decide) (by unfold vp_in; decide) ?_
  refine JC.aload_n (q := 723) O dX12_init_722 rfl 1 rfl ?_
  refine JC.get (q := 726) (c9 := 287) (ci := 12) (k := 31) (v := .ref (ad G 307)) O dX12_init_723 rfl wd_6_103 (by decide) (by decide) (by decide) rfl rfl ?_
  refine JC.iload_n (q := 727) O dX12_init_726 rfl 0 rfl ?_
  refine JC.iload_n (q := 728) O dX12_init_727 rfl 0 rfl ?_
  refine JC.iconst (q := 729) (v := (1 : Int32)) O dX12_init_728 rfl (by decide) ?_
  refine JC.icmp_eq (q := 732) (tgt := 737) O dX12_init_729 rfl (by decide) (fun z => absurd z (by decide)) (fun _ => ?_)
  refine JC.iload_n (q := 733) O dX12_init_732 rfl 0 rfl ?_
  refine JC.iconst (q := 734) (v := (2 : Int32)) O dX12_init_733 rfl (by decide) ?_
  refine JC.icmp_ne (q := 737) (tgt := 741) O dX12_init_734 rfl (by decide) (fun _ => ?_) (fun z => absurd z (by decide))
  refine JC.iconst (q := 742) (v := (0 : Int32)) O dX12_init_741 rfl (by decide) ?_
  refine JC.cast (updE_comm _ _ _ (by decide)) ?_
  refine JC.iast (c9 := 307) (N := 5) (i := (4 : Int32)) O dX12_init_742 rfl (by decide) (by unfold vp_in; decide) ?_
  refine JC.iinc (q := 746) (v := (5 : Int32)) O dX12_init_743 rfl [(1, .int (5 : Int32)), (0, .ref (ad G 287))] 0 rfl (by decide) (by decide) rfl ?_
  refine JC.goto (q := 710) O dX12_init_746 (by decide) ?_
  refine JC.iload_n (q := 711) O dX12_init_710 rfl 0 rfl ?_
  refine JC.iconst (q := 712) (v := (5 : Int32)) O dX12_init_711 rfl (by decide) ?_
  refine JC.icmp_ge (q := 715) (tgt := 749) O dX12_init_712 rfl (by decide) (fun _ => ?_) (fun z => absurd (by decide) z)
  refine JC.cast (updE_comm _ _ _ (by decide)) ?_
  refine JC.close ((hw (306) (by decide) (by decide)).trans (fe_306 G)) (by decide) ?_
  refine JC.close ((hw (307) (by decide) (by decide)).trans (fe_307 G)) (by decide) ?_
  refine JC.iconst (q := 750) (v := (0 : Int32)) O dX12_init_749 rfl (by decide) ?_
  refine JC.istore_n (q := 751) O dX12_init_750 rfl [(1, .int (0 : Int32)), (0, .ref (ad G 287))] (by decide) rfl ?_
  refine JC.iload_n (q := 752) O dX12_init_751 rfl 0 rfl ?_
  refine JC.bipush (q := 754) (v := (8 : Int32)) O dX12_init_752 rfl (by decide) ?_
  refine JC.icmp_ge (q := 757) (tgt := 770) O dX12_init_754 rfl (by decide) (fun z => absurd z (by decide)) (fun _ => ?_)
  refine JC.aload_n (q := 758) O dX12_init_757 rfl 1 rfl ?_
  refine JC.get (q := 761) (c9 := 287) (ci := 12) (k := 64) (v := .ref (ad G 336)) O dX12_init_758 rfl wd_6_136 (by decide) (by decide) (by decide) rfl rfl ?_
  refine JC.iload_n (q := 762) O dX12_init_761 rfl 0 rfl ?_
  refine JC.iconst (q := 763) (v := (-1 : Int32)) O dX12_init_762 rfl (by decide) ?_
  refine JC.iast (c9 := 336) (N := 8) (i := (0 : Int32)) O dX12_init_763 rfl (by decide) (by unfold vp_in; decide) ?_
  refine JC.iinc (q := 767) (v := (1 : Int32)) O dX12_init_764 rfl [(1, .int (1 : Int32)), (0, .ref (ad G 287))] 0 rfl (by decide) (by decide) rfl ?_
  refine JC.goto (q := 751) O dX12_init_767 (by decide) ?_
  refine JC.iload_n (q := 752) O dX12_init_751 rfl 0 rfl ?_
  refine JC.bipush (q := 754) (v := (8 : Int32)) O dX12_init_752 rfl (by decide) ?_
  refine JC.icmp_ge (q := 757) (tgt := 770) O dX12_init_754 rfl (by decide) (fun z => absurd z (by decide)) (fun _ => ?_)
  refine JC.aload_n (q := 758) O dX12_init_757 rfl 1 rfl ?_
  refine JC.get (q := 761) (c9 := 287) (ci := 12) (k := 64) (v := .ref (ad G 336)) O dX12_init_758 rfl wd_6_136 (by decide) (by decide) (by decide) rfl rfl ?_
  refine JC.iload_n (q := 762) O dX12_init_761 rfl 0 rfl ?_
  refine JC.iconst (q := 763) (v := (-1 : Int32)) O dX12_init_762 rfl (by decide) ?_
  refine JC.iast (c9 := 336) (N := 8) (i := (1 : Int32)) O dX12_init_763 rfl (by decide) (by unfold vp_in; decide) ?_
  refine JC.iinc (q := 767) (v := (2 : Int32)) O dX12_init_764 rfl [(1, .int (2 : Int32)), (0, .ref (ad G 287))] 0 rfl (by decide) (by decide) rfl ?_
  refine JC.goto (q := 751) O dX12_init_767 (by decide) ?_
  refine JC.iload_n (q := 752) O dX12_init_751 rfl 0 rfl ?_
  refine JC.bipush (q := 754) (v := (8 : Int32)) O dX12_init_752 rfl (by decide) ?_
  refine JC.icmp_ge (q := 757) (tgt := 770) O dX12_init_754 rfl (by decide) (fun z => absurd z (by decide)) (fun _ => ?_)
  refine JC.aload_n (q := 758) O dX12_init_757 rfl 1 rfl ?_
  refine JC.get (q := 761) (c9 := 287) (ci := 12) (k := 64) (v := .ref (ad G 336)) O dX12_init_758 rfl wd_6_136 (by decide) (by decide) (by decide) rfl rfl ?_
  refine JC.iload_n (q := 762) O dX12_init_761 rfl 0 rfl ?_
  refine JC.iconst (q := 763) (v := (-1 : Int32)) O dX12_init_762 rfl (by decide) ?_
  refine JC.iast (c9 := 336) (N := 8) (i := (2 : Int32)) O dX12_init_763 rfl (by decide) (by unfold vp_in; decide) ?_
  refine JC.iinc (q := 767) (v := (3 : Int32)) O dX12_init_764 rfl [(1, .int (3 : Int32)), (0, .ref (ad G 287))] 0 rfl (by decide) (by decide) rfl ?_
  refine JC.goto (q := 751) O dX12_init_767 (by decide) ?_
  refine JC.iload_n (q := 752) O dX12_init_751 rfl 0 rfl ?_
  refine JC.bipush (q := 754) (v := (8 : Int32)) O dX12_init_752 rfl (by decide) ?_
  refine JC.icmp_ge (q := 757) (tgt := 770) O dX12_init_754 rfl (by decide) (fun z => absurd z (by decide)) (fun _ => ?_)
  refine JC.aload_n (q := 758) O dX12_init_757 rfl 1 rfl ?_
  refine JC.get (q := 761) (c9 := 287) (ci := 12) (k := 64) (v := .ref (ad G 336)) O dX12_init_758 rfl wd_6_136 (by decide) (by decide) (by decide) rfl rfl ?_
  refine JC.iload_n (q := 762) O dX12_init_761 rfl 0 rfl ?_
  refine JC.iconst (q := 763) (v := (-1 : Int32)) O dX12_init_762 rfl (by decide) ?_
  refine JC.iast (c9 := 336) (N := 8) (i := (3 : Int32)) O dX12_init_763 rfl (by decide) (by unfold vp_in; decide) ?_
  refine JC.iinc (q := 767) (v := (4 : Int32)) O dX12_init_764 rfl [(1, .int (4 : Int32)), (0, .ref (ad G 287))] 0 rfl (by decide) (by decide) rfl ?_
  refine JC.goto (q := 751) O dX12_init_767 (by decide) ?_
  refine JC.iload_n (q := 752) O dX12_init_751 rfl 0 rfl ?_
  refine JC.bipush (q := 754) (v := (8 : Int32)) O dX12_init_752 rfl (by decide) ?_
  refine JC.icmp_ge (q := 757) (tgt := 770) O dX12_init_754 rfl (by decide) (fun z => absurd z (by decide)) (fun _ => ?_)
  refine JC.aload_n (q := 758) O dX12_init_757 rfl 1 rfl ?_
  refine JC.get (q := 761) (c9 := 287) (ci := 12) (k := 64) (v := .ref (ad G 336)) O dX12_init_758 rfl wd_6_136 (by decide) (by decide) (by decide) rfl rfl ?_
  refine JC.iload_n (q := 762) O dX12_init_761 rfl 0 rfl ?_
  refine JC.iconst (q := 763) (v := (-1 : Int32)) O dX12_init_762 rfl (by decide) ?_
  refine JC.iast (c9 := 336) (N := 8) (i := (4 : Int32)) O dX12_init_763 rfl (by decide) (by unfold vp_in; decide) ?_
  refine JC.iinc (q := 767) (v := (5 : Int32)) O dX12_init_764 rfl [(1, .int (5 : Int32)), (0, .ref (ad G 287))] 0 rfl (by decide) (by decide) rfl ?_
  refine JC.goto (q := 751) O dX12_init_767 (by decide) ?_
  refine JC.iload_n (q := 752) O dX12_init_751 rfl 0 rfl ?_
  refine JC.bipush (q := 754) (v := (8 : Int32)) O dX12_init_752 rfl (by decide) ?_
  refine JC.icmp_ge (q := 757) (tgt := 770) O dX12_init_754 rfl (by decide) (fun z => absurd z (by decide)) (fun _ => ?_)
  refine JC.aload_n (q := 758) O dX12_init_757 rfl 1 rfl ?_
  refine JC.get (q := 761) (c9 := 287) (ci := 12) (k := 64) (v := .ref (ad G 336)) O dX12_init_758 rfl wd_6_136 (by decide) (by decide) (by decide) rfl rfl ?_
  refine JC.iload_n (q := 762) O dX12_init_761 rfl 0 rfl ?_
  refine JC.iconst (q := 763) (v := (-1 : Int32)) O dX12_init_762 rfl (by decide) ?_
  refine JC.iast (c9 := 336) (N := 8) (i := (5 : Int32)) O dX12_init_763 rfl (by decide) (by unfold vp_in; decide) ?_
  refine JC.iinc (q := 767) (v := (6 : Int32)) O dX12_init_764 rfl [(1, .int (6 : Int32)), (0, .ref (ad G 287))] 0 rfl (by decide) (by decide) rfl ?_
  refine JC.goto (q := 751) O dX12_init_767 (by decide) ?_
  refine JC.iload_n (q := 752) O dX12_init_751 rfl 0 rfl ?_
  refine JC.bipush (q := 754) (v := (8 : Int32)) O dX12_init_752 rfl (by decide) ?_
  refine JC.icmp_ge (q := 757) (tgt := 770) O dX12_init_754 rfl (by decide) (fun z => absurd z (by decide)) (fun _ => ?_)
  refine JC.aload_n (q := 758) O dX12_init_757 rfl 1 rfl ?_
  refine JC.get (q := 761) (c9 := 287) (ci := 12) (k := 64) (v := .ref (ad G 336)) O dX12_init_758 rfl wd_6_136 (by decide) (by decide) (by decide) rfl rfl ?_
  refine JC.iload_n (q := 762) O dX12_init_761 rfl 0 rfl ?_
  refine JC.iconst (q := 763) (v := (-1 : Int32)) O dX12_init_762 rfl (by decide) ?_
  refine JC.iast (c9 := 336) (N := 8) (i := (6 : Int32)) O dX12_init_763 rfl (by decide) (by unfold vp_in; decide) ?_
  refine JC.iinc (q := 767) (v := (7 : Int32)) O dX12_init_764 rfl [(1, .int (7 : Int32)), (0, .ref (ad G 287))] 0 rfl (by decide) (by decide) rfl ?_
  refine JC.goto (q := 751) O dX12_init_767 (by decide) ?_
  refine JC.iload_n (q := 752) O dX12_init_751 rfl 0 rfl ?_
  refine JC.bipush (q := 754) (v := (8 : Int32)) O dX12_init_752 rfl (by decide) ?_
  refine JC.icmp_ge (q := 757) (tgt := 770) O dX12_init_754 rfl (by decide) (fun z => absurd z (by decide)) (fun _ => ?_)
  refine JC.aload_n (q := 758) O dX12_init_757 rfl 1 rfl ?_
  refine JC.get (q := 761) (c9 := 287) (ci := 12) (k := 64) (v := .ref (ad G 336)) O dX12_init_758 rfl wd_6_136 (by decide) (by decide) (by decide) rfl rfl ?_
  refine JC.iload_n (q := 762) O dX12_init_761 rfl 0 rfl ?_
  refine JC.iconst (q := 763) (v := (-1 : Int32)) O dX12_init_762 rfl (by decide) ?_
  refine JC.iast (c9 := 336) (N := 8) (i := (7 : Int32)) O dX12_init_763 rfl (by decide) (by unfold vp_in; decide) ?_
  refine JC.iinc (q := 767) (v := (8 : Int32)) O dX12_init_764 rfl [(1, .int (8 : Int32)), (0, .ref (ad G 287))] 0 rfl (by decide) (by decide) rfl ?_
  refine JC.goto (q := 751) O dX12_init_767 (by decide) ?_
  refine JC.iload_n (q := 752) O dX12_init_751 rfl 0 rfl ?_
  refine JC.bipush (q := 754) (v := (8 : Int32)) O dX12_init_752 rfl (by decide) ?_
  refine JC.icmp_ge (q := 757) (tgt := 770) O dX12_init_754 rfl (by decide) (fun _ => ?_) (fun z => absurd (by decide) z)
  refine JC.close ((hw (336) (by decide) (by decide)).trans (fe_336 G)) (by decide) ?_
  refine JC.cast (updE_self ((hw (287) (by omega) (by omega)).trans (ob_end G shC_287 rfl rfl (by decide)))) ?_
  exact hret _ _ dX12_init_770
