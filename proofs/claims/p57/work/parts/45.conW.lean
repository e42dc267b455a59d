/-! WorksCouncil(): the 40 matters, then the terms -/
def fst40 (G : GX) (i : Nat) : Nat → Option Nat := fun j => if j < i then some (ad G (127 + 4 * j)) else none
theorem wc_mat {X : CX} {G : GX} {mc ms K0 S0 : Nat} (hmc : K0 + 160 ≤ mc) (hms : S0 + 4200 ≤ ms) (O : OkC X G cX11_init 2 RX11 3 mc ms) {F : Nat → va_E} {vs : List Value} (h0 : F 0 = .inr (11, vs)) (hm : vs[4]? = some (.ref (ad G 61))) (hc : vs[0]? = some (.ref (ad G 1))) (hco : vs[3]? = some (.ref (ad G 51))) (hw : ∀ k, 127 ≤ k → k < 287 → F k = fE G k) (hend : ∀ lv, lv = [(1, Value.int 40), (0, .ref (ad G 0))] → JC X G 287 (updE F 61 (aR G 0 40 (fst40 G 40))) (K0 + 160) (S0 + 4200) 212 lv []) : ∀ d i, 40 - i < d → i ≤ 40 → JC X G (127 + 4 * i) (updE F 61 (aR G 0 40 (fst40 G i))) (K0 + 4 * i) (S0 + 105 * i) 179 [(1, .int (nI i)), (0, .ref (ad G 0))] [] := by
  intro d
  induction d with
  | zero => intro i h _; omega
  | succ d ih =>
    intro i hd hi
    refine JC.iload_n (q := 180) O dX11_init_179 rfl 0 rfl ?_
    refine JC.bipush (q := 182) (v := (40 : Int32)) O dX11_init_180 rfl (by decide) ?_
    refine JC.icmp_ge (q := 185) (tgt := 212) O dX11_init_182 rfl (by decide) (fun z => ?_) (fun z => ?_)
    · have hk9 : i = 40 := by
        have := (nI_le_iff (a := 40) (b := i) (by decide) (by omega)).mp z
        omega
      subst hk9
      exact hend _ rfl
    · have hk9 : i < 40 := by
        rcases Nat.lt_or_ge i 40 with q | q
        · exact q
        · exact absurd ((nI_le_iff (a := 40) (b := i) (by decide) (by omega)).mpr (by omega)) z
      have h09 : ∀ e : va_E, updE F 61 e 0 = .inr (11, vs) := fun e => (updE_ne _ _ (by decide)).trans h0
      refine JC.aload_n (q := 186) O dX11_init_185 rfl 1 rfl ?_
      refine JC.get (q := 189) (c9 := 0) (ci := 11) (k := 4) (v := .ref (ad G 61)) O dX11_init_186 rfl wd_2_218 (by decide) (by decide) (by omega) (h09 _) hm ?_
      refine JC.iload_n (q := 190) O dX11_init_189 rfl 0 rfl ?_
      refine JC.new (q := 193) (ci := 5) O dX11_init_190 rfl (by decide) wd_1_199 wd_2_157 wd_1_12 (by omega) (by show _ + 15 ≤ _; omega) ?_
      refine JC.dup (q := 194) O dX11_init_193 rfl rfl ?_
      refine JC.aload_n (q := 195) O dX11_init_194 rfl 1 rfl ?_
      refine JC.get (q := 198) (c9 := 0) (ci := 11) (k := 0) (v := .ref (ad G 1)) O dX11_init_195 rfl wd_2_214 (by decide) (by decide) (by omega) ((updE_ne _ _ (by omega)).trans (h09 _)) hc ?_
      refine JC.aload_n (q := 199) O dX11_init_198 rfl 1 rfl ?_
      refine JC.get (q := 202) (c9 := 0) (ci := 11) (k := 3) (v := .ref (ad G 51)) O dX11_init_199 rfl wd_2_217 (by decide) (by decide) (by omega) ((updE_ne _ _ (by omega)).trans (h09 _)) hco ?_
      have hms9 : S0 + 105 * i + flN 5 + 90 ≤ ms := by show _ + 15 + 90 ≤ _; omega
      refine JC.callI (q := 205) (nL := 3) (lev' := 1) (na := 2) (mc' := 3) (ms' := 90) [.ref (ad G 1), .ref (ad G 51)] _ rfl O dX11_init_202 rfl (n_X5 O.hA hk9 (fun k9 h1 h2 => (updE_ne _ _ (by omega)).trans (hw k9 (by omega) (by omega)))) wd_2_158 wd_1_12 wd_2_159 wd_2_160 rfl (by decide) (by decide) rfl (by decide) (Nat.le_of_ble_eq_true rfl) (by omega) hms9 ?_
      obtain ⟨vs9, hv9⟩ : ∃ vs9, fE G (127 + 4 * i) = .inr (5, vs9) := ⟨_, ob_end G (N9 := 15) (A := fun _ => true) (shpM hk9) (M0_m hk9) rfl (fun _ _ => Or.inl rfl)⟩
      refine JC.aast (q := 206) (c9 := 61) (N := 40) (v := 127 + 4 * i) O dX11_init_205 rfl (by omega) (vin_nI hk9 (by decide)) (by omega) (by omega) ((hw _ (by omega) (by omega)).trans hv9) ?_
      refine JC.iinc (q := 209) (v := nI (i + 1)) O dX11_init_206 rfl [(1, .int (nI (i + 1))), (0, .ref (ad G 0))] 0 rfl (nI_add i 1) (by decide) rfl ?_
      refine JC.goto (q := 179) O dX11_init_209 (by decide) ?_
      refine JC.castK (nw' := 127 + 4 * (i + 1)) (kc' := K0 + 4 * (i + 1)) (ks' := S0 + 105 * (i + 1)) (by omega) (by omega) (by show _ + 15 + 90 = _; omega) ?_
      refine JC.cast (congrArg (fun z => updE F 61 (aR G 0 40 z)) (?_ : _ = fst40 G (i + 1))) (ih (i + 1) (by omega) (by omega))
      funext j
      rw [nI_cl i (by omega)]
      unfold va_up fst40
      by_cases hj : j = i
      · subst hj; rw [if_pos rfl, if_pos (by omega)]
      · rw [if_neg hj]
        by_cases hj2 : j < i
        · rw [if_pos hj2, if_pos (by omega)]
        · rw [if_neg hj2, if_neg (by omega)]
theorem n_X11 {l : Launch} {G : GX} (hA : ∀ q, G.2.2.1 ≤ q → G.2.2.2.1 q) {f : Nat → va_E} (hw : ∀ k, 0 ≤ k → k < 287 → f k = fE G k) : CC l G yX11_init cX11_init 2 3 286 11708 [.ref (ad G 0)] 1 287 (updE f 0 (newE 11)) f := by
  refine CC.mk hA (by decide) rfl [(0, .ref (ad G 0))] rfl (Nat.le_of_ble_eq_true rfl) (fun X O hini hX hret => ?_)
  obtain ⟨g, hgd⟩ : ∃ g, g = updE (updE (updE (updE (updE (updE f 123 (aE G 0 3 (fun _ => 0))) 122 (aE G 0 3 (fun _ => 0))) 121 (aE G 0 3 (fun _ => 0))) 120 (aE G 0 3 (fun _ => 0))) 119 (aE G 0 3 (fun _ => 0))) 61 (aR G 0 40 (fun _ => none)) := ⟨_, rfl⟩
  have hg : ∀ k, 0 ≤ k → k < 287 → (k ≠ 61 ∧ k ≠ 119 ∧ k ≠ 120 ∧ k ≠ 121 ∧ k ≠ 122 ∧ k ≠ 123) → g k = fE G k := fun k h1 h2 h3 => by
    refine Eq.trans ?_ (hw k h1 h2)
    subst hgd
    unfold updE
    repeat rw [if_neg (by omega)]
  refine JC.castW (f' := updE g 0 (obF G 11 (M0 0) fsC0 (fun _ => false))) (fun k hk => ?_) ?_
  · by_cases hk9 : k = 0
    · subst hk9
      rw [updE_eq, updE_eq]
      rfl
    · rw [updE_ne _ _ hk9, updE_ne _ _ hk9]
      subst hgd
      unfold updE
      repeat rw [if_neg (by omega)]
  have hg61 : g 61 = aR G 0 40 (fun _ => none) := by subst hgd; exact updE_eq _ _ _
  have hgz : ∀ k, 119 ≤ k → k < 124 → g k = aE G 0 3 (fun _ => 0) := fun k h1 h2 => by
    subst hgd
    rcases (show k = 119 ∨ k = 120 ∨ k = 121 ∨ k = 122 ∨ k = 123 by omega) with rfl | rfl | rfl | rfl | rfl <;> rfl
  refine JC.aload_n (q := 1) O dX11_init_0 rfl 0 rfl ?_
  refine JC.objInit (q := 4) O dX11_init_1 rfl wd_1_20 (by decide) (by decide) ?_
  refine JC.aload_n (q := 5) O dX11_init_4 rfl 0 rfl ?_
  refine JC.new (q := 8) (ci := 3) O dX11_init_5 rfl (by decide) wd_1_23 wd_1_24 wd_1_2 (by decide) (by decide) ?_
  refine JC.dup (q := 9) O dX11_init_8 rfl rfl ?_
  refine JC.callI (q := 12) (nL := 3) (lev' := 1) (na := 0) (mc' := 2) (ms' := 2002) [] _ rfl O dX11_init_9 rfl (n_X3 O.hA (fun k9 h1 h2 => (updE_ne _ _ (by omega)).trans (hg (k9) (by omega) (by omega) (by omega)))) wd_1_25 wd_1_2 wd_1_26 wd_1_27 rfl (by decide) (by decide) rfl (by decide) (Nat.le_of_ble_eq_true rfl) (by decide) (by decide) ?_
  refine JC.put (q := 15) (c9 := 0) (ci := 11) (k := 0) (code := 3) (B9 := (fun j => decide (j < 1))) (N9 := 16) O dX11_init_12 rfl hini wd_2_214 (by decide) (by decide) rfl (by omega) rfl rfl rfl rfl rfl (by decide) ?_
  refine JC.aload_n (q := 16) O dX11_init_15 rfl 0 rfl ?_
  refine JC.new (q := 19) (ci := 9) O dX11_init_16 rfl (by decide) wd_1_43 wd_1_44 wd_1_3 (by decide) (by decide) ?_
  refine JC.dup (q := 20) O dX11_init_19 rfl rfl ?_
  refine JC.callN (q := 23) (nL := 1) (lev' := 1) (na := 0) (mc' := 10) (ms' := 220) [] _ rfl O dX11_init_20 rfl (n_X9 O.hA (fun k9 h1 h2 => (updE_ne _ _ (by omega)).trans (hg (k9) (by omega) (by omega) (by omega)))) (by decide) wd_1_3 wd_1_46 wd_1_47 rfl (by decide) (by decide) rfl (by decide) (Nat.le_of_ble_eq_true rfl) (by decide) (by decide) ?_
  refine JC.put (q := 26) (c9 := 0) (ci := 11) (k := 1) (code := 6) (B9 := (fun j => decide (j < 2))) (N9 := 16) O dX11_init_23 rfl hini wd_2_215 (by decide) (by decide) rfl (by omega) rfl rfl rfl rfl rfl (by decide) ?_
  refine JC.aload_n (q := 27) O dX11_init_26 rfl 0 rfl ?_
  refine JC.new (q := 30) (ci := 0) O dX11_init_27 rfl (by decide) wd_1_86 wd_1_87 wd_1_4 (by decide) (by decide) ?_
  refine JC.dup (q := 31) O dX11_init_30 rfl rfl ?_
  refine JC.callN (q := 34) (nL := 1) (lev' := 2) (na := 0) (mc' := 35) (ms' := 1692) [] _ rfl O dX11_init_31 rfl (n_X0 O.hA (fun k9 h1 h2 => (updE_ne _ _ (by omega)).trans (hg (k9) (by omega) (by omega) (by omega)))) (by decide) wd_1_4 wd_1_89 wd_1_90 rfl (by decide) (by decide) rfl (by decide) (Nat.le_of_ble_eq_true rfl) (by decide) (by decide) ?_
  refine JC.put (q := 37) (c9 := 0) (ci := 11) (k := 2) (code := 17) (B9 := (fun j => decide (j < 3))) (N9 := 16) O dX11_init_34 rfl hini wd_2_216 (by decide) (by decide) rfl (by omega) rfl rfl rfl rfl rfl (by decide) ?_
  refine JC.aload_n (q := 38) O dX11_init_37 rfl 0 rfl ?_
  refine JC.new (q := 41) (ci := 2) O dX11_init_38 rfl (by decide) wd_1_154 wd_1_155 wd_1_6 (by decide) (by decide) ?_
  refine JC.dup (q := 42) O dX11_init_41 rfl rfl ?_
  refine JC.callN (q := 45) (nL := 1) (lev' := 1) (na := 0) (mc' := 9) (ms' := 180) [] _ rfl O dX11_init_42 rfl (n_X2 O.hA (fun k9 h1 h2 => (updE_ne _ _ (by omega)).trans (hg (k9) (by omega) (by omega) (by omega)))) (by decide) wd_1_6 wd_1_157 wd_1_158 rfl (by decide) (by decide) rfl (by decide) (Nat.le_of_ble_eq_true rfl) (by decide) (by decide) ?_
  refine JC.put (q := 48) (c9 := 0) (ci := 11) (k := 3) (code := 53) (B9 := (fun j => decide (j < 4))) (N9 := 16) O dX11_init_45 rfl hini wd_2_217 (by decide) (by decide) rfl (by omega) rfl rfl rfl rfl rfl (by decide) ?_
  refine JC.aload_n (q := 49) O dX11_init_48 rfl 0 rfl ?_
  refine JC.bipush (q := 51) (v := (40 : Int32)) O dX11_init_49 rfl (by decide) ?_
  refine JC.anew (q := 54) (N := 40) O dX11_init_51 rfl wd_1_199 (by decide) (by decide) (by decide) (by decide) (by decide) ?_
  refine JC.cast (updE_self ((updE_ne _ _ (by decide)).trans hg61)) ?_
  refine JC.put (q := 57) (c9 := 0) (ci := 11) (k := 4) (code := 63) (B9 := (fun j => decide (j < 5))) (N9 := 16) O dX11_init_54 rfl hini wd_2_218 (by decide) (by decide) rfl (by omega) rfl rfl rfl rfl rfl (by decide) ?_
  refine JC.aload_n (q := 58) O dX11_init_57 rfl 0 rfl ?_
  refine JC.iconst (q := 59) (v := (0 : Int32)) O dX11_init_58 rfl (by decide) ?_
  refine JC.put (q := 62) (c9 := 0) (ci := 11) (k := 5) (code := 0) (B9 := (fun j => decide (j < 6))) (N9 := 16) O dX11_init_59 rfl hini wd_2_219 (by decide) (by decide) rfl (by omega) rfl rfl rfl rfl rfl (by decide) ?_
  refine JC.aload_n (q := 63) O dX11_init_62 rfl 0 rfl ?_
  refine JC.new (q := 66) (ci := 1) O dX11_init_63 rfl (by decide) wd_1_201 wd_1_202 wd_1_7 (by decide) (by decide) ?_
  refine JC.dup (q := 67) O dX11_init_66 rfl rfl ?_
  refine JC.callN (q := 70) (nL := 1) (lev' := 1) (na := 0) (mc' := 9) (ms' := 204) [] _ rfl O dX11_init_67 rfl (n_X1 O.hA (fun k9 h1 h2 => (updE_ne _ _ (by omega)).trans (hg (k9) (by omega) (by omega) (by omega)))) (by decide) wd_1_7 wd_1_204 wd_1_205 rfl (by decide) (by decide) rfl (by decide) (Nat.le_of_ble_eq_true rfl) (by decide) (by decide) ?_
  refine JC.put (q := 73) (c9 := 0) (ci := 11) (k := 6) (code := 64) (B9 := (fun j => decide (j < 7))) (N9 := 16) O dX11_init_70 rfl hini wd_2_220 (by decide) (by decide) rfl (by omega) rfl rfl rfl rfl rfl (by decide) ?_
  refine JC.aload_n (q := 74) O dX11_init_73 rfl 0 rfl ?_
  refine JC.new (q := 77) (ci := 4) O dX11_init_74 rfl (by decide) wd_2_1 wd_2_2 wd_1_8 (by decide) (by decide) ?_
  refine JC.dup (q := 78) O dX11_init_77 rfl rfl ?_
  refine JC.callN (q := 81) (nL := 1) (lev' := 1) (na := 0) (mc' := 8) (ms' := 600) [] _ rfl O dX11_init_78 rfl (n_X4 O.hA (fun k9 h1 h2 => (updE_ne _ _ (by omega)).trans (hg (k9) (by omega) (by omega) (by omega)))) (by decide) wd_1_8 wd_2_4 wd_2_5 rfl (by decide) (by decide) rfl (by decide) (Nat.le_of_ble_eq_true rfl) (by decide) (by decide) ?_
  refine JC.put (q := 84) (c9 := 0) (ci := 11) (k := 7) (code := 74) (B9 := (fun j => decide (j < 8))) (N9 := 16) O dX11_init_81 rfl hini wd_2_221 (by decide) (by decide) rfl (by omega) rfl rfl rfl rfl rfl (by decide) ?_
  refine JC.aload_n (q := 85) O dX11_init_84 rfl 0 rfl ?_
  refine JC.new (q := 88) (ci := 8) O dX11_init_85 rfl (by decide) wd_2_44 wd_2_45 wd_1_9 (by decide) (by decide) ?_
  refine JC.dup (q := 89) O dX11_init_88 rfl rfl ?_
  refine JC.callN (q := 92) (nL := 1) (lev' := 1) (na := 0) (mc' := 15) (ms' := 2240) [] _ rfl O dX11_init_89 rfl (n_X8 O.hA (fun k9 h1 h2 => (updE_ne _ _ (by omega)).trans (hg (k9) (by omega) (by omega) (by omega)))) (by decide) wd_1_9 wd_2_47 wd_2_48 rfl (by decide) (by decide) rfl (by decide) (Nat.le_of_ble_eq_true rfl) (by decide) (by decide) ?_
  refine JC.put (q := 95) (c9 := 0) (ci := 11) (k := 8) (code := 83) (B9 := (fun j => decide (j < 9))) (N9 := 16) O dX11_init_92 rfl hini wd_2_222 (by decide) (by decide) rfl (by omega) rfl rfl rfl rfl rfl (by decide) ?_
  refine JC.aload_n (q := 96) O dX11_init_95 rfl 0 rfl ?_
  refine JC.new (q := 99) (ci := 10) O dX11_init_96 rfl (by decide) wd_2_105 wd_2_106 wd_1_10 (by decide) (by decide) ?_
  refine JC.dup (q := 100) O dX11_init_99 rfl rfl ?_
  refine JC.callN (q := 103) (nL := 1) (lev' := 1) (na := 0) (mc' := 13) (ms' := 135) [] _ rfl O dX11_init_100 rfl (n_X10 O.hA (fun k9 h1 h2 => (updE_ne _ _ (by omega)).trans (hg (k9) (by omega) (by omega) (by omega)))) (by decide) wd_1_10 wd_2_108 wd_2_109 rfl (by decide) (by decide) rfl (by decide) (Nat.le_of_ble_eq_true rfl) (by decide) (by decide) ?_
  refine JC.put (q := 106) (c9 := 0) (ci := 11) (k := 9) (code := 99) (B9 := (fun j => decide (j < 10))) (N9 := 16) O dX11_init_103 rfl hini wd_2_223 (by decide) (by decide) rfl (by omega) rfl rfl rfl rfl rfl (by decide) ?_
  refine JC.aload_n (q := 107) O dX11_init_106 rfl 0 rfl ?_
  refine JC.new (q := 110) (ci := 6) O dX11_init_107 rfl (by decide) wd_2_122 wd_2_123 wd_1_11 (by decide) (by decide) ?_
  refine JC.dup (q := 111) O dX11_init_110 rfl rfl ?_
  refine JC.callN (q := 114) (nL := 1) (lev' := 1) (na := 0) (mc' := 6) (ms' := 42) [] _ rfl O dX11_init_111 rfl (n_X6 O.hA (fun k9 h1 h2 => (updE_ne _ _ (by omega)).trans (hg (k9) (by omega) (by omega) (by omega)))) (by decide) wd_1_11 wd_2_125 wd_2_126 rfl (by decide) (by decide) rfl (by decide) (Nat.le_of_ble_eq_true rfl) (by decide) (by decide) ?_
  refine JC.put (q := 117) (c9 := 0) (ci := 11) (k := 10) (code := 113) (B9 := (fun j => decide (j < 11))) (N9 := 16) O dX11_init_114 rfl hini wd_2_224 (by decide) (by decide) rfl (by omega) rfl rfl rfl rfl rfl (by decide) ?_
  refine JC.aload_n (q := 118) O dX11_init_117 rfl 0 rfl ?_
  refine JC.iconst (q := 119) (v := (5 : Int32)) O dX11_init_118 rfl (by decide) ?_
  refine JC.iconst (q := 120) (v := (3 : Int32)) O dX11_init_119 rfl (by decide) ?_
  refine JC.multi (q := 124) (t := 2) (t1 := 0) (N := 5) (K := 3) (ty := .int) O dX11_init_120 rfl (Or.inr ⟨rfl, rfl, rfl⟩) wd_2_156 (by decide) (by decide) (by decide) (by decide) (by decide) (by decide) (by decide) (by decide) ((updE_ne _ _ (by decide)).trans ((hg (118) (by omega) (by omega) (by omega)).trans (fe_118 G))) (fun j hj => (updE_ne _ _ (by omega)).trans (hgz (118 + 1 + j) (by omega) (by omega))) ?_
  refine JC.put (q := 127) (c9 := 0) (ci := 11) (k := 11) (code := 120) (B9 := (fun j => decide (j < 12))) (N9 := 16) O dX11_init_124 rfl hini wd_2_225 (by decide) (by decide) rfl (by omega) rfl rfl rfl rfl rfl (by decide) ?_
  refine JC.aload_n (q := 128) O dX11_init_127 rfl 0 rfl ?_
  refine JC.iconst (q := 129) (v := (5 : Int32)) O dX11_init_128 rfl (by decide) ?_
  refine JC.newIf (q := 131) (N := 5) O dX11_init_129 rfl wd_1_42 (by decide) (by decide) (by decide) (by decide) (by decide) ?_
  refine JC.dup (q := 132) O dX11_init_131 rfl rfl ?_
  refine JC.iconst (q := 133) (v := (0 : Int32)) O dX11_init_132 rfl (by decide) ?_
  refine JC.iconst (q := 134) (v := (3 : Int32)) O dX11_init_133 rfl (by decide) ?_
  refine JC.iast (q := 135) (c9 := 124) (N := 5) (i := (0 : Int32)) O dX11_init_134 rfl (by decide) (by unfold vp_in; decide) ?_
  refine JC.dup (q := 136) O dX11_init_135 rfl rfl ?_
  refine JC.iconst (q := 137) (v := (1 : Int32)) O dX11_init_136 rfl (by decide) ?_
  refine JC.bipush (q := 139) (v := (30 : Int32)) O dX11_init_137 rfl (by decide) ?_
  refine JC.iast (q := 140) (c9 := 124) (N := 5) (i := (1 : Int32)) O dX11_init_139 rfl (by decide) (by unfold vp_in; decide) ?_
  refine JC.dup (q := 141) O dX11_init_140 rfl rfl ?_
  refine JC.iconst (q := 142) (v := (2 : Int32)) O dX11_init_141 rfl (by decide) ?_
  refine JC.bipush (q := 144) (v := (14 : Int32)) O dX11_init_142 rfl (by decide) ?_
  refine JC.iast (q := 145) (c9 := 124) (N := 5) (i := (2 : Int32)) O dX11_init_144 rfl (by decide) (by unfold vp_in; decide) ?_
  refine JC.dup (q := 146) O dX11_init_145 rfl rfl ?_
  refine JC.iconst (q := 147) (v := (3 : Int32)) O dX11_init_146 rfl (by decide) ?_
  refine JC.iconst (q := 148) (v := (3 : Int32)) O dX11_init_147 rfl (by decide) ?_
  refine JC.iast (q := 149) (c9 := 124) (N := 5) (i := (3 : Int32)) O dX11_init_148 rfl (by decide) (by unfold vp_in; decide) ?_
  refine JC.dup (q := 150) O dX11_init_149 rfl rfl ?_
  refine JC.iconst (q := 151) (v := (4 : Int32)) O dX11_init_150 rfl (by decide) ?_
  refine JC.iconst (q := 152) (v := (3 : Int32)) O dX11_init_151 rfl (by decide) ?_
  refine JC.iast (q := 153) (c9 := 124) (N := 5) (i := (4 : Int32)) O dX11_init_152 rfl (by decide) (by unfold vp_in; decide) ?_
  refine JC.close ((updE_ne _ _ (by decide)).trans ((hg (124) (by omega) (by omega) (by omega)).trans (fe_124 G))) (by decide) ?_
  refine JC.put (q := 156) (c9 := 0) (ci := 11) (k := 12) (code := 126) (B9 := (fun j => decide (j < 13))) (N9 := 16) O dX11_init_153 rfl hini wd_2_226 (by decide) (by decide) rfl (by omega) rfl rfl rfl rfl rfl (by decide) ?_
  refine JC.aload_n (q := 157) O dX11_init_156 rfl 0 rfl ?_
  refine JC.bipush (q := 159) (v := (40 : Int32)) O dX11_init_157 rfl (by decide) ?_
  refine JC.newI (q := 161) (N := 40) (o := 0) O dX11_init_159 rfl wd_1_42 (by decide) (by decide) (by decide) (by decide) (by decide) (by omega) ((hg (125) (by omega) (by omega) (by omega)).trans (fe_125 G)) ?_
  refine JC.put (q := 164) (c9 := 0) (ci := 11) (k := 13) (code := 127) (B9 := (fun j => decide (j < 14))) (N9 := 16) O dX11_init_161 rfl hini wd_2_227 (by decide) (by decide) rfl (by omega) rfl rfl rfl rfl rfl (by decide) ?_
  refine JC.aload_n (q := 165) O dX11_init_164 rfl 0 rfl ?_
  refine JC.iconst (q := 166) (v := (0 : Int32)) O dX11_init_165 rfl (by decide) ?_
  refine JC.put (q := 169) (c9 := 0) (ci := 11) (k := 14) (code := 0) (B9 := (fun j => decide (j < 15))) (N9 := 16) O dX11_init_166 rfl hini wd_2_228 (by decide) (by decide) rfl (by omega) rfl rfl rfl rfl rfl (by decide) ?_
  refine JC.aload_n (q := 170) O dX11_init_169 rfl 0 rfl ?_
  refine JC.bipush (q := 172) (v := (7 : Int32)) O dX11_init_170 rfl (by decide) ?_
  refine JC.newI (q := 174) (N := 7) (o := 0) O dX11_init_172 rfl wd_1_42 (by decide) (by decide) (by decide) (by decide) (by decide) (by omega) ((hg (126) (by omega) (by omega) (by omega)).trans (fe_126 G)) ?_
  refine JC.put (q := 177) (c9 := 0) (ci := 11) (k := 15) (code := 128) (B9 := (fun j => decide (j < 16))) (N9 := 16) O dX11_init_174 rfl hini wd_2_229 (by decide) (by decide) rfl (by omega) rfl rfl rfl rfl rfl (by decide) ?_
  refine JC.iconst (q := 178) (v := (0 : Int32)) O dX11_init_177 rfl (by decide) ?_
  refine JC.istore_n (q := 179) O dX11_init_178 rfl [(1, .int (0 : Int32)), (0, .ref (ad G 0))] (by decide) rfl ?_
  obtain ⟨ob, hob⟩ : ∃ ob, ob = obF G 11 (M0 0) fsC0 (fun j => decide (j < 16)) := ⟨_, rfl⟩
  refine JC.cast (f' := updE (updE (updE (updE (updE (updE (updE f 0 ob) 123 (aE G 0 3 (fun _ => 0))) 122 (aE G 0 3 (fun _ => 0))) 121 (aE G 0 3 (fun _ => 0))) 120 (aE G 0 3 (fun _ => 0))) 119 (aE G 0 3 (fun _ => 0))) 61 (aR G 0 40 (fst40 G 0))) (by subst hgd; subst hob; rw [updE_comm (k := 61) (j := 0) _ _ _ (by decide), updE_comm (k := 119) (j := 0) _ _ _ (by decide), updE_comm (k := 120) (j := 0) _ _ _ (by decide), updE_comm (k := 121) (j := 0) _ _ _ (by decide), updE_comm (k := 122) (j := 0) _ _ _ (by decide), updE_comm (k := 123) (j := 0) _ _ _ (by decide)]; rfl) ?_
  subst hob
  refine wc_mat (K0 := 126) (S0 := 7508) (by decide) (by decide) O (show _ = Sum.inr (11, _) from rfl) rfl rfl rfl (fun k h1 h2 => ?_) (fun lv hlv => ?_) 41 0 (by decide) (by decide)
  · refine Eq.trans ?_ (hw k (by omega) (by omega))
    unfold updE
    repeat rw [if_neg (by omega)]
  subst hlv
  refine JC.closeR ((hw 61 (by decide) (by decide)).trans (fe_61 G)) (fun j hj => if_pos hj) ?_
  refine JC.iconst (q := 213) (v := (0 : Int32)) O dX11_init_212 rfl (by decide) ?_
  refine JC.istore_n (q := 214) O dX11_init_213 rfl [(1, .int (0 : Int32)), (0, .ref (ad G 0))] (by decide) rfl ?_
  refine JC.iload_n (q := 215) O dX11_init_214 rfl 0 rfl ?_
  refine JC.iconst (q := 216) (v := (5 : Int32)) O dX11_init_215 rfl (by decide) ?_
  refine JC.icmp_ge (q := 219) (tgt := 257) O dX11_init_216 rfl (by decide) (fun z => absurd z (by decide)) (fun _ => ?_)
  refine JC.aload_n (q := 220) O dX11_init_219 rfl 1 rfl ?_
  refine JC.get (q := 223) (c9 := 0) (ci := 11) (k := 11) (v := .ref (ad G 118)) O dX11_init_220 rfl wd_2_225 (by decide) (by decide) (by decide) rfl rfl ?_
  refine JC.iload_n (q := 224) O dX11_init_223 rfl 0 rfl ?_
  refine JC.aald (q := 225) (t := 2) (c9 := 118) (N := 5) (a := ad G 119) O dX11_init_224 rfl (by decide) (by decide) ((hw (118) (by decide) (by decide)).trans (fe_118 G)) (by unfold vp_in; decide) rfl ?_
  refine JC.iconst (q := 226) (v := (1 : Int32)) O dX11_init_225 rfl (by decide) ?_
  refine JC.iconst (q := 227) (v := (5 : Int32)) O dX11_init_226 rfl (by decide) ?_
  refine JC.iast (c9 := 119) (N := 3) (i := (1 : Int32)) O dX11_init_227 rfl (by decide) (by unfold vp_in; decide) ?_
  refine JC.aload_n (q := 229) O dX11_init_228 rfl 1 rfl ?_
  refine JC.get (q := 232) (c9 := 0) (ci := 11) (k := 11) (v := .ref (ad G 118)) O dX11_init_229 rfl wd_2_225 (by decide) (by decide) (by decide) rfl rfl ?_
  refine JC.iload_n (q := 233) O dX11_init_232 rfl 0 rfl ?_
  refine JC.aald (q := 234) (t := 2) (c9 := 118) (N := 5) (a := ad G 119) O dX11_init_233 rfl (by decide) (by decide) ((hw (118) (by decide) (by decide)).trans (fe_118 G)) (by unfold vp_in; decide) rfl ?_
  refine JC.iconst (q := 235) (v := (2 : Int32)) O dX11_init_234 rfl (by decide) ?_
  refine JC.iload_n (q := 236) O dX11_init_235 rfl 0 rfl ?_
  refine JC.iconst (q := 237) (v := (1 : Int32)) O dX11_init_236 rfl (by decide) ?_
  refine JC.icmp_eq (q := 240) (tgt := 245) O dX11_init_237 rfl (by decide) (fun z => absurd z (by decide)) (fun _ => ?_)
  refine JC.iload_n (q := 241) O dX11_init_240 rfl 0 rfl ?_
  refine JC.iconst (q := 242) (v := (2 : Int32)) O dX11_init_241 rfl (by decide) ?_
  refine JC.icmp_ne (q := 245) (tgt := 249) O dX11_init_242 rfl (by decide) (fun _ => ?_) (fun z => absurd z (by decide))
  refine JC.iconst (q := 250) (v := (0 : Int32)) O dX11_init_249 rfl (by decide) ?_
  refine JC.iast (c9 := 119) (N := 3) (i := (2 : Int32)) O dX11_init_250 rfl (by decide) (by unfold vp_in; decide) ?_
  refine JC.close ((hw (119) (by decide) (by decide)).trans (fe_119 G)) (by decide) ?_
  refine JC.iinc (q := 254) (v := (1 : Int32)) O dX11_init_251 rfl [(1, .int (1 : Int32)), (0, .ref (ad G 0))] 0 rfl (by decide) (by decide) rfl ?_
  refine JC.goto (q := 214) O dX11_init_254 (by decide) ?_
  refine JC.iload_n (q := 215) O dX11_init_214 rfl 0 rfl ?_
  refine JC.iconst (q := 216) (v := (5 : Int32)) O dX11_init_215 rfl (by decide) ?_
  refine JC.icmp_ge (q := 219) (tgt := 257) O dX11_init_216 rfl (by decide) (fun z => absurd z (by decide)) (fun _ => ?_)
  refine JC.aload_n (q := 220) O dX11_init_219 rfl 1 rfl ?_
  refine JC.get (q := 223) (c9 := 0) (ci := 11) (k := 11) (v := .ref (ad G 118)) O dX11_init_220 rfl wd_2_225 (by decide) (by decide) (by decide) rfl rfl ?_
  refine JC.iload_n (q := 224) O dX11_init_223 rfl 0 rfl ?_
  refine JC.aald (q := 225) (t := 2) (c9 := 118) (N := 5) (a := ad G 120) O dX11_init_224 rfl (by decide) (by decide) ((hw (118) (by decide) (by decide)).trans (fe_118 G)) (by unfold vp_in; decide) rfl ?_
  refine JC.iconst (q := 226) (v := (1 : Int32)) O dX11_init_225 rfl (by decide) ?_
  refine JC.iconst (q := 227) (v := (5 : Int32)) O dX11_init_226 rfl (by decide) ?_
  refine JC.iast (c9 := 120) (N := 3) (i := (1 : Int32)) O dX11_init_227 rfl (by decide) (by unfold vp_in; decide) ?_
  refine JC.aload_n (q := 229) O dX11_init_228 rfl 1 rfl ?_
  refine JC.get (q := 232) (c9 := 0) (ci := 11) (k := 11) (v := .ref (ad G 118)) O dX11_init_229 rfl wd_2_225 (by decide) (by decide) (by decide) rfl rfl ?_
  refine JC.iload_n (q := 233) O dX11_init_232 rfl 0 rfl ?_
  refine JC.aald (q := 234) (t := 2) (c9 := 118) (N := 5) (a := ad G 120) O dX11_init_233 rfl (by decide) (by decide) ((hw (118) (by decide) (by decide)).trans (fe_118 G)) (by unfold vp_in; decide) rfl ?_
  refine JC.iconst (q := 235) (v := (2 : Int32)) O dX11_init_234 rfl (by decide) ?_
  refine JC.iload_n (q := 236) O dX11_init_235 rfl 0 rfl ?_
  refine JC.iconst (q := 237) (v := (1 : Int32)) O dX11_init_236 rfl (by decide) ?_
  refine JC.icmp_eq (q := 240) (tgt := 245) O dX11_init_237 rfl (by decide) (fun _ => ?_) (fun z => absurd (by decide) z)
  refine JC.iconst (q := 246) (v := (1 : Int32)) O dX11_init_245 rfl (by decide) ?_
  refine JC.goto (q := 250) O dX11_init_246 (by decide) ?_
  refine JC.iast (c9 := 120) (N := 3) (i := (2 : Int32)) O dX11_init_250 rfl (by decide) (by unfold vp_in; decide) ?_
  refine JC.close ((hw (120) (by decide) (by decide)).trans (fe_120 G)) (by decide) ?_
  refine JC.iinc (q := 254) (v := (2 : Int32)) O dX11_init_251 rfl [(1, .int (2 : Int32)), (0, .ref (ad G 0))] 0 rfl (by decide) (by decide) rfl ?_
  refine JC.goto (q := 214) O dX11_init_254 (by decide) ?_
  refine JC.iload_n (q := 215) O dX11_init_214 rfl 0 rfl ?_
  refine JC.iconst (q := 216) (v := (5 : Int32)) O dX11_init_215 rfl (by decide) ?_
  refine JC.icmp_ge (q := 219) (tgt := 257) O dX11_init_216 rfl (by decide) (fun z => absurd z (by decide)) (fun _ => ?_)
  refine JC.aload_n (q := 220) O dX11_init_219 rfl 1 rfl ?_
  refine JC.get (q := 223) (c9 := 0) (ci := 11) (k := 11) (v := .ref (ad G 118)) O dX11_init_220 rfl wd_2_225 (by decide) (by decide) (by decide) rfl rfl ?_
  refine JC.iload_n (q := 224) O dX11_init_223 rfl 0 rfl ?_
  refine JC.aald (q := 225) (t := 2) (c9 := 118) (N := 5) (a := ad G 121) O dX11_init_224 rfl (by decide) (by decide) ((hw (118) (by decide) (by decide)).trans (fe_118 G)) (by unfold vp_in; decide) rfl ?_
  refine JC.iconst (q := 226) (v := (1 : Int32)) O dX11_init_225 rfl (by decide) ?_
  refine JC.iconst (q := 227) (v := (5 : Int32)) O dX11_init_226 rfl (by decide) ?_
  refine JC.iast (c9 := 121) (N := 3) (i := (1 : Int32)) O dX11_init_227 rfl (by decide) (by unfold vp_in; decide) ?_
  refine JC.aload_n (q := 229) O dX11_init_228 rfl 1 rfl ?_
  refine JC.get (q := 232) (c9 := 0) (ci := 11) (k := 11) (v := .ref (ad G 118)) O dX11_init_229 rfl wd_2_225 (by decide) (by decide) (by decide) rfl rfl ?_
  refine JC.iload_n (q := 233) O dX11_init_232 rfl 0 rfl ?_
  refine JC.aald (q := 234) (t := 2) (c9 := 118) (N := 5) (a := ad G 121) O dX11_init_233 rfl (by decide) (by decide) ((hw (118) (by decide) (by decide)).trans (fe_118 G)) (by unfold vp_in; decide) rfl ?_
  refine JC.iconst (q := 235) (v := (2 : Int32)) O dX11_init_234 rfl (by decide) ?_
  refine JC.iload_n (q := 236) O dX11_init_235 rfl 0 rfl ?_
  refine JC.iconst (q := 237) (v := (1 : Int32)) O dX11_init_236 rfl (by decide) ?_
  refine JC.icmp_eq (q := 240) (tgt := 245) O dX11_init_237 rfl (by decide) (fun z => absurd z (by decide)) (fun _ => ?_)
  refine JC.iload_n (q := 241) O dX11_init_240 rfl 0 rfl ?_
  refine JC.iconst (q := 242) (v := (2 : Int32)) O dX11_init_241 rfl (by decide) ?_
  refine JC.icmp_ne (q := 245) (tgt := 249) O dX11_init_242 rfl (by decide) (fun z => absurd (by decide) z) (fun _ => ?_)
  refine JC.iconst (q := 246) (v := (1 : Int32)) O dX11_init_245 rfl (by decide) ?_
  refine JC.goto (q := 250) O dX11_init_246 (by decide) ?_
  refine JC.iast (c9 := 121) (N := 3) (i := (2 : Int32)) O dX11_init_250 rfl (by decide) (by unfold vp_in; decide) ?_
  refine JC.close ((hw (121) (by decide) (by decide)).trans (fe_121 G)) (by decide) ?_
  refine JC.iinc (q := 254) (v := (3 : Int32)) O dX11_init_251 rfl [(1, .int (3 : Int32)), (0, .ref (ad G 0))] 0 rfl (by decide) (by decide) rfl ?_
  refine JC.goto (q := 214) O dX11_init_254 (by decide) ?_
  refine JC.iload_n (q := 215) O dX11_init_214 rfl 0 rfl ?_
  refine JC.iconst (q := 216) (v := (5 : Int32)) O dX11_init_215 rfl (by decide) ?_
  refine JC.icmp_ge (q := 219) (tgt := 257) O dX11_init_216 rfl (by decide) (fun z => absurd z (by decide)) (fun _ => ?_)
  refine JC.aload_n (q := 220) O dX11_init_219 rfl 1 rfl ?_
  refine JC.get (q := 223) (c9 := 0) (ci := 11) (k := 11) (v := .ref (ad G 118)) O dX11_init_220 rfl wd_2_225 (by decide) (by decide) (by decide) rfl rfl ?_
  refine JC.iload_n (q := 224) O dX11_init_223 rfl 0 rfl ?_
  refine JC.aald (q := 225) (t := 2) (c9 := 118) (N := 5) (a := ad G 122) O dX11_init_224 rfl (by decide) (by decide) ((hw (118) (by decide) (by decide)).trans (fe_118 G)) (by unfold vp_in; decide) rfl ?_
  refine JC.iconst (q := 226) (v := (1 : Int32)) O dX11_init_225 rfl (by decide) ?_
  refine JC.iconst (q := 227) (v := (5 : Int32)) O dX11_init_226 rfl (by decide) ?_
  refine JC.iast (c9 := 122) (N := 3) (i := (1 : Int32)) O dX11_init_227 rfl (by decide) (by unfold vp_in; decide) ?_
  refine JC.aload_n (q := 229) O dX11_init_228 rfl 1 rfl ?_
  refine JC.get (q := 232) (c9 := 0) (ci := 11) (k := 11) (v := .ref (ad G 118)) O dX11_init_229 rfl wd_2_225 (by decide) (by decide) (by decide) rfl rfl ?_
  refine JC.iload_n (q := 233) O dX11_init_232 rfl 0 rfl ?_
  refine JC.aald (q := 234) (t := 2) (c9 := 118) (N := 5) (a := ad G 122) O dX11_init_233 rfl (by decide) (by decide) ((hw (118) (by decide) (by decide)).trans (fe_118 G)) (by unfold vp_in; decide) rfl ?_
  refine JC.iconst (q := 235) (v := (2 : Int32)) O dX11_init_234 rfl (by decide) ?_
  refine JC.iload_n (q := 236) O dX11_init_235 rfl 0 rfl ?_
  refine JC.iconst (q := 237) (v := (1 : Int32)) O dX11_init_236 rfl (by decide) ?_
  refine JC.icmp_eq (q := 240) (tgt := 245) O dX11_init_237 rfl (by decide) (fun z => absurd z (by decide)) (fun _ => ?_)
  refine JC.iload_n (q := 241) O dX11_init_240 rfl 0 rfl ?_
  refine JC.iconst (q := 242) (v := (2 : Int32)) O dX11_init_241 rfl (by decide) ?_
  refine JC.icmp_ne (q := 245) (tgt := 249) O dX11_init_242 rfl (by decide) (fun _ => ?_) (fun z => absurd z (by decide))
  refine JC.iconst (q := 250) (v := (0 : Int32)) O dX11_init_249 rfl (by decide) ?_
  refine JC.iast (c9 := 122) (N := 3) (i := (2 : Int32)) O dX11_init_250 rfl (by decide) (by unfold vp_in; decide) ?_
  refine JC.close ((hw (122) (by decide) (by decide)).trans (fe_122 G)) (by decide) ?_
  refine JC.iinc (q := 254) (v := (4 : Int32)) O dX11_init_251 rfl [(1, .int (4 : Int32)), (0, .ref (ad G 0))] 0 rfl (by decide) (by decide) rfl ?_
  refine JC.goto (q := 214) O dX11_init_254 (by decide) ?_
  refine JC.iload_n (q := 215) O dX11_init_214 rfl 0 rfl ?_
  refine JC.iconst (q := 216) (v := (5 : Int32)) O dX11_init_215 rfl (by decide) ?_
  refine JC.icmp_ge (q := 219) (tgt := 257) O dX11_init_216 rfl (by decide) (fun z => absurd z (by decide)) (fun _ => ?_)
  refine JC.aload_n (q := 220) O dX11_init_219 rfl 1 rfl ?_
  refine JC.get (q := 223) (c9 := 0) (ci := 11) (k := 11) (v := .ref (ad G 118)) O dX11_init_220 rfl wd_2_225 (by decide) (by decide) (by decide) rfl rfl ?_
  refine JC.iload_n (q := 224) O dX11_init_223 rfl 0 rfl ?_
  refine JC.aald (q := 225) (t := 2) (c9 := 118) (N := 5) (a := ad G 123) O dX11_init_224 rfl (by decide) (by decide) ((hw (118) (by decide) (by decide)).trans (fe_118 G)) (by unfold vp_in; decide) rfl ?_
  refine JC.iconst (q := 226) (v := (1 : Int32)) O dX11_init_225 rfl (by decide) ?_
  refine JC.iconst (q := 227) (v := (5 : Int32)) O dX11_init_226 rfl (by decide) ?_
  refine JC.iast (c9 := 123) (N := 3) (i := (1 : Int32)) O dX11_init_227 rfl (by decide) (by unfold vp_in; decide) ?_
  refine JC.aload_n (q := 229) O dX11_init_228 rfl 1 rfl ?_
  refine JC.get (q := 232) (c9 := 0) (ci := 11) (k := 11) (v := .ref (ad G 118)) O dX11_init_229 rfl wd_2_225 (by decide) (by decide) (by decide) rfl rfl ?_
  refine JC.iload_n (q := 233) O dX11_init_232 rfl 0 rfl ?_
  refine JC.aald (q := 234) (t := 2) (c9 := 118) (N := 5) (a := ad G 123) O dX11_init_233 rfl (by decide) (by decide) ((hw (118) (by decide) (by decide)).trans (fe_118 G)) (by unfold vp_in; decide) rfl ?_
  refine JC.iconst (q := 235) (v := (2 : Int32)) O dX11_init_234 rfl (by decide) ?_
  refine JC.iload_n (q := 236) O dX11_init_235 rfl 0 rfl ?_
  refine JC.iconst (q := 237) (v := (1 : Int32)) O dX11_init_236 rfl (by decide) ?_
  refine JC.icmp_eq (q := 240) (tgt := 245) O dX11_init_237 rfl (by decide) (fun z => absurd z (by decide)) (fun _ => ?_)
  refine JC.iload_n (q := 241) O dX11_init_240 rfl 0 rfl ?_
  refine JC.iconst (q := 242) (v := (2 : Int32)) O dX11_init_241 rfl (by decide) ?_
  refine JC.icmp_ne (q := 245) (tgt := 249) O dX11_init_242 rfl (by decide) (fun _ => ?_) (fun z => absurd z (by decide))
  refine JC.iconst (q := 250) (v := (0 : Int32)) O dX11_init_249 rfl (by decide) ?_
  refine JC.iast (c9 := 123) (N := 3) (i := (2 : Int32)) O dX11_init_250 rfl (by decide) (by unfold vp_in; decide) ?_
  refine JC.close ((hw (123) (by decide) (by decide)).trans (fe_123 G)) (by decide) ?_
  refine JC.iinc (q := 254) (v := (5 : Int32)) O dX11_init_251 rfl [(1, .int (5 : Int32)), (0, .ref (ad G 0))] 0 rfl (by decide) (by decide) rfl ?_
  refine JC.goto (q := 214) O dX11_init_254 (by decide) ?_
  refine JC.iload_n (q := 215) O dX11_init_214 rfl 0 rfl ?_
  refine JC.iconst (q := 216) (v := (5 : Int32)) O dX11_init_215 rfl (by decide) ?_
  refine JC.icmp_ge (q := 219) (tgt := 257) O dX11_init_216 rfl (by decide) (fun _ => ?_) (fun z => absurd (by decide) z)
  refine JC.cast (updE_self ((hw (0) (by omega) (by omega)).trans (ob_end G shC_0 rfl rfl (by decide)))) ?_
  exact hret _ _ dX11_init_257
