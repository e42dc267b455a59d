/-! THE LAW's rows: each newarray makes the world one cell longer -/
def gN (G : GX) (n : Nat) : GX := (G.1, G.2.1, G.2.2.1, G.2.2.2.1, G.2.2.2.2.1, n, G.2.2.2.2.2.2)
def xC (X : CX) (kc ks : Nat) : CX := match X with
  | (p, l, e, R, s, m, args, below, meth, c, nL, _, _, Q) => (p, l, e, R, s, m, args, below, meth, c, nL, kc, ks, Q)
def mnew (M : Mem) (n : Nat) : Mem := fun c => if c = n then fun _ => 0 else M c
theorem wl_new (G : GX) (M : Mem) {n N : Nat} (hn : nG G = n) (hsh : shp n = (1, N, [])) : wl (gN G (n + 1)) (mnew M n) = wlP G (n + 1) (updE (fun k => cte G (shp k) (M k)) n (.inl (G.2.1 0, N, .inl (fun _ => 0)))) := by
  unfold wl wlP
  apply List.map_congr_left
  intro k hk
  unfold updE mnew
  by_cases hc : k = n
  · subst hc
    rw [if_pos rfl, if_pos rfl, hsh]
    rfl
  · rw [if_neg hc, if_neg hc]
    rfl
theorem J.newI {X : CX} {G : GX} {cc : ByteArray} {n lev pc q N nw kc ks : Nat} {own : String} {M : Mem} {lv : List (Nat × Value)} {st : List Value} {z : Int32} (O : Ok (xC X kc ks) G cc n own lev) (hd : decode cc pc = .ok (.newarray .int, 2)) (hq : pc + 2 = q) (harr : Cond.arrayClass .int ∈ TW) (hn : ¬ z < 0) (hN : z.toNatClampNeg = N) (hby : N * componentBytes .int ≤ 536870912) (hnw : nG G = nw) (hsh : shp nw = (1, N, [])) (hroom : kc + 1 ≤ X.2.2.2.1.cells ∧ ks + N ≤ X.2.2.2.1.slots) (h : J (xC X (kc + 1) (ks + N)) (gN G (nw + 1)) (mnew M nw) q lv (.ref (ad G nw) :: st)) : J (xC X kc ks) G M pc lv (.int z :: st) := by
  obtain ⟨p, l, e, R, s, m, args, below, meth, c, nL, cells, slots, Q⟩ := X
  obtain ⟨hx, hb, hml, hnL, hown, hts, hK, hA, hZ, hlev, hlo, hce, hsl⟩ := O
  subst hnL
  subst hq
  intro H locs ls hsz hP hS hl
  rw [hnw] at hsz
  refine va_newaK (atype := .int) hx hb (hts _ harr) rfl hd rfl hn hN hby hroom.1 hroom.2 hsz (fun H1 cA e1 z1 o1 hAr hNm => ?_)
  have hcA : cA = G.2.1 0 := Option.some.inj (hNm.symm.trans (hK.2 0 _ rfl).2)
  subst hcA
  refine h H1 locs ls (by rw [z1]; rfl) ?_ (grow_S hS hsz (by omega) o1) hl
  show va_P G.1 vwCl (wl (gN G (nw + 1)) (mnew M nw)) H1
  rw [wl_new G M hnw hsh]
  refine grow_P _ (by show va_P G.1 vwCl (wlP G nw _) H; rw [← hnw]; exact hP) hsz o1 ?_
  show H1[ad G nw]? = some (vp_cell _ _)
  rw [e1]
  rfl
theorem shL {k : Nat} (h : 287 ≤ k) (h2 : k < 292) : shp k = (1, 6, []) := by
  rcases (show k = 287 ∨ k = 288 ∨ k = 289 ∨ k = 290 ∨ k = 291 by omega) with rfl | rfl | rfl | rfl | rfl <;> rfl
def K1 : Int32 → Mem → Prop := fun r _ => r = 1
/-- what the law asks of a memory ahead of the text of act a -/
def As (L : Nat) (xs : Nat → Int32) (a : Nat) (M : Mem) (E : Mem → Prop) : Prop := ∀ M1 : Mem, (∀ c, c ≠ 287 + a → M1 c = M c) → M1 (287 + a) 0 = 65 + nI a → M1 (287 + a) 1 = 49 + nI a → M1 (287 + a) 2 = 58 → M1 (287 + a) 3 = 109 → M1 (287 + a) 4 = 62 → M1 (287 + a) 5 = 52 →
  f_L_lawa_b53 L xs (287 + a) (fun x M' => x = nI (a + 1) ∧ E M') K1 (nI a) M1
/-- what the law asks of a memory ahead of its row -/
def Cs (L : Nat) (xs : Nat → Int32) (M : Mem) : Prop := ∀ M1 : Mem, (∀ c, c ≠ 291 → M1 c = M c) → (M1 291 = fun _ => 0) → f_L_lawc_b213 L xs 291 K1 M1
def Law (L : Nat) (xs : Nat → Int32) (M : Mem) : Prop := As L xs 0 M (fun M => As L xs 1 M (fun M => As L xs 2 M (fun M => As L xs 3 M (fun M => f_L_lawb_b125 L xs (Cs L xs) K1 M))))
/-- the law's frame at each of its worlds -/
def OkN (X : CX) (G : GX) : Prop := (∀ n, 287 ≤ n → n ≤ 292 → Gd (gN G n)) ∧ ∀ n kc ks, 287 ≤ n → n ≤ 292 → kc ≤ 292 → ks ≤ 11754 → Ok (xC X kc ks) (gN G n) cL_law 13 RL 9 ∧ RetZ (xC X kc ks) (gN G n) cL_law K1
set_option maxHeartbeats 4000000 in
set_option maxRecDepth 20000 in
theorem law_a {X : CX} {G : GX} {b L : Nat} {xs : Nat → Int32} (OX : OkX G b L xs) (hO : OkN X G) (hroom : 292 ≤ X.2.2.2.1.cells ∧ 11754 ≤ X.2.2.2.1.slots) {a : Nat} (ha : a < 4) {M : Mem} {E : Mem → Prop} (h : As L xs a M E)
    (hE : ∀ M', E M' → J (xC X (287 + (a + 1)) (11724 + 6 * (a + 1))) (gN G (287 + (a + 1))) M' 10 [(0, .ref b), (1, .ref (ad G 0)), (2, .int (nI (a + 1)))] []) :
    J (xC X (287 + a) (11724 + 6 * a)) (gN G (287 + a)) M 10 [(0, .ref b), (1, .ref (ad G 0)), (2, .int (nI a))] [] := by
  obtain ⟨hGd, hOk⟩ := hO
  have O := (hOk (287 + a) (287 + a) (11724 + 6 * a) (by omega) (by omega) (by omega) (by omega)).1
  have g' := hGd (287 + a + 1) (by omega) (by omega)
  obtain ⟨O', hR'⟩ := hOk (287 + a + 1) (287 + a + 1) (11724 + 6 * a + 6) (by omega) (by omega) (by omega) (by omega)
  have hL : arL (gN G (287 + a + 1)) (287 + a) 6 := ⟨by show 287 + a < 287 + a + 1; omega, shL (by omega) (by omega)⟩
  have OX' : OkX (gN G (287 + a + 1)) b L xs := OX
  refine J.iload_n (q := 11) O dL_law_10 rfl 2 rfl ?_
  refine J.iconst (q := 12) (v := (4 : Int32)) O dL_law_11 rfl rfl ?_
  refine J.icmp_ge (q := 15) (tgt := 125) O dL_law_12 rfl (by decide) (fun z => ?_) (fun _ => ?_)
  · have := (nI_le_iff (a := 4) (b := a) (by decide) (by omega)).mp z
    omega
  refine J.bipush (q := 17) (v := (6 : Int32)) O dL_law_15 rfl rfl ?_
  refine J.newI (q := 19) (N := 6) (nw := 287 + a) O dL_law_17 rfl wd_1_42 (by decide) rfl (by decide) rfl (shL (by omega) (by omega)) ⟨by omega, by omega⟩ ?_
  refine J.dup (q := 20) O' dL_law_19 rfl rfl ?_
  refine J.iconst (q := 21) (v := (0 : Int32)) O' dL_law_20 rfl rfl ?_
  refine J.bipush (q := 23) (v := (65 : Int32)) O' dL_law_21 rfl rfl ?_
  refine J.iload_n (q := 24) O' dL_law_23 rfl 2 rfl ?_
  refine J.iadd (q := 25) O' dL_law_24 rfl ?_
  refine J.iastL (q := 26) (c' := 287 + a) (j := 0) O' dL_law_25 rfl hL (vin_lit (by decide)) rfl ?_
  refine J.dup (q := 27) O' dL_law_26 rfl rfl ?_
  refine J.iconst (q := 28) (v := (1 : Int32)) O' dL_law_27 rfl rfl ?_
  refine J.bipush (q := 30) (v := (49 : Int32)) O' dL_law_28 rfl rfl ?_
  refine J.iload_n (q := 31) O' dL_law_30 rfl 2 rfl ?_
  refine J.iadd (q := 32) O' dL_law_31 rfl ?_
  refine J.iastL (q := 33) (c' := 287 + a) (j := 1) O' dL_law_32 rfl hL (vin_lit (by decide)) rfl ?_
  refine J.dup (q := 34) O' dL_law_33 rfl rfl ?_
  refine J.iconst (q := 35) (v := (2 : Int32)) O' dL_law_34 rfl rfl ?_
  refine J.bipush (q := 37) (v := (58 : Int32)) O' dL_law_35 rfl rfl ?_
  refine J.iastL (q := 38) (c' := 287 + a) (j := 2) O' dL_law_37 rfl hL (vin_lit (by decide)) rfl ?_
  refine J.dup (q := 39) O' dL_law_38 rfl rfl ?_
  refine J.iconst (q := 40) (v := (3 : Int32)) O' dL_law_39 rfl rfl ?_
  refine J.bipush (q := 42) (v := (109 : Int32)) O' dL_law_40 rfl rfl ?_
  refine J.iastL (q := 43) (c' := 287 + a) (j := 3) O' dL_law_42 rfl hL (vin_lit (by decide)) rfl ?_
  refine J.dup (q := 44) O' dL_law_43 rfl rfl ?_
  refine J.iconst (q := 45) (v := (4 : Int32)) O' dL_law_44 rfl rfl ?_
  refine J.bipush (q := 47) (v := (62 : Int32)) O' dL_law_45 rfl rfl ?_
  refine J.iastL (q := 48) (c' := 287 + a) (j := 4) O' dL_law_47 rfl hL (vin_lit (by decide)) rfl ?_
  refine J.dup (q := 49) O' dL_law_48 rfl rfl ?_
  refine J.iconst (q := 50) (v := (5 : Int32)) O' dL_law_49 rfl rfl ?_
  refine J.bipush (q := 52) (v := (52 : Int32)) O' dL_law_50 rfl rfl ?_
  refine J.iastL (q := 53) (c' := 287 + a) (j := 5) O' dL_law_52 rfl hL (vin_lit (by decide)) rfl ?_
  refine j_L_lawa_b53 (E := fun x M' => x = nI (a + 1) ∧ E M') (tx := 287 + a) g' O' hR' OX' hL (fun x M' hE' => ?_) (h _ ?_ ?_ ?_ ?_ ?_ ?_ ?_)
  · obtain ⟨rfl, hE'⟩ := hE'
    exact hE M' hE'
  · intro c hc
    simp only [mset_ne _ _ _ hc]
    unfold mnew
    rw [if_neg hc]
  all_goals simp [mset_at]
set_option maxHeartbeats 4000000 in
set_option maxRecDepth 20000 in
/-- the law behind its object -/
theorem law_w {X : CX} {G : GX} {b L : Nat} {xs : Nat → Int32} (OX : OkX G b L xs) (hO : OkN X G) (hroom : 292 ≤ X.2.2.2.1.cells ∧ 11754 ≤ X.2.2.2.1.slots) {M : Mem} (h : Law L xs M) :
    J (xC X 287 11724) (gN G 287) M 8 [(1, .ref (ad G 0)), (0, .ref b)] [] := by
  have O := (hO.2 287 287 11724 (by omega) (by omega) (by omega) (by omega)).1
  refine J.iconst (q := 9) (v := (0 : Int32)) O dL_law_8 rfl rfl ?_
  refine J.istore_n (q := 10) O dL_law_9 rfl [(2, .int (0 : Int32)), (1, .ref (ad G 0)), (0, .ref b)] (by decide) rfl ?_
  refine J.sub (lv' := [(0, .ref b), (1, .ref (ad G 0)), (2, .int (nI 0))]) [2, 1, 0] rfl ?_
  refine law_a OX hO hroom (a := 0) (by decide) h (fun M1 h1 => ?_)
  refine law_a OX hO hroom (a := 1) (by decide) h1 (fun M2 h2 => ?_)
  refine law_a OX hO hroom (a := 2) (by decide) h2 (fun M3 h3 => ?_)
  refine law_a OX hO hroom (a := 3) (by decide) h3 (fun M4 h4 => ?_)
  obtain ⟨O4, hR4⟩ := hO.2 291 291 11748 (by omega) (by omega) (by omega) (by omega)
  have g4 := hO.1 291 (by omega) (by omega)
  obtain ⟨O5, hR5⟩ := hO.2 292 292 11754 (by omega) (by omega) (by omega) (by omega)
  have g5 := hO.1 292 (by omega) (by omega)
  refine J.iload_n (q := 11) O4 dL_law_10 rfl 2 rfl ?_
  refine J.iconst (q := 12) (v := (4 : Int32)) O4 dL_law_11 rfl rfl ?_
  refine J.icmp_ge (q := 15) (tgt := 125) O4 dL_law_12 rfl (by decide) (fun _ => ?_) (fun z => absurd (by decide) z)
  have OX4 : OkX (gN G 291) b L xs := OX
  have OX5 : OkX (gN G 292) b L xs := OX
  refine J.sub (lv' := [(0, .ref b), (1, .ref (ad G 0))]) [0, 1] rfl (j_L_lawb_b125 g4 O4 hR4 OX4 (fun M5 h5 => ?_) h4)
  refine J.bipush (q := 209) (v := (6 : Int32)) O4 dL_law_207 rfl rfl ?_
  refine J.newI (q := 211) (N := 6) (nw := 291) (kc := 291) (ks := 11748) O4 dL_law_209 rfl wd_1_42 (by decide) rfl (by decide) rfl rfl ⟨hroom.1, hroom.2⟩ ?_
  refine J.astore (q := 213) O5 dL_law_211 rfl [(4, .ref (ad G 291)), (0, .ref b), (1, .ref (ad G 0))] (by decide) rfl ?_
  refine J.sub (lv' := [(0, .ref b), (1, .ref (ad G 0)), (4, .ref (ad G 291))]) [1, 2, 0] rfl ?_
  have hL : arL (gN G 292) 291 6 := ⟨by show 291 < 292; omega, rfl⟩
  refine j_L_lawc_b213 (tx := 291) g5 O5 hR5 OX5 hL (h5 _ (fun c hc => ?_) ?_)
  · unfold mnew; rw [if_neg hc]
  · unfold mnew; rw [if_pos rfl]
