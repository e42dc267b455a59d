theorem wl_F {G : GX} {M : Mem} {c ci k code : Nat} (h : isF c ci k code) : ∃ fs, (wl G M)[c]? = some (ad G c, .inr (ci, fvs G (M c) fs)) ∧ fs[k]? = some code ∧ c < NC ∧ ci < 13 ∧ shp c = (0, ci, fs) := by
  obtain ⟨h1, h2, fs, h3, h4⟩ := h
  refine ⟨fs, ?_, h4, h1, h2, h3⟩
  rw [wl_get G M h1, h3]
  rfl
theorem wl_I {G : GX} {M : Mem} {c n : Nat} (h : arI c n) : (wl G M)[c]? = some (ad G c, .inl (G.2.1 0, n, .inl (M c))) := by
  rw [wl_get G M h.1, h.2]
  rfl
theorem wl_Z {G : GX} {M : Mem} {c n : Nat} (h : arZ c n) : (wl G M)[c]? = some (ad G c, .inl (G.2.1 1, n, .inl (M c))) := by
  rw [wl_get G M h.1, h.2]
  rfl
theorem wl_B {G : GX} {M : Mem} {c n : Nat} (h : arB c n) : (wl G M)[c]? = some (ad G c, .inl (G.2.1 2, n, .inl (M c))) := by
  rw [wl_get G M h.1, h.2]
  rfl
theorem wl_J {G : GX} {M : Mem} {c n : Nat} (h : arJ c n) : (wl G M)[c]? = some (ad G c, .inl (G.2.1 3, n, .inr (.inl (fun j => jnL (M c (2 * j)) (M c (2 * j + 1)))))) := by
  rw [wl_get G M h.1, h.2]
  rfl
theorem wl_R {G : GX} {M : Mem} {t c n b d : Nat} (h : arR t c n b d) : (wl G M)[c]? = some (ad G c, .inl (G.2.1 (t + 4), n, .inr (.inr (.inr (.inr (fun i => some (ad G (b + d * i)))))))) := by
  rw [wl_get G M h.1, h.2.1]
  rfl
def flN (ci : Nat) : Nat := (clS ci).2.2
theorem nar_z {x : Int32} (h : bz x) : narrow .boolean (.int x) = .int x := by rcases h with rfl | rfl <;> rfl
theorem fit_z {x : Int32} (h : bz x) : fits .boolean (.int x) = true := by rcases h with rfl | rfl <;> rfl
theorem vnar_z {x : Int32} (h : bz x) : vp_nar .boolean x = x := by rcases h with rfl | rfl <;> rfl

theorem J.getI {X : CX} {G : GX} {cc : ByteArray} {n lev pc q : Nat} {own : String} {M : Mem} {lv : List (Nat × Value)} {st : List Value} {c' ci k ix : Nat} (v9 : Int32) (hv9 : M c' k = v9) (O : Ok X G cc n own lev) (hd : decode cc pc = .ok (.getfield ix, 3)) (hq : pc + 3 = q) (hw : Cond.fieldLink own ix (fl ci k).1 (fl ci k).2.1 (fl ci k).2.2.1 ∈ TW) (hk : k < flN ci) (hf : isF c' ci k 0) (h : J X G M q lv (.int v9 :: st)) : J X G M pc lv (.ref (ad G c') :: st) := by
  obtain ⟨p, l, e, R, s, m, args, below, meth, c, nL, cells, slots, Q⟩ := X
  obtain ⟨hx, hb, hml, hnL, hown, hts, hK, hA, hZ, hlev, hlo, hce, hsl⟩ := O
  subst hnL
  subst hq
  intro H locs ls hP hS hl
  subst hv9
  obtain ⟨fs, e1, e2, e3, e4, e5⟩ := wl_F (G := G) (M := M) hf
  exact va_get hx hb hts (inU e4) hown hK hP c' e1 (clS_get e4) k hk (hts _ hw) (fun _ h9 => h9) (fvs_get G _ e2) hd (h H locs ls hP hS hl)
theorem J.getR {X : CX} {G : GX} {cc : ByteArray} {n lev pc q : Nat} {own : String} {M : Mem} {lv : List (Nat × Value)} {st : List Value} {c' ci k ix r : Nat} (O : Ok X G cc n own lev) (hd : decode cc pc = .ok (.getfield ix, 3)) (hq : pc + 3 = q) (hw : Cond.fieldLink own ix (fl ci k).1 (fl ci k).2.1 (fl ci k).2.2.1 ∈ TW) (hk : k < flN ci) (hf : isF c' ci k (r + 2)) (h : J X G M q lv (.ref (ad G r) :: st)) : J X G M pc lv (.ref (ad G c') :: st) := by
  obtain ⟨p, l, e, R, s, m, args, below, meth, c, nL, cells, slots, Q⟩ := X
  obtain ⟨hx, hb, hml, hnL, hown, hts, hK, hA, hZ, hlev, hlo, hce, hsl⟩ := O
  subst hnL
  subst hq
  intro H locs ls hP hS hl
  obtain ⟨fs, e1, e2, e3, e4, e5⟩ := wl_F (G := G) (M := M) hf
  exact va_get hx hb hts (inU e4) hown hK hP c' e1 (clS_get e4) k hk (hts _ hw) (fun _ h9 => h9) (fvs_get G _ e2) hd (h H locs ls hP hS hl)
theorem J.getV {X : CX} {G : GX} {cc : ByteArray} {n lev pc q : Nat} {own : String} {M : Mem} {lv : List (Nat × Value)} {st : List Value} {c' ci k ix : Nat} (O : Ok X G cc n own lev) (hd : decode cc pc = .ok (.getfield ix, 3)) (hq : pc + 3 = q) (hw : Cond.fieldLink own ix (fl ci k).1 (fl ci k).2.1 (fl ci k).2.2.1 ∈ TW) (hk : k < flN ci) (hf : isF c' ci k 1) (h : J X G M q lv (.ref (ad G (M c' k).toNatClampNeg) :: st)) : J X G M pc lv (.ref (ad G c') :: st) := by
  obtain ⟨p, l, e, R, s, m, args, below, meth, c, nL, cells, slots, Q⟩ := X
  obtain ⟨hx, hb, hml, hnL, hown, hts, hK, hA, hZ, hlev, hlo, hce, hsl⟩ := O
  subst hnL
  subst hq
  intro H locs ls hP hS hl
  obtain ⟨fs, e1, e2, e3, e4, e5⟩ := wl_F (G := G) (M := M) hf
  exact va_get hx hb hts (inU e4) hown hK hP c' e1 (clS_get e4) k hk (hts _ hw) (fun _ h9 => h9) (fvs_get G _ e2) hd (h H locs ls hP hS hl)
theorem J.putI {X : CX} {G : GX} {cc : ByteArray} {n lev pc q : Nat} {own : String} {M : Mem} {lv : List (Nat × Value)} {st : List Value} {c' ci k ix : Nat} {x : Int32} (O : Ok X G cc n own lev) (hd : decode cc pc = .ok (.putfield ix, 3)) (hq : pc + 3 = q) (hw : Cond.fieldLink own ix (fl ci k).1 (fl ci k).2.1 (fl ci k).2.2.1 ∈ TW) (hk : k < flN ci) (hf : isF c' ci k 0) (hfin : (fl ci k).2.2.2 = false) (hty : clTy ci k = .int) (h : J X G (mset M c' k x) q lv st) : J X G M pc lv (.int x :: .ref (ad G c') :: st) := by
  obtain ⟨p, l, e, R, s, m, args, below, meth, c, nL, cells, slots, Q⟩ := X
  obtain ⟨hx, hb, hml, hnL, hown, hts, hK, hA, hZ, hlev, hlo, hce, hsl⟩ := O
  subst hnL
  subst hq
  intro H locs ls hP hS hl
  obtain ⟨fs, e1, e2, e3, e4, e5⟩ := wl_F (G := G) (M := M) hf
  have hle : k < (fvs G (M c') fs).length := by rw [fvs_len]; exact (List.getElem?_eq_some_iff.mp e2).1
  refine va_put (ty := .int) hx hb hts (inU e4) (clTy ci) (clTok e4) (clNm e4) hown hK hP (wl_D M hA) hS c' e1 (clS_get e4) k hk (hts _ hw) (fun _ h9 => h9) hfin ((clTok e4 k hk).trans (congrArg some hty)) rfl rfl hle hd (fun H1 locs1 hP1 _ hS1 => ?_)
  rw [wl_set G M x (by rw [e5]; exact congrArg (fun z => Sum.inr (ci, z)) (fvs_set G (M c') x e2 _ rfl))] at hP1
  exact h H1 locs1 ls hP1 hS1 hl
theorem J.putZ {X : CX} {G : GX} {cc : ByteArray} {n lev pc q : Nat} {own : String} {M : Mem} {lv : List (Nat × Value)} {st : List Value} {c' ci k ix : Nat} {x : Int32} (O : Ok X G cc n own lev) (hd : decode cc pc = .ok (.putfield ix, 3)) (hq : pc + 3 = q) (hw : Cond.fieldLink own ix (fl ci k).1 (fl ci k).2.1 (fl ci k).2.2.1 ∈ TW) (hk : k < flN ci) (hf : isF c' ci k 0) (hfin : (fl ci k).2.2.2 = false) (hty : clTy ci k = .boolean) (hz : bz x) (h : J X G (mset M c' k x) q lv st) : J X G M pc lv (.int x :: .ref (ad G c') :: st) := by
  obtain ⟨p, l, e, R, s, m, args, below, meth, c, nL, cells, slots, Q⟩ := X
  obtain ⟨hx, hb, hml, hnL, hown, hts, hK, hA, hZ, hlev, hlo, hce, hsl⟩ := O
  subst hnL
  subst hq
  intro H locs ls hP hS hl
  obtain ⟨fs, e1, e2, e3, e4, e5⟩ := wl_F (G := G) (M := M) hf
  have hle : k < (fvs G (M c') fs).length := by rw [fvs_len]; exact (List.getElem?_eq_some_iff.mp e2).1
  refine va_put (ty := .boolean) hx hb hts (inU e4) (clTy ci) (clTok e4) (clNm e4) hown hK hP (wl_D M hA) hS c' e1 (clS_get e4) k hk (hts _ hw) (fun _ h9 => h9) hfin ((clTok e4 k hk).trans (congrArg some hty)) (nar_z hz) (fit_z hz) hle hd (fun H1 locs1 hP1 _ hS1 => ?_)
  rw [wl_set G M x (by rw [e5]; exact congrArg (fun z => Sum.inr (ci, z)) (fvs_set G (M c') x e2 _ rfl))] at hP1
  exact h H1 locs1 ls hP1 hS1 hl
theorem J.putV {X : CX} {G : GX} {cc : ByteArray} {n lev pc q : Nat} {own : String} {M : Mem} {lv : List (Nat × Value)} {st : List Value} {c' ci k ix r : Nat} (O : Ok X G cc n own lev) (hd : decode cc pc = .ok (.putfield ix, 3)) (hq : pc + 3 = q) (hw : Cond.fieldLink own ix (fl ci k).1 (fl ci k).2.1 (fl ci k).2.2.1 ∈ TW) (hk : k < flN ci) (hf : isF c' ci k 1) (hfin : (fl ci k).2.2.2 = false) (hty : clTy ci k = .array .byte) (hr : r < NC) (h : J X G (mset M c' k (nI r)) q lv st) : J X G M pc lv (.ref (ad G r) :: .ref (ad G c') :: st) := by
  obtain ⟨p, l, e, R, s, m, args, below, meth, c, nL, cells, slots, Q⟩ := X
  obtain ⟨hx, hb, hml, hnL, hown, hts, hK, hA, hZ, hlev, hlo, hce, hsl⟩ := O
  subst hnL
  subst hq
  intro H locs ls hP hS hl
  have hrr : (nI r).toNatClampNeg = r := nI_clamp (by unfold NC at hr; omega)
  obtain ⟨fs, e1, e2, e3, e4, e5⟩ := wl_F (G := G) (M := M) hf
  have hle : k < (fvs G (M c') fs).length := by rw [fvs_len]; exact (List.getElem?_eq_some_iff.mp e2).1
  refine va_put (ty := .array .byte) hx hb hts (inU e4) (clTy ci) (clTok e4) (clNm e4) hown hK hP (wl_D M hA) hS c' e1 (clS_get e4) k hk (hts _ hw) (fun _ h9 => h9) hfin ((clTok e4 k hk).trans (congrArg some hty)) rfl rfl hle hd (fun H1 locs1 hP1 _ hS1 => ?_)
  rw [wl_set G M (nI r) (by rw [e5]; exact congrArg (fun z => Sum.inr (ci, z)) (fvs_set G (M c') (nI r) e2 _ (by show _ = Value.ref (ad G _); rw [hrr])))] at hP1
  exact h H1 locs1 ls hP1 hS1 hl
theorem J.iald {X : CX} {G : GX} {cc : ByteArray} {n lev pc q : Nat} {own : String} {M : Mem} {lv : List (Nat × Value)} {st : List Value} {c' w j : Nat} {i : Int32} (v9 : Int32) (hv9 : M c' j = v9) (O : Ok X G cc n own lev) (hd : decode cc pc = .ok (.iaload, 1)) (hq : pc + 1 = q) (ha : arI c' w) (hi : vp_in i w) (hj : i.toNatClampNeg = j) (h : J X G M q lv (.int v9 :: st)) : J X G M pc lv (.int i :: .ref (ad G c') :: st) := by
  obtain ⟨p, l, e, R, s, m, args, below, meth, c, nL, cells, slots, Q⟩ := X
  obtain ⟨hx, hb, hml, hnL, hown, hts, hK, hA, hZ, hlev, hlo, hce, hsl⟩ := O
  subst hnL
  subst hq
  intro H locs ls hP hS hl
  subst hv9
  subst hj
  exact va_iald hx hb hK hP c' 0 (wl_I ha) rfl hi hd (h H locs ls hP hS hl)
theorem J.zald {X : CX} {G : GX} {cc : ByteArray} {n lev pc q : Nat} {own : String} {M : Mem} {lv : List (Nat × Value)} {st : List Value} {c' w j : Nat} {i : Int32} (v9 : Int32) (hv9 : M c' j = v9) (O : Ok X G cc n own lev) (hd : decode cc pc = .ok (.baload, 1)) (hq : pc + 1 = q) (ha : arZ c' w) (hi : vp_in i w) (hj : i.toNatClampNeg = j) (h : J X G M q lv (.int v9 :: st)) : J X G M pc lv (.int i :: .ref (ad G c') :: st) := by
  obtain ⟨p, l, e, R, s, m, args, below, meth, c, nL, cells, slots, Q⟩ := X
  obtain ⟨hx, hb, hml, hnL, hown, hts, hK, hA, hZ, hlev, hlo, hce, hsl⟩ := O
  subst hnL
  subst hq
  intro H locs ls hP hS hl
  subst hv9
  subst hj
  exact va_zald hx hb hK hP c' 1 (wl_Z ha) rfl hi hd (h H locs ls hP hS hl)
theorem J.bald {X : CX} {G : GX} {cc : ByteArray} {n lev pc q : Nat} {own : String} {M : Mem} {lv : List (Nat × Value)} {st : List Value} {c' w j : Nat} {i : Int32} (v9 : Int32) (hv9 : M c' j = v9) (O : Ok X G cc n own lev) (hd : decode cc pc = .ok (.baload, 1)) (hq : pc + 1 = q) (ha : arB c' w) (hi : vp_in i w) (hj : i.toNatClampNeg = j) (h : J X G M q lv (.int v9 :: st)) : J X G M pc lv (.int i :: .ref (ad G c') :: st) := by
  obtain ⟨p, l, e, R, s, m, args, below, meth, c, nL, cells, slots, Q⟩ := X
  obtain ⟨hx, hb, hml, hnL, hown, hts, hK, hA, hZ, hlev, hlo, hce, hsl⟩ := O
  subst hnL
  subst hq
  intro H locs ls hP hS hl
  subst hv9
  subst hj
  exact va_bald hx hb hK hP c' 2 (wl_B ha) rfl hi hd (h H locs ls hP hS hl)
theorem J.lald {X : CX} {G : GX} {cc : ByteArray} {n lev pc q : Nat} {own : String} {M : Mem} {lv : List (Nat × Value)} {st : List Value} {c' w : Nat} {i : Int32} (O : Ok X G cc n own lev) (hd : decode cc pc = .ok (.laload, 1)) (hq : pc + 1 = q) (ha : arJ c' w) (hi : vp_in i w) (h : J X G M q lv (.long (jnL (M c' (2 * i.toNatClampNeg)) (M c' (2 * i.toNatClampNeg + 1))) :: st)) : J X G M pc lv (.int i :: .ref (ad G c') :: st) := by
  obtain ⟨p, l, e, R, s, m, args, below, meth, c, nL, cells, slots, Q⟩ := X
  obtain ⟨hx, hb, hml, hnL, hown, hts, hK, hA, hZ, hlev, hlo, hce, hsl⟩ := O
  subst hnL
  subst hq
  intro H locs ls hP hS hl
  exact va_lald hx hb hK hP c' 3 (wl_J ha) rfl hi hd (h H locs ls hP hS hl)
theorem J.iast {X : CX} {G : GX} {cc : ByteArray} {n lev pc q : Nat} {own : String} {M : Mem} {lv : List (Nat × Value)} {st : List Value} {c' w j : Nat} {i x : Int32} (O : Ok X G cc n own lev) (hd : decode cc pc = .ok (.iastore, 1)) (hq : pc + 1 = q) (ha : arI c' w) (hi : vp_in i w) (hj : i.toNatClampNeg = j) (h : J X G (mset M c' j x) q lv st) : J X G M pc lv (.int x :: .int i :: .ref (ad G c') :: st) := by
  obtain ⟨p, l, e, R, s, m, args, below, meth, c, nL, cells, slots, Q⟩ := X
  obtain ⟨hx, hb, hml, hnL, hown, hts, hK, hA, hZ, hlev, hlo, hce, hsl⟩ := O
  subst hnL
  subst hq
  intro H locs ls hP hS hl
  subst hj
  refine va_iast hx hb hK hP (wl_D M hA) hS c' 0 (wl_I ha) rfl hi hd (fun H1 locs1 hP1 _ hS1 => ?_)
  rw [wl_set G M x (by rw [ha.2]; rfl)] at hP1
  exact h H1 locs1 ls hP1 hS1 hl
theorem J.zast {X : CX} {G : GX} {cc : ByteArray} {n lev pc q : Nat} {own : String} {M : Mem} {lv : List (Nat × Value)} {st : List Value} {c' w j : Nat} {i x : Int32} (O : Ok X G cc n own lev) (hd : decode cc pc = .ok (.bastore, 1)) (hq : pc + 1 = q) (ha : arZ c' w) (hi : vp_in i w) (hj : i.toNatClampNeg = j) (hz : bz x) (h : J X G (mset M c' j x) q lv st) : J X G M pc lv (.int x :: .int i :: .ref (ad G c') :: st) := by
  obtain ⟨p, l, e, R, s, m, args, below, meth, c, nL, cells, slots, Q⟩ := X
  obtain ⟨hx, hb, hml, hnL, hown, hts, hK, hA, hZ, hlev, hlo, hce, hsl⟩ := O
  subst hnL
  subst hq
  intro H locs ls hP hS hl
  subst hj
  refine va_zast hx hb hK hP (wl_D M hA) hS c' 1 (wl_Z ha) rfl hi hd (fun H1 locs1 hP1 _ hS1 => ?_)
  rw [vnar_z hz, wl_set G M x (by rw [ha.2]; rfl)] at hP1
  exact h H1 locs1 ls hP1 hS1 hl
theorem J.bast {X : CX} {G : GX} {cc : ByteArray} {n lev pc q : Nat} {own : String} {M : Mem} {lv : List (Nat × Value)} {st : List Value} {c' w j : Nat} {i x : Int32} (O : Ok X G cc n own lev) (hd : decode cc pc = .ok (.bastore, 1)) (hq : pc + 1 = q) (ha : arB c' w) (hi : vp_in i w) (hj : i.toNatClampNeg = j) (h : J X G (mset M c' j (vp_nar .byte x)) q lv st) : J X G M pc lv (.int x :: .int i :: .ref (ad G c') :: st) := by
  obtain ⟨p, l, e, R, s, m, args, below, meth, c, nL, cells, slots, Q⟩ := X
  obtain ⟨hx, hb, hml, hnL, hown, hts, hK, hA, hZ, hlev, hlo, hce, hsl⟩ := O
  subst hnL
  subst hq
  intro H locs ls hP hS hl
  subst hj
  refine va_bast hx hb hK hP (wl_D M hA) hS c' 2 (wl_B ha) rfl hi hd (fun H1 locs1 hP1 _ hS1 => ?_)
  rw [wl_set G M (vp_nar .byte x) (by rw [ha.2]; rfl)] at hP1
  exact h H1 locs1 ls hP1 hS1 hl
theorem wl_set2 (G : GX) (M : Mem) {c w : Nat} (ha : arJ c w) (j : Nat) (x : Int64) : (wl G M).set c (ad G c, .inl (G.2.1 3, w, .inr (.inl (vp_updL (fun j => jnL (M c (2 * j)) (M c (2 * j + 1))) j x)))) = wl G (mset (mset M c (2 * j) (loL x)) c (2 * j + 1) (hiL x)) := by
  rw [← wl_set G (mset M c (2 * j) (loL x)) (c := c) (k := 2 * j + 1) (hiL x) (e := cte G (shp c) (upd (mset M c (2 * j) (loL x) c) (2 * j + 1) (hiL x))) rfl, ← wl_set G M (c := c) (k := 2 * j) (loL x) (e := cte G (shp c) (upd (M c) (2 * j) (loL x))) rfl, List.set_set]
  congr 2
  rw [ha.2, mset_row]
  refine congrArg (fun z => Sum.inl (G.2.1 3, w, Sum.inr (Sum.inl z))) (funext fun i => ?_)
  unfold vp_updL upd
  by_cases hi : i = j
  · subst hi
    simp
    exact (jnL_eq x).symm
  · have h1 : ¬ 2 * i = 2 * j := by omega
    have h2 : ¬ 2 * i = 2 * j + 1 := by omega
    have h3 : ¬ 2 * i + 1 = 2 * j + 1 := by omega
    have h4 : ¬ 2 * i + 1 = 2 * j := by omega
    simp [hi, h1, h2, h3, h4]
theorem J.last {X : CX} {G : GX} {cc : ByteArray} {n lev pc q : Nat} {own : String} {M : Mem} {lv : List (Nat × Value)} {st : List Value} {c' w : Nat} {i : Int32} {x : Int64} (O : Ok X G cc n own lev) (hd : decode cc pc = .ok (.lastore, 1)) (hq : pc + 1 = q) (ha : arJ c' w) (hi : vp_in i w) (h : J X G (mset (mset M c' (2 * i.toNatClampNeg) (loL x)) c' (2 * i.toNatClampNeg + 1) (hiL x)) q lv st) : J X G M pc lv (.long x :: .int i :: .ref (ad G c') :: st) := by
  obtain ⟨p, l, e, R, s, m, args, below, meth, c, nL, cells, slots, Q⟩ := X
  obtain ⟨hx, hb, hml, hnL, hown, hts, hK, hA, hZ, hlev, hlo, hce, hsl⟩ := O
  subst hnL
  subst hq
  intro H locs ls hP hS hl
  refine va_last hx hb hK hP (wl_D M hA) hS c' 3 (wl_J ha) rfl hi hd (fun H1 locs1 hP1 _ hS1 => ?_)
  rw [wl_set2 G M ha] at hP1
  exact h H1 locs1 ls hP1 hS1 hl
theorem J.aald {X : CX} {G : GX} {cc : ByteArray} {n lev pc q : Nat} {own : String} {M : Mem} {lv : List (Nat × Value)} {st : List Value} {t c' w b d : Nat} {i : Int32} (O : Ok X G cc n own lev) (hd : decode cc pc = .ok (.aaload, 1)) (hq : pc + 1 = q) (ha : arR t c' w b d) (hi : vp_in i w) (h : J X G M q lv (.ref (ad G (b + d * i.toNatClampNeg)) :: st)) : J X G M pc lv (.int i :: .ref (ad G c') :: st) := by
  obtain ⟨p, l, e, R, s, m, args, below, meth, c, nL, cells, slots, Q⟩ := X
  obtain ⟨hx, hb, hml, hnL, hown, hts, hK, hA, hZ, hlev, hlo, hce, hsl⟩ := O
  subst hnL
  subst hq
  intro H locs ls hP hS hl
  have hlt : i.toNatClampNeg < w := Nat.not_le.mp fun q => hi (Or.inr q)
  have ht : ∃ ty : FieldType, (tysL G)[t + 4]? = some (G.2.1 (t + 4), ty) ∧ ty.isReference = true := by
    obtain ⟨_, _, h3⟩ := ha
    match t, h3 with
    | 0, _ => exact ⟨_, rfl, rfl⟩
    | 1, _ => exact ⟨_, rfl, rfl⟩
    | 2, _ => exact ⟨_, rfl, rfl⟩
  obtain ⟨ty, ht, hrt⟩ := ht
  exact W.aald (v := .ref (ad G (b + d * i.toNatClampNeg))) (ty := ty) hx hb (hP c' _ (wl_R ha)) ((hK.2 (t + 4) _ ht).1 w (fun j => va_rf (some (ad G (b + d * j))))) hrt (fun q => by cases q) (by show ¬ (i < 0 ∨ (arrV _ _ _).slots.size ≤ _); rw [arrV_size]; exact hi) (by show (arrV _ _ _).slots[_]? = _; rw [arrV_read _ _ hlt]; rfl) rfl rfl hd (h H locs ls hP hS hl)
theorem J.alenI {X : CX} {G : GX} {cc : ByteArray} {n lev pc q : Nat} {own : String} {M : Mem} {lv : List (Nat × Value)} {st : List Value} {c' w : Nat} (O : Ok X G cc n own lev) (hd : decode cc pc = .ok (.arraylength, 1)) (hq : pc + 1 = q) (ha : arI c' w) (h : J X G M q lv (.int (nI w) :: st)) : J X G M pc lv (.ref (ad G c') :: st) := by
  obtain ⟨p, l, e, R, s, m, args, below, meth, c, nL, cells, slots, Q⟩ := X
  obtain ⟨hx, hb, hml, hnL, hown, hts, hK, hA, hZ, hlev, hlo, hce, hsl⟩ := O
  subst hnL
  subst hq
  intro H locs ls hP hS hl
  exact va_alen hx hb hK hP c' 0 (wl_I ha) rfl rfl hd (h H locs ls hP hS hl)
theorem J.alenZ {X : CX} {G : GX} {cc : ByteArray} {n lev pc q : Nat} {own : String} {M : Mem} {lv : List (Nat × Value)} {st : List Value} {c' w : Nat} (O : Ok X G cc n own lev) (hd : decode cc pc = .ok (.arraylength, 1)) (hq : pc + 1 = q) (ha : arZ c' w) (h : J X G M q lv (.int (nI w) :: st)) : J X G M pc lv (.ref (ad G c') :: st) := by
  obtain ⟨p, l, e, R, s, m, args, below, meth, c, nL, cells, slots, Q⟩ := X
  obtain ⟨hx, hb, hml, hnL, hown, hts, hK, hA, hZ, hlev, hlo, hce, hsl⟩ := O
  subst hnL
  subst hq
  intro H locs ls hP hS hl
  exact va_alen hx hb hK hP c' 1 (wl_Z ha) rfl rfl hd (h H locs ls hP hS hl)
theorem J.alenB {X : CX} {G : GX} {cc : ByteArray} {n lev pc q : Nat} {own : String} {M : Mem} {lv : List (Nat × Value)} {st : List Value} {c' w : Nat} (O : Ok X G cc n own lev) (hd : decode cc pc = .ok (.arraylength, 1)) (hq : pc + 1 = q) (ha : arB c' w) (h : J X G M q lv (.int (nI w) :: st)) : J X G M pc lv (.ref (ad G c') :: st) := by
  obtain ⟨p, l, e, R, s, m, args, below, meth, c, nL, cells, slots, Q⟩ := X
  obtain ⟨hx, hb, hml, hnL, hown, hts, hK, hA, hZ, hlev, hlo, hce, hsl⟩ := O
  subst hnL
  subst hq
  intro H locs ls hP hS hl
  exact va_alen hx hb hK hP c' 2 (wl_B ha) rfl rfl hd (h H locs ls hP hS hl)
theorem J.gets {X : CX} {G : GX} {cc : ByteArray} {n lev pc q : Nat} {own : String} {M : Mem} {lv : List (Nat × Value)} {st : List Value} {k ix : Nat} (O : Ok X G cc n own lev) (hd : decode cc pc = .ok (.getstatic ix, 3)) (hq : pc + 3 = q) (hk : k < 4) (hw : Cond.fieldLink own ix "WorksCouncil" (svn k) "[I" ∈ TW) (h : J X G M q lv (.ref (G.2.2.2.2 k) :: st)) : J X G M pc lv st := by
  obtain ⟨p, l, e, R, s, m, args, below, meth, c, nL, cells, slots, Q⟩ := X
  obtain ⟨hx, hb, hml, hnL, hown, hts, hK, hA, hZ, hlev, hlo, hce, hsl⟩ := O
  subst hnL
  subst hq
  intro H locs ls hP hS hl
  exact va_gets hx hb (hZ k hk).1 hS hown (hts _ hw) (fun _ h9 => h9) hd (h H locs ls hP hS hl)
theorem J.sald {X : CX} {G : GX} {cc : ByteArray} {n lev pc q : Nat} {own : String} {M : Mem} {lv : List (Nat × Value)} {st : List Value} {k : Nat} {i : Int32} (O : Ok X G cc n own lev) (hd : decode cc pc = .ok (.iaload, 1)) (hq : pc + 1 = q) (hk : k < 4) (hi : vp_in i (svl k).length) (h : J X G M q lv (.int (sv k i.toNatClampNeg) :: st)) : J X G M pc lv (.int i :: .ref (G.2.2.2.2 k) :: st) := by
  obtain ⟨p, l, e, R, s, m, args, below, meth, c, nL, cells, slots, Q⟩ := X
  obtain ⟨hx, hb, hml, hnL, hown, hts, hK, hA, hZ, hlev, hlo, hce, hsl⟩ := O
  subst hnL
  subst hq
  intro H locs ls hP hS hl
  exact va_sld hx hb (hZ k hk).2.1 (hZ k hk).2.2.2 (hZ k hk).2.2.1 hS hi hd (h H locs ls hP hS hl)
theorem J.slen {X : CX} {G : GX} {cc : ByteArray} {n lev pc q : Nat} {own : String} {M : Mem} {lv : List (Nat × Value)} {st : List Value} {k : Nat} (O : Ok X G cc n own lev) (hd : decode cc pc = .ok (.arraylength, 1)) (hq : pc + 1 = q) (hk : k < 4) (h : J X G M q lv (.int (nI (svl k).length) :: st)) : J X G M pc lv (.ref (G.2.2.2.2 k) :: st) := by
  obtain ⟨p, l, e, R, s, m, args, below, meth, c, nL, cells, slots, Q⟩ := X
  obtain ⟨hx, hb, hml, hnL, hown, hts, hK, hA, hZ, hlev, hlo, hce, hsl⟩ := O
  subst hnL
  subst hq
  intro H locs ls hP hS hl
  exact va_slen hx hb (hZ k hk).2.1 (hZ k hk).2.2.2 (hZ k hk).2.2.1 hS hd (h H locs ls hP hS hl)
theorem J.mmax {X : CX} {G : GX} {cc : ByteArray} {n lev pc q : Nat} {own : String} {M : Mem} {lv : List (Nat × Value)} {st : List Value} {ix : Nat} {x y : Int32} (O : Ok X G cc n own lev) (hd : decode cc pc = .ok (.invokestatic ix, 3)) (hq : pc + 3 = q) (hw : Cond.methodLink own ix Lib.Math.max.name ∈ TW) (hlv : 1 ≤ lev) (hst : (st.map fun v => v.category).sum ≤ 8) (h : J X G M q lv (.int (if x < y then y else x) :: st)) : J X G M pc lv (.int y :: .int x :: st) := by
  obtain ⟨p, l, e, R, s, m, args, below, meth, c, nL, cells, slots, Q⟩ := X
  obtain ⟨hx, hb, hml, hnL, hown, hts, hK, hA, hZ, hlev, hlo, hce, hsl⟩ := O
  subst hnL
  subst hq
  intro H locs ls hP hS hl
  exact va_mmax hx hb (hml.trans hl.1.symm) hown (hts _ hw) (hts _ md_max.1) (hts _ md_max.2.1) (hts _ md_max.2.2) (by omega) (by omega) hce hsl hd (h H locs ls hP hS hl)
theorem J.mmin {X : CX} {G : GX} {cc : ByteArray} {n lev pc q : Nat} {own : String} {M : Mem} {lv : List (Nat × Value)} {st : List Value} {ix : Nat} {x y : Int32} (O : Ok X G cc n own lev) (hd : decode cc pc = .ok (.invokestatic ix, 3)) (hq : pc + 3 = q) (hw : Cond.methodLink own ix Lib.Math.min.name ∈ TW) (hlv : 1 ≤ lev) (hst : (st.map fun v => v.category).sum ≤ 8) (h : J X G M q lv (.int (if y < x then y else x) :: st)) : J X G M pc lv (.int y :: .int x :: st) := by
  obtain ⟨p, l, e, R, s, m, args, below, meth, c, nL, cells, slots, Q⟩ := X
  obtain ⟨hx, hb, hml, hnL, hown, hts, hK, hA, hZ, hlev, hlo, hce, hsl⟩ := O
  subst hnL
  subst hq
  intro H locs ls hP hS hl
  exact va_mmin hx hb (hml.trans hl.1.symm) hown (hts _ hw) (hts _ md_min.1) (hts _ md_min.2.1) (hts _ md_min.2.2) (by omega) (by omega) hce hsl hd (h H locs ls hP hS hl)
theorem J.mabs {X : CX} {G : GX} {cc : ByteArray} {n lev pc q : Nat} {own : String} {M : Mem} {lv : List (Nat × Value)} {st : List Value} {ix : Nat} {x : Int32} (O : Ok X G cc n own lev) (hd : decode cc pc = .ok (.invokestatic ix, 3)) (hq : pc + 3 = q) (hw : Cond.methodLink own ix Lib.Math.abs.name ∈ TW) (hlv : 1 ≤ lev) (hst : (st.map fun v => v.category).sum ≤ 8) (h : J X G M q lv (.int (if 0 ≤ x then x else 0 - x) :: st)) : J X G M pc lv (.int x :: st) := by
  obtain ⟨p, l, e, R, s, m, args, below, meth, c, nL, cells, slots, Q⟩ := X
  obtain ⟨hx, hb, hml, hnL, hown, hts, hK, hA, hZ, hlev, hlo, hce, hsl⟩ := O
  subst hnL
  subst hq
  intro H locs ls hP hS hl
  exact va_mabs hx hb (hml.trans hl.1.symm) hown (hts _ hw) (hts _ md_abs.1) (hts _ md_abs.2.1) (hts _ md_abs.2.2) (by omega) (by omega) hce hsl hd (h H locs ls hP hS hl)
def PreW (G : GX) (M : Mem) (U : State) : Prop := va_P G.1 vwCl (wl G M) U.heap ∧ va_K G.1 vwCl (tysL G) U ∧ Sts G U U.heap
def Gd (G : GX) : Prop := ∀ k, k < NC → G.2.2.2.1 (ad G k)
def rmL (lev : Nat) : Room := { frames := lev, cells := 0, slots := 0, locals := 64 * lev }
/-- a method's contract: an int comes back, and K holds of it and of the memory behind it -/
def CI (l : Launch) (G : GX) (y : MethodName) (b : ByteArray) (nL : Nat) (ret : Option FieldType) (lev : Nat) (As : List Value) (M : Mem) (K : Int32 → Mem → Prop) : Prop :=
  Met l y (.code y b nL ret :: TW) (rmL lev) (va_Pc As (PreW G M)) (va_Qi K (fun M' t => va_P G.1 vwCl (wl G M') t.heap) G.2.2.2.1) 0 0 G.2.2.2.1
def CV (l : Launch) (G : GX) (y : MethodName) (b : ByteArray) (nL : Nat) (lev : Nat) (As : List Value) (M : Mem) (K : Mem → Prop) : Prop :=
  Met l y (.code y b nL none :: TW) (rmL lev) (va_Pc As (PreW G M)) (va_Qv K (fun M' t => va_P G.1 vwCl (wl G M') t.heap) G.2.2.2.1) 0 0 G.2.2.2.1
theorem Sts.moved {G : GX} {u U : State} {H : Heap} (hvm : u.vm.Alike U.vm) (h : Sts G u H) : Sts G U H := fun k hk => ⟨(h k hk).1.moved hvm, (h k hk).2.1.moved hvm, (h k hk).2.2⟩
theorem Sts.kept {G : GX} {u : State} {H H1 : Heap} {locs : List Loc} (h : Sts G u H) (hS : va_S G.2.2.2.1 H H1 locs) : Sts G u H1 := fun k hk =>
  ⟨(h k hk).1.kept (fun a h1 h2 => hS.2.1 a h1 h2), (h k hk).2.1.kept (hS.2.1 _ (h k hk).2.2.2 (h k hk).2.2.1), (h k hk).2.2.1, Nat.lt_of_lt_of_le (h k hk).2.2.2 hS.1⟩
theorem PreW.blind {G : GX} {M : Mem} {As : List Value} : FrameBlind (va_Pc As (PreW G M)) := fun a U g mk q => by
  obtain ⟨q0, qP, qK, qZ⟩ := q
  exact ⟨q0, qP, va_K.moved (u := U) (U := U.calling g mk a) (Vm.Alike.refl U.vm) qK, Sts.moved (u := U) (U := U.calling g mk a) (Vm.Alike.refl U.vm) qZ⟩
def RetI (X : CX) (G : GX) (cc : ByteArray) (K : Int32 → Mem → Prop) : Prop := ∀ (r : Int32) (M' : Mem) (pc : Nat) (lv : List (Nat × Value)), decode cc pc = .ok (.ireturn, 1) → K r M' → J X G M' pc lv [.int r]
def RetZ (X : CX) (G : GX) (cc : ByteArray) (K : Int32 → Mem → Prop) : Prop := ∀ (r : Int32) (M' : Mem) (pc : Nat) (lv : List (Nat × Value)), decode cc pc = .ok (.ireturn, 1) → bz r → K r M' → J X G M' pc lv [.int r]
def RetV (X : CX) (G : GX) (cc : ByteArray) (K : Mem → Prop) : Prop := ∀ (M' : Mem) (pc : Nat) (lv : List (Nat × Value)), decode cc pc = .ok (.return_, 1) → K M' → J X G M' pc lv []
def lX (X : CX) : Launch := X.2.1
theorem CI.mk {l : Launch} {G : GX} {y : MethodName} {b : ByteArray} {nL lev : Nat} {As : List Value} {M : Mem} {K : Int32 → Mem → Prop} (hG : Gd G) (hy : plainName y.cls = true) (lv : List (Nat × Value)) (hlv : lv_args 0 As = lv) (hn : (lg_sl As).length ≤ nL)
    (h : ∀ X : CX, Ok X G b nL y.cls lev → lX X = l → RetI X G b K → J X G M 0 lv []) : CI l G y b nL (some .int) lev As M K := by
  refine Met.ofW (cc := b) (maxL := nL) (ret := (some .int)) hy rfl ?_
  intro p e s m args below meth c s₁ B hml hv
  obtain ⟨rfl, hP, hK, hZ⟩ := hv
  have hx := B.exec
  have hb := B.bytes
  have hr := B.returns
  have hts := atoms_spec (ws := .code y b nL (some .int) :: TW) B.pre
  have hown : s.vm.findClass y.cls = some m.cls := findClass_of_methodNamed B.named
  have hlocks := B.notSynchronized
  have hl := lv_entry As (n := nL) hn
  rw [lg_entry_eq]
  rw [hlv] at hl
  refine h (p, l, e, rmL lev, s, m, As.toArray, below, meth, c, nL, 0, 0, _) ?_ rfl ?_ s.heap [] _ hP va_S.rf hl
  · exact ⟨hx, hb, hml, rfl, hown, fun w hw => hts w (List.mem_cons_of_mem _ hw), hK, hG, hZ, Nat.le_refl _, Nat.le_refl _, Nat.zero_le _, Nat.zero_le _⟩
  · intro r M2 pc lv hd hK2 H locs ls hP hS hl
    exact W.iret hx hb hr (fun t ht hW => ⟨⟨r, M2, rfl, hK2, by show va_P G.1 vwCl (wl G M2) t.heap; rw [ht]; exact hP⟩, hS.F ht⟩) hS.2.2 hd hlocks
theorem CZ.mk {l : Launch} {G : GX} {y : MethodName} {b : ByteArray} {nL lev : Nat} {As : List Value} {M : Mem} {K : Int32 → Mem → Prop} (hG : Gd G) (hy : plainName y.cls = true) (lv : List (Nat × Value)) (hlv : lv_args 0 As = lv) (hn : (lg_sl As).length ≤ nL)
    (h : ∀ X : CX, Ok X G b nL y.cls lev → lX X = l → RetZ X G b K → J X G M 0 lv []) : CI l G y b nL (some .boolean) lev As M K := by
  refine Met.ofW (cc := b) (maxL := nL) (ret := (some .boolean)) hy rfl ?_
  intro p e s m args below meth c s₁ B hml hv
  obtain ⟨rfl, hP, hK, hZ⟩ := hv
  have hx := B.exec
  have hb := B.bytes
  have hr := B.returns
  have hts := atoms_spec (ws := .code y b nL (some .boolean) :: TW) B.pre
  have hown : s.vm.findClass y.cls = some m.cls := findClass_of_methodNamed B.named
  have hlocks := B.notSynchronized
  have hl := lv_entry As (n := nL) hn
  rw [lg_entry_eq]
  rw [hlv] at hl
  refine h (p, l, e, rmL lev, s, m, As.toArray, below, meth, c, nL, 0, 0, _) ?_ rfl ?_ s.heap [] _ hP va_S.rf hl
  · exact ⟨hx, hb, hml, rfl, hown, fun w hw => hts w (List.mem_cons_of_mem _ hw), hK, hG, hZ, Nat.le_refl _, Nat.le_refl _, Nat.zero_le _, Nat.zero_le _⟩
  · intro r M2 pc lv hd hz hK2 H locs ls hP hS hl
    exact W.zret hx hb hr (nar_z hz) (fun t ht hW => ⟨⟨r, M2, rfl, hK2, by show va_P G.1 vwCl (wl G M2) t.heap; rw [ht]; exact hP⟩, hS.F ht⟩) hS.2.2 hd hlocks
theorem CV.mk {l : Launch} {G : GX} {y : MethodName} {b : ByteArray} {nL lev : Nat} {As : List Value} {M : Mem} {K : Mem → Prop} (hG : Gd G) (hy : plainName y.cls = true) (lv : List (Nat × Value)) (hlv : lv_args 0 As = lv) (hn : (lg_sl As).length ≤ nL)
    (h : ∀ X : CX, Ok X G b nL y.cls lev → lX X = l → RetV X G b K → J X G M 0 lv []) : CV l G y b nL lev As M K := by
  refine Met.ofW (cc := b) (maxL := nL) (ret := none) hy rfl ?_
  intro p e s m args below meth c s₁ B hml hv
  obtain ⟨rfl, hP, hK, hZ⟩ := hv
  have hx := B.exec
  have hb := B.bytes
  have hr := B.returns
  have hts := atoms_spec (ws := .code y b nL none :: TW) B.pre
  have hown : s.vm.findClass y.cls = some m.cls := findClass_of_methodNamed B.named
  have hlocks := B.notSynchronized
  have hl := lv_entry As (n := nL) hn
  rw [lg_entry_eq]
  rw [hlv] at hl
  refine h (p, l, e, rmL lev, s, m, As.toArray, below, meth, c, nL, 0, 0, _) ?_ rfl ?_ s.heap [] _ hP va_S.rf hl
  · exact ⟨hx, hb, hml, rfl, hown, fun w hw => hts w (List.mem_cons_of_mem _ hw), hK, hG, hZ, Nat.le_refl _, Nat.le_refl _, Nat.zero_le _, Nat.zero_le _⟩
  · intro M2 pc lv hd hK2 H locs ls hP hS hl
    exact W.vret hx hb hr (fun t ht hW => ⟨⟨M2, rfl, hK2, by show va_P G.1 vwCl (wl G M2) t.heap; rw [ht]; exact hP⟩, hS.F ht⟩) hS.2.2 hd hlocks
/-- what the tables say of an instance method of a kind -/
def MwV (ci : Nat) (y : MethodName) (b : ByteArray) (nL : Nat) (ret : Option FieldType) (n : Nat) : Prop :=
  ci < 13 ∧ Cond.instanceMethod y ∈ TW ∧ Cond.selects (clS ci).1 y y ∈ TW ∧ Cond.initialized (clS ci).1 ∈ TW ∧ Cond.code y b nL ret ∈ TW ∧ nL ≤ 40 ∧
  (y.cls = (clS ci).1 ∧ y.cls ≠ "java/lang/invoke/MethodHandle" ∧ y.cls ≠ "java/lang/invoke/VarHandle" ∧ (parseMethodDescriptor y.desc).map (fun d => d.parameters.length) = some n)
def MwS (y : MethodName) (b : ByteArray) (nL : Nat) (ret : Option FieldType) (n : Nat) : Prop :=
  Cond.static y ∈ TW ∧ Cond.initialized y.cls ∈ TW ∧ Cond.code y b nL ret ∈ TW ∧ nL ≤ 40 ∧
  (y.cls ≠ "java/lang/invoke/MethodHandle" ∧ y.cls ≠ "java/lang/invoke/VarHandle" ∧ (parseMethodDescriptor y.desc).map (fun d => d.parameters.length) = some n)
def isO (c ci : Nat) : Prop := c < NC ∧ ∃ fs, shp c = (0, ci, fs)
theorem isMat_O {t : Nat} (h : isMat t) : isO t 5 := by
  obtain ⟨i, hi, rfl⟩ := h
  exact ⟨by unfold NC; omega, _, shpM hi⟩
theorem call_roomy {lev' lev maxL : Nat} {R : Room} (h : lev' + 1 ≤ lev) (h1 : lev ≤ R.frames) (h2 : 64 * lev ≤ R.locals) (h3 : maxL ≤ 40) : (rmL lev').frames + 1 ≤ R.frames ∧ 8 + (maxL + 11) + (rmL lev').locals ≤ R.locals := by
  refine ⟨by show lev' + 1 ≤ _; omega, by show 8 + (maxL + 11) + 64 * lev' ≤ _; omega⟩
theorem wsV_in {own : String} {ix ci nL n : Nat} {y : MethodName} {b : ByteArray} {ret : Option FieldType} (hw : Cond.methodLink own ix y ∈ TW) (m : MwV ci y b nL ret n) : GoodIn TW (wsV own ix (clS ci).1 y (.code y b nL ret :: TW)) := by
  refine lit_in (fun w h => ?_) (fun _ h => h)
  obtain ⟨-, h1, h2, h3, h4, -⟩ := m
  simp only [wsV, List.cons_append, List.nil_append, List.mem_cons] at h
  rcases h with rfl | rfl | rfl | rfl | rfl | h
  · exact hw
  · exact h1
  · exact h2
  · exact h3
  · exact h4
  · exact h
theorem wsS_in {own : String} {ix nL n : Nat} {y : MethodName} {b : ByteArray} {ret : Option FieldType} (hw : Cond.methodLink own ix y ∈ TW) (m : MwS y b nL ret n) : GoodIn TW (va_wsS own ix y (.code y b nL ret :: TW)) := by
  refine lit_in (fun w h => ?_) (fun _ h => h)
  obtain ⟨h1, h2, h3, -⟩ := m
  simp only [va_wsS, List.cons_append, List.nil_append, List.mem_cons] at h
  rcases h with rfl | rfl | rfl | rfl | h
  · exact hw
  · exact h1
  · exact h2
  · exact h3
  · exact h
theorem recv_O {G : GX} {M : Mem} {s : State} {H : Heap} {c ci : Nat} (hc : ci < 13) (ho : isO c ci) (hK : va_K G.1 vwCl (tysL G) s) (hP : va_P G.1 vwCl (wl G M) H) : ∃ cell : Cell, H[ad G c]? = some cell ∧ cell.vm.isStatics = false ∧ s.vm.findClass (clS ci).1 = some cell.cls := by
  obtain ⟨h1, fs, h2⟩ := ho
  refine va_recv hK hP (clS_get hc) (q0 := c) (fs := fvs G (M c) fs) ?_
  rw [wl_get G M h1, h2]
  rfl
theorem J.callVI {X : CX} {G : GX} {cc : ByteArray} {n lev pc q ix nL lev' na : Nat} {own : String} {M : Mem} {lv : List (Nat × Value)} {y : MethodName} {b : ByteArray} {ret : Option FieldType} {K : Int32 → Mem → Prop} {c' ci : Nat} (As st st0 : List Value) (hst0 : As.reverse ++ .ref (ad G c') :: st = st0) (O : Ok X G cc n own lev) (hd : decode cc pc = .ok (.invokevirtual ix, 3)) (hq : pc + 3 = q) (hm : CI (lX X) G y b nL ret lev' (.ref (ad G c') :: As) M K) (hw : Cond.methodLink own ix y ∈ TW) (mw : MwV ci y b nL ret na) (ho : isO c' ci) (hna : As.length = na) (hlv : lev' + 1 ≤ lev) (hc8 : (st.map fun v => v.category).sum ≤ 8) (h : ∀ r M', K r M' → J X G M' q lv (.int r :: st)) : J X G M pc lv st0 := by
  obtain ⟨p, l, e, R, s, m, args, below, meth, c, nL9, cells, slots, Q⟩ := X
  obtain ⟨hx, hb, hml, hnL, hown, hts, hK, hA, hZ, hlev, hlo, hce, hsl⟩ := O
  subst hnL
  subst hq
  subst hst0
  intro H locs ls hP hS hl
  refine va_calli (va_runV (As := As) (rest := st) ⟨hx, hb, hml, hown, hts⟩ hm (cwV na hts (wsV_in hw mw) rfl rfl rfl mw.2.2.2.2.2.2 (call_roomy hlv hlev hlo mw.2.2.2.2.2.1)) ⟨PreW.blind, recv_O mw.1 ho hK hP, fun U hU hW => ⟨rfl, by rw [hU]; exact hP, va_K.moved hW.alike hK, by rw [hU]; exact (hZ.kept hS).moved hW.alike⟩⟩ rfl hna hl.1 rfl (lv_room hc8) hd ⟨hce, hsl⟩) hS (fun q _ h => h) (fun q h => h) (fun r u t H1 locs1 ht hvm hw9 hB hz1 hk1 hS1 => ?_)
  exact h r u hw9 H1 locs1 ls (by show va_P G.1 vwCl (wl G _) _; rw [← ht]; exact hB) hS1 hl
theorem J.callVV {X : CX} {G : GX} {cc : ByteArray} {n lev pc q ix nL lev' na : Nat} {own : String} {M : Mem} {lv : List (Nat × Value)} {y : MethodName} {b : ByteArray} {K : Mem → Prop} {c' ci : Nat} (As st st0 : List Value) (hst0 : As.reverse ++ .ref (ad G c') :: st = st0) (O : Ok X G cc n own lev) (hd : decode cc pc = .ok (.invokevirtual ix, 3)) (hq : pc + 3 = q) (hm : CV (lX X) G y b nL lev' (.ref (ad G c') :: As) M K) (hw : Cond.methodLink own ix y ∈ TW) (mw : MwV ci y b nL none na) (ho : isO c' ci) (hna : As.length = na) (hlv : lev' + 1 ≤ lev) (hc8 : (st.map fun v => v.category).sum ≤ 8) (h : ∀ M', K M' → J X G M' q lv st) : J X G M pc lv st0 := by
  obtain ⟨p, l, e, R, s, m, args, below, meth, c, nL9, cells, slots, Q⟩ := X
  obtain ⟨hx, hb, hml, hnL, hown, hts, hK, hA, hZ, hlev, hlo, hce, hsl⟩ := O
  subst hnL
  subst hq
  subst hst0
  intro H locs ls hP hS hl
  refine va_callv (va_runV (As := As) (rest := st) ⟨hx, hb, hml, hown, hts⟩ hm (cwV na hts (wsV_in hw mw) rfl rfl rfl mw.2.2.2.2.2.2 (call_roomy hlv hlev hlo mw.2.2.2.2.2.1)) ⟨PreW.blind, recv_O mw.1 ho hK hP, fun U hU hW => ⟨rfl, by rw [hU]; exact hP, va_K.moved hW.alike hK, by rw [hU]; exact (hZ.kept hS).moved hW.alike⟩⟩ rfl hna hl.1 rfl (lv_room hc8) hd ⟨hce, hsl⟩) hS (fun q _ h => h) (fun q h => h) (fun u t H1 locs1 ht hvm hw9 hB hz1 hk1 hS1 => ?_)
  exact h u hw9 H1 locs1 ls (by show va_P G.1 vwCl (wl G _) _; rw [← ht]; exact hB) hS1 hl
theorem J.callSI {X : CX} {G : GX} {cc : ByteArray} {n lev pc q ix nL lev' na : Nat} {own : String} {M : Mem} {lv : List (Nat × Value)} {y : MethodName} {b : ByteArray} {ret : Option FieldType} {K : Int32 → Mem → Prop} (As st st0 : List Value) (hst0 : As.reverse ++ st = st0) (O : Ok X G cc n own lev) (hd : decode cc pc = .ok (.invokestatic ix, 3)) (hq : pc + 3 = q) (hm : CI (lX X) G y b nL ret lev' As M K) (hw : Cond.methodLink own ix y ∈ TW) (mw : MwS y b nL ret na) (hna : As.length = na) (hlv : lev' + 1 ≤ lev) (hc8 : (st.map fun v => v.category).sum ≤ 8) (h : ∀ r M', K r M' → J X G M' q lv (.int r :: st)) : J X G M pc lv st0 := by
  obtain ⟨p, l, e, R, s, m, args, below, meth, c, nL9, cells, slots, Q⟩ := X
  obtain ⟨hx, hb, hml, hnL, hown, hts, hK, hA, hZ, hlev, hlo, hce, hsl⟩ := O
  subst hnL
  subst hq
  subst hst0
  intro H locs ls hP hS hl
  refine va_calli (va_runS (As := As) (rest := st) ⟨hx, hb, hml, hown, hts⟩ hm (va_cwS na hts (wsS_in hw mw) rfl rfl rfl mw.2.2.2.2 (call_roomy hlv hlev hlo mw.2.2.2.1)) ⟨PreW.blind, fun U hU hW => ⟨rfl, by rw [hU]; exact hP, va_K.moved hW.alike hK, by rw [hU]; exact (hZ.kept hS).moved hW.alike⟩⟩ rfl hna hl.1 rfl (lv_room hc8) hd ⟨hce, hsl⟩) hS (fun q _ h => h) (fun q h => h) (fun r u t H1 locs1 ht hvm hw9 hB hz1 hk1 hS1 => ?_)
  exact h r u hw9 H1 locs1 ls (by show va_P G.1 vwCl (wl G _) _; rw [← ht]; exact hB) hS1 hl
/-- the law's own script -/
def OkX (X : CX) (G : GX) (b L : Nat) (xs : Nat → Int32) : Prop := match X with
  | (p, l, e, R, s, m, args, below, meth, c, nL, cells, slots, Q) => va_X b L xs s s.heap ∧ b < s.heap.size ∧ ¬ G.2.2.2.1 b
theorem J.xld {X : CX} {G : GX} {cc : ByteArray} {n lev pc q : Nat} {own : String} {M : Mem} {lv : List (Nat × Value)} {st : List Value} {b L : Nat} {xs : Nat → Int32} {i : Int32} (O : Ok X G cc n own lev) (hd : decode cc pc = .ok (.iaload, 1)) (hq : pc + 1 = q) (OX : OkX X G b L xs) (hi : vp_in i L) (h : J X G M q lv (.int (xs i.toNatClampNeg) :: st)) : J X G M pc lv (.int i :: .ref b :: st) := by
  obtain ⟨p, l, e, R, s, m, args, below, meth, c, nL, cells, slots, Q⟩ := X
  obtain ⟨hx, hb, hml, hnL, hown, hts, hK, hA, hZ, hlev, hlo, hce, hsl⟩ := O
  subst hnL
  subst hq
  intro H locs ls hP hS hl
  exact va_sld hx hb OX.1 OX.2.1 OX.2.2 hS hi hd (h H locs ls hP hS hl)
theorem J.xlen {X : CX} {G : GX} {cc : ByteArray} {n lev pc q : Nat} {own : String} {M : Mem} {lv : List (Nat × Value)} {st : List Value} {b L : Nat} {xs : Nat → Int32} (O : Ok X G cc n own lev) (hd : decode cc pc = .ok (.arraylength, 1)) (hq : pc + 1 = q) (OX : OkX X G b L xs) (h : J X G M q lv (.int (nI L) :: st)) : J X G M pc lv (.ref b :: st) := by
  obtain ⟨p, l, e, R, s, m, args, below, meth, c, nL, cells, slots, Q⟩ := X
  obtain ⟨hx, hb, hml, hnL, hown, hts, hK, hA, hZ, hlev, hlo, hce, hsl⟩ := O
  subst hnL
  subst hq
  intro H locs ls hP hS hl
  exact va_slen hx hb OX.1 OX.2.1 OX.2.2 hS hd (h H locs ls hP hS hl)
theorem vin_lit {i : Int32} {n : Nat} (h : ¬ (i < 0 ∨ n ≤ i.toNatClampNeg)) : vp_in i n := h
theorem tsw_cov (x : Int32) (lo : Int) (n : Nat) (hn : -2147483648 ≤ lo ∧ lo + n < 2147483648) : (x.toInt < lo ∨ lo + n < x.toInt) ∨ ∃ j : Nat, j < n + 1 ∧ x = Int32.ofInt (lo + j) := by
  by_cases h : x.toInt < lo ∨ lo + n < x.toInt
  · exact Or.inl h
  · refine Or.inr ⟨(x.toInt - lo).toNat, by omega, ?_⟩
    rw [show lo + ((x.toInt - lo).toNat : Int) = x.toInt by omega]
    exact (Int32.ofInt_toInt x).symm
/-! loops: the least fixed point, by its steps -/
def lfp {α : Type} (B : (α → Prop) → α → Prop) : Nat → α → Prop
  | 0, _ => False
  | n + 1, a => B (lfp B n) a
def Lp {α : Type} (B : (α → Prop) → α → Prop) (a : α) : Prop := ∃ n, lfp B n a
theorem Lp.elim {α : Type} {B : (α → Prop) → α → Prop} {P : α → Prop} (hB : ∀ (r : α → Prop), (∀ a, r a → P a) → ∀ a, B r a → P a) {a : α} (h : Lp B a) : P a := by
  obtain ⟨n, h⟩ := h
  induction n generalizing a with
  | zero => exact h.elim
  | succ n ih => exact hB _ (fun a' h' => ih h') a h
theorem Lp.of {α : Type} {B : (α → Prop) → α → Prop} (I : α → Prop) (μ : α → Nat) (h : ∀ (a : α) (r : α → Prop), I a → (∀ a', I a' → μ a' < μ a → r a') → B r a) {a : α} (ha : I a) : Lp B a := by
  have key : ∀ n a, I a → μ a < n → lfp B n a := by
    intro n
    induction n with
    | zero => intro a _ h2; exact absurd h2 (Nat.not_lt_zero _)
    | succ n ih => intro a h1 h2; exact h a _ h1 (fun a' h3 h4 => ih a' h3 (by omega))
  exact ⟨μ a + 1, key _ a ha (Nat.lt_succ_self _)⟩
