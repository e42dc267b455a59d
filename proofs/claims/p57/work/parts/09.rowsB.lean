theorem wl_F {G : GX} {M : Mem} {c ci k code : Nat} (hn : NC ≤ nG G) (h : isF c ci k code) : ∃ fs, (wl G M)[c]? = some (ad G c, .inr (ci, fvs G (M c) fs)) ∧ fs[k]? = some code ∧ c < NC ∧ ci < 12 ∧ shp c = (0, ci, fs) := by
  obtain ⟨h1, h2, fs, h3, h4⟩ := h
  refine ⟨fs, ?_, h4, h1, h2, h3⟩
  rw [wl_get G M (Nat.lt_of_lt_of_le h1 hn), h3]
  rfl
theorem wl_I {G : GX} {M : Mem} {c n : Nat} (hn : NC ≤ nG G) (h : arI c n) : (wl G M)[c]? = some (ad G c, .inl (G.2.1 0, n, .inl (M c))) := by
  rw [wl_get G M (Nat.lt_of_lt_of_le h.1 hn), h.2]
  rfl
theorem wl_Z {G : GX} {M : Mem} {c n : Nat} (hn : NC ≤ nG G) (h : arZ c n) : (wl G M)[c]? = some (ad G c, .inl (G.2.1 1, n, .inl (M c))) := by
  rw [wl_get G M (Nat.lt_of_lt_of_le h.1 hn), h.2]
  rfl
theorem wl_B {G : GX} {M : Mem} {c n : Nat} (hn : NC ≤ nG G) (h : arB c n) : (wl G M)[c]? = some (ad G c, .inl (G.2.1 2, n, .inl (M c))) := by
  rw [wl_get G M (Nat.lt_of_lt_of_le h.1 hn), h.2]
  rfl
theorem wl_J {G : GX} {M : Mem} {c n : Nat} (hn : NC ≤ nG G) (h : arJ c n) : (wl G M)[c]? = some (ad G c, .inl (G.2.1 3, n, .inr (.inl (fun j => jnL (M c (2 * j)) (M c (2 * j + 1)))))) := by
  rw [wl_get G M (Nat.lt_of_lt_of_le h.1 hn), h.2]
  rfl
theorem wl_R {G : GX} {M : Mem} {t c n b d : Nat} (hn : NC ≤ nG G) (h : arR t c n b d) : (wl G M)[c]? = some (ad G c, .inl (G.2.1 (t + 4), n, .inr (.inr (.inr (.inr (fun i => some (ad G (b + d * i)))))))) := by
  rw [wl_get G M (Nat.lt_of_lt_of_le h.1 hn), h.2.1]
  rfl
theorem wl_L {G : GX} {M : Mem} {c n : Nat} (h : arL G c n) : (wl G M)[c]? = some (ad G c, .inl (G.2.1 0, n, .inl (M c))) := by
  rw [wl_get G M h.1, h.2]
  rfl
def flN (ci : Nat) : Nat := (clS ci).2.2
theorem nar_z {x : Int32} (h : bz x) : narrow .boolean (.int x) = .int x := by rcases h with rfl | rfl <;> rfl
theorem fit_z {x : Int32} (h : bz x) : fits .boolean (.int x) = true := by rcases h with rfl | rfl <;> rfl
theorem vnar_z {x : Int32} (h : bz x) : vp_nar .boolean x = x := by rcases h with rfl | rfl <;> rfl

theorem J.getI {X : CX} {G : GX} {cc : ByteArray} {n lev pc q : Nat} {own : String} {M : Mem} {lv : List (Nat × Value)} {st : List Value} {c' ci k ix : Nat} (v9 : Int32) (hv9 : M c' k = v9) (O : Ok X G cc n own lev) (hd : decode cc pc = .ok (.getfield ix, 3)) (hq : pc + 3 = q) (hw : Cond.fieldLink own ix (fl ci k).1 (fl ci k).2.1 (fl ci k).2.2.1 ∈ TW) (hk : k < flN ci) (hf : isF c' ci k 0) (h : J X G M q lv (.int v9 :: st)) : J X G M pc lv (.ref (ad G c') :: st) := by
  obtain ⟨p, l, e, R, s, m, args, below, meth, c, nL, cells, slots, Q⟩ := X
  obtain ⟨hx, hb, hml, hnL, hown, hts, hK, hA, hZ, hlev, hlo, hce, hsl⟩ := O
  subst hnL
  subst hq
  intro H locs ls hsz hP hS hl
  subst hv9
  obtain ⟨fs, e1, e2, e3, e4, e5⟩ := wl_F (G := G) (M := M) hA.1 hf
  exact va_get hx hb hts (inU e4) hown hK hP c' e1 (clS_get e4) k hk (hts _ hw) (fun _ h9 => h9) (fvs_get G _ e2) hd (h H locs ls hsz hP hS hl)
theorem J.getR {X : CX} {G : GX} {cc : ByteArray} {n lev pc q : Nat} {own : String} {M : Mem} {lv : List (Nat × Value)} {st : List Value} {c' ci k ix r : Nat} (O : Ok X G cc n own lev) (hd : decode cc pc = .ok (.getfield ix, 3)) (hq : pc + 3 = q) (hw : Cond.fieldLink own ix (fl ci k).1 (fl ci k).2.1 (fl ci k).2.2.1 ∈ TW) (hk : k < flN ci) (hf : isF c' ci k (r + 2)) (h : J X G M q lv (.ref (ad G r) :: st)) : J X G M pc lv (.ref (ad G c') :: st) := by
  obtain ⟨p, l, e, R, s, m, args, below, meth, c, nL, cells, slots, Q⟩ := X
  obtain ⟨hx, hb, hml, hnL, hown, hts, hK, hA, hZ, hlev, hlo, hce, hsl⟩ := O
  subst hnL
  subst hq
  intro H locs ls hsz hP hS hl
  obtain ⟨fs, e1, e2, e3, e4, e5⟩ := wl_F (G := G) (M := M) hA.1 hf
  exact va_get hx hb hts (inU e4) hown hK hP c' e1 (clS_get e4) k hk (hts _ hw) (fun _ h9 => h9) (fvs_get G _ e2) hd (h H locs ls hsz hP hS hl)
theorem J.getV {X : CX} {G : GX} {cc : ByteArray} {n lev pc q : Nat} {own : String} {M : Mem} {lv : List (Nat × Value)} {st : List Value} {c' ci k ix : Nat} (O : Ok X G cc n own lev) (hd : decode cc pc = .ok (.getfield ix, 3)) (hq : pc + 3 = q) (hw : Cond.fieldLink own ix (fl ci k).1 (fl ci k).2.1 (fl ci k).2.2.1 ∈ TW) (hk : k < flN ci) (hf : isF c' ci k 1) (h : J X G M q lv (.ref (ad G (M c' k).toNatClampNeg) :: st)) : J X G M pc lv (.ref (ad G c') :: st) := by
  obtain ⟨p, l, e, R, s, m, args, below, meth, c, nL, cells, slots, Q⟩ := X
  obtain ⟨hx, hb, hml, hnL, hown, hts, hK, hA, hZ, hlev, hlo, hce, hsl⟩ := O
  subst hnL
  subst hq
  intro H locs ls hsz hP hS hl
  obtain ⟨fs, e1, e2, e3, e4, e5⟩ := wl_F (G := G) (M := M) hA.1 hf
  exact va_get hx hb hts (inU e4) hown hK hP c' e1 (clS_get e4) k hk (hts _ hw) (fun _ h9 => h9) (fvs_get G _ e2) hd (h H locs ls hsz hP hS hl)
/-- a field that is not final is written: the heap's size stays -/
theorem J.putG {X : CX} {G : GX} {cc : ByteArray} {n lev pc q : Nat} {own : String} {M : Mem} {lv : List (Nat × Value)} {st : List Value} {c' ci k ix code : Nat} {x : Int32} {v : Value} (O : Ok X G cc n own lev) (hd : decode cc pc = .ok (.putfield ix, 3)) (hq : pc + 3 = q) (hw : Cond.fieldLink own ix (fl ci k).1 (fl ci k).2.1 (fl ci k).2.2.1 ∈ TW) (hk : k < flN ci) (hf : isF c' ci k code) (hfin : (fl ci k).2.2.2 = false) (hv : v = fv G x code) (hn : narrow (clTy ci k) v = v) (hfit : fits (clTy ci k) v = true) (h : J X G (mset M c' k x) q lv st) : J X G M pc lv (v :: .ref (ad G c') :: st) := by
  obtain ⟨p, l, e, R, s, m, args, below, meth, c, nL, cells, slots, Q⟩ := X
  obtain ⟨hx, hb, hml, hnL, hown, hts, hK, hA, hZ, hlev, hlo, hce, hsl⟩ := O
  subst hnL
  subst hq
  intro H locs ls hsz hP hS hl
  obtain ⟨fs, e1, e2, e3, e4, e5⟩ := wl_F (G := G) (M := M) hA.1 hf
  have hD := wl_D M hA
  have hll : k < (fvs G (M c') fs).length := by rw [fvs_len]; exact (List.getElem?_eq_some_iff.mp e2).1
  have hap := va_apart (own := own) hts (inU e4) (clTy ci) (clTok e4) (clNm e4) hK (clS_get e4)
  obtain ⟨r0, h1, cell, q1, q2, q3, q4⟩ := hP c' _ e1
  have hr : r0 = clS ci := Option.some.inj (h1.symm.trans (clS_get e4))
  subst hr
  obtain ⟨hS9, hfc, kC, hkC, hkind⟩ := hK.1 ci _ (clS_get e4)
  obtain ⟨cf, kf, fi, fx, hi, hsl9⟩ := hS9 k hk
  have hlay := hts _ (inU e4 _ (u_in_lay hk))
  have hst := (u_facts hfc hkC (u_lays hts (inU e4) hk) hi).1
  unfold u_lay at hlay
  rw [if_neg (show ¬ ((clS ci).2.1 k).2.2.2 = true by rw [show ((clS ci).2.1 k).2.2.2 = false from hfin]; decide)] at hlay
  have h6 := u_store hfc hkC hkind hlay hi (clTok e4 k hk) hn hfit
  refine W.putK hx hb (f := fx) ⟨hown, hts _ hw, ⟨_, _, _, hi⟩, hst⟩ (by rw [q2]; exact h6) q1 q3 (by rw [hsl9]; exact k2_hasslot (q4 k hk)) rfl rfl hd fun H' z1 z2 z3 => ?_
  rw [hsl9] at z1 ⊢
  have hP1 := hP.set hD e1 (show va_at G.1 vwCl (ad G c', .inr (ci, (fvs G (M c') fs).set k v)) H' from ⟨_, clS_get e4, t_OB.to (V := updV (vp_V (fvs G (M c') fs)) k v) ⟨_, z1, q2, q3, t_set q4 hap hk v⟩ (fun j _ => vp_updV_set hll v j)⟩) z3
  rw [wl_set G M x (by rw [e5]; exact congrArg (fun z => Sum.inr (ci, z)) (fvs_set G (M c') x e2 _ hv))] at hP1
  exact h H' _ ls (z2.trans hsz) hP1 (hS.put z2 z3 (hD.2 c' _ e1)) hl
theorem J.putI {X : CX} {G : GX} {cc : ByteArray} {n lev pc q : Nat} {own : String} {M : Mem} {lv : List (Nat × Value)} {st : List Value} {c' ci k ix : Nat} {x : Int32} (O : Ok X G cc n own lev) (hd : decode cc pc = .ok (.putfield ix, 3)) (hq : pc + 3 = q) (hw : Cond.fieldLink own ix (fl ci k).1 (fl ci k).2.1 (fl ci k).2.2.1 ∈ TW) (hk : k < flN ci) (hf : isF c' ci k 0) (hfin : (fl ci k).2.2.2 = false) (hty : clTy ci k = .int) (h : J X G (mset M c' k x) q lv st) : J X G M pc lv (.int x :: .ref (ad G c') :: st) := by
  exact J.putG (code := 0) (v := .int x) O hd hq hw hk hf hfin rfl (by rw [hty]; rfl) (by rw [hty]; rfl) h
theorem J.putZ {X : CX} {G : GX} {cc : ByteArray} {n lev pc q : Nat} {own : String} {M : Mem} {lv : List (Nat × Value)} {st : List Value} {c' ci k ix : Nat} {x : Int32} (O : Ok X G cc n own lev) (hd : decode cc pc = .ok (.putfield ix, 3)) (hq : pc + 3 = q) (hw : Cond.fieldLink own ix (fl ci k).1 (fl ci k).2.1 (fl ci k).2.2.1 ∈ TW) (hk : k < flN ci) (hf : isF c' ci k 0) (hfin : (fl ci k).2.2.2 = false) (hty : clTy ci k = .boolean) (hz : bz x) (h : J X G (mset M c' k x) q lv st) : J X G M pc lv (.int x :: .ref (ad G c') :: st) := by
  exact J.putG (code := 0) (v := .int x) O hd hq hw hk hf hfin rfl (by rw [hty]; exact nar_z hz) (by rw [hty]; exact fit_z hz) h
theorem J.putV {X : CX} {G : GX} {cc : ByteArray} {n lev pc q : Nat} {own : String} {M : Mem} {lv : List (Nat × Value)} {st : List Value} {c' ci k ix r : Nat} (O : Ok X G cc n own lev) (hd : decode cc pc = .ok (.putfield ix, 3)) (hq : pc + 3 = q) (hw : Cond.fieldLink own ix (fl ci k).1 (fl ci k).2.1 (fl ci k).2.2.1 ∈ TW) (hk : k < flN ci) (hf : isF c' ci k 1) (hfin : (fl ci k).2.2.2 = false) (hty : clTy ci k = .array .byte) (hr : r < NC) (h : J X G (mset M c' k (nI r)) q lv st) : J X G M pc lv (.ref (ad G r) :: .ref (ad G c') :: st) := by
  have hrr : (nI r).toNatClampNeg = r := nI_clamp (by unfold NC at hr; omega)
  exact J.putG (code := 1) (v := .ref (ad G r)) O hd hq hw hk hf hfin (by show _ = Value.ref (ad G _); rw [hrr]) (by rw [hty]; rfl) (by rw [hty]; rfl) h
theorem J.iald {X : CX} {G : GX} {cc : ByteArray} {n lev pc q : Nat} {own : String} {M : Mem} {lv : List (Nat × Value)} {st : List Value} {c' w j : Nat} {i : Int32} (v9 : Int32) (hv9 : M c' j = v9) (O : Ok X G cc n own lev) (hd : decode cc pc = .ok (.iaload, 1)) (hq : pc + 1 = q) (ha : arI c' w) (hi : vp_in i w) (hj : i.toNatClampNeg = j) (h : J X G M q lv (.int v9 :: st)) : J X G M pc lv (.int i :: .ref (ad G c') :: st) := by
  obtain ⟨p, l, e, R, s, m, args, below, meth, c, nL, cells, slots, Q⟩ := X
  obtain ⟨hx, hb, hml, hnL, hown, hts, hK, hA, hZ, hlev, hlo, hce, hsl⟩ := O
  subst hnL
  subst hq
  intro H locs ls hsz hP hS hl
  subst hv9
  subst hj
  exact va_iald hx hb hK hP c' 0 (wl_I hA.1 ha) rfl hi hd (h H locs ls hsz hP hS hl)
theorem J.zald {X : CX} {G : GX} {cc : ByteArray} {n lev pc q : Nat} {own : String} {M : Mem} {lv : List (Nat × Value)} {st : List Value} {c' w j : Nat} {i : Int32} (v9 : Int32) (hv9 : M c' j = v9) (O : Ok X G cc n own lev) (hd : decode cc pc = .ok (.baload, 1)) (hq : pc + 1 = q) (ha : arZ c' w) (hi : vp_in i w) (hj : i.toNatClampNeg = j) (h : J X G M q lv (.int v9 :: st)) : J X G M pc lv (.int i :: .ref (ad G c') :: st) := by
  obtain ⟨p, l, e, R, s, m, args, below, meth, c, nL, cells, slots, Q⟩ := X
  obtain ⟨hx, hb, hml, hnL, hown, hts, hK, hA, hZ, hlev, hlo, hce, hsl⟩ := O
  subst hnL
  subst hq
  intro H locs ls hsz hP hS hl
  subst hv9
  subst hj
  exact va_zald hx hb hK hP c' 1 (wl_Z hA.1 ha) rfl hi hd (h H locs ls hsz hP hS hl)
theorem J.bald {X : CX} {G : GX} {cc : ByteArray} {n lev pc q : Nat} {own : String} {M : Mem} {lv : List (Nat × Value)} {st : List Value} {c' w j : Nat} {i : Int32} (v9 : Int32) (hv9 : M c' j = v9) (O : Ok X G cc n own lev) (hd : decode cc pc = .ok (.baload, 1)) (hq : pc + 1 = q) (ha : arB c' w) (hi : vp_in i w) (hj : i.toNatClampNeg = j) (h : J X G M q lv (.int v9 :: st)) : J X G M pc lv (.int i :: .ref (ad G c') :: st) := by
  obtain ⟨p, l, e, R, s, m, args, below, meth, c, nL, cells, slots, Q⟩ := X
  obtain ⟨hx, hb, hml, hnL, hown, hts, hK, hA, hZ, hlev, hlo, hce, hsl⟩ := O
  subst hnL
  subst hq
  intro H locs ls hsz hP hS hl
  subst hv9
  subst hj
  exact va_bald hx hb hK hP c' 2 (wl_B hA.1 ha) rfl hi hd (h H locs ls hsz hP hS hl)
theorem J.iast {X : CX} {G : GX} {cc : ByteArray} {n lev pc q : Nat} {own : String} {M : Mem} {lv : List (Nat × Value)} {st : List Value} {c' w j : Nat} {i x : Int32} (O : Ok X G cc n own lev) (hd : decode cc pc = .ok (.iastore, 1)) (hq : pc + 1 = q) (ha : arI c' w) (hi : vp_in i w) (hj : i.toNatClampNeg = j) (h : J X G (mset M c' j x) q lv st) : J X G M pc lv (.int x :: .int i :: .ref (ad G c') :: st) := by
  obtain ⟨p, l, e, R, s, m, args, below, meth, c, nL, cells, slots, Q⟩ := X
  obtain ⟨hx, hb, hml, hnL, hown, hts, hK, hA, hZ, hlev, hlo, hce, hsl⟩ := O
  subst hnL
  subst hq
  intro H locs ls hsz hP hS hl
  subst hj
  have hD := wl_D M hA
  have ha1 := wl_I (G := G) (M := M) hA.1 ha
  refine W.iast hx hb (hP c' _ ha1) ((hK.2 0 _ rfl).1 w (fun j => .int (M c' j))) (fun q => by cases q) (by show ¬ (i < 0 ∨ (arrV _ _ _).slots.size ≤ _); rw [arrV_size]; exact hi) rfl rfl hd fun H1 z1 z2 z3 => ?_
  have hP1 := hP.set hD (e := .inl (G.2.1 0, w, .inl (upd (M c') i.toNatClampNeg x))) ha1 (by
    show H1[ad G c']? = some (arrV (G.2.1 0) w (fun j => .int (upd (M c') i.toNatClampNeg x j)))
    rw [z1, vp_cell_i, arrV_store]
    refine congrArg some (congrArg (arrV _ w) (funext fun j => ?_))
    unfold updV upd
    by_cases hj : j = i.toNatClampNeg
    · rw [if_pos hj, if_pos hj]
    · rw [if_neg hj, if_neg hj]) z3
  rw [wl_set G M x (by rw [ha.2]; rfl)] at hP1
  exact h H1 _ ls (z2.trans hsz) hP1 (hS.put z2 z3 (hD.2 c' _ ha1)) hl
theorem J.zast {X : CX} {G : GX} {cc : ByteArray} {n lev pc q : Nat} {own : String} {M : Mem} {lv : List (Nat × Value)} {st : List Value} {c' w j : Nat} {i x : Int32} (O : Ok X G cc n own lev) (hd : decode cc pc = .ok (.bastore, 1)) (hq : pc + 1 = q) (ha : arZ c' w) (hi : vp_in i w) (hj : i.toNatClampNeg = j) (hz : bz x) (h : J X G (mset M c' j x) q lv st) : J X G M pc lv (.int x :: .int i :: .ref (ad G c') :: st) := by
  obtain ⟨p, l, e, R, s, m, args, below, meth, c, nL, cells, slots, Q⟩ := X
  obtain ⟨hx, hb, hml, hnL, hown, hts, hK, hA, hZ, hlev, hlo, hce, hsl⟩ := O
  subst hnL
  subst hq
  have hz0 := hz
  intro H locs ls hsz hP hS hl
  subst hj
  have hD := wl_D M hA
  have ha1 := wl_Z (G := G) (M := M) hA.1 ha
  refine W.zast hx hb (hP c' _ ha1) ((hK.2 1 _ rfl).1 w (fun j => .int (M c' j))) (fun q => by cases q) (by show ¬ (i < 0 ∨ (arrV _ _ _).slots.size ≤ _); rw [arrV_size]; exact hi) rfl rfl hd fun H1 z1 z2 z3 => ?_
  have hP1 := hP.set hD (e := .inl (G.2.1 1, w, .inl (upd (M c') i.toNatClampNeg x))) ha1 (by
    show H1[ad G c']? = some (arrV (G.2.1 1) w (fun j => .int (upd (M c') i.toNatClampNeg x j)))
    rw [z1, vp_cell_i, arrV_store]
    refine congrArg some (congrArg (arrV _ w) (funext fun j => ?_))
    unfold updV upd
    by_cases hj : j = i.toNatClampNeg
    · rw [if_pos hj, if_pos hj]
      rcases hz0 with rfl | rfl <;> rfl
    · rw [if_neg hj, if_neg hj]) z3
  rw [wl_set G M x (by rw [ha.2]; rfl)] at hP1
  exact h H1 _ ls (z2.trans hsz) hP1 (hS.put z2 z3 (hD.2 c' _ ha1)) hl
theorem J.bast {X : CX} {G : GX} {cc : ByteArray} {n lev pc q : Nat} {own : String} {M : Mem} {lv : List (Nat × Value)} {st : List Value} {c' w j : Nat} {i x : Int32} (O : Ok X G cc n own lev) (hd : decode cc pc = .ok (.bastore, 1)) (hq : pc + 1 = q) (ha : arB c' w) (hi : vp_in i w) (hj : i.toNatClampNeg = j) (h : J X G (mset M c' j (vp_nar .byte x)) q lv st) : J X G M pc lv (.int x :: .int i :: .ref (ad G c') :: st) := by
  obtain ⟨p, l, e, R, s, m, args, below, meth, c, nL, cells, slots, Q⟩ := X
  obtain ⟨hx, hb, hml, hnL, hown, hts, hK, hA, hZ, hlev, hlo, hce, hsl⟩ := O
  subst hnL
  subst hq
  intro H locs ls hsz hP hS hl
  subst hj
  have hD := wl_D M hA
  have ha1 := wl_B (G := G) (M := M) hA.1 ha
  refine W.bast hx hb (hP c' _ ha1) ((hK.2 2 _ rfl).1 w (fun j => .int (M c' j))) (fun q => by cases q) (by show ¬ (i < 0 ∨ (arrV _ _ _).slots.size ≤ _); rw [arrV_size]; exact hi) rfl rfl hd fun H1 z1 z2 z3 => ?_
  have hP1 := hP.set hD (e := .inl (G.2.1 2, w, .inl (upd (M c') i.toNatClampNeg (vp_nar .byte x)))) ha1 (by
    show H1[ad G c']? = some (arrV (G.2.1 2) w (fun j => .int (upd (M c') i.toNatClampNeg (vp_nar .byte x) j)))
    rw [z1, vp_cell_i, arrV_store]
    refine congrArg some (congrArg (arrV _ w) (funext fun j => ?_))
    unfold updV upd
    by_cases hj : j = i.toNatClampNeg
    · rw [if_pos hj, if_pos hj]
      rfl
    · rw [if_neg hj, if_neg hj]) z3
  rw [wl_set G M (vp_nar .byte x) (by rw [ha.2]; rfl)] at hP1
  exact h H1 _ ls (z2.trans hsz) hP1 (hS.put z2 z3 (hD.2 c' _ ha1)) hl
theorem J.ialdL {X : CX} {G : GX} {cc : ByteArray} {n lev pc q : Nat} {own : String} {M : Mem} {lv : List (Nat × Value)} {st : List Value} {c' w j : Nat} {i : Int32} (v9 : Int32) (hv9 : M c' j = v9) (O : Ok X G cc n own lev) (hd : decode cc pc = .ok (.iaload, 1)) (hq : pc + 1 = q) (ha : arL G c' w) (hi : vp_in i w) (hj : i.toNatClampNeg = j) (h : J X G M q lv (.int v9 :: st)) : J X G M pc lv (.int i :: .ref (ad G c') :: st) := by
  obtain ⟨p, l, e, R, s, m, args, below, meth, c, nL, cells, slots, Q⟩ := X
  obtain ⟨hx, hb, hml, hnL, hown, hts, hK, hA, hZ, hlev, hlo, hce, hsl⟩ := O
  subst hnL
  subst hq
  intro H locs ls hsz hP hS hl
  subst hv9
  subst hj
  exact va_iald hx hb hK hP c' 0 (wl_L ha) rfl hi hd (h H locs ls hsz hP hS hl)
theorem J.iastL {X : CX} {G : GX} {cc : ByteArray} {n lev pc q : Nat} {own : String} {M : Mem} {lv : List (Nat × Value)} {st : List Value} {c' w j : Nat} {i x : Int32} (O : Ok X G cc n own lev) (hd : decode cc pc = .ok (.iastore, 1)) (hq : pc + 1 = q) (ha : arL G c' w) (hi : vp_in i w) (hj : i.toNatClampNeg = j) (h : J X G (mset M c' j x) q lv st) : J X G M pc lv (.int x :: .int i :: .ref (ad G c') :: st) := by
  obtain ⟨p, l, e, R, s, m, args, below, meth, c, nL, cells, slots, Q⟩ := X
  obtain ⟨hx, hb, hml, hnL, hown, hts, hK, hA, hZ, hlev, hlo, hce, hsl⟩ := O
  subst hnL
  subst hq
  intro H locs ls hsz hP hS hl
  subst hj
  have hD := wl_D M hA
  have ha1 := wl_L (G := G) (M := M) ha
  refine W.iast hx hb (hP c' _ ha1) ((hK.2 0 _ rfl).1 w (fun j => .int (M c' j))) (fun q => by cases q) (by show ¬ (i < 0 ∨ (arrV _ _ _).slots.size ≤ _); rw [arrV_size]; exact hi) rfl rfl hd fun H1 z1 z2 z3 => ?_
  have hP1 := hP.set hD (e := .inl (G.2.1 0, w, .inl (upd (M c') i.toNatClampNeg x))) ha1 (by
    show H1[ad G c']? = some (arrV (G.2.1 0) w (fun j => .int (upd (M c') i.toNatClampNeg x j)))
    rw [z1, vp_cell_i, arrV_store]
    refine congrArg some (congrArg (arrV _ w) (funext fun j => ?_))
    unfold updV upd
    by_cases hj : j = i.toNatClampNeg
    · rw [if_pos hj, if_pos hj]
    · rw [if_neg hj, if_neg hj]) z3
  rw [wl_set G M x (by rw [ha.2]; rfl)] at hP1
  exact h H1 _ ls (z2.trans hsz) hP1 (hS.put z2 z3 (hD.2 c' _ ha1)) hl
theorem J.aald {X : CX} {G : GX} {cc : ByteArray} {n lev pc q : Nat} {own : String} {M : Mem} {lv : List (Nat × Value)} {st : List Value} {t c' w b d : Nat} {i : Int32} (O : Ok X G cc n own lev) (hd : decode cc pc = .ok (.aaload, 1)) (hq : pc + 1 = q) (ha : arR t c' w b d) (hi : vp_in i w) (h : J X G M q lv (.ref (ad G (b + d * i.toNatClampNeg)) :: st)) : J X G M pc lv (.int i :: .ref (ad G c') :: st) := by
  obtain ⟨p, l, e, R, s, m, args, below, meth, c, nL, cells, slots, Q⟩ := X
  obtain ⟨hx, hb, hml, hnL, hown, hts, hK, hA, hZ, hlev, hlo, hce, hsl⟩ := O
  subst hnL
  subst hq
  intro H locs ls hsz hP hS hl
  have hlt : i.toNatClampNeg < w := Nat.not_le.mp fun q => hi (Or.inr q)
  have ht : ∃ ty : FieldType, (tysL G)[t + 4]? = some (G.2.1 (t + 4), ty) ∧ ty.isReference = true := by
    obtain ⟨_, _, h3⟩ := ha
    match t, h3 with
    | 0, _ => exact ⟨_, rfl, rfl⟩
    | 1, _ => exact ⟨_, rfl, rfl⟩
    | 2, _ => exact ⟨_, rfl, rfl⟩
  obtain ⟨ty, ht, hrt⟩ := ht
  exact W.aald (v := .ref (ad G (b + d * i.toNatClampNeg))) (ty := ty) hx hb (hP c' _ (wl_R hA.1 ha)) ((hK.2 (t + 4) _ ht).1 w (fun j => va_rf (some (ad G (b + d * j))))) hrt (fun q => by cases q) (by show ¬ (i < 0 ∨ (arrV _ _ _).slots.size ≤ _); rw [arrV_size]; exact hi) (by show (arrV _ _ _).slots[_]? = _; rw [arrV_read _ _ hlt]; rfl) rfl rfl hd (h H locs ls hsz hP hS hl)
theorem J.alenI {X : CX} {G : GX} {cc : ByteArray} {n lev pc q : Nat} {own : String} {M : Mem} {lv : List (Nat × Value)} {st : List Value} {c' w : Nat} (O : Ok X G cc n own lev) (hd : decode cc pc = .ok (.arraylength, 1)) (hq : pc + 1 = q) (ha : arI c' w) (h : J X G M q lv (.int (nI w) :: st)) : J X G M pc lv (.ref (ad G c') :: st) := by
  obtain ⟨p, l, e, R, s, m, args, below, meth, c, nL, cells, slots, Q⟩ := X
  obtain ⟨hx, hb, hml, hnL, hown, hts, hK, hA, hZ, hlev, hlo, hce, hsl⟩ := O
  subst hnL
  subst hq
  intro H locs ls hsz hP hS hl
  exact va_alen hx hb hK hP c' 0 (wl_I hA.1 ha) rfl rfl hd (h H locs ls hsz hP hS hl)
theorem J.alenZ {X : CX} {G : GX} {cc : ByteArray} {n lev pc q : Nat} {own : String} {M : Mem} {lv : List (Nat × Value)} {st : List Value} {c' w : Nat} (O : Ok X G cc n own lev) (hd : decode cc pc = .ok (.arraylength, 1)) (hq : pc + 1 = q) (ha : arZ c' w) (h : J X G M q lv (.int (nI w) :: st)) : J X G M pc lv (.ref (ad G c') :: st) := by
  obtain ⟨p, l, e, R, s, m, args, below, meth, c, nL, cells, slots, Q⟩ := X
  obtain ⟨hx, hb, hml, hnL, hown, hts, hK, hA, hZ, hlev, hlo, hce, hsl⟩ := O
  subst hnL
  subst hq
  intro H locs ls hsz hP hS hl
  exact va_alen hx hb hK hP c' 1 (wl_Z hA.1 ha) rfl rfl hd (h H locs ls hsz hP hS hl)
theorem J.alenB {X : CX} {G : GX} {cc : ByteArray} {n lev pc q : Nat} {own : String} {M : Mem} {lv : List (Nat × Value)} {st : List Value} {c' w : Nat} (O : Ok X G cc n own lev) (hd : decode cc pc = .ok (.arraylength, 1)) (hq : pc + 1 = q) (ha : arB c' w) (h : J X G M q lv (.int (nI w) :: st)) : J X G M pc lv (.ref (ad G c') :: st) := by
  obtain ⟨p, l, e, R, s, m, args, below, meth, c, nL, cells, slots, Q⟩ := X
  obtain ⟨hx, hb, hml, hnL, hown, hts, hK, hA, hZ, hlev, hlo, hce, hsl⟩ := O
  subst hnL
  subst hq
  intro H locs ls hsz hP hS hl
  exact va_alen hx hb hK hP c' 2 (wl_B hA.1 ha) rfl rfl hd (h H locs ls hsz hP hS hl)
theorem J.gets {X : CX} {G : GX} {cc : ByteArray} {n lev pc q : Nat} {own : String} {M : Mem} {lv : List (Nat × Value)} {st : List Value} {ix : Nat} (O : Ok X G cc n own lev) (hd : decode cc pc = .ok (.getstatic ix, 3)) (hq : pc + 3 = q) (hw : Cond.fieldLink own ix "WorksCouncil" "MOST_OF_TERM" "[I" ∈ TW) (h : J X G M q lv (.ref (stA G) :: st)) : J X G M pc lv st := by
  obtain ⟨p, l, e, R, s, m, args, below, meth, c, nL, cells, slots, Q⟩ := X
  obtain ⟨hx, hb, hml, hnL, hown, hts, hK, hA, hZ, hlev, hlo, hce, hsl⟩ := O
  subst hnL
  subst hq
  intro H locs ls hsz hP hS hl
  exact va_gets hx hb hZ.1.1 hS hown (hts _ hw) (fun _ h9 => h9) hd (h H locs ls hsz hP hS hl)
theorem J.sald {X : CX} {G : GX} {cc : ByteArray} {n lev pc q : Nat} {own : String} {M : Mem} {lv : List (Nat × Value)} {st : List Value} {i : Int32} (O : Ok X G cc n own lev) (hd : decode cc pc = .ok (.iaload, 1)) (hq : pc + 1 = q) (hi : vp_in i 3) (h : J X G M q lv (.int (sv 0 i.toNatClampNeg) :: st)) : J X G M pc lv (.int i :: .ref (stA G) :: st) := by
  obtain ⟨p, l, e, R, s, m, args, below, meth, c, nL, cells, slots, Q⟩ := X
  obtain ⟨hx, hb, hml, hnL, hown, hts, hK, hA, hZ, hlev, hlo, hce, hsl⟩ := O
  subst hnL
  subst hq
  intro H locs ls hsz hP hS hl
  exact va_sld hx hb hZ.1.2.1 hZ.1.2.2.2 hZ.1.2.2.1 hS hi hd (h H locs ls hsz hP hS hl)
theorem J.mmax {X : CX} {G : GX} {cc : ByteArray} {n lev pc q : Nat} {own : String} {M : Mem} {lv : List (Nat × Value)} {st : List Value} {ix : Nat} {x y : Int32} (O : Ok X G cc n own lev) (hd : decode cc pc = .ok (.invokestatic ix, 3)) (hq : pc + 3 = q) (hw : Cond.methodLink own ix Lib.Math.max.name ∈ TW) (hlv : 1 ≤ lev) (hst : (st.map fun v => v.category).sum ≤ 8) (h : J X G M q lv (.int (if x < y then y else x) :: st)) : J X G M pc lv (.int y :: .int x :: st) := by
  obtain ⟨p, l, e, R, s, m, args, below, meth, c, nL, cells, slots, Q⟩ := X
  obtain ⟨hx, hb, hml, hnL, hown, hts, hK, hA, hZ, hlev, hlo, hce, hsl⟩ := O
  subst hnL
  subst hq
  intro H locs ls hsz hP hS hl
  exact va_mmax hx hb (hml.trans hl.1.symm) hown (hts _ hw) (hts _ md_max.1) (hts _ md_max.2.1) (hts _ md_max.2.2) (by omega) (by omega) hce hsl hd (h H locs ls hsz hP hS hl)
theorem J.mmin {X : CX} {G : GX} {cc : ByteArray} {n lev pc q : Nat} {own : String} {M : Mem} {lv : List (Nat × Value)} {st : List Value} {ix : Nat} {x y : Int32} (O : Ok X G cc n own lev) (hd : decode cc pc = .ok (.invokestatic ix, 3)) (hq : pc + 3 = q) (hw : Cond.methodLink own ix Lib.Math.min.name ∈ TW) (hlv : 1 ≤ lev) (hst : (st.map fun v => v.category).sum ≤ 8) (h : J X G M q lv (.int (if y < x then y else x) :: st)) : J X G M pc lv (.int y :: .int x :: st) := by
  obtain ⟨p, l, e, R, s, m, args, below, meth, c, nL, cells, slots, Q⟩ := X
  obtain ⟨hx, hb, hml, hnL, hown, hts, hK, hA, hZ, hlev, hlo, hce, hsl⟩ := O
  subst hnL
  subst hq
  intro H locs ls hsz hP hS hl
  exact va_mmin hx hb (hml.trans hl.1.symm) hown (hts _ hw) (hts _ md_min.1) (hts _ md_min.2.1) (hts _ md_min.2.2) (by omega) (by omega) hce hsl hd (h H locs ls hsz hP hS hl)
def PreW (G : GX) (M : Mem) (U : State) : Prop := U.heap.size = ad G (nG G) ∧ va_P G.1 vwCl (wl G M) U.heap ∧ va_K G.1 vwCl (tysL G) U ∧ Sts G U U.heap
def rmL (lev : Nat) : Room := { frames := lev, cells := 0, slots := 0, locals := 41 * lev }
/-- a method's contract: an int comes back, and K holds of it and of the memory behind it -/
def CI (l : Launch) (G : GX) (y : MethodName) (b : ByteArray) (nL : Nat) (ret : Option FieldType) (lev : Nat) (As : List Value) (M : Mem) (K : Int32 → Mem → Prop) : Prop :=
  Met l y (.code y b nL ret :: TW) (rmL lev) (va_Pc As (PreW G M)) (va_Qi K (fun M' t => t.heap.size = ad G (nG G) ∧ va_P G.1 vwCl (wl G M') t.heap) G.2.2.2.1) 0 0 G.2.2.2.1
def CV (l : Launch) (G : GX) (y : MethodName) (b : ByteArray) (nL : Nat) (lev : Nat) (As : List Value) (M : Mem) (K : Mem → Prop) : Prop :=
  Met l y (.code y b nL none :: TW) (rmL lev) (va_Pc As (PreW G M)) (va_Qv K (fun M' t => t.heap.size = ad G (nG G) ∧ va_P G.1 vwCl (wl G M') t.heap) G.2.2.2.1) 0 0 G.2.2.2.1
theorem Sts.moved {G : GX} {u U : State} {H : Heap} (hvm : u.vm.Alike U.vm) (h : Sts G u H) : Sts G U H := ⟨⟨h.1.1.moved hvm, h.1.2.1.moved hvm, h.1.2.2⟩, h.2.1.moved hvm, h.2.2⟩
theorem Sts.kept {G : GX} {u : State} {H H1 : Heap} {locs : List Loc} (h : Sts G u H) (hS : va_S G.2.2.2.1 H H1 locs) : Sts G u H1 :=
  ⟨⟨h.1.1.kept (fun a h1 h2 => hS.2.1 a h1 h2), h.1.2.1.kept (hS.2.1 _ h.1.2.2.2 h.1.2.2.1), h.1.2.2.1, Nat.lt_of_lt_of_le h.1.2.2.2 hS.1⟩, h.2.1.kept (hS.2.1 _ h.2.2.2 h.2.2.1), h.2.2.1, Nat.lt_of_lt_of_le h.2.2.2 hS.1⟩
theorem PreW.blind {G : GX} {M : Mem} {As : List Value} : FrameBlind (va_Pc As (PreW G M)) := fun a U g mk q => by
  obtain ⟨q0, qz, qP, qK, qZ⟩ := q
  exact ⟨q0, qz, qP, va_K.moved (u := U) (U := U.calling g mk a) (Vm.Alike.refl U.vm) qK, Sts.moved (u := U) (U := U.calling g mk a) (Vm.Alike.refl U.vm) qZ⟩
def RetI (X : CX) (G : GX) (cc : ByteArray) (K : Int32 → Mem → Prop) : Prop := ∀ (r : Int32) (M' : Mem) (pc : Nat) (lv : List (Nat × Value)), decode cc pc = .ok (.ireturn, 1) → K r M' → J X G M' pc lv [.int r]
def RetZ (X : CX) (G : GX) (cc : ByteArray) (K : Int32 → Mem → Prop) : Prop := ∀ (r : Int32) (M' : Mem) (pc : Nat) (lv : List (Nat × Value)), decode cc pc = .ok (.ireturn, 1) → bz r → K r M' → J X G M' pc lv [.int r]
def RetV (X : CX) (G : GX) (cc : ByteArray) (K : Mem → Prop) : Prop := ∀ (M' : Mem) (pc : Nat) (lv : List (Nat × Value)), decode cc pc = .ok (.return_, 1) → K M' → J X G M' pc lv []
def lX (X : CX) : Launch := X.2.1
theorem CI.mk {l : Launch} {G : GX} {y : MethodName} {b : ByteArray} {nL lev : Nat} {As : List Value} {M : Mem} {K : Int32 → Mem → Prop} (hG : Gd G) (hy : plainName y.cls = true) (lv : List (Nat × Value)) (hlv : lv_args 0 As = lv) (hn : (lg_sl As).length ≤ nL)
    (h : ∀ X : CX, Ok X G b nL y.cls lev → lX X = l → RetI X G b K → J X G M 0 lv []) : CI l G y b nL (some .int) lev As M K := by
  refine Met.ofW (cc := b) (maxL := nL) (ret := (some .int)) hy rfl ?_
  intro p e s m args below meth c s₁ B hml hv
  obtain ⟨rfl, hsz, hP, hK, hZ⟩ := hv
  have hx := B.exec
  have hb := B.bytes
  have hr := B.returns
  have hts := atoms_spec (ws := .code y b nL (some .int) :: TW) B.pre
  have hown : s.vm.findClass y.cls = some m.cls := findClass_of_methodNamed B.named
  have hlocks := B.notSynchronized
  have hl := lv_entry As (n := nL) hn
  rw [lg_entry_eq]
  rw [hlv] at hl
  refine h (p, l, e, rmL lev, s, m, As.toArray, below, meth, c, nL, 0, 0, _) ?_ rfl ?_ s.heap [] _ hsz hP va_S.rf hl
  · exact ⟨hx, hb, hml, rfl, hown, fun w hw => hts w (List.mem_cons_of_mem _ hw), hK, hG, hZ, Nat.le_refl _, Nat.le_refl _, Nat.zero_le _, Nat.zero_le _⟩
  · intro r M2 pc lv hd hK2 H locs ls hsz hP hS hl
    exact W.iret hx hb hr (fun t ht hW => ⟨⟨r, M2, rfl, hK2, by show t.heap.size = _; rw [ht]; exact hsz, by show va_P G.1 vwCl (wl G M2) t.heap; rw [ht]; exact hP⟩, hS.F ht⟩) hS.2.2 hd hlocks
theorem CZ.mk {l : Launch} {G : GX} {y : MethodName} {b : ByteArray} {nL lev : Nat} {As : List Value} {M : Mem} {K : Int32 → Mem → Prop} (hG : Gd G) (hy : plainName y.cls = true) (lv : List (Nat × Value)) (hlv : lv_args 0 As = lv) (hn : (lg_sl As).length ≤ nL)
    (h : ∀ X : CX, Ok X G b nL y.cls lev → lX X = l → RetZ X G b K → J X G M 0 lv []) : CI l G y b nL (some .boolean) lev As M K := by
  refine Met.ofW (cc := b) (maxL := nL) (ret := (some .boolean)) hy rfl ?_
  intro p e s m args below meth c s₁ B hml hv
  obtain ⟨rfl, hsz, hP, hK, hZ⟩ := hv
  have hx := B.exec
  have hb := B.bytes
  have hr := B.returns
  have hts := atoms_spec (ws := .code y b nL (some .boolean) :: TW) B.pre
  have hown : s.vm.findClass y.cls = some m.cls := findClass_of_methodNamed B.named
  have hlocks := B.notSynchronized
  have hl := lv_entry As (n := nL) hn
  rw [lg_entry_eq]
  rw [hlv] at hl
  refine h (p, l, e, rmL lev, s, m, As.toArray, below, meth, c, nL, 0, 0, _) ?_ rfl ?_ s.heap [] _ hsz hP va_S.rf hl
  · exact ⟨hx, hb, hml, rfl, hown, fun w hw => hts w (List.mem_cons_of_mem _ hw), hK, hG, hZ, Nat.le_refl _, Nat.le_refl _, Nat.zero_le _, Nat.zero_le _⟩
  · intro r M2 pc lv hd hzb hK2 H locs ls hsz hP hS hl
    exact W.zret hx hb hr (nar_z hzb) (fun t ht hW => ⟨⟨r, M2, rfl, hK2, by show t.heap.size = _; rw [ht]; exact hsz, by show va_P G.1 vwCl (wl G M2) t.heap; rw [ht]; exact hP⟩, hS.F ht⟩) hS.2.2 hd hlocks
theorem CV.mk {l : Launch} {G : GX} {y : MethodName} {b : ByteArray} {nL lev : Nat} {As : List Value} {M : Mem} {K : Mem → Prop} (hG : Gd G) (hy : plainName y.cls = true) (lv : List (Nat × Value)) (hlv : lv_args 0 As = lv) (hn : (lg_sl As).length ≤ nL)
    (h : ∀ X : CX, Ok X G b nL y.cls lev → lX X = l → RetV X G b K → J X G M 0 lv []) : CV l G y b nL lev As M K := by
  refine Met.ofW (cc := b) (maxL := nL) (ret := none) hy rfl ?_
  intro p e s m args below meth c s₁ B hml hv
  obtain ⟨rfl, hsz, hP, hK, hZ⟩ := hv
  have hx := B.exec
  have hb := B.bytes
  have hr := B.returns
  have hts := atoms_spec (ws := .code y b nL none :: TW) B.pre
  have hown : s.vm.findClass y.cls = some m.cls := findClass_of_methodNamed B.named
  have hlocks := B.notSynchronized
  have hl := lv_entry As (n := nL) hn
  rw [lg_entry_eq]
  rw [hlv] at hl
  refine h (p, l, e, rmL lev, s, m, As.toArray, below, meth, c, nL, 0, 0, _) ?_ rfl ?_ s.heap [] _ hsz hP va_S.rf hl
  · exact ⟨hx, hb, hml, rfl, hown, fun w hw => hts w (List.mem_cons_of_mem _ hw), hK, hG, hZ, Nat.le_refl _, Nat.le_refl _, Nat.zero_le _, Nat.zero_le _⟩
  · intro M2 pc lv hd hK2 H locs ls hsz hP hS hl
    exact W.vret hx hb hr (fun t ht hW => ⟨⟨M2, rfl, hK2, by show t.heap.size = _; rw [ht]; exact hsz, by show va_P G.1 vwCl (wl G M2) t.heap; rw [ht]; exact hP⟩, hS.F ht⟩) hS.2.2 hd hlocks
/-- what the tables say of an instance method of a kind -/
def MwV (ci : Nat) (y : MethodName) (b : ByteArray) (nL : Nat) (ret : Option FieldType) (n : Nat) : Prop :=
  ci < 12 ∧ Cond.instanceMethod y ∈ TW ∧ Cond.selects (clS ci).1 y y ∈ TW ∧ Cond.initialized (clS ci).1 ∈ TW ∧ Cond.code y b nL ret ∈ TW ∧ nL ≤ 22 ∧
  (y.cls = (clS ci).1 ∧ y.cls ≠ "java/lang/invoke/MethodHandle" ∧ y.cls ≠ "java/lang/invoke/VarHandle" ∧ (parseMethodDescriptor y.desc).map (fun d => d.parameters.length) = some n)
def MwS (y : MethodName) (b : ByteArray) (nL : Nat) (ret : Option FieldType) (n : Nat) : Prop :=
  Cond.static y ∈ TW ∧ Cond.initialized y.cls ∈ TW ∧ Cond.code y b nL ret ∈ TW ∧ nL ≤ 22 ∧
  (y.cls ≠ "java/lang/invoke/MethodHandle" ∧ y.cls ≠ "java/lang/invoke/VarHandle" ∧ (parseMethodDescriptor y.desc).map (fun d => d.parameters.length) = some n)
def isO (c ci : Nat) : Prop := c < NC ∧ ∃ fs, shp c = (0, ci, fs)
theorem isMat_O {t : Nat} (h : isMat t) : isO t 5 := by
  obtain ⟨i, hi, rfl⟩ := h
  exact ⟨by unfold NC; omega, _, shpM hi⟩
theorem call_roomy {lev' lev maxL : Nat} {R : Room} (h : lev' + 1 ≤ lev) (h1 : lev ≤ R.frames) (h2 : 41 * lev ≤ R.locals) (h3 : maxL ≤ 22) : (rmL lev').frames + 1 ≤ R.frames ∧ 8 + (maxL + 11) + (rmL lev').locals ≤ R.locals := by
  refine ⟨by show lev' + 1 ≤ _; omega, by show 8 + (maxL + 11) + 41 * lev' ≤ _; omega⟩
theorem wsV_in {own : String} {ix ci nL n : Nat} {y : MethodName} {b : ByteArray} {ret : Option FieldType} (hw : Cond.methodLink own ix y ∈ TW) (m : MwV ci y b nL ret n) : GoodIn TW (wsV own ix (clS ci).1 y (.code y b nL ret :: TW)) := by
  refine lit_in (fun w h => ?_) (fun _ h => h)
  obtain ⟨-, h1, h2, h3, h4, -⟩ := m
  simp only [wsV, List.cons_append, List.nil_append, List.mem_cons] at h
  rcases h with rfl | rfl | rfl | rfl | rfl | h
  · exact hw
  · exact h1
  · exact h2
  · exact h3
  · exact h4
  · exact h
theorem wsS_in {own : String} {ix nL n : Nat} {y : MethodName} {b : ByteArray} {ret : Option FieldType} (hw : Cond.methodLink own ix y ∈ TW) (m : MwS y b nL ret n) : GoodIn TW (va_wsS own ix y (.code y b nL ret :: TW)) := by
  refine lit_in (fun w h => ?_) (fun _ h => h)
  obtain ⟨h1, h2, h3, -⟩ := m
  simp only [va_wsS, List.cons_append, List.nil_append, List.mem_cons] at h
  rcases h with rfl | rfl | rfl | rfl | h
  · exact hw
  · exact h1
  · exact h2
  · exact h3
  · exact h
theorem recv_O {G : GX} {M : Mem} {s : State} {H : Heap} {c ci : Nat} (hn : NC ≤ nG G) (hc : ci < 12) (ho : isO c ci) (hK : va_K G.1 vwCl (tysL G) s) (hP : va_P G.1 vwCl (wl G M) H) : ∃ cell : Cell, H[ad G c]? = some cell ∧ cell.vm.isStatics = false ∧ s.vm.findClass (clS ci).1 = some cell.cls := by
  obtain ⟨h1, fs, h2⟩ := ho
  refine va_recv hK hP (clS_get hc) (q0 := c) (fs := fvs G (M c) fs) ?_
  rw [wl_get G M (Nat.lt_of_lt_of_le h1 hn), h2]
  rfl
theorem J.callVI {X : CX} {G : GX} {cc : ByteArray} {n lev pc q ix nL lev' na : Nat} {own : String} {M : Mem} {lv : List (Nat × Value)} {y : MethodName} {b : ByteArray} {ret : Option FieldType} {K : Int32 → Mem → Prop} {c' ci : Nat} (As st st0 : List Value) (hst0 : As.reverse ++ .ref (ad G c') :: st = st0) (O : Ok X G cc n own lev) (hd : decode cc pc = .ok (.invokevirtual ix, 3)) (hq : pc + 3 = q) (hm : CI (lX X) G y b nL ret lev' (.ref (ad G c') :: As) M K) (hw : Cond.methodLink own ix y ∈ TW) (mw : MwV ci y b nL ret na) (ho : isO c' ci) (hna : As.length = na) (hlv : lev' + 1 ≤ lev) (hc8 : (st.map fun v => v.category).sum ≤ 8) (h : ∀ r M', K r M' → J X G M' q lv (.int r :: st)) : J X G M pc lv st0 := by
  obtain ⟨p, l, e, R, s, m, args, below, meth, c, nL9, cells, slots, Q⟩ := X
  obtain ⟨hx, hb, hml, hnL, hown, hts, hK, hA, hZ, hlev, hlo, hce, hsl⟩ := O
  subst hnL
  subst hq
  subst hst0
  intro H locs ls hsz hP hS hl
  refine va_calli (va_runV (As := As) (rest := st) ⟨hx, hb, hml, hown, hts⟩ hm (cwV na hts (wsV_in hw mw) rfl rfl rfl mw.2.2.2.2.2.2 (call_roomy hlv hlev hlo mw.2.2.2.2.2.1)) ⟨PreW.blind, recv_O hA.1 mw.1 ho hK hP, fun U hU hW => ⟨rfl, by rw [hU]; exact hsz, by rw [hU]; exact hP, va_K.moved hW.alike hK, by rw [hU]; exact (hZ.kept hS).moved hW.alike⟩⟩ rfl hna hl.1 rfl (lv_room hc8) hd ⟨hce, hsl⟩) hS (fun q _ h => h) (fun q h => h) (fun r u t H1 locs1 ht hvm hw9 hB hz1 hk1 hS1 => ?_)
  exact h r u hw9 H1 locs1 ls (by rw [← ht]; exact hB.1) (by show va_P G.1 vwCl (wl G _) _; rw [← ht]; exact hB.2) hS1 hl
theorem J.callVV {X : CX} {G : GX} {cc : ByteArray} {n lev pc q ix nL lev' na : Nat} {own : String} {M : Mem} {lv : List (Nat × Value)} {y : MethodName} {b : ByteArray} {K : Mem → Prop} {c' ci : Nat} (As st st0 : List Value) (hst0 : As.reverse ++ .ref (ad G c') :: st = st0) (O : Ok X G cc n own lev) (hd : decode cc pc = .ok (.invokevirtual ix, 3)) (hq : pc + 3 = q) (hm : CV (lX X) G y b nL lev' (.ref (ad G c') :: As) M K) (hw : Cond.methodLink own ix y ∈ TW) (mw : MwV ci y b nL none na) (ho : isO c' ci) (hna : As.length = na) (hlv : lev' + 1 ≤ lev) (hc8 : (st.map fun v => v.category).sum ≤ 8) (h : ∀ M', K M' → J X G M' q lv st) : J X G M pc lv st0 := by
  obtain ⟨p, l, e, R, s, m, args, below, meth, c, nL9, cells, slots, Q⟩ := X
  obtain ⟨hx, hb, hml, hnL, hown, hts, hK, hA, hZ, hlev, hlo, hce, hsl⟩ := O
  subst hnL
  subst hq
  subst hst0
  intro H locs ls hsz hP hS hl
  refine va_callv (va_runV (As := As) (rest := st) ⟨hx, hb, hml, hown, hts⟩ hm (cwV na hts (wsV_in hw mw) rfl rfl rfl mw.2.2.2.2.2.2 (call_roomy hlv hlev hlo mw.2.2.2.2.2.1)) ⟨PreW.blind, recv_O hA.1 mw.1 ho hK hP, fun U hU hW => ⟨rfl, by rw [hU]; exact hsz, by rw [hU]; exact hP, va_K.moved hW.alike hK, by rw [hU]; exact (hZ.kept hS).moved hW.alike⟩⟩ rfl hna hl.1 rfl (lv_room hc8) hd ⟨hce, hsl⟩) hS (fun q _ h => h) (fun q h => h) (fun u t H1 locs1 ht hvm hw9 hB hz1 hk1 hS1 => ?_)
  exact h u hw9 H1 locs1 ls (by rw [← ht]; exact hB.1) (by show va_P G.1 vwCl (wl G _) _; rw [← ht]; exact hB.2) hS1 hl
theorem J.callSI {X : CX} {G : GX} {cc : ByteArray} {n lev pc q ix nL lev' na : Nat} {own : String} {M : Mem} {lv : List (Nat × Value)} {y : MethodName} {b : ByteArray} {ret : Option FieldType} {K : Int32 → Mem → Prop} (As st st0 : List Value) (hst0 : As.reverse ++ st = st0) (O : Ok X G cc n own lev) (hd : decode cc pc = .ok (.invokestatic ix, 3)) (hq : pc + 3 = q) (hm : CI (lX X) G y b nL ret lev' As M K) (hw : Cond.methodLink own ix y ∈ TW) (mw : MwS y b nL ret na) (hna : As.length = na) (hlv : lev' + 1 ≤ lev) (hc8 : (st.map fun v => v.category).sum ≤ 8) (h : ∀ r M', K r M' → J X G M' q lv (.int r :: st)) : J X G M pc lv st0 := by
  obtain ⟨p, l, e, R, s, m, args, below, meth, c, nL9, cells, slots, Q⟩ := X
  obtain ⟨hx, hb, hml, hnL, hown, hts, hK, hA, hZ, hlev, hlo, hce, hsl⟩ := O
  subst hnL
  subst hq
  subst hst0
  intro H locs ls hsz hP hS hl
  refine va_calli (va_runS (As := As) (rest := st) ⟨hx, hb, hml, hown, hts⟩ hm (va_cwS na hts (wsS_in hw mw) rfl rfl rfl mw.2.2.2.2 (call_roomy hlv hlev hlo mw.2.2.2.1)) ⟨PreW.blind, fun U hU hW => ⟨rfl, by rw [hU]; exact hsz, by rw [hU]; exact hP, va_K.moved hW.alike hK, by rw [hU]; exact (hZ.kept hS).moved hW.alike⟩⟩ rfl hna hl.1 rfl (lv_room hc8) hd ⟨hce, hsl⟩) hS (fun q _ h => h) (fun q h => h) (fun r u t H1 locs1 ht hvm hw9 hB hz1 hk1 hS1 => ?_)
  exact h r u hw9 H1 locs1 ls (by rw [← ht]; exact hB.1) (by show va_P G.1 vwCl (wl G _) _; rw [← ht]; exact hB.2) hS1 hl
theorem J.xld {X : CX} {G : GX} {cc : ByteArray} {n lev pc q : Nat} {own : String} {M : Mem} {lv : List (Nat × Value)} {st : List Value} {b L : Nat} {xs : Nat → Int32} {i : Int32} (O : Ok X G cc n own lev) (hd : decode cc pc = .ok (.iaload, 1)) (hq : pc + 1 = q) (OX : OkX G b L xs) (hi : vp_in i L) (h : J X G M q lv (.int (xs i.toNatClampNeg) :: st)) : J X G M pc lv (.int i :: .ref b :: st) := by
  obtain ⟨rfl, rfl, rfl⟩ := OX
  obtain ⟨p, l, e, R, s, m, args, below, meth, c, nL, cells, slots, Q⟩ := X
  obtain ⟨hx, hb, hml, hnL, hown, hts, hK, hA, hZ, hlev, hlo, hce, hsl⟩ := O
  subst hnL
  subst hq
  intro H locs ls hsz hP hS hl
  exact va_sld hx hb hZ.2.1 hZ.2.2.2 hZ.2.2.1 hS hi hd (h H locs ls hsz hP hS hl)
theorem J.xlen {X : CX} {G : GX} {cc : ByteArray} {n lev pc q : Nat} {own : String} {M : Mem} {lv : List (Nat × Value)} {st : List Value} {b L : Nat} {xs : Nat → Int32} (O : Ok X G cc n own lev) (hd : decode cc pc = .ok (.arraylength, 1)) (hq : pc + 1 = q) (OX : OkX G b L xs) (h : J X G M q lv (.int (nI L) :: st)) : J X G M pc lv (.ref b :: st) := by
  obtain ⟨rfl, rfl, rfl⟩ := OX
  obtain ⟨p, l, e, R, s, m, args, below, meth, c, nL, cells, slots, Q⟩ := X
  obtain ⟨hx, hb, hml, hnL, hown, hts, hK, hA, hZ, hlev, hlo, hce, hsl⟩ := O
  subst hnL
  subst hq
  intro H locs ls hsz hP hS hl
  exact va_slen hx hb hZ.2.1 hZ.2.2.2 hZ.2.2.1 hS hd (h H locs ls hsz hP hS hl)
theorem vin_lit {i : Int32} {n : Nat} (h : ¬ (i < 0 ∨ n ≤ i.toNatClampNeg)) : vp_in i n := h
theorem tsw_cov (x : Int32) (lo : Int) (n : Nat) (hn : -2147483648 ≤ lo ∧ lo + n < 2147483648) : (x.toInt < lo ∨ lo + n < x.toInt) ∨ ∃ j : Nat, j < n + 1 ∧ x = Int32.ofInt (lo + j) := by
  by_cases h : x.toInt < lo ∨ lo + n < x.toInt
  · exact Or.inl h
  · refine Or.inr ⟨(x.toInt - lo).toNat, by omega, ?_⟩
    rw [show lo + ((x.toInt - lo).toNat : Int) = x.toInt by omega]
    exact (Int32.ofInt_toInt x).symm
/-! loops: the least fixed point, by its steps -/
def lfp {α : Type} (B : (α → Prop) → α → Prop) : Nat → α → Prop
  | 0, _ => False
  | n + 1, a => B (lfp B n) a
def Lp {α : Type} (B : (α → Prop) → α → Prop) (a : α) : Prop := ∃ n, lfp B n a
theorem Lp.elim {α : Type} {B : (α → Prop) → α → Prop} {P : α → Prop} (hB : ∀ (r : α → Prop), (∀ a, r a → P a) → ∀ a, B r a → P a) {a : α} (h : Lp B a) : P a := by
  obtain ⟨n, h⟩ := h
  induction n generalizing a with
  | zero => exact h.elim
  | succ n ih => exact hB _ (fun a' h' => ih h') a h
theorem Lp.of {α : Type} {B : (α → Prop) → α → Prop} (I : α → Prop) (μ : α → Nat) (h : ∀ (a : α) (r : α → Prop), I a → (∀ a', I a' → μ a' < μ a → r a') → B r a) {a : α} (ha : I a) : Lp B a := by
  have key : ∀ n a, I a → μ a < n → lfp B n a := by
    intro n
    induction n with
    | zero => intro a _ h2; exact absurd h2 (Nat.not_lt_zero _)
    | succ n ih => intro a h1 h2; exact h a _ h1 (fun a' h3 h4 => ih a' h3 (by omega))
  exact ⟨μ a + 1, key _ a ha (Nat.lt_succ_self _)⟩
