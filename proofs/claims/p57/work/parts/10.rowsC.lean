theorem J.lconst {X : CX} {G : GX} {cc : ByteArray} {n lev pc q : Nat} {own : String} {M : Mem} {lv : List (Nat × Value)} {st : List Value} {z : Fin 2} {v : Int64} (O : Ok X G cc n own lev) (hd : decode cc pc = .ok (.lconst z, 1)) (hq : pc + 1 = q) (hv : Int64.ofNat (z : Nat) = v) (h : J X G M q lv (.long v :: st)) : J X G M pc lv st := by
  obtain ⟨p, l, e, R, s, m, args, below, meth, c, nL, cells, slots, Q⟩ := X
  obtain ⟨hx, hb, hml, hnL, hown, hts, hK, hA, hZ, hlev, hlo, hce, hsl⟩ := O
  subst hnL
  subst hq
  intro H locs ls hz hP hS hl
  exact lv_lconst hx hb hd hv (h H locs ls hz hP hS hl)
theorem J.lload {X : CX} {G : GX} {cc : ByteArray} {n lev pc q : Nat} {own : String} {M : Mem} {lv : List (Nat × Value)} {st : List Value} {j : Nat} {x : Int64} (O : Ok X G cc n own lev) (hd : decode cc pc = .ok (.lload j, 2)) (hq : pc + 2 = q) (i : Nat) (hv : lv[i]? = some (j, .long x)) (h : J X G M q lv (.long x :: st)) : J X G M pc lv st := by
  obtain ⟨p, l, e, R, s, m, args, below, meth, c, nL, cells, slots, Q⟩ := X
  obtain ⟨hx, hb, hml, hnL, hown, hts, hK, hA, hZ, hlev, hlo, hce, hsl⟩ := O
  subst hnL
  subst hq
  intro H locs ls hz hP hS hl
  exact lv_lload hx hb hd (lv_at hl i hv) (h H locs ls hz hP hS hl)
theorem J.lstore {X : CX} {G : GX} {cc : ByteArray} {n lev pc q : Nat} {own : String} {M : Mem} {lv : List (Nat × Value)} {st : List Value} {j : Nat} {x : Int64} (O : Ok X G cc n own lev) (hd : decode cc pc = .ok (.lstore j, 2)) (hq : pc + 2 = q) (lv' : List (Nat × Value)) (hn : j + 1 < n) (hl' : (j, Value.long x) :: lv.filter (fun q => !(q.1 == j) && (!(q.1 == j + 1) && !(q.1 + 1 == j && q.2.category == 2))) = lv') (h : J X G M q lv' st) : J X G M pc lv (.long x :: st) := by
  obtain ⟨p, l, e, R, s, m, args, below, meth, c, nL, cells, slots, Q⟩ := X
  obtain ⟨hx, hb, hml, hnL, hown, hts, hK, hA, hZ, hlev, hlo, hce, hsl⟩ := O
  subst hnL
  subst hq
  intro H locs ls hz hP hS hl
  exact lv_lstore hx hb hd hl hn hl' (fun ls' hl2 => h H locs ls' hz hP hS hl2)
