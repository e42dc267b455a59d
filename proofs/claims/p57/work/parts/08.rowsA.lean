theorem lit_good : ∀ w ∈ TW, goodWord w = true := fun w h => (List.mem_filter.mp h).2
theorem TW_in : ∀ w ∈ TW, w ∈ lw_tbl := fun w h => (List.mem_filter.mp h).1
theorem lit_in {big ws : List Cond} (h : ∀ w ∈ ws, w ∈ TW) (hb : ∀ w ∈ TW, w ∈ big) : GoodIn big ws := fun w hw => ⟨hb w (h w hw), good_of_word (lit_good w (h w hw))⟩
def Gd (G : GX) : Prop := NC ≤ nG G ∧ ∀ k, k < nG G → G.2.2.2.1 (ad G k)
abbrev CX : Type := Program × Launch × Env × Room × State × MethodId × Array Value × List Frame × Method × Code × Nat × Nat × Nat × (State → Prop)
def J (X : CX) (G : GX) (M : Mem) (pc : Nat) (lv : List (Nat × Value)) (st : List Value) : Prop := match X with
  | (p, l, e, R, s, m, args, below, meth, c, nL, cells, slots, Q) => ∀ (H : Heap) (locs : List Loc) (ls : Array Slot), H.size = ad G (nG G) → va_P G.1 vwCl (wl G M) H → va_S G.2.2.2.1 s.heap H locs → lv_has ls nL lv → W p l e R s m args below meth c H locs cells slots Q (F0 m pc ls st)
def Ok (X : CX) (G : GX) (cc : ByteArray) (n : Nat) (own : String) (lev : Nat) : Prop := match X with
  | (p, l, e, R, s, m, args, below, meth, c, nL, cells, slots, Q) => p.tables.exec = Jvm.exec ∧ c.code = cc ∧ c.maxLocals = n ∧ nL = n ∧ s.vm.findClass own = some m.cls ∧ (∀ w ∈ TW, w.before args s = true) ∧ va_K G.1 vwCl (tysL G) s ∧ Gd G ∧ Sts G s s.heap ∧ lev ≤ R.frames ∧ 41 * lev ≤ R.locals ∧ cells ≤ R.cells ∧ slots ≤ R.slots
theorem wl_D {G : GX} (M : Mem) (h : Gd G) : va_D G.2.2.2.1 (wl G M) := by
  refine ⟨fun i j p q hi hj he => ?_, fun k q hk => ?_⟩
  · have h1 : i < nG G := by have := (List.getElem?_eq_some_iff.mp hi).1; rwa [wl_len] at this
    have h2 : j < nG G := by have := (List.getElem?_eq_some_iff.mp hj).1; rwa [wl_len] at this
    rw [wl_get G M h1] at hi
    rw [wl_get G M h2] at hj
    cases hi; cases hj
    have : ad G i = ad G j := he
    unfold ad at this
    omega
  · have h1 : k < nG G := by have := (List.getElem?_eq_some_iff.mp hk).1; rwa [wl_len] at this
    rw [wl_get G M h1] at hk
    cases hk
    exact h.2 k h1
theorem J.iconst {X : CX} {G : GX} {cc : ByteArray} {n lev pc q : Nat} {own : String} {M : Mem} {lv : List (Nat × Value)} {st : List Value} {z : Int} {v : Int32} (O : Ok X G cc n own lev) (hd : decode cc pc = .ok (.iconst z, 1)) (hq : pc + 1 = q) (hv : Int32.ofInt z = v) (h : J X G M q lv (.int v :: st)) : J X G M pc lv st := by
  obtain ⟨p, l, e, R, s, m, args, below, meth, c, nL, cells, slots, Q⟩ := X
  obtain ⟨hx, hb, hml, hnL, hown, hts, hK, hA, hZ, hlev, hlo, hce, hsl⟩ := O
  subst hnL
  subst hq
  intro H locs ls hsz hP hS hl
  exact lv_iconst hx hb hd hv (h H locs ls hsz hP hS hl)
theorem J.bipush {X : CX} {G : GX} {cc : ByteArray} {n lev pc q : Nat} {own : String} {M : Mem} {lv : List (Nat × Value)} {st : List Value} {z : Int} {v : Int32} (O : Ok X G cc n own lev) (hd : decode cc pc = .ok (.bipush z, 2)) (hq : pc + 2 = q) (hv : (Int8.ofInt z).toInt32 = v) (h : J X G M q lv (.int v :: st)) : J X G M pc lv st := by
  obtain ⟨p, l, e, R, s, m, args, below, meth, c, nL, cells, slots, Q⟩ := X
  obtain ⟨hx, hb, hml, hnL, hown, hts, hK, hA, hZ, hlev, hlo, hce, hsl⟩ := O
  subst hnL
  subst hq
  intro H locs ls hsz hP hS hl
  exact lv_bipush hx hb hd hv (h H locs ls hsz hP hS hl)
theorem J.sipush {X : CX} {G : GX} {cc : ByteArray} {n lev pc q : Nat} {own : String} {M : Mem} {lv : List (Nat × Value)} {st : List Value} {z : Int} {v : Int32} (O : Ok X G cc n own lev) (hd : decode cc pc = .ok (.sipush z, 3)) (hq : pc + 3 = q) (hv : (Int16.ofInt z).toInt32 = v) (h : J X G M q lv (.int v :: st)) : J X G M pc lv st := by
  obtain ⟨p, l, e, R, s, m, args, below, meth, c, nL, cells, slots, Q⟩ := X
  obtain ⟨hx, hb, hml, hnL, hown, hts, hK, hA, hZ, hlev, hlo, hce, hsl⟩ := O
  subst hnL
  subst hq
  intro H locs ls hsz hP hS hl
  exact lv_sipush hx hb hd hv (h H locs ls hsz hP hS hl)
theorem J.ldc {X : CX} {G : GX} {cc : ByteArray} {n lev pc q : Nat} {own : String} {M : Mem} {lv : List (Nat × Value)} {st : List Value} {ix : Nat} {v : Int32} (O : Ok X G cc n own lev) (hd : decode cc pc = .ok (.ldc ix, 2)) (hq : pc + 2 = q) (hw : Cond.constant own ix v ∈ TW) (h : J X G M q lv (.int v :: st)) : J X G M pc lv st := by
  obtain ⟨p, l, e, R, s, m, args, below, meth, c, nL, cells, slots, Q⟩ := X
  obtain ⟨hx, hb, hml, hnL, hown, hts, hK, hA, hZ, hlev, hlo, hce, hsl⟩ := O
  subst hnL
  subst hq
  intro H locs ls hsz hP hS hl
  exact lv_ldc hx hb hown (hts _ hw) hd (h H locs ls hsz hP hS hl)
theorem J.ldcw {X : CX} {G : GX} {cc : ByteArray} {n lev pc q : Nat} {own : String} {M : Mem} {lv : List (Nat × Value)} {st : List Value} {ix : Nat} {v : Int32} (O : Ok X G cc n own lev) (hd : decode cc pc = .ok (.ldc_w ix, 3)) (hq : pc + 3 = q) (hw : Cond.constant own ix v ∈ TW) (h : J X G M q lv (.int v :: st)) : J X G M pc lv st := by
  obtain ⟨p, l, e, R, s, m, args, below, meth, c, nL, cells, slots, Q⟩ := X
  obtain ⟨hx, hb, hml, hnL, hown, hts, hK, hA, hZ, hlev, hlo, hce, hsl⟩ := O
  subst hnL
  subst hq
  intro H locs ls hsz hP hS hl
  exact lv_ldcw hx hb hown (hts _ hw) hd (h H locs ls hsz hP hS hl)
theorem J.ldc2 {X : CX} {G : GX} {cc : ByteArray} {n lev pc q : Nat} {own : String} {M : Mem} {lv : List (Nat × Value)} {st : List Value} {ix : Nat} {v : Int64} (O : Ok X G cc n own lev) (hd : decode cc pc = .ok (.ldc2_w ix, 3)) (hq : pc + 3 = q) (hw : Cond.constantLong own ix v ∈ TW) (h : J X G M q lv (.long v :: st)) : J X G M pc lv st := by
  obtain ⟨p, l, e, R, s, m, args, below, meth, c, nL, cells, slots, Q⟩ := X
  obtain ⟨hx, hb, hml, hnL, hown, hts, hK, hA, hZ, hlev, hlo, hce, hsl⟩ := O
  subst hnL
  subst hq
  intro H locs ls hsz hP hS hl
  exact lv_ldc2 hx hb hown (hts _ hw) hd (h H locs ls hsz hP hS hl)
theorem J.iload_n {X : CX} {G : GX} {cc : ByteArray} {n lev pc q : Nat} {own : String} {M : Mem} {lv : List (Nat × Value)} {st : List Value} {k : Fin 4} {x : Int32} (O : Ok X G cc n own lev) (hd : decode cc pc = .ok (.iload_n k, 1)) (hq : pc + 1 = q) (i : Nat) (hv : lv[i]? = some ((k : Nat), .int x)) (h : J X G M q lv (.int x :: st)) : J X G M pc lv st := by
  obtain ⟨p, l, e, R, s, m, args, below, meth, c, nL, cells, slots, Q⟩ := X
  obtain ⟨hx, hb, hml, hnL, hown, hts, hK, hA, hZ, hlev, hlo, hce, hsl⟩ := O
  subst hnL
  subst hq
  intro H locs ls hsz hP hS hl
  exact lv_iload_n hx hb hd rfl (lv_at hl i hv) (h H locs ls hsz hP hS hl)
theorem J.iload {X : CX} {G : GX} {cc : ByteArray} {n lev pc q : Nat} {own : String} {M : Mem} {lv : List (Nat × Value)} {st : List Value} {j : Nat} {x : Int32} (O : Ok X G cc n own lev) (hd : decode cc pc = .ok (.iload j, 2)) (hq : pc + 2 = q) (i : Nat) (hv : lv[i]? = some (j, .int x)) (h : J X G M q lv (.int x :: st)) : J X G M pc lv st := by
  obtain ⟨p, l, e, R, s, m, args, below, meth, c, nL, cells, slots, Q⟩ := X
  obtain ⟨hx, hb, hml, hnL, hown, hts, hK, hA, hZ, hlev, hlo, hce, hsl⟩ := O
  subst hnL
  subst hq
  intro H locs ls hsz hP hS hl
  exact lv_iload hx hb hd (lv_at hl i hv) (h H locs ls hsz hP hS hl)
theorem J.lload_n {X : CX} {G : GX} {cc : ByteArray} {n lev pc q : Nat} {own : String} {M : Mem} {lv : List (Nat × Value)} {st : List Value} {k : Fin 4} {x : Int64} (O : Ok X G cc n own lev) (hd : decode cc pc = .ok (.lload_n k, 1)) (hq : pc + 1 = q) (i : Nat) (hv : lv[i]? = some ((k : Nat), .long x)) (h : J X G M q lv (.long x :: st)) : J X G M pc lv st := by
  obtain ⟨p, l, e, R, s, m, args, below, meth, c, nL, cells, slots, Q⟩ := X
  obtain ⟨hx, hb, hml, hnL, hown, hts, hK, hA, hZ, hlev, hlo, hce, hsl⟩ := O
  subst hnL
  subst hq
  intro H locs ls hsz hP hS hl
  exact lv_lload_n hx hb hd rfl (lv_at hl i hv) (h H locs ls hsz hP hS hl)
theorem J.aload_n {X : CX} {G : GX} {cc : ByteArray} {n lev pc q : Nat} {own : String} {M : Mem} {lv : List (Nat × Value)} {st : List Value} {k : Fin 4} {x : Nat} (O : Ok X G cc n own lev) (hd : decode cc pc = .ok (.aload_n k, 1)) (hq : pc + 1 = q) (i : Nat) (hv : lv[i]? = some ((k : Nat), .ref x)) (h : J X G M q lv (.ref x :: st)) : J X G M pc lv st := by
  obtain ⟨p, l, e, R, s, m, args, below, meth, c, nL, cells, slots, Q⟩ := X
  obtain ⟨hx, hb, hml, hnL, hown, hts, hK, hA, hZ, hlev, hlo, hce, hsl⟩ := O
  subst hnL
  subst hq
  intro H locs ls hsz hP hS hl
  exact lv_aload_n hx hb hd rfl (lv_at hl i hv) (h H locs ls hsz hP hS hl)
theorem J.aload {X : CX} {G : GX} {cc : ByteArray} {n lev pc q : Nat} {own : String} {M : Mem} {lv : List (Nat × Value)} {st : List Value} {j : Nat} {x : Nat} (O : Ok X G cc n own lev) (hd : decode cc pc = .ok (.aload j, 2)) (hq : pc + 2 = q) (i : Nat) (hv : lv[i]? = some (j, .ref x)) (h : J X G M q lv (.ref x :: st)) : J X G M pc lv st := by
  obtain ⟨p, l, e, R, s, m, args, below, meth, c, nL, cells, slots, Q⟩ := X
  obtain ⟨hx, hb, hml, hnL, hown, hts, hK, hA, hZ, hlev, hlo, hce, hsl⟩ := O
  subst hnL
  subst hq
  intro H locs ls hsz hP hS hl
  exact lv_aload hx hb hd (lv_at hl i hv) (h H locs ls hsz hP hS hl)
theorem J.istore_n {X : CX} {G : GX} {cc : ByteArray} {n lev pc q : Nat} {own : String} {M : Mem} {lv : List (Nat × Value)} {st : List Value} {k : Fin 4} {x : Int32} (O : Ok X G cc n own lev) (hd : decode cc pc = .ok (.istore_n k, 1)) (hq : pc + 1 = q) (lv' : List (Nat × Value)) (hn : (k : Nat) < n) (hl' : ((k : Nat), Value.int x) :: lv.filter (fun q => !(q.1 == (k : Nat)) && !(q.1 + 1 == (k : Nat) && q.2.category == 2)) = lv') (h : J X G M q lv' st) : J X G M pc lv (.int x :: st) := by
  obtain ⟨p, l, e, R, s, m, args, below, meth, c, nL, cells, slots, Q⟩ := X
  obtain ⟨hx, hb, hml, hnL, hown, hts, hK, hA, hZ, hlev, hlo, hce, hsl⟩ := O
  subst hnL
  subst hq
  intro H locs ls hsz hP hS hl
  exact lv_istore_n hx hb hd rfl hl hn hl' (fun ls' hl2 => h H locs ls' hsz hP hS hl2)
theorem J.istore {X : CX} {G : GX} {cc : ByteArray} {n lev pc q : Nat} {own : String} {M : Mem} {lv : List (Nat × Value)} {st : List Value} {j : Nat} {x : Int32} (O : Ok X G cc n own lev) (hd : decode cc pc = .ok (.istore j, 2)) (hq : pc + 2 = q) (lv' : List (Nat × Value)) (hn : j < n) (hl' : (j, Value.int x) :: lv.filter (fun q => !(q.1 == j) && !(q.1 + 1 == j && q.2.category == 2)) = lv') (h : J X G M q lv' st) : J X G M pc lv (.int x :: st) := by
  obtain ⟨p, l, e, R, s, m, args, below, meth, c, nL, cells, slots, Q⟩ := X
  obtain ⟨hx, hb, hml, hnL, hown, hts, hK, hA, hZ, hlev, hlo, hce, hsl⟩ := O
  subst hnL
  subst hq
  intro H locs ls hsz hP hS hl
  exact lv_istore hx hb hd hl hn hl' (fun ls' hl2 => h H locs ls' hsz hP hS hl2)
theorem J.astore_n {X : CX} {G : GX} {cc : ByteArray} {n lev pc q : Nat} {own : String} {M : Mem} {lv : List (Nat × Value)} {st : List Value} {k : Fin 4} {x : Nat} (O : Ok X G cc n own lev) (hd : decode cc pc = .ok (.astore_n k, 1)) (hq : pc + 1 = q) (lv' : List (Nat × Value)) (hn : (k : Nat) < n) (hl' : ((k : Nat), Value.ref x) :: lv.filter (fun q => !(q.1 == (k : Nat)) && !(q.1 + 1 == (k : Nat) && q.2.category == 2)) = lv') (h : J X G M q lv' st) : J X G M pc lv (.ref x :: st) := by
  obtain ⟨p, l, e, R, s, m, args, below, meth, c, nL, cells, slots, Q⟩ := X
  obtain ⟨hx, hb, hml, hnL, hown, hts, hK, hA, hZ, hlev, hlo, hce, hsl⟩ := O
  subst hnL
  subst hq
  intro H locs ls hsz hP hS hl
  exact lv_astore_n hx hb hd rfl hl hn hl' (fun ls' hl2 => h H locs ls' hsz hP hS hl2)
theorem J.astore {X : CX} {G : GX} {cc : ByteArray} {n lev pc q : Nat} {own : String} {M : Mem} {lv : List (Nat × Value)} {st : List Value} {j : Nat} {x : Nat} (O : Ok X G cc n own lev) (hd : decode cc pc = .ok (.astore j, 2)) (hq : pc + 2 = q) (lv' : List (Nat × Value)) (hn : j < n) (hl' : (j, Value.ref x) :: lv.filter (fun q => !(q.1 == j) && !(q.1 + 1 == j && q.2.category == 2)) = lv') (h : J X G M q lv' st) : J X G M pc lv (.ref x :: st) := by
  obtain ⟨p, l, e, R, s, m, args, below, meth, c, nL, cells, slots, Q⟩ := X
  obtain ⟨hx, hb, hml, hnL, hown, hts, hK, hA, hZ, hlev, hlo, hce, hsl⟩ := O
  subst hnL
  subst hq
  intro H locs ls hsz hP hS hl
  exact lv_astore hx hb hd hl hn hl' (fun ls' hl2 => h H locs ls' hsz hP hS hl2)
theorem J.iinc {X : CX} {G : GX} {cc : ByteArray} {n lev pc q : Nat} {own : String} {M : Mem} {lv : List (Nat × Value)} {st : List Value} {j : Nat} {z : Int} {x v : Int32} (O : Ok X G cc n own lev) (hd : decode cc pc = .ok (.iinc j z, 3)) (hq : pc + 3 = q) (lv' : List (Nat × Value)) (i : Nat) (hk : lv[i]? = some (j, .int x)) (hv : x + Int32.ofInt z = v) (hn : j < n) (hl' : (j, Value.int v) :: lv.filter (fun q => !(q.1 == j) && !(q.1 + 1 == j && q.2.category == 2)) = lv') (h : J X G M q lv' st) : J X G M pc lv st := by
  obtain ⟨p, l, e, R, s, m, args, below, meth, c, nL, cells, slots, Q⟩ := X
  obtain ⟨hx, hb, hml, hnL, hown, hts, hK, hA, hZ, hlev, hlo, hce, hsl⟩ := O
  subst hnL
  subst hq
  intro H locs ls hsz hP hS hl
  exact lv_iinc hx hb hd hl hk hv hn hl' (fun ls' hl2 => h H locs ls' hsz hP hS hl2)
theorem J.iadd {X : CX} {G : GX} {cc : ByteArray} {n lev pc q : Nat} {own : String} {M : Mem} {lv : List (Nat × Value)} {st : List Value} {x y : Int32} (O : Ok X G cc n own lev) (hd : decode cc pc = .ok (.iadd, 1)) (hq : pc + 1 = q) (h : J X G M q lv (.int (x + y) :: st)) : J X G M pc lv (.int y :: .int x :: st) := by
  obtain ⟨p, l, e, R, s, m, args, below, meth, c, nL, cells, slots, Q⟩ := X
  obtain ⟨hx, hb, hml, hnL, hown, hts, hK, hA, hZ, hlev, hlo, hce, hsl⟩ := O
  subst hnL
  subst hq
  intro H locs ls hsz hP hS hl
  exact lv_iadd hx hb hd (h H locs ls hsz hP hS hl)
theorem J.isub {X : CX} {G : GX} {cc : ByteArray} {n lev pc q : Nat} {own : String} {M : Mem} {lv : List (Nat × Value)} {st : List Value} {x y : Int32} (O : Ok X G cc n own lev) (hd : decode cc pc = .ok (.isub, 1)) (hq : pc + 1 = q) (h : J X G M q lv (.int (x - y) :: st)) : J X G M pc lv (.int y :: .int x :: st) := by
  obtain ⟨p, l, e, R, s, m, args, below, meth, c, nL, cells, slots, Q⟩ := X
  obtain ⟨hx, hb, hml, hnL, hown, hts, hK, hA, hZ, hlev, hlo, hce, hsl⟩ := O
  subst hnL
  subst hq
  intro H locs ls hsz hP hS hl
  exact lv_isub hx hb hd (h H locs ls hsz hP hS hl)
theorem J.imul {X : CX} {G : GX} {cc : ByteArray} {n lev pc q : Nat} {own : String} {M : Mem} {lv : List (Nat × Value)} {st : List Value} {x y : Int32} (O : Ok X G cc n own lev) (hd : decode cc pc = .ok (.imul, 1)) (hq : pc + 1 = q) (h : J X G M q lv (.int (x * y) :: st)) : J X G M pc lv (.int y :: .int x :: st) := by
  obtain ⟨p, l, e, R, s, m, args, below, meth, c, nL, cells, slots, Q⟩ := X
  obtain ⟨hx, hb, hml, hnL, hown, hts, hK, hA, hZ, hlev, hlo, hce, hsl⟩ := O
  subst hnL
  subst hq
  intro H locs ls hsz hP hS hl
  exact lv_imul hx hb hd (h H locs ls hsz hP hS hl)
theorem J.iand {X : CX} {G : GX} {cc : ByteArray} {n lev pc q : Nat} {own : String} {M : Mem} {lv : List (Nat × Value)} {st : List Value} {x y : Int32} (O : Ok X G cc n own lev) (hd : decode cc pc = .ok (.iand, 1)) (hq : pc + 1 = q) (h : J X G M q lv (.int (x &&& y) :: st)) : J X G M pc lv (.int y :: .int x :: st) := by
  obtain ⟨p, l, e, R, s, m, args, below, meth, c, nL, cells, slots, Q⟩ := X
  obtain ⟨hx, hb, hml, hnL, hown, hts, hK, hA, hZ, hlev, hlo, hce, hsl⟩ := O
  subst hnL
  subst hq
  intro H locs ls hsz hP hS hl
  exact lv_iand hx hb hd (h H locs ls hsz hP hS hl)
theorem J.ior {X : CX} {G : GX} {cc : ByteArray} {n lev pc q : Nat} {own : String} {M : Mem} {lv : List (Nat × Value)} {st : List Value} {x y : Int32} (O : Ok X G cc n own lev) (hd : decode cc pc = .ok (.ior, 1)) (hq : pc + 1 = q) (h : J X G M q lv (.int (x ||| y) :: st)) : J X G M pc lv (.int y :: .int x :: st) := by
  obtain ⟨p, l, e, R, s, m, args, below, meth, c, nL, cells, slots, Q⟩ := X
  obtain ⟨hx, hb, hml, hnL, hown, hts, hK, hA, hZ, hlev, hlo, hce, hsl⟩ := O
  subst hnL
  subst hq
  intro H locs ls hsz hP hS hl
  exact lv_ior hx hb hd (h H locs ls hsz hP hS hl)
theorem J.ixor {X : CX} {G : GX} {cc : ByteArray} {n lev pc q : Nat} {own : String} {M : Mem} {lv : List (Nat × Value)} {st : List Value} {x y : Int32} (O : Ok X G cc n own lev) (hd : decode cc pc = .ok (.ixor, 1)) (hq : pc + 1 = q) (h : J X G M q lv (.int (x ^^^ y) :: st)) : J X G M pc lv (.int y :: .int x :: st) := by
  obtain ⟨p, l, e, R, s, m, args, below, meth, c, nL, cells, slots, Q⟩ := X
  obtain ⟨hx, hb, hml, hnL, hown, hts, hK, hA, hZ, hlev, hlo, hce, hsl⟩ := O
  subst hnL
  subst hq
  intro H locs ls hsz hP hS hl
  exact lv_ixor hx hb hd (h H locs ls hsz hP hS hl)
theorem J.ishl {X : CX} {G : GX} {cc : ByteArray} {n lev pc q : Nat} {own : String} {M : Mem} {lv : List (Nat × Value)} {st : List Value} {x y : Int32} (O : Ok X G cc n own lev) (hd : decode cc pc = .ok (.ishl, 1)) (hq : pc + 1 = q) (h : J X G M q lv (.int (x <<< (y &&& 31)) :: st)) : J X G M pc lv (.int y :: .int x :: st) := by
  obtain ⟨p, l, e, R, s, m, args, below, meth, c, nL, cells, slots, Q⟩ := X
  obtain ⟨hx, hb, hml, hnL, hown, hts, hK, hA, hZ, hlev, hlo, hce, hsl⟩ := O
  subst hnL
  subst hq
  intro H locs ls hsz hP hS hl
  exact lv_ishl hx hb hd (h H locs ls hsz hP hS hl)
theorem J.ishr {X : CX} {G : GX} {cc : ByteArray} {n lev pc q : Nat} {own : String} {M : Mem} {lv : List (Nat × Value)} {st : List Value} {x y : Int32} (O : Ok X G cc n own lev) (hd : decode cc pc = .ok (.ishr, 1)) (hq : pc + 1 = q) (h : J X G M q lv (.int (x >>> (y &&& 31)) :: st)) : J X G M pc lv (.int y :: .int x :: st) := by
  obtain ⟨p, l, e, R, s, m, args, below, meth, c, nL, cells, slots, Q⟩ := X
  obtain ⟨hx, hb, hml, hnL, hown, hts, hK, hA, hZ, hlev, hlo, hce, hsl⟩ := O
  subst hnL
  subst hq
  intro H locs ls hsz hP hS hl
  exact lv_ishr hx hb hd (h H locs ls hsz hP hS hl)
theorem J.iushr {X : CX} {G : GX} {cc : ByteArray} {n lev pc q : Nat} {own : String} {M : Mem} {lv : List (Nat × Value)} {st : List Value} {x y : Int32} (O : Ok X G cc n own lev) (hd : decode cc pc = .ok (.iushr, 1)) (hq : pc + 1 = q) (h : J X G M q lv (.int (x.toUInt32 >>> (y.toUInt32 &&& Int32.toUInt32 31)).toInt32 :: st)) : J X G M pc lv (.int y :: .int x :: st) := by
  obtain ⟨p, l, e, R, s, m, args, below, meth, c, nL, cells, slots, Q⟩ := X
  obtain ⟨hx, hb, hml, hnL, hown, hts, hK, hA, hZ, hlev, hlo, hce, hsl⟩ := O
  subst hnL
  subst hq
  intro H locs ls hsz hP hS hl
  exact lv_iushr hx hb hd rfl (h H locs ls hsz hP hS hl)
theorem J.idiv {X : CX} {G : GX} {cc : ByteArray} {n lev pc q : Nat} {own : String} {M : Mem} {lv : List (Nat × Value)} {st : List Value} {x y : Int32} (O : Ok X G cc n own lev) (hd : decode cc pc = .ok (.idiv, 1)) (hq : pc + 1 = q) (hne : ¬ y = 0) (h : J X G M q lv (.int (x / y) :: st)) : J X G M pc lv (.int y :: .int x :: st) := by
  obtain ⟨p, l, e, R, s, m, args, below, meth, c, nL, cells, slots, Q⟩ := X
  obtain ⟨hx, hb, hml, hnL, hown, hts, hK, hA, hZ, hlev, hlo, hce, hsl⟩ := O
  subst hnL
  subst hq
  intro H locs ls hsz hP hS hl
  exact lv_idiv hx hb hd hne (h H locs ls hsz hP hS hl)
theorem J.irem {X : CX} {G : GX} {cc : ByteArray} {n lev pc q : Nat} {own : String} {M : Mem} {lv : List (Nat × Value)} {st : List Value} {x y : Int32} (O : Ok X G cc n own lev) (hd : decode cc pc = .ok (.irem, 1)) (hq : pc + 1 = q) (hne : ¬ y = 0) (h : J X G M q lv (.int (x - x / y * y) :: st)) : J X G M pc lv (.int y :: .int x :: st) := by
  obtain ⟨p, l, e, R, s, m, args, below, meth, c, nL, cells, slots, Q⟩ := X
  obtain ⟨hx, hb, hml, hnL, hown, hts, hK, hA, hZ, hlev, hlo, hce, hsl⟩ := O
  subst hnL
  subst hq
  intro H locs ls hsz hP hS hl
  exact lv_irem hx hb hd hne (h H locs ls hsz hP hS hl)
theorem J.ineg {X : CX} {G : GX} {cc : ByteArray} {n lev pc q : Nat} {own : String} {M : Mem} {lv : List (Nat × Value)} {st : List Value} {x : Int32} (O : Ok X G cc n own lev) (hd : decode cc pc = .ok (.ineg, 1)) (hq : pc + 1 = q) (h : J X G M q lv (.int (-x) :: st)) : J X G M pc lv (.int x :: st) := by
  obtain ⟨p, l, e, R, s, m, args, below, meth, c, nL, cells, slots, Q⟩ := X
  obtain ⟨hx, hb, hml, hnL, hown, hts, hK, hA, hZ, hlev, hlo, hce, hsl⟩ := O
  subst hnL
  subst hq
  intro H locs ls hsz hP hS hl
  exact lv_ineg hx hb hd (h H locs ls hsz hP hS hl)
theorem J.ladd {X : CX} {G : GX} {cc : ByteArray} {n lev pc q : Nat} {own : String} {M : Mem} {lv : List (Nat × Value)} {st : List Value} {x y : Int64} (O : Ok X G cc n own lev) (hd : decode cc pc = .ok (.ladd, 1)) (hq : pc + 1 = q) (h : J X G M q lv (.long (x + y) :: st)) : J X G M pc lv (.long y :: .long x :: st) := by
  obtain ⟨p, l, e, R, s, m, args, below, meth, c, nL, cells, slots, Q⟩ := X
  obtain ⟨hx, hb, hml, hnL, hown, hts, hK, hA, hZ, hlev, hlo, hce, hsl⟩ := O
  subst hnL
  subst hq
  intro H locs ls hsz hP hS hl
  exact lv_ladd hx hb hd (h H locs ls hsz hP hS hl)
theorem J.lmul {X : CX} {G : GX} {cc : ByteArray} {n lev pc q : Nat} {own : String} {M : Mem} {lv : List (Nat × Value)} {st : List Value} {x y : Int64} (O : Ok X G cc n own lev) (hd : decode cc pc = .ok (.lmul, 1)) (hq : pc + 1 = q) (h : J X G M q lv (.long (x * y) :: st)) : J X G M pc lv (.long y :: .long x :: st) := by
  obtain ⟨p, l, e, R, s, m, args, below, meth, c, nL, cells, slots, Q⟩ := X
  obtain ⟨hx, hb, hml, hnL, hown, hts, hK, hA, hZ, hlev, hlo, hce, hsl⟩ := O
  subst hnL
  subst hq
  intro H locs ls hsz hP hS hl
  exact lv_lmul hx hb hd (h H locs ls hsz hP hS hl)
theorem J.land {X : CX} {G : GX} {cc : ByteArray} {n lev pc q : Nat} {own : String} {M : Mem} {lv : List (Nat × Value)} {st : List Value} {x y : Int64} (O : Ok X G cc n own lev) (hd : decode cc pc = .ok (.land, 1)) (hq : pc + 1 = q) (h : J X G M q lv (.long (x &&& y) :: st)) : J X G M pc lv (.long y :: .long x :: st) := by
  obtain ⟨p, l, e, R, s, m, args, below, meth, c, nL, cells, slots, Q⟩ := X
  obtain ⟨hx, hb, hml, hnL, hown, hts, hK, hA, hZ, hlev, hlo, hce, hsl⟩ := O
  subst hnL
  subst hq
  intro H locs ls hsz hP hS hl
  exact lv_land hx hb hd (h H locs ls hsz hP hS hl)
theorem J.lor {X : CX} {G : GX} {cc : ByteArray} {n lev pc q : Nat} {own : String} {M : Mem} {lv : List (Nat × Value)} {st : List Value} {x y : Int64} (O : Ok X G cc n own lev) (hd : decode cc pc = .ok (.lor, 1)) (hq : pc + 1 = q) (h : J X G M q lv (.long (x ||| y) :: st)) : J X G M pc lv (.long y :: .long x :: st) := by
  obtain ⟨p, l, e, R, s, m, args, below, meth, c, nL, cells, slots, Q⟩ := X
  obtain ⟨hx, hb, hml, hnL, hown, hts, hK, hA, hZ, hlev, hlo, hce, hsl⟩ := O
  subst hnL
  subst hq
  intro H locs ls hsz hP hS hl
  exact lv_lor hx hb hd (h H locs ls hsz hP hS hl)
theorem J.lshl {X : CX} {G : GX} {cc : ByteArray} {n lev pc q : Nat} {own : String} {M : Mem} {lv : List (Nat × Value)} {st : List Value} {x : Int64} {y : Int32} (O : Ok X G cc n own lev) (hd : decode cc pc = .ok (.lshl, 1)) (hq : pc + 1 = q) (h : J X G M q lv (.long (x <<< (y.toInt64 &&& 63)) :: st)) : J X G M pc lv (.int y :: .long x :: st) := by
  obtain ⟨p, l, e, R, s, m, args, below, meth, c, nL, cells, slots, Q⟩ := X
  obtain ⟨hx, hb, hml, hnL, hown, hts, hK, hA, hZ, hlev, hlo, hce, hsl⟩ := O
  subst hnL
  subst hq
  intro H locs ls hsz hP hS hl
  exact lv_lshl hx hb hd rfl (h H locs ls hsz hP hS hl)
theorem J.lshr {X : CX} {G : GX} {cc : ByteArray} {n lev pc q : Nat} {own : String} {M : Mem} {lv : List (Nat × Value)} {st : List Value} {x : Int64} {y : Int32} (O : Ok X G cc n own lev) (hd : decode cc pc = .ok (.lshr, 1)) (hq : pc + 1 = q) (h : J X G M q lv (.long (x >>> (y.toInt64 &&& 63)) :: st)) : J X G M pc lv (.int y :: .long x :: st) := by
  obtain ⟨p, l, e, R, s, m, args, below, meth, c, nL, cells, slots, Q⟩ := X
  obtain ⟨hx, hb, hml, hnL, hown, hts, hK, hA, hZ, hlev, hlo, hce, hsl⟩ := O
  subst hnL
  subst hq
  intro H locs ls hsz hP hS hl
  exact lv_lshr hx hb hd rfl (h H locs ls hsz hP hS hl)
theorem J.lushr {X : CX} {G : GX} {cc : ByteArray} {n lev pc q : Nat} {own : String} {M : Mem} {lv : List (Nat × Value)} {st : List Value} {x : Int64} {y : Int32} (O : Ok X G cc n own lev) (hd : decode cc pc = .ok (.lushr, 1)) (hq : pc + 1 = q) (h : J X G M q lv (.long (x.toUInt64 >>> (y.toInt64.toUInt64 &&& Int64.toUInt64 63)).toInt64 :: st)) : J X G M pc lv (.int y :: .long x :: st) := by
  obtain ⟨p, l, e, R, s, m, args, below, meth, c, nL, cells, slots, Q⟩ := X
  obtain ⟨hx, hb, hml, hnL, hown, hts, hK, hA, hZ, hlev, hlo, hce, hsl⟩ := O
  subst hnL
  subst hq
  intro H locs ls hsz hP hS hl
  exact lv_lushr hx hb hd rfl (h H locs ls hsz hP hS hl)
theorem J.i2l {X : CX} {G : GX} {cc : ByteArray} {n lev pc q : Nat} {own : String} {M : Mem} {lv : List (Nat × Value)} {st : List Value} {x : Int32} (O : Ok X G cc n own lev) (hd : decode cc pc = .ok (.i2l, 1)) (hq : pc + 1 = q) (h : J X G M q lv (.long x.toInt64 :: st)) : J X G M pc lv (.int x :: st) := by
  obtain ⟨p, l, e, R, s, m, args, below, meth, c, nL, cells, slots, Q⟩ := X
  obtain ⟨hx, hb, hml, hnL, hown, hts, hK, hA, hZ, hlev, hlo, hce, hsl⟩ := O
  subst hnL
  subst hq
  intro H locs ls hsz hP hS hl
  exact lv_i2l hx hb hd rfl (h H locs ls hsz hP hS hl)
theorem J.l2i {X : CX} {G : GX} {cc : ByteArray} {n lev pc q : Nat} {own : String} {M : Mem} {lv : List (Nat × Value)} {st : List Value} {x : Int64} (O : Ok X G cc n own lev) (hd : decode cc pc = .ok (.l2i, 1)) (hq : pc + 1 = q) (h : J X G M q lv (.int x.toInt32 :: st)) : J X G M pc lv (.long x :: st) := by
  obtain ⟨p, l, e, R, s, m, args, below, meth, c, nL, cells, slots, Q⟩ := X
  obtain ⟨hx, hb, hml, hnL, hown, hts, hK, hA, hZ, hlev, hlo, hce, hsl⟩ := O
  subst hnL
  subst hq
  intro H locs ls hsz hP hS hl
  exact lv_l2i hx hb hd rfl (h H locs ls hsz hP hS hl)
theorem J.i2b {X : CX} {G : GX} {cc : ByteArray} {n lev pc q : Nat} {own : String} {M : Mem} {lv : List (Nat × Value)} {st : List Value} {x : Int32} (O : Ok X G cc n own lev) (hd : decode cc pc = .ok (.i2b, 1)) (hq : pc + 1 = q) (h : J X G M q lv (.int x.toInt8.toInt32 :: st)) : J X G M pc lv (.int x :: st) := by
  obtain ⟨p, l, e, R, s, m, args, below, meth, c, nL, cells, slots, Q⟩ := X
  obtain ⟨hx, hb, hml, hnL, hown, hts, hK, hA, hZ, hlev, hlo, hce, hsl⟩ := O
  subst hnL
  subst hq
  intro H locs ls hsz hP hS hl
  exact lv_i2b hx hb hd rfl (h H locs ls hsz hP hS hl)
theorem J.lcmp {X : CX} {G : GX} {cc : ByteArray} {n lev pc q : Nat} {own : String} {M : Mem} {lv : List (Nat × Value)} {st : List Value} {x y : Int64} (O : Ok X G cc n own lev) (hd : decode cc pc = .ok (.lcmp, 1)) (hq : pc + 1 = q) (h : J X G M q lv (.int (lg_cmp x y) :: st)) : J X G M pc lv (.long y :: .long x :: st) := by
  obtain ⟨p, l, e, R, s, m, args, below, meth, c, nL, cells, slots, Q⟩ := X
  obtain ⟨hx, hb, hml, hnL, hown, hts, hK, hA, hZ, hlev, hlo, hce, hsl⟩ := O
  subst hnL
  subst hq
  intro H locs ls hsz hP hS hl
  exact W.lcmp hx hb hd (h H locs ls hsz hP hS hl)
theorem J.dup {X : CX} {G : GX} {cc : ByteArray} {n lev pc q : Nat} {own : String} {M : Mem} {lv : List (Nat × Value)} {st : List Value} {a : Value} (O : Ok X G cc n own lev) (hd : decode cc pc = .ok (.dup, 1)) (hq : pc + 1 = q) (ha : a.category = 1) (h : J X G M q lv (a :: a :: st)) : J X G M pc lv (a :: st) := by
  obtain ⟨p, l, e, R, s, m, args, below, meth, c, nL, cells, slots, Q⟩ := X
  obtain ⟨hx, hb, hml, hnL, hown, hts, hK, hA, hZ, hlev, hlo, hce, hsl⟩ := O
  subst hnL
  subst hq
  intro H locs ls hsz hP hS hl
  exact lv_dup hx hb hd ha (h H locs ls hsz hP hS hl)
theorem J.pop {X : CX} {G : GX} {cc : ByteArray} {n lev pc q : Nat} {own : String} {M : Mem} {lv : List (Nat × Value)} {st : List Value} {a : Value} (O : Ok X G cc n own lev) (hd : decode cc pc = .ok (.pop, 1)) (hq : pc + 1 = q) (ha : a.category = 1) (h : J X G M q lv st) : J X G M pc lv (a :: st) := by
  obtain ⟨p, l, e, R, s, m, args, below, meth, c, nL, cells, slots, Q⟩ := X
  obtain ⟨hx, hb, hml, hnL, hown, hts, hK, hA, hZ, hlev, hlo, hce, hsl⟩ := O
  subst hnL
  subst hq
  intro H locs ls hsz hP hS hl
  exact lv_pop hx hb hd ha (h H locs ls hsz hP hS hl)
theorem J.dup2 {X : CX} {G : GX} {cc : ByteArray} {n lev pc q : Nat} {own : String} {M : Mem} {lv : List (Nat × Value)} {st : List Value} {a b : Value} (O : Ok X G cc n own lev) (hd : decode cc pc = .ok (.dup2, 1)) (hq : pc + 1 = q) (ha : a.category = 1) (hb2 : b.category = 1) (h : J X G M q lv (a :: b :: a :: b :: st)) : J X G M pc lv (a :: b :: st) := by
  obtain ⟨p, l, e, R, s, m, args, below, meth, c, nL, cells, slots, Q⟩ := X
  obtain ⟨hx, hb, hml, hnL, hown, hts, hK, hA, hZ, hlev, hlo, hce, hsl⟩ := O
  subst hnL
  subst hq
  intro H locs ls hsz hP hS hl
  exact lv_dup2_11 hx hb hd ha hb2 (h H locs ls hsz hP hS hl)
theorem J.dup_x1 {X : CX} {G : GX} {cc : ByteArray} {n lev pc q : Nat} {own : String} {M : Mem} {lv : List (Nat × Value)} {st : List Value} {a b : Value} (O : Ok X G cc n own lev) (hd : decode cc pc = .ok (.dup_x1, 1)) (hq : pc + 1 = q) (ha : a.category = 1) (hb2 : b.category = 1) (h : J X G M q lv (a :: b :: a :: st)) : J X G M pc lv (a :: b :: st) := by
  obtain ⟨p, l, e, R, s, m, args, below, meth, c, nL, cells, slots, Q⟩ := X
  obtain ⟨hx, hb, hml, hnL, hown, hts, hK, hA, hZ, hlev, hlo, hce, hsl⟩ := O
  subst hnL
  subst hq
  intro H locs ls hsz hP hS hl
  exact lv_dup_x1 hx hb hd ha hb2 (h H locs ls hsz hP hS hl)
theorem J.dup_x2 {X : CX} {G : GX} {cc : ByteArray} {n lev pc q : Nat} {own : String} {M : Mem} {lv : List (Nat × Value)} {st : List Value} {a b c : Value} (O : Ok X G cc n own lev) (hd : decode cc pc = .ok (.dup_x2, 1)) (hq : pc + 1 = q) (ha : a.category = 1) (hb2 : b.category = 1) (hc : c.category = 1) (h : J X G M q lv (a :: b :: c :: a :: st)) : J X G M pc lv (a :: b :: c :: st) := by
  obtain ⟨p, l, e, R, s, m, args, below, meth, c, nL, cells, slots, Q⟩ := X
  obtain ⟨hx, hb, hml, hnL, hown, hts, hK, hA, hZ, hlev, hlo, hce, hsl⟩ := O
  subst hnL
  subst hq
  intro H locs ls hsz hP hS hl
  exact lv_dup_x2 hx hb hd ha hb2 hc (h H locs ls hsz hP hS hl)
theorem J.if_eq {X : CX} {G : GX} {cc : ByteArray} {n lev pc q tgt : Nat} {own : String} {M : Mem} {lv : List (Nat × Value)} {st : List Value} {off : Int} {x : Int32} (O : Ok X G cc n own lev) (hd : decode cc pc = .ok (.ifCond .eq off, 3)) (hq : pc + 3 = q) (ht : (pc : Int) + off = (tgt : Int)) (h : x = 0 → J X G M tgt lv st) (h2 : ¬ x = 0 → J X G M q lv st) : J X G M pc lv (.int x :: st) := by
  obtain ⟨p, l, e, R, s, m, args, below, meth, c, nL, cells, slots, Q⟩ := X
  obtain ⟨hx, hb, hml, hnL, hown, hts, hK, hA, hZ, hlev, hlo, hce, hsl⟩ := O
  subst hnL
  subst hq
  intro H locs ls hsz hP hS hl
  exact lv_if_eq hx hb hd ht (fun z => h z H locs ls hsz hP hS hl) (fun z => h2 z H locs ls hsz hP hS hl)
theorem J.if_ne {X : CX} {G : GX} {cc : ByteArray} {n lev pc q tgt : Nat} {own : String} {M : Mem} {lv : List (Nat × Value)} {st : List Value} {off : Int} {x : Int32} (O : Ok X G cc n own lev) (hd : decode cc pc = .ok (.ifCond .ne off, 3)) (hq : pc + 3 = q) (ht : (pc : Int) + off = (tgt : Int)) (h : ¬ x = 0 → J X G M tgt lv st) (h2 : x = 0 → J X G M q lv st) : J X G M pc lv (.int x :: st) := by
  obtain ⟨p, l, e, R, s, m, args, below, meth, c, nL, cells, slots, Q⟩ := X
  obtain ⟨hx, hb, hml, hnL, hown, hts, hK, hA, hZ, hlev, hlo, hce, hsl⟩ := O
  subst hnL
  subst hq
  intro H locs ls hsz hP hS hl
  exact lv_if_ne hx hb hd ht (fun z => h z H locs ls hsz hP hS hl) (fun z => h2 z H locs ls hsz hP hS hl)
theorem J.if_lt {X : CX} {G : GX} {cc : ByteArray} {n lev pc q tgt : Nat} {own : String} {M : Mem} {lv : List (Nat × Value)} {st : List Value} {off : Int} {x : Int32} (O : Ok X G cc n own lev) (hd : decode cc pc = .ok (.ifCond .lt off, 3)) (hq : pc + 3 = q) (ht : (pc : Int) + off = (tgt : Int)) (h : x < 0 → J X G M tgt lv st) (h2 : ¬ x < 0 → J X G M q lv st) : J X G M pc lv (.int x :: st) := by
  obtain ⟨p, l, e, R, s, m, args, below, meth, c, nL, cells, slots, Q⟩ := X
  obtain ⟨hx, hb, hml, hnL, hown, hts, hK, hA, hZ, hlev, hlo, hce, hsl⟩ := O
  subst hnL
  subst hq
  intro H locs ls hsz hP hS hl
  exact lv_if_lt hx hb hd ht (fun z => h z H locs ls hsz hP hS hl) (fun z => h2 z H locs ls hsz hP hS hl)
theorem J.if_ge {X : CX} {G : GX} {cc : ByteArray} {n lev pc q tgt : Nat} {own : String} {M : Mem} {lv : List (Nat × Value)} {st : List Value} {off : Int} {x : Int32} (O : Ok X G cc n own lev) (hd : decode cc pc = .ok (.ifCond .ge off, 3)) (hq : pc + 3 = q) (ht : (pc : Int) + off = (tgt : Int)) (h : 0 ≤ x → J X G M tgt lv st) (h2 : ¬ 0 ≤ x → J X G M q lv st) : J X G M pc lv (.int x :: st) := by
  obtain ⟨p, l, e, R, s, m, args, below, meth, c, nL, cells, slots, Q⟩ := X
  obtain ⟨hx, hb, hml, hnL, hown, hts, hK, hA, hZ, hlev, hlo, hce, hsl⟩ := O
  subst hnL
  subst hq
  intro H locs ls hsz hP hS hl
  exact lv_if_ge hx hb hd ht (fun z => h z H locs ls hsz hP hS hl) (fun z => h2 z H locs ls hsz hP hS hl)
theorem J.if_gt {X : CX} {G : GX} {cc : ByteArray} {n lev pc q tgt : Nat} {own : String} {M : Mem} {lv : List (Nat × Value)} {st : List Value} {off : Int} {x : Int32} (O : Ok X G cc n own lev) (hd : decode cc pc = .ok (.ifCond .gt off, 3)) (hq : pc + 3 = q) (ht : (pc : Int) + off = (tgt : Int)) (h : 0 < x → J X G M tgt lv st) (h2 : ¬ 0 < x → J X G M q lv st) : J X G M pc lv (.int x :: st) := by
  obtain ⟨p, l, e, R, s, m, args, below, meth, c, nL, cells, slots, Q⟩ := X
  obtain ⟨hx, hb, hml, hnL, hown, hts, hK, hA, hZ, hlev, hlo, hce, hsl⟩ := O
  subst hnL
  subst hq
  intro H locs ls hsz hP hS hl
  exact lv_if_gt hx hb hd ht (fun z => h z H locs ls hsz hP hS hl) (fun z => h2 z H locs ls hsz hP hS hl)
theorem J.if_le {X : CX} {G : GX} {cc : ByteArray} {n lev pc q tgt : Nat} {own : String} {M : Mem} {lv : List (Nat × Value)} {st : List Value} {off : Int} {x : Int32} (O : Ok X G cc n own lev) (hd : decode cc pc = .ok (.ifCond .le off, 3)) (hq : pc + 3 = q) (ht : (pc : Int) + off = (tgt : Int)) (h : x ≤ 0 → J X G M tgt lv st) (h2 : ¬ x ≤ 0 → J X G M q lv st) : J X G M pc lv (.int x :: st) := by
  obtain ⟨p, l, e, R, s, m, args, below, meth, c, nL, cells, slots, Q⟩ := X
  obtain ⟨hx, hb, hml, hnL, hown, hts, hK, hA, hZ, hlev, hlo, hce, hsl⟩ := O
  subst hnL
  subst hq
  intro H locs ls hsz hP hS hl
  exact lv_if_le hx hb hd ht (fun z => h z H locs ls hsz hP hS hl) (fun z => h2 z H locs ls hsz hP hS hl)
theorem J.icmp_eq {X : CX} {G : GX} {cc : ByteArray} {n lev pc q tgt : Nat} {own : String} {M : Mem} {lv : List (Nat × Value)} {st : List Value} {off : Int} {x y : Int32} (O : Ok X G cc n own lev) (hd : decode cc pc = .ok (.if_icmp .eq off, 3)) (hq : pc + 3 = q) (ht : (pc : Int) + off = (tgt : Int)) (h : x = y → J X G M tgt lv st) (h2 : ¬ x = y → J X G M q lv st) : J X G M pc lv (.int y :: .int x :: st) := by
  obtain ⟨p, l, e, R, s, m, args, below, meth, c, nL, cells, slots, Q⟩ := X
  obtain ⟨hx, hb, hml, hnL, hown, hts, hK, hA, hZ, hlev, hlo, hce, hsl⟩ := O
  subst hnL
  subst hq
  intro H locs ls hsz hP hS hl
  exact lv_icmp_eq hx hb hd ht (fun z => h z H locs ls hsz hP hS hl) (fun z => h2 z H locs ls hsz hP hS hl)
theorem J.icmp_ne {X : CX} {G : GX} {cc : ByteArray} {n lev pc q tgt : Nat} {own : String} {M : Mem} {lv : List (Nat × Value)} {st : List Value} {off : Int} {x y : Int32} (O : Ok X G cc n own lev) (hd : decode cc pc = .ok (.if_icmp .ne off, 3)) (hq : pc + 3 = q) (ht : (pc : Int) + off = (tgt : Int)) (h : ¬ x = y → J X G M tgt lv st) (h2 : x = y → J X G M q lv st) : J X G M pc lv (.int y :: .int x :: st) := by
  obtain ⟨p, l, e, R, s, m, args, below, meth, c, nL, cells, slots, Q⟩ := X
  obtain ⟨hx, hb, hml, hnL, hown, hts, hK, hA, hZ, hlev, hlo, hce, hsl⟩ := O
  subst hnL
  subst hq
  intro H locs ls hsz hP hS hl
  exact lv_icmp_ne hx hb hd ht (fun z => h z H locs ls hsz hP hS hl) (fun z => h2 z H locs ls hsz hP hS hl)
theorem J.icmp_lt {X : CX} {G : GX} {cc : ByteArray} {n lev pc q tgt : Nat} {own : String} {M : Mem} {lv : List (Nat × Value)} {st : List Value} {off : Int} {x y : Int32} (O : Ok X G cc n own lev) (hd : decode cc pc = .ok (.if_icmp .lt off, 3)) (hq : pc + 3 = q) (ht : (pc : Int) + off = (tgt : Int)) (h : x < y → J X G M tgt lv st) (h2 : ¬ x < y → J X G M q lv st) : J X G M pc lv (.int y :: .int x :: st) := by
  obtain ⟨p, l, e, R, s, m, args, below, meth, c, nL, cells, slots, Q⟩ := X
  obtain ⟨hx, hb, hml, hnL, hown, hts, hK, hA, hZ, hlev, hlo, hce, hsl⟩ := O
  subst hnL
  subst hq
  intro H locs ls hsz hP hS hl
  exact lv_icmp_lt hx hb hd ht (fun z => h z H locs ls hsz hP hS hl) (fun z => h2 z H locs ls hsz hP hS hl)
theorem J.icmp_ge {X : CX} {G : GX} {cc : ByteArray} {n lev pc q tgt : Nat} {own : String} {M : Mem} {lv : List (Nat × Value)} {st : List Value} {off : Int} {x y : Int32} (O : Ok X G cc n own lev) (hd : decode cc pc = .ok (.if_icmp .ge off, 3)) (hq : pc + 3 = q) (ht : (pc : Int) + off = (tgt : Int)) (h : y ≤ x → J X G M tgt lv st) (h2 : ¬ y ≤ x → J X G M q lv st) : J X G M pc lv (.int y :: .int x :: st) := by
  obtain ⟨p, l, e, R, s, m, args, below, meth, c, nL, cells, slots, Q⟩ := X
  obtain ⟨hx, hb, hml, hnL, hown, hts, hK, hA, hZ, hlev, hlo, hce, hsl⟩ := O
  subst hnL
  subst hq
  intro H locs ls hsz hP hS hl
  exact lv_icmp_ge hx hb hd ht (fun z => h z H locs ls hsz hP hS hl) (fun z => h2 z H locs ls hsz hP hS hl)
theorem J.icmp_gt {X : CX} {G : GX} {cc : ByteArray} {n lev pc q tgt : Nat} {own : String} {M : Mem} {lv : List (Nat × Value)} {st : List Value} {off : Int} {x y : Int32} (O : Ok X G cc n own lev) (hd : decode cc pc = .ok (.if_icmp .gt off, 3)) (hq : pc + 3 = q) (ht : (pc : Int) + off = (tgt : Int)) (h : y < x → J X G M tgt lv st) (h2 : ¬ y < x → J X G M q lv st) : J X G M pc lv (.int y :: .int x :: st) := by
  obtain ⟨p, l, e, R, s, m, args, below, meth, c, nL, cells, slots, Q⟩ := X
  obtain ⟨hx, hb, hml, hnL, hown, hts, hK, hA, hZ, hlev, hlo, hce, hsl⟩ := O
  subst hnL
  subst hq
  intro H locs ls hsz hP hS hl
  exact lv_icmp_gt hx hb hd ht (fun z => h z H locs ls hsz hP hS hl) (fun z => h2 z H locs ls hsz hP hS hl)
theorem J.icmp_le {X : CX} {G : GX} {cc : ByteArray} {n lev pc q tgt : Nat} {own : String} {M : Mem} {lv : List (Nat × Value)} {st : List Value} {off : Int} {x y : Int32} (O : Ok X G cc n own lev) (hd : decode cc pc = .ok (.if_icmp .le off, 3)) (hq : pc + 3 = q) (ht : (pc : Int) + off = (tgt : Int)) (h : x ≤ y → J X G M tgt lv st) (h2 : ¬ x ≤ y → J X G M q lv st) : J X G M pc lv (.int y :: .int x :: st) := by
  obtain ⟨p, l, e, R, s, m, args, below, meth, c, nL, cells, slots, Q⟩ := X
  obtain ⟨hx, hb, hml, hnL, hown, hts, hK, hA, hZ, hlev, hlo, hce, hsl⟩ := O
  subst hnL
  subst hq
  intro H locs ls hsz hP hS hl
  exact lv_icmp_le hx hb hd ht (fun z => h z H locs ls hsz hP hS hl) (fun z => h2 z H locs ls hsz hP hS hl)
theorem J.goto {X : CX} {G : GX} {cc : ByteArray} {n lev pc q : Nat} {own : String} {M : Mem} {lv : List (Nat × Value)} {st : List Value} {off : Int} (O : Ok X G cc n own lev) (hd : decode cc pc = .ok (.goto off, 3)) (hq : (pc : Int) + off = (q : Int)) (h : J X G M q lv st) : J X G M pc lv st := by
  obtain ⟨p, l, e, R, s, m, args, below, meth, c, nL, cells, slots, Q⟩ := X
  obtain ⟨hx, hb, hml, hnL, hown, hts, hK, hA, hZ, hlev, hlo, hce, hsl⟩ := O
  subst hnL
  intro H locs ls hsz hP hS hl
  exact lv_goto hx hb hd hq (h H locs ls hsz hP hS hl)
theorem J.tswOut {X : CX} {G : GX} {cc : ByteArray} {n lev pc q len : Nat} {own : String} {M : Mem} {lv : List (Nat × Value)} {st : List Value} {dflt lo hi : Int} {offs : Array Int} {x : Int32} (O : Ok X G cc n own lev) (hd : decode cc pc = .ok (.tableswitch dflt lo hi offs, len)) (hz : x.toInt < lo ∨ hi < x.toInt) (hq : (pc : Int) + dflt = (q : Int)) (h : J X G M q lv st) : J X G M pc lv (.int x :: st) := by
  obtain ⟨p, l, e, R, s, m, args, below, meth, c, nL, cells, slots, Q⟩ := X
  obtain ⟨hx, hb, hml, hnL, hown, hts, hK, hA, hZ, hlev, hlo, hce, hsl⟩ := O
  subst hnL
  intro H locs ls hsz hP hS hl
  exact lv_tableOut hx hb hd hz hq (h H locs ls hsz hP hS hl)
theorem J.tswIn {X : CX} {G : GX} {cc : ByteArray} {n lev pc q len : Nat} {own : String} {M : Mem} {lv : List (Nat × Value)} {st : List Value} {dflt lo hi off : Int} {offs : Array Int} {x : Int32} (O : Ok X G cc n own lev) (hd : decode cc pc = .ok (.tableswitch dflt lo hi offs, len)) (v : Int32) (hx1 : x = v) (h1 : ¬ v.toInt < lo) (h2 : ¬ hi < v.toInt) (ho : offs[(v.toInt - lo).toNat]? = some off) (hq : (pc : Int) + off = (q : Int)) (h : J X G M q lv st) : J X G M pc lv (.int x :: st) := by
  subst hx1
  obtain ⟨p, l, e, R, s, m, args, below, meth, c, nL, cells, slots, Q⟩ := X
  obtain ⟨hx, hb, hml, hnL, hown, hts, hK, hA, hZ, hlev, hlo, hce, hsl⟩ := O
  subst hnL
  intro H locs ls hsz hP hS hl
  exact lv_tableIn hx hb hd h1 h2 ho hq (h H locs ls hsz hP hS hl)
theorem J.lsw {X : CX} {G : GX} {cc : ByteArray} {n lev pc q len : Nat} {own : String} {M : Mem} {lv : List (Nat × Value)} {st : List Value} {dflt off : Int} {ps : Array (Int × Int)} {x : Int32} (O : Ok X G cc n own lev) (hd : decode cc pc = .ok (.lookupswitch dflt ps, len)) (hp : (ps.toList.zip (ps.toList.drop 1)).all (fun (a, next) => a.1 < next.1) = true) (ho : Op.lookupswitch.offset ps.toList dflt x.toInt = off) (hq : (pc : Int) + off = (q : Int)) (h : J X G M q lv st) : J X G M pc lv (.int x :: st) := by
  obtain ⟨p, l, e, R, s, m, args, below, meth, c, nL, cells, slots, Q⟩ := X
  obtain ⟨hx, hb, hml, hnL, hown, hts, hK, hA, hZ, hlev, hlo, hce, hsl⟩ := O
  subst hnL
  intro H locs ls hsz hP hS hl
  exact lv_lookup hx hb hd hp ho hq (h H locs ls hsz hP hS hl)
theorem J.sub {X : CX} {G : GX} {M : Mem} {pc : Nat} {lv lv' : List (Nat × Value)} {st : List Value} (ks : List Nat) (hl' : lv_pick lv ks = lv') (h : J X G M pc lv' st) : J X G M pc lv st := by
  obtain ⟨p, l, e, R, s, m, args, below, meth, c, nL, cells, slots, Q⟩ := X
  intro H locs ls hsz hP hS hl
  exact h H locs ls hsz hP hS (lv_sub hl ks hl')
