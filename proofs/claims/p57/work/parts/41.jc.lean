/-! THE CONSTRUCTORS: a world that grows; its cells stand at ad G 0, ad G 1 .. -/
def updE (f : Nat → va_E) (k : Nat) (e : va_E) : Nat → va_E := fun j => if j = k then e else f j
theorem updE_eq (f : Nat → va_E) (k : Nat) (e : va_E) : updE f k e k = e := if_pos rfl
theorem updE_ne (f : Nat → va_E) {k j : Nat} (e : va_E) (h : j ≠ k) : updE f k e j = f j := if_neg h
theorem updE_self {f : Nat → va_E} {k : Nat} {e : va_E} (h : f k = e) : updE f k e = f := by
  funext j
  unfold updE
  by_cases hj : j = k
  · rw [if_pos hj, hj, h]
  · rw [if_neg hj]
theorem updE_two (f : Nat → va_E) (k : Nat) (a b : va_E) : updE (updE f k a) k b = updE f k b := by
  funext j
  unfold updE
  by_cases hj : j = k
  · rw [if_pos hj, if_pos hj]
  · rw [if_neg hj, if_neg hj, if_neg hj]
theorem updE_comm (f : Nat → va_E) {k j : Nat} (a b : va_E) (h : k ≠ j) : updE (updE f k a) j b = updE (updE f j b) k a := by
  funext i
  unfold updE
  by_cases h1 : i = j
  · subst h1; rw [if_pos rfl, if_neg (fun q => h q.symm), if_pos rfl]
  · by_cases h2 : i = k
    · subst h2; rw [if_neg h1, if_pos rfl, if_pos rfl]
    · rw [if_neg h1, if_neg h2, if_neg h2, if_neg h1]
def wlP (G : GX) (n : Nat) (f : Nat → va_E) : va_W := (List.range n).map (fun k => (ad G k, f k))
theorem wlP_len (G : GX) (n : Nat) (f : Nat → va_E) : (wlP G n f).length = n := by simp [wlP]
theorem wlP_get (G : GX) {n : Nat} (f : Nat → va_E) {k : Nat} (hk : k < n) : (wlP G n f)[k]? = some (ad G k, f k) := by simp [wlP, hk]
theorem wlP_at {G : GX} {n : Nat} {f : Nat → va_E} {k : Nat} {x : Nat × va_E} (hx : (wlP G n f)[k]? = some x) : k < n ∧ x = (ad G k, f k) := by
  have hl : k < n := by have := (List.getElem?_eq_some_iff.mp hx).1; rwa [wlP_len] at this
  rw [wlP_get G f hl] at hx
  exact ⟨hl, (Option.some.inj hx).symm⟩
theorem wlP_set (G : GX) (n : Nat) (f : Nat → va_E) (c : Nat) (e : va_E) : (wlP G n f).set c (ad G c, e) = wlP G n (updE f c e) := by
  apply List.ext_getElem?
  intro i
  rw [List.getElem?_set, wlP_len]
  by_cases hl : i < n
  · rw [wlP_get G (updE f c e) hl]
    by_cases hi : c = i
    · subst hi
      rw [if_pos rfl, if_pos hl, updE_eq]
    · rw [if_neg hi, wlP_get G f hl, updE_ne _ _ (fun q => hi q.symm)]
  · have h1 : (wlP G n (updE f c e))[i]? = none := by rw [List.getElem?_eq_none_iff, wlP_len]; omega
    rw [h1]
    by_cases hi : c = i
    · subst hi; rw [if_pos rfl, if_neg hl]
    · rw [if_neg hi, List.getElem?_eq_none_iff, wlP_len]; omega
theorem wlP_push (G : GX) (n : Nat) (f : Nat → va_E) : wlP G n f ++ [(ad G n, f n)] = wlP G (n + 1) f := by
  unfold wlP
  rw [List.range_succ, List.map_append]
  rfl
theorem wlP_updn (G : GX) (n : Nat) (f : Nat → va_E) (e : va_E) : wlP G n (updE f n e) = wlP G n f := by
  unfold wlP
  apply List.map_congr_left
  intro k hk
  have hk := List.mem_range.mp hk
  rw [updE_ne _ _ (by omega)]
theorem wlP_D {G : GX} (n : Nat) (f : Nat → va_E) (h : ∀ q, G.2.2.1 ≤ q → G.2.2.2.1 q) : va_D G.2.2.2.1 (wlP G n f) := by
  refine ⟨fun i j p q hi hj he => ?_, fun k q hk => ?_⟩
  · obtain ⟨-, rfl⟩ := wlP_at hi
    obtain ⟨-, rfl⟩ := wlP_at hj
    have : ad G i = ad G j := he
    unfold ad at this
    omega
  · obtain ⟨-, rfl⟩ := wlP_at hk
    exact h _ (Nat.le_add_right _ _)
theorem arrV_ext (c : ClassId) {N : Nat} {f g : Nat → Value} (h : ∀ j, j < N → f j = g j) : arrV c N f = arrV c N g := by
  unfold arrV
  congr 2
  funext j
  exact h j.val j.isLt
theorem ad_succ (G : GX) (n : Nat) : ad G (n + 1) = ad G n + 1 := by unfold ad; omega
/-! what the tables say, behind the words of TW -/
def va_AOA (t : FieldType) (U : State) : Prop := (Cond.arrayOver (.array t)).before #[] U = true
theorem va_AOA.of {t : FieldType} {A : Array Value} {U : State} (h : (Cond.arrayOver (.array t)).before A U = true) : va_AOA t U := h
theorem va_AOA.use {t : FieldType} {A : Array Value} {U : State} (h : va_AOA t U) : (Cond.arrayOver (.array t)).before A U = true := h
theorem idxB_bare (vm : Vm) (comp : ClassId) : (vm.bare.classes.findIdx? fun (x : Class) => match x.kind with | .array component _ => component == comp | _ => false) = (vm.classes.findIdx? fun (x : Class) => match x.kind with | .array component _ => component == comp | _ => false) := by
  simp only [Vm.bare, Array.findIdx?_map]
  rfl
theorem va_AOA.moved {t : FieldType} {u U : State} (hvm : u.vm.Alike U.vm) (h : va_AOA t u) : va_AOA t U := by
  obtain ⟨comp, c, k, h1, h2, h3, h4, h5⟩ := arrayOverA_spec h
  obtain ⟨k', hk', he⟩ := hvm.2.2 _ _ h3
  have hi : (U.vm.classes.findIdx? fun (x : Class) => match x.kind with | .array component _ => component == comp | _ => false) = some c := by
    rw [← idxB_bare]
    first | rw [hvm.bare_eq] | rw [← hvm.bare_eq]
    rw [idxB_bare]
    exact h2
  have hkind : k'.kind = .array comp (.array t) := by rw [he]; exact h4
  have f1 : U.vm.findClass (FieldType.array t).toString = some comp := by rw [hvm.findClass]; exact h1
  have f2 : U.vm.findClass ("[" ++ (FieldType.array t).toString) = some c := by rw [hvm.findClass]; exact h5
  unfold va_AOA Cond.before Cond.holds
  simp only [Cond.value]
  rw [f1, Option.bind_some]
  refine (congrArg (fun o : Option Nat => (o.bind (fun c => (U.vm.classes[c]?).map fun (k : Class) => match k.kind with | .array _ ty => decide (ty = FieldType.array t) && decide (U.vm.findClass ("[" ++ (FieldType.array t).toString) = some c) | _ => false) == some true)) hi).trans ?_
  simp [hk', hkind, f2]
def nestL : List (String × Nat × MethodName) := [(RX11, 18, yX9_init), (RX11, 25, yX0_init), (RX0, 32, yX7_init), (RX11, 32, yX2_init), (RX11, 49, yX1_init), (RX11, 56, yX4_init), (RX11, 63, yX8_init), (RX11, 70, yX10_init), (RX11, 77, yX6_init)]
def NwC (U : State) : Prop := (∀ x ∈ nestL, va_Nw (.methodLinkNest x.1 x.2.1 x.2.2 RX11) U) ∧ va_AO "WorksCouncil$Matter" U ∧ va_AOA .byte U ∧ va_AOA .int U
theorem NwC.warm {s U : State} (hW : s.WarmedH U.vm) (h : NwC s) : NwC U := ⟨fun x hx => (h.1 x hx).warmM hW, h.2.1.moved hW.alike, h.2.2.1.moved hW.alike, h.2.2.2.moved hW.alike⟩
def JC (X : CX) (G : GX) (nw : Nat) (f : Nat → va_E) (kc ks : Nat) (pc : Nat) (lv : List (Nat × Value)) (st : List Value) : Prop := match X with
  | (p, l, e, R, s, m, args, below, meth, c, nL, cells, slots, Q) => ∀ (H : Heap) (locs : List Loc) (ls : Array Slot), H.size = ad G nw → va_P G.1 vwCl (wlP G nw f) H → va_S G.2.2.2.1 s.heap H locs → lv_has ls nL lv → W p l e R s m args below meth c H locs kc ks Q (F0 m pc ls st)
def OkC (X : CX) (G : GX) (cc : ByteArray) (n : Nat) (own : String) (lev mc ms : Nat) : Prop := match X with
  | (p, l, e, R, s, m, args, below, meth, c, nL, cells, slots, Q) => p.tables.exec = Jvm.exec ∧ c.code = cc ∧ c.maxLocals = n ∧ nL = n ∧ s.vm.findClass own = some m.cls ∧ (∀ w ∈ TW, w.before args s = true) ∧ va_K G.1 vwCl (tysL G) s ∧ (∀ q, G.2.2.1 ≤ q → G.2.2.2.1 q) ∧ NwC s ∧ lev ≤ R.frames ∧ 41 * lev ≤ R.locals ∧ mc ≤ R.cells ∧ ms ≤ R.slots
def IniC (X : CX) : Prop := match X with
  | (p, l, e, R, s, m, args, below, meth, c, nL, cells, slots, Q) => meth.name = "<init>"
theorem JC.cast {X : CX} {G : GX} {nw kc ks pc : Nat} {f f' : Nat → va_E} {lv : List (Nat × Value)} {st : List Value} (e : f = f') (h : JC X G nw f' kc ks pc lv st) : JC X G nw f kc ks pc lv st := e ▸ h
theorem JC.iconst {X : CX} {G : GX} {cc : ByteArray} {n lev pc q : Nat} {own : String} {mc ms nw kc ks : Nat} {f : Nat → va_E} {lv : List (Nat × Value)} {st : List Value} {z : Int} {v : Int32} (O : OkC X G cc n own lev mc ms) (hd : decode cc pc = .ok (.iconst z, 1)) (hq : pc + 1 = q) (hv : Int32.ofInt z = v) (h : JC X G nw f kc ks q lv (.int v :: st)) : JC X G nw f kc ks pc lv st := by
  obtain ⟨p, l, e, R, s, m, args, below, meth, c, nL, cells, slots, Q⟩ := X
  obtain ⟨hx, hb, hml, hnL, hown, hts, hK, hA, hNw, hlev, hlo, hmc, hms⟩ := O
  subst hnL
  subst hq
  intro H locs ls hz hP hS hl
  exact lv_iconst hx hb hd hv (h H locs ls hz hP hS hl)
theorem JC.bipush {X : CX} {G : GX} {cc : ByteArray} {n lev pc q : Nat} {own : String} {mc ms nw kc ks : Nat} {f : Nat → va_E} {lv : List (Nat × Value)} {st : List Value} {z : Int} {v : Int32} (O : OkC X G cc n own lev mc ms) (hd : decode cc pc = .ok (.bipush z, 2)) (hq : pc + 2 = q) (hv : (Int8.ofInt z).toInt32 = v) (h : JC X G nw f kc ks q lv (.int v :: st)) : JC X G nw f kc ks pc lv st := by
  obtain ⟨p, l, e, R, s, m, args, below, meth, c, nL, cells, slots, Q⟩ := X
  obtain ⟨hx, hb, hml, hnL, hown, hts, hK, hA, hNw, hlev, hlo, hmc, hms⟩ := O
  subst hnL
  subst hq
  intro H locs ls hz hP hS hl
  exact lv_bipush hx hb hd hv (h H locs ls hz hP hS hl)
theorem JC.sipush {X : CX} {G : GX} {cc : ByteArray} {n lev pc q : Nat} {own : String} {mc ms nw kc ks : Nat} {f : Nat → va_E} {lv : List (Nat × Value)} {st : List Value} {z : Int} {v : Int32} (O : OkC X G cc n own lev mc ms) (hd : decode cc pc = .ok (.sipush z, 3)) (hq : pc + 3 = q) (hv : (Int16.ofInt z).toInt32 = v) (h : JC X G nw f kc ks q lv (.int v :: st)) : JC X G nw f kc ks pc lv st := by
  obtain ⟨p, l, e, R, s, m, args, below, meth, c, nL, cells, slots, Q⟩ := X
  obtain ⟨hx, hb, hml, hnL, hown, hts, hK, hA, hNw, hlev, hlo, hmc, hms⟩ := O
  subst hnL
  subst hq
  intro H locs ls hz hP hS hl
  exact lv_sipush hx hb hd hv (h H locs ls hz hP hS hl)
theorem JC.iload_n {X : CX} {G : GX} {cc : ByteArray} {n lev pc q : Nat} {own : String} {mc ms nw kc ks : Nat} {f : Nat → va_E} {lv : List (Nat × Value)} {st : List Value} {k : Fin 4} {x : Int32} (O : OkC X G cc n own lev mc ms) (hd : decode cc pc = .ok (.iload_n k, 1)) (hq : pc + 1 = q) (i : Nat) (hv : lv[i]? = some ((k : Nat), .int x)) (h : JC X G nw f kc ks q lv (.int x :: st)) : JC X G nw f kc ks pc lv st := by
  obtain ⟨p, l, e, R, s, m, args, below, meth, c, nL, cells, slots, Q⟩ := X
  obtain ⟨hx, hb, hml, hnL, hown, hts, hK, hA, hNw, hlev, hlo, hmc, hms⟩ := O
  subst hnL
  subst hq
  intro H locs ls hz hP hS hl
  exact lv_iload_n hx hb hd rfl (lv_at hl i hv) (h H locs ls hz hP hS hl)
theorem JC.aload_n {X : CX} {G : GX} {cc : ByteArray} {n lev pc q : Nat} {own : String} {mc ms nw kc ks : Nat} {f : Nat → va_E} {lv : List (Nat × Value)} {st : List Value} {k : Fin 4} {x : Nat} (O : OkC X G cc n own lev mc ms) (hd : decode cc pc = .ok (.aload_n k, 1)) (hq : pc + 1 = q) (i : Nat) (hv : lv[i]? = some ((k : Nat), .ref x)) (h : JC X G nw f kc ks q lv (.ref x :: st)) : JC X G nw f kc ks pc lv st := by
  obtain ⟨p, l, e, R, s, m, args, below, meth, c, nL, cells, slots, Q⟩ := X
  obtain ⟨hx, hb, hml, hnL, hown, hts, hK, hA, hNw, hlev, hlo, hmc, hms⟩ := O
  subst hnL
  subst hq
  intro H locs ls hz hP hS hl
  exact lv_aload_n hx hb hd rfl (lv_at hl i hv) (h H locs ls hz hP hS hl)
theorem JC.istore_n {X : CX} {G : GX} {cc : ByteArray} {n lev pc q : Nat} {own : String} {mc ms nw kc ks : Nat} {f : Nat → va_E} {lv : List (Nat × Value)} {st : List Value} {k : Fin 4} {x : Int32} (O : OkC X G cc n own lev mc ms) (hd : decode cc pc = .ok (.istore_n k, 1)) (hq : pc + 1 = q) (lv' : List (Nat × Value)) (hn : (k : Nat) < n) (hl' : ((k : Nat), Value.int x) :: lv.filter (fun q => !(q.1 == (k : Nat)) && !(q.1 + 1 == (k : Nat) && q.2.category == 2)) = lv') (h : JC X G nw f kc ks q lv' st) : JC X G nw f kc ks pc lv (.int x :: st) := by
  obtain ⟨p, l, e, R, s, m, args, below, meth, c, nL, cells, slots, Q⟩ := X
  obtain ⟨hx, hb, hml, hnL, hown, hts, hK, hA, hNw, hlev, hlo, hmc, hms⟩ := O
  subst hnL
  subst hq
  intro H locs ls hz hP hS hl
  exact lv_istore_n hx hb hd rfl hl hn hl' (fun ls' hl2 => h H locs ls' hz hP hS hl2)
theorem JC.astore_n {X : CX} {G : GX} {cc : ByteArray} {n lev pc q : Nat} {own : String} {mc ms nw kc ks : Nat} {f : Nat → va_E} {lv : List (Nat × Value)} {st : List Value} {k : Fin 4} {x : Nat} (O : OkC X G cc n own lev mc ms) (hd : decode cc pc = .ok (.astore_n k, 1)) (hq : pc + 1 = q) (lv' : List (Nat × Value)) (hn : (k : Nat) < n) (hl' : ((k : Nat), Value.ref x) :: lv.filter (fun q => !(q.1 == (k : Nat)) && !(q.1 + 1 == (k : Nat) && q.2.category == 2)) = lv') (h : JC X G nw f kc ks q lv' st) : JC X G nw f kc ks pc lv (.ref x :: st) := by
  obtain ⟨p, l, e, R, s, m, args, below, meth, c, nL, cells, slots, Q⟩ := X
  obtain ⟨hx, hb, hml, hnL, hown, hts, hK, hA, hNw, hlev, hlo, hmc, hms⟩ := O
  subst hnL
  subst hq
  intro H locs ls hz hP hS hl
  exact lv_astore_n hx hb hd rfl hl hn hl' (fun ls' hl2 => h H locs ls' hz hP hS hl2)
theorem JC.iinc {X : CX} {G : GX} {cc : ByteArray} {n lev pc q : Nat} {own : String} {mc ms nw kc ks : Nat} {f : Nat → va_E} {lv : List (Nat × Value)} {st : List Value} {j : Nat} {z : Int} {x v : Int32} (O : OkC X G cc n own lev mc ms) (hd : decode cc pc = .ok (.iinc j z, 3)) (hq : pc + 3 = q) (lv' : List (Nat × Value)) (i : Nat) (hk : lv[i]? = some (j, .int x)) (hv : x + Int32.ofInt z = v) (hn : j < n) (hl' : (j, Value.int v) :: lv.filter (fun q => !(q.1 == j) && !(q.1 + 1 == j && q.2.category == 2)) = lv') (h : JC X G nw f kc ks q lv' st) : JC X G nw f kc ks pc lv st := by
  obtain ⟨p, l, e, R, s, m, args, below, meth, c, nL, cells, slots, Q⟩ := X
  obtain ⟨hx, hb, hml, hnL, hown, hts, hK, hA, hNw, hlev, hlo, hmc, hms⟩ := O
  subst hnL
  subst hq
  intro H locs ls hz hP hS hl
  exact lv_iinc hx hb hd hl hk hv hn hl' (fun ls' hl2 => h H locs ls' hz hP hS hl2)
theorem JC.iadd {X : CX} {G : GX} {cc : ByteArray} {n lev pc q : Nat} {own : String} {mc ms nw kc ks : Nat} {f : Nat → va_E} {lv : List (Nat × Value)} {st : List Value} {x y : Int32} (O : OkC X G cc n own lev mc ms) (hd : decode cc pc = .ok (.iadd, 1)) (hq : pc + 1 = q) (h : JC X G nw f kc ks q lv (.int (x + y) :: st)) : JC X G nw f kc ks pc lv (.int y :: .int x :: st) := by
  obtain ⟨p, l, e, R, s, m, args, below, meth, c, nL, cells, slots, Q⟩ := X
  obtain ⟨hx, hb, hml, hnL, hown, hts, hK, hA, hNw, hlev, hlo, hmc, hms⟩ := O
  subst hnL
  subst hq
  intro H locs ls hz hP hS hl
  exact lv_iadd hx hb hd (h H locs ls hz hP hS hl)
theorem JC.irem {X : CX} {G : GX} {cc : ByteArray} {n lev pc q : Nat} {own : String} {mc ms nw kc ks : Nat} {f : Nat → va_E} {lv : List (Nat × Value)} {st : List Value} {x y : Int32} (O : OkC X G cc n own lev mc ms) (hd : decode cc pc = .ok (.irem, 1)) (hq : pc + 1 = q) (hne : ¬ y = 0) (h : JC X G nw f kc ks q lv (.int (x - x / y * y) :: st)) : JC X G nw f kc ks pc lv (.int y :: .int x :: st) := by
  obtain ⟨p, l, e, R, s, m, args, below, meth, c, nL, cells, slots, Q⟩ := X
  obtain ⟨hx, hb, hml, hnL, hown, hts, hK, hA, hNw, hlev, hlo, hmc, hms⟩ := O
  subst hnL
  subst hq
  intro H locs ls hz hP hS hl
  exact lv_irem hx hb hd hne (h H locs ls hz hP hS hl)
theorem JC.dup {X : CX} {G : GX} {cc : ByteArray} {n lev pc q : Nat} {own : String} {mc ms nw kc ks : Nat} {f : Nat → va_E} {lv : List (Nat × Value)} {st : List Value} {a : Value} (O : OkC X G cc n own lev mc ms) (hd : decode cc pc = .ok (.dup, 1)) (hq : pc + 1 = q) (ha : a.category = 1) (h : JC X G nw f kc ks q lv (a :: a :: st)) : JC X G nw f kc ks pc lv (a :: st) := by
  obtain ⟨p, l, e, R, s, m, args, below, meth, c, nL, cells, slots, Q⟩ := X
  obtain ⟨hx, hb, hml, hnL, hown, hts, hK, hA, hNw, hlev, hlo, hmc, hms⟩ := O
  subst hnL
  subst hq
  intro H locs ls hz hP hS hl
  exact lv_dup hx hb hd ha (h H locs ls hz hP hS hl)
theorem JC.icmp_eq {X : CX} {G : GX} {cc : ByteArray} {n lev pc q tgt : Nat} {own : String} {mc ms nw kc ks : Nat} {f : Nat → va_E} {lv : List (Nat × Value)} {st : List Value} {off : Int} {x y : Int32} (O : OkC X G cc n own lev mc ms) (hd : decode cc pc = .ok (.if_icmp .eq off, 3)) (hq : pc + 3 = q) (ht : (pc : Int) + off = (tgt : Int)) (h : x = y → JC X G nw f kc ks tgt lv st) (h2 : ¬ x = y → JC X G nw f kc ks q lv st) : JC X G nw f kc ks pc lv (.int y :: .int x :: st) := by
  obtain ⟨p, l, e, R, s, m, args, below, meth, c, nL, cells, slots, Q⟩ := X
  obtain ⟨hx, hb, hml, hnL, hown, hts, hK, hA, hNw, hlev, hlo, hmc, hms⟩ := O
  subst hnL
  subst hq
  intro H locs ls hz hP hS hl
  exact lv_icmp_eq hx hb hd ht (fun z => h z H locs ls hz hP hS hl) (fun z => h2 z H locs ls hz hP hS hl)
theorem JC.icmp_ne {X : CX} {G : GX} {cc : ByteArray} {n lev pc q tgt : Nat} {own : String} {mc ms nw kc ks : Nat} {f : Nat → va_E} {lv : List (Nat × Value)} {st : List Value} {off : Int} {x y : Int32} (O : OkC X G cc n own lev mc ms) (hd : decode cc pc = .ok (.if_icmp .ne off, 3)) (hq : pc + 3 = q) (ht : (pc : Int) + off = (tgt : Int)) (h : ¬ x = y → JC X G nw f kc ks tgt lv st) (h2 : x = y → JC X G nw f kc ks q lv st) : JC X G nw f kc ks pc lv (.int y :: .int x :: st) := by
  obtain ⟨p, l, e, R, s, m, args, below, meth, c, nL, cells, slots, Q⟩ := X
  obtain ⟨hx, hb, hml, hnL, hown, hts, hK, hA, hNw, hlev, hlo, hmc, hms⟩ := O
  subst hnL
  subst hq
  intro H locs ls hz hP hS hl
  exact lv_icmp_ne hx hb hd ht (fun z => h z H locs ls hz hP hS hl) (fun z => h2 z H locs ls hz hP hS hl)
theorem JC.icmp_lt {X : CX} {G : GX} {cc : ByteArray} {n lev pc q tgt : Nat} {own : String} {mc ms nw kc ks : Nat} {f : Nat → va_E} {lv : List (Nat × Value)} {st : List Value} {off : Int} {x y : Int32} (O : OkC X G cc n own lev mc ms) (hd : decode cc pc = .ok (.if_icmp .lt off, 3)) (hq : pc + 3 = q) (ht : (pc : Int) + off = (tgt : Int)) (h : x < y → JC X G nw f kc ks tgt lv st) (h2 : ¬ x < y → JC X G nw f kc ks q lv st) : JC X G nw f kc ks pc lv (.int y :: .int x :: st) := by
  obtain ⟨p, l, e, R, s, m, args, below, meth, c, nL, cells, slots, Q⟩ := X
  obtain ⟨hx, hb, hml, hnL, hown, hts, hK, hA, hNw, hlev, hlo, hmc, hms⟩ := O
  subst hnL
  subst hq
  intro H locs ls hz hP hS hl
  exact lv_icmp_lt hx hb hd ht (fun z => h z H locs ls hz hP hS hl) (fun z => h2 z H locs ls hz hP hS hl)
theorem JC.icmp_ge {X : CX} {G : GX} {cc : ByteArray} {n lev pc q tgt : Nat} {own : String} {mc ms nw kc ks : Nat} {f : Nat → va_E} {lv : List (Nat × Value)} {st : List Value} {off : Int} {x y : Int32} (O : OkC X G cc n own lev mc ms) (hd : decode cc pc = .ok (.if_icmp .ge off, 3)) (hq : pc + 3 = q) (ht : (pc : Int) + off = (tgt : Int)) (h : y ≤ x → JC X G nw f kc ks tgt lv st) (h2 : ¬ y ≤ x → JC X G nw f kc ks q lv st) : JC X G nw f kc ks pc lv (.int y :: .int x :: st) := by
  obtain ⟨p, l, e, R, s, m, args, below, meth, c, nL, cells, slots, Q⟩ := X
  obtain ⟨hx, hb, hml, hnL, hown, hts, hK, hA, hNw, hlev, hlo, hmc, hms⟩ := O
  subst hnL
  subst hq
  intro H locs ls hz hP hS hl
  exact lv_icmp_ge hx hb hd ht (fun z => h z H locs ls hz hP hS hl) (fun z => h2 z H locs ls hz hP hS hl)
theorem JC.icmp_gt {X : CX} {G : GX} {cc : ByteArray} {n lev pc q tgt : Nat} {own : String} {mc ms nw kc ks : Nat} {f : Nat → va_E} {lv : List (Nat × Value)} {st : List Value} {off : Int} {x y : Int32} (O : OkC X G cc n own lev mc ms) (hd : decode cc pc = .ok (.if_icmp .gt off, 3)) (hq : pc + 3 = q) (ht : (pc : Int) + off = (tgt : Int)) (h : y < x → JC X G nw f kc ks tgt lv st) (h2 : ¬ y < x → JC X G nw f kc ks q lv st) : JC X G nw f kc ks pc lv (.int y :: .int x :: st) := by
  obtain ⟨p, l, e, R, s, m, args, below, meth, c, nL, cells, slots, Q⟩ := X
  obtain ⟨hx, hb, hml, hnL, hown, hts, hK, hA, hNw, hlev, hlo, hmc, hms⟩ := O
  subst hnL
  subst hq
  intro H locs ls hz hP hS hl
  exact lv_icmp_gt hx hb hd ht (fun z => h z H locs ls hz hP hS hl) (fun z => h2 z H locs ls hz hP hS hl)
theorem JC.icmp_le {X : CX} {G : GX} {cc : ByteArray} {n lev pc q tgt : Nat} {own : String} {mc ms nw kc ks : Nat} {f : Nat → va_E} {lv : List (Nat × Value)} {st : List Value} {off : Int} {x y : Int32} (O : OkC X G cc n own lev mc ms) (hd : decode cc pc = .ok (.if_icmp .le off, 3)) (hq : pc + 3 = q) (ht : (pc : Int) + off = (tgt : Int)) (h : x ≤ y → JC X G nw f kc ks tgt lv st) (h2 : ¬ x ≤ y → JC X G nw f kc ks q lv st) : JC X G nw f kc ks pc lv (.int y :: .int x :: st) := by
  obtain ⟨p, l, e, R, s, m, args, below, meth, c, nL, cells, slots, Q⟩ := X
  obtain ⟨hx, hb, hml, hnL, hown, hts, hK, hA, hNw, hlev, hlo, hmc, hms⟩ := O
  subst hnL
  subst hq
  intro H locs ls hz hP hS hl
  exact lv_icmp_le hx hb hd ht (fun z => h z H locs ls hz hP hS hl) (fun z => h2 z H locs ls hz hP hS hl)
theorem JC.goto {X : CX} {G : GX} {cc : ByteArray} {n lev pc q : Nat} {own : String} {mc ms nw kc ks : Nat} {f : Nat → va_E} {lv : List (Nat × Value)} {st : List Value} {off : Int} (O : OkC X G cc n own lev mc ms) (hd : decode cc pc = .ok (.goto off, 3)) (hq : (pc : Int) + off = (q : Int)) (h : JC X G nw f kc ks q lv st) : JC X G nw f kc ks pc lv st := by
  obtain ⟨p, l, e, R, s, m, args, below, meth, c, nL, cells, slots, Q⟩ := X
  obtain ⟨hx, hb, hml, hnL, hown, hts, hK, hA, hNw, hlev, hlo, hmc, hms⟩ := O
  subst hnL
  intro H locs ls hz hP hS hl
  exact lv_goto hx hb hd hq (h H locs ls hz hP hS hl)
theorem JC.objInit {X : CX} {G : GX} {cc : ByteArray} {n lev pc q : Nat} {own : String} {mc ms nw kc ks : Nat} {f : Nat → va_E} {lv : List (Nat × Value)} {st : List Value} {ix a : Nat} (O : OkC X G cc n own lev mc ms) (hd : decode cc pc = .ok (.invokespecial ix, 3)) (hq : pc + 3 = q) (hw : Cond.methodLink own ix Lib.objectInit ∈ TW) (hlv : 1 ≤ lev) (hc8 : (st.map fun v => v.category).sum ≤ 8) (h : JC X G nw f kc ks q lv st) : JC X G nw f kc ks pc lv (.ref a :: st) := by
  obtain ⟨p, l, e, R, s, m, args, below, meth, c, nL, cells, slots, Q⟩ := X
  obtain ⟨hx, hb, hml, hnL, hown, hts, hK, hA, hNw, hlev, hlo, hmc, hms⟩ := O
  subst hnL
  subst hq
  intro H locs ls hz hP hS hl
  refine W.objInit hx hb hown (hts _ hw) (hts _ wd_1_21) (hts _ wd_1_22) rfl (hl.1.trans hml.symm) rfl hd (by omega) (by show 2 * 0 + _ + 12 ≤ _; omega) ?_
  exact h H locs ls hz hP hS hl
/-- an object as it is born -/
def newE (ci : Nat) : va_E := .inr (ci, (List.range (flN ci)).map (fun j => defaultValue (clTy ci j)))
theorem grow_S {A : Nat → Prop} {H0 H H1 : Heap} {locs : List Loc} {h : Nat} (hS : va_S A H0 H locs) (hz : H.size = h) (z1 : h ≤ H1.size) (o1 : ∀ q, q < h → H1[q]? = H[q]?) : va_S A H0 H1 locs :=
  ⟨Nat.le_trans hS.1 (by omega), fun x h1 h2 => (o1 x (by have := hS.1; omega)).trans (hS.2.1 x h1 h2), hS.2.2⟩
theorem grow_P {G : GX} {n : Nat} {f : Nat → va_E} {H H1 : Heap} (e : va_E) (hP : va_P G.1 vwCl (wlP G n f) H) (hz : H.size = ad G n) (o1 : ∀ q, q < ad G n → H1[q]? = H[q]?) (hc : va_at G.1 vwCl (ad G n, e) H1) : va_P G.1 vwCl (wlP G (n + 1) (updE f n e)) H1 := by
  rw [← wlP_push, wlP_updn, updE_eq]
  have hk : ∀ (k : Nat) (x : Nat × va_E), (wlP G n f)[k]? = some x → H1[x.1]? = H[x.1]? := fun k x hx => o1 x.1 (by rw [← hz]; exact (hP k x hx).lt)
  refine (hP.kept hk).app (fun k x hx => ?_)
  have hz9 : k < 1 := (List.getElem?_eq_some_iff.mp hx).1
  rw [show k = 0 by omega] at hx
  cases hx
  exact hc
theorem JC.new {X : CX} {G : GX} {cc : ByteArray} {n lev pc q : Nat} {own : String} {mc ms nw kc ks : Nat} {f : Nat → va_E} {lv : List (Nat × Value)} {st : List Value} {ci ix : Nat} (O : OkC X G cc n own lev mc ms) (hd : decode cc pc = .ok (.new ix, 3)) (hq : pc + 3 = q) (hci : ci < 12) (hw1 : Cond.classLink own ix (clS ci).1 ∈ TW) (hw2 : Cond.instantiable (clS ci).1 (flN ci) ∈ TW) (hw3 : Cond.initialized (clS ci).1 ∈ TW) (hkc : kc + 1 ≤ mc) (hks : ks + flN ci ≤ ms) (h : JC X G (nw + 1) (updE f nw (newE ci)) (kc + 1) (ks + flN ci) q lv (.ref (ad G nw) :: st)) : JC X G nw f kc ks pc lv st := by
  obtain ⟨p, l, e, R, s, m, args, below, meth, c, nL, cells, slots, Q⟩ := X
  obtain ⟨hx, hb, hml, hnL, hown, hts, hK, hA, hNw, hlev, hlo, hmc, hms⟩ := O
  subst hnL
  subst hq
  intro H locs ls hz hP hS hl
  have hKn := hK.1 ci _ (clS_get hci)
  refine W.newcK hx hb hown (hts _ hw1) (hts _ hw2) (hts _ hw3) rfl hd (by omega) (by omega) hKn.2.1 hz (fun H1 kC hkC e1 z1 o1 => ?_)
  refine h H1 locs ls (by rw [z1, ad_succ]) (grow_P _ hP hz o1 ?_) (grow_S hS hz (by omega) o1) hl
  refine ⟨_, clS_get hci, (u_born (clTy ci) hts (inU hci) hKn hkC e1 (clTok hci)).to (fun j hj => ?_)⟩
  have hj2 : j < flN ci := hj
  simp [vp_V, hj2]
/-- an int array, of a kind of int -/
def aE (G : GX) (t N : Nat) (r : Nat → Int32) : va_E := .inl (G.2.1 t, N, .inl r)
def aJ (G : GX) (N : Nat) (r : Nat → Int64) : va_E := .inl (G.2.1 3, N, .inr (.inl r))
def aR (G : GX) (t N : Nat) (r : Nat → Option Nat) : va_E := .inl (G.2.1 (t + 4), N, .inr (.inr (.inr (.inr r))))
theorem JC.newIf {X : CX} {G : GX} {cc : ByteArray} {n lev pc q : Nat} {own : String} {mc ms nw kc ks : Nat} {f : Nat → va_E} {lv : List (Nat × Value)} {st : List Value} {z : Int32} {N : Nat} (O : OkC X G cc n own lev mc ms) (hd : decode cc pc = .ok (.newarray .int, 2)) (hq : pc + 2 = q) (harr : Cond.arrayClass .int ∈ TW) (hn : ¬ z < 0) (hN : z.toNatClampNeg = N) (hby : N * componentBytes .int ≤ 536870912) (hkc : kc + 1 ≤ mc) (hks : ks + N ≤ ms) (h : JC X G (nw + 1) (updE f nw (aE G 0 N (fun _ => 0))) (kc + 1) (ks + N) q lv (.ref (ad G nw) :: st)) : JC X G nw f kc ks pc lv (.int z :: st) := by
  obtain ⟨p, l, e, R, s, m, args, below, meth, c, nL, cells, slots, Q⟩ := X
  obtain ⟨hx, hb, hml, hnL, hown, hts, hK, hA, hNw, hlev, hlo, hmc, hms⟩ := O
  subst hnL
  subst hq
  intro H locs ls hz hP hS hl
  refine va_newaK (atype := .int) hx hb (hts _ harr) rfl hd rfl hn hN hby (by omega) (by omega) hz (fun H1 cA e1 z1 o1 hAr hNm => ?_)
  have hcA : cA = G.2.1 0 := Option.some.inj (hNm.symm.trans (hK.2 0 _ rfl).2)
  subst hcA
  refine h H1 locs ls (by rw [z1, ad_succ]) (grow_P _ hP hz o1 ?_) (grow_S hS hz (by omega) o1) hl
  show H1[ad G nw]? = some (vp_cell _ _)
  rw [e1]
  rfl
theorem JC.newI {X : CX} {G : GX} {cc : ByteArray} {n lev pc q : Nat} {own : String} {mc ms nw kc ks : Nat} {f : Nat → va_E} {lv : List (Nat × Value)} {st : List Value} {z : Int32} {N o : Nat} {e9 : va_E} (O : OkC X G cc n own lev mc ms) (hd : decode cc pc = .ok (.newarray .int, 2)) (hq : pc + 2 = q) (harr : Cond.arrayClass .int ∈ TW) (hn : ¬ z < 0) (hN : z.toNatClampNeg = N) (hby : N * componentBytes .int ≤ 536870912) (hkc : kc + 1 ≤ mc) (hks : ks + N ≤ ms) (ho : nw ≠ o) (hf : f nw = (aE G 0 N (fun _ => 0))) (h : JC X G (nw + 1) (updE f o e9) (kc + 1) (ks + N) q lv (.ref (ad G nw) :: st)) : JC X G nw (updE f o e9) kc ks pc lv (.int z :: st) := by
  refine JC.newIf O hd hq harr hn hN hby hkc hks ?_
  rw [updE_self ((updE_ne _ _ ho).trans hf)]
  exact h
theorem JC.newZf {X : CX} {G : GX} {cc : ByteArray} {n lev pc q : Nat} {own : String} {mc ms nw kc ks : Nat} {f : Nat → va_E} {lv : List (Nat × Value)} {st : List Value} {z : Int32} {N : Nat} (O : OkC X G cc n own lev mc ms) (hd : decode cc pc = .ok (.newarray .boolean, 2)) (hq : pc + 2 = q) (harr : Cond.arrayClass .boolean ∈ TW) (hn : ¬ z < 0) (hN : z.toNatClampNeg = N) (hby : N * componentBytes .boolean ≤ 536870912) (hkc : kc + 1 ≤ mc) (hks : ks + N ≤ ms) (h : JC X G (nw + 1) (updE f nw (aE G 1 N (fun _ => 0))) (kc + 1) (ks + N) q lv (.ref (ad G nw) :: st)) : JC X G nw f kc ks pc lv (.int z :: st) := by
  obtain ⟨p, l, e, R, s, m, args, below, meth, c, nL, cells, slots, Q⟩ := X
  obtain ⟨hx, hb, hml, hnL, hown, hts, hK, hA, hNw, hlev, hlo, hmc, hms⟩ := O
  subst hnL
  subst hq
  intro H locs ls hz hP hS hl
  refine va_newaK (atype := .boolean) hx hb (hts _ harr) rfl hd rfl hn hN hby (by omega) (by omega) hz (fun H1 cA e1 z1 o1 hAr hNm => ?_)
  have hcA : cA = G.2.1 1 := Option.some.inj (hNm.symm.trans (hK.2 1 _ rfl).2)
  subst hcA
  refine h H1 locs ls (by rw [z1, ad_succ]) (grow_P _ hP hz o1 ?_) (grow_S hS hz (by omega) o1) hl
  show H1[ad G nw]? = some (vp_cell _ _)
  rw [e1]
  rfl
theorem JC.newZ {X : CX} {G : GX} {cc : ByteArray} {n lev pc q : Nat} {own : String} {mc ms nw kc ks : Nat} {f : Nat → va_E} {lv : List (Nat × Value)} {st : List Value} {z : Int32} {N o : Nat} {e9 : va_E} (O : OkC X G cc n own lev mc ms) (hd : decode cc pc = .ok (.newarray .boolean, 2)) (hq : pc + 2 = q) (harr : Cond.arrayClass .boolean ∈ TW) (hn : ¬ z < 0) (hN : z.toNatClampNeg = N) (hby : N * componentBytes .boolean ≤ 536870912) (hkc : kc + 1 ≤ mc) (hks : ks + N ≤ ms) (ho : nw ≠ o) (hf : f nw = (aE G 1 N (fun _ => 0))) (h : JC X G (nw + 1) (updE f o e9) (kc + 1) (ks + N) q lv (.ref (ad G nw) :: st)) : JC X G nw (updE f o e9) kc ks pc lv (.int z :: st) := by
  refine JC.newZf O hd hq harr hn hN hby hkc hks ?_
  rw [updE_self ((updE_ne _ _ ho).trans hf)]
  exact h
theorem JC.newBf {X : CX} {G : GX} {cc : ByteArray} {n lev pc q : Nat} {own : String} {mc ms nw kc ks : Nat} {f : Nat → va_E} {lv : List (Nat × Value)} {st : List Value} {z : Int32} {N : Nat} (O : OkC X G cc n own lev mc ms) (hd : decode cc pc = .ok (.newarray .byte, 2)) (hq : pc + 2 = q) (harr : Cond.arrayClass .byte ∈ TW) (hn : ¬ z < 0) (hN : z.toNatClampNeg = N) (hby : N * componentBytes .byte ≤ 536870912) (hkc : kc + 1 ≤ mc) (hks : ks + N ≤ ms) (h : JC X G (nw + 1) (updE f nw (aE G 2 N (fun _ => 0))) (kc + 1) (ks + N) q lv (.ref (ad G nw) :: st)) : JC X G nw f kc ks pc lv (.int z :: st) := by
  obtain ⟨p, l, e, R, s, m, args, below, meth, c, nL, cells, slots, Q⟩ := X
  obtain ⟨hx, hb, hml, hnL, hown, hts, hK, hA, hNw, hlev, hlo, hmc, hms⟩ := O
  subst hnL
  subst hq
  intro H locs ls hz hP hS hl
  refine va_newaK (atype := .byte) hx hb (hts _ harr) rfl hd rfl hn hN hby (by omega) (by omega) hz (fun H1 cA e1 z1 o1 hAr hNm => ?_)
  have hcA : cA = G.2.1 2 := Option.some.inj (hNm.symm.trans (hK.2 2 _ rfl).2)
  subst hcA
  refine h H1 locs ls (by rw [z1, ad_succ]) (grow_P _ hP hz o1 ?_) (grow_S hS hz (by omega) o1) hl
  show H1[ad G nw]? = some (vp_cell _ _)
  rw [e1]
  rfl
theorem JC.newB {X : CX} {G : GX} {cc : ByteArray} {n lev pc q : Nat} {own : String} {mc ms nw kc ks : Nat} {f : Nat → va_E} {lv : List (Nat × Value)} {st : List Value} {z : Int32} {N o : Nat} {e9 : va_E} (O : OkC X G cc n own lev mc ms) (hd : decode cc pc = .ok (.newarray .byte, 2)) (hq : pc + 2 = q) (harr : Cond.arrayClass .byte ∈ TW) (hn : ¬ z < 0) (hN : z.toNatClampNeg = N) (hby : N * componentBytes .byte ≤ 536870912) (hkc : kc + 1 ≤ mc) (hks : ks + N ≤ ms) (ho : nw ≠ o) (hf : f nw = (aE G 2 N (fun _ => 0))) (h : JC X G (nw + 1) (updE f o e9) (kc + 1) (ks + N) q lv (.ref (ad G nw) :: st)) : JC X G nw (updE f o e9) kc ks pc lv (.int z :: st) := by
  refine JC.newBf O hd hq harr hn hN hby hkc hks ?_
  rw [updE_self ((updE_ne _ _ ho).trans hf)]
  exact h
theorem JC.newJf {X : CX} {G : GX} {cc : ByteArray} {n lev pc q : Nat} {own : String} {mc ms nw kc ks : Nat} {f : Nat → va_E} {lv : List (Nat × Value)} {st : List Value} {z : Int32} {N : Nat} (O : OkC X G cc n own lev mc ms) (hd : decode cc pc = .ok (.newarray .long, 2)) (hq : pc + 2 = q) (harr : Cond.arrayClass .long ∈ TW) (hn : ¬ z < 0) (hN : z.toNatClampNeg = N) (hby : N * componentBytes .long ≤ 536870912) (hkc : kc + 1 ≤ mc) (hks : ks + N ≤ ms) (h : JC X G (nw + 1) (updE f nw (aJ G N (fun _ => 0))) (kc + 1) (ks + N) q lv (.ref (ad G nw) :: st)) : JC X G nw f kc ks pc lv (.int z :: st) := by
  obtain ⟨p, l, e, R, s, m, args, below, meth, c, nL, cells, slots, Q⟩ := X
  obtain ⟨hx, hb, hml, hnL, hown, hts, hK, hA, hNw, hlev, hlo, hmc, hms⟩ := O
  subst hnL
  subst hq
  intro H locs ls hz hP hS hl
  refine va_newaK (atype := .long) hx hb (hts _ harr) rfl hd rfl hn hN hby (by omega) (by omega) hz (fun H1 cA e1 z1 o1 hAr hNm => ?_)
  have hcA : cA = G.2.1 3 := Option.some.inj (hNm.symm.trans (hK.2 3 _ rfl).2)
  subst hcA
  refine h H1 locs ls (by rw [z1, ad_succ]) (grow_P _ hP hz o1 ?_) (grow_S hS hz (by omega) o1) hl
  show H1[ad G nw]? = some (vp_cell _ _)
  rw [e1]
  rfl
theorem JC.newJ {X : CX} {G : GX} {cc : ByteArray} {n lev pc q : Nat} {own : String} {mc ms nw kc ks : Nat} {f : Nat → va_E} {lv : List (Nat × Value)} {st : List Value} {z : Int32} {N o : Nat} {e9 : va_E} (O : OkC X G cc n own lev mc ms) (hd : decode cc pc = .ok (.newarray .long, 2)) (hq : pc + 2 = q) (harr : Cond.arrayClass .long ∈ TW) (hn : ¬ z < 0) (hN : z.toNatClampNeg = N) (hby : N * componentBytes .long ≤ 536870912) (hkc : kc + 1 ≤ mc) (hks : ks + N ≤ ms) (ho : nw ≠ o) (hf : f nw = (aJ G N (fun _ => 0))) (h : JC X G (nw + 1) (updE f o e9) (kc + 1) (ks + N) q lv (.ref (ad G nw) :: st)) : JC X G nw (updE f o e9) kc ks pc lv (.int z :: st) := by
  refine JC.newJf O hd hq harr hn hN hby hkc hks ?_
  rw [updE_self ((updE_ne _ _ ho).trans hf)]
  exact h
theorem JC.anew {X : CX} {G : GX} {cc : ByteArray} {n lev pc q : Nat} {own : String} {mc ms nw kc ks : Nat} {f : Nat → va_E} {lv : List (Nat × Value)} {st : List Value} {z : Int32} {N ix : Nat} (O : OkC X G cc n own lev mc ms) (hd : decode cc pc = .ok (.anewarray ix, 3)) (hq : pc + 3 = q) (hw : Cond.classLink own ix "WorksCouncil$Matter" ∈ TW) (hn : ¬ z < 0) (hN : z.toNatClampNeg = N) (hby : N * 4 ≤ 536870912) (hkc : kc + 1 ≤ mc) (hks : ks + N ≤ ms) (h : JC X G (nw + 1) (updE f nw (aR G 0 N (fun _ => none))) (kc + 1) (ks + N) q lv (.ref (ad G nw) :: st)) : JC X G nw f kc ks pc lv (.int z :: st) := by
  obtain ⟨p, l, e, R, s, m, args, below, meth, c, nL, cells, slots, Q⟩ := X
  obtain ⟨hx, hb, hml, hnL, hown, hts, hK, hA, hNw, hlev, hlo, hmc, hms⟩ := O
  subst hnL
  subst hq
  intro H locs ls hz hP hS hl
  subst hN
  refine W.anew hx hb hown (hts _ hw) (va_AO.use hNw.2.1) rfl hd rfl hn hby (by omega) (by omega) (fun cA kA comp f1 f2 f3 f4 => ?_)
  generalize hH1 : H.push ({ cls := cA, slots := Array.replicate z.toNatClampNeg .null, vm := .none } : Cell) = H1
  have z1 : H1.size = H.size + 1 := by rw [← hH1, Array.size_push]
  have e1 : H1[H.size]? = some (arrV cA z.toNatClampNeg (fun _ => .null)) := by rw [← hH1, Array.getElem?_push_size, ← arrV_new]
  have o1 : ∀ q : Nat, q < ad G nw → H1[q]? = H[q]? := fun q hq => by rw [← hH1, Array.getElem?_push, if_neg (by rw [hz]; exact Nat.ne_of_lt hq)]
  have hcA : cA = G.2.1 4 := by
    obtain ⟨_, _, _, _, _, h5⟩ := (hK.2 4 _ rfl).2
    exact Option.some.inj (f1.symm.trans h5)
  subst hcA
  rw [hz]
  refine h H1 locs ls (by rw [z1, ad_succ, hz]) (grow_P _ hP hz o1 ?_) (grow_S hS hz (by omega) o1) hl
  show H1[ad G nw]? = some (vp_cell _ _)
  rw [← hz, e1]
  rfl
theorem JC.multi {X : CX} {G : GX} {cc : ByteArray} {n lev pc q : Nat} {own : String} {mc ms nw kc ks : Nat} {f : Nat → va_E} {lv : List (Nat × Value)} {st : List Value} {t t1 N K ix : Nat} {n1 k1 : Int32} {ty : FieldType} (O : OkC X G cc n own lev mc ms) (hd : decode cc pc = .ok (.multianewarray ix 2, 4)) (hq : pc + 4 = q) (hty : (t = 1 ∧ t1 = 2 ∧ ty = .byte) ∨ (t = 2 ∧ t1 = 0 ∧ ty = .int)) (hw : Cond.classLink own ix ("[" ++ (FieldType.array ty).toString) ∈ TW) (hn : ¬ n1 < 0) (hk : ¬ k1 < 0) (hN : n1.toNatClampNeg = N) (hKK : k1.toNatClampNeg = K) (hb1 : N ≤ 1000) (hb2 : K ≤ 1000) (hkc : kc + (1 + N) ≤ mc) (hks : ks + (N + N * K) ≤ ms) (hf0 : f nw = aR G t N (fun i => some (ad G (nw + 1 + 1 * i)))) (hf1 : ∀ j, j < N → f (nw + 1 + j) = aE G t1 K (fun _ => 0)) (h : JC X G (nw + (1 + N)) f (kc + (1 + N)) (ks + (N + N * K)) q lv (.ref (ad G nw) :: st)) : JC X G nw f kc ks pc lv (.int k1 :: .int n1 :: st) := by
  obtain ⟨p, l, e, R, s, m, args, below, meth, c, nL, cells, slots, Q⟩ := X
  obtain ⟨hx, hb, hml, hnL, hown, hts, hK, hA, hNw, hlev, hlo, hmc, hms⟩ := O
  subst hnL
  subst hq
  intro H locs ls hz hP hS hl
  have hsort : defaultValue ty = .int 0 ∧ fits ty (.int 0) = true ∧ Cond.arrayClass ty ∈ TW ∧ va_AOA ty s ∧ componentBytes ty ≤ 4 ∧ s.vm.findClass ("[" ++ (FieldType.array ty).toString) = some (G.2.1 (t + 4)) ∧ s.vm.findClass (FieldType.array ty).toString = some (G.2.1 t1) := by
    rcases hty with ⟨rfl, rfl, rfl⟩ | ⟨rfl, rfl, rfl⟩
    · exact ⟨rfl, rfl, wd_1_132, hNw.2.2.1, by decide, (hK.2 5 _ rfl).2, (hK.2 2 _ rfl).2⟩
    · exact ⟨rfl, rfl, wd_1_42, hNw.2.2.2, by decide, (hK.2 6 _ rfl).2, (hK.2 0 _ rfl).2⟩
  obtain ⟨g1, g2, g3, g4, g5, g6, g7⟩ := hsort
  have hb9 : K * componentBytes ty ≤ 1000 * 4 := Nat.mul_le_mul hb2 g5
  refine W_multi hx hb g1 g2 hown (hts _ hw) (va_AOA.use g4) (hts _ g3) rfl hd rfl hn hk hN hKK (by omega) (by omega) (by omega) (by omega) (by omega) (fun cA cC H1 f1 f2 z1 e1 e2 o1 => ?_)
  have hcA : cA = G.2.1 (t + 4) := Option.some.inj (f1.symm.trans g6)
  have hcC : cC = G.2.1 t1 := Option.some.inj (f2.symm.trans g7)
  subst hcA; subst hcC
  rw [hz] at e1 e2 ⊢
  rw [show kc + 1 + N = kc + (1 + N) by omega, show ks + N + N * K = ks + (N + N * K) by omega]
  have hadj : ∀ j, ad G nw + 1 + j = ad G (nw + 1 + j) := fun j => by unfold ad; omega
  refine h H1 _ ls (by rw [z1, hz]; unfold ad; omega) ?_ ⟨?_, ?_, ?_⟩ hl
  · intro k x hx
    obtain ⟨hk9, rfl⟩ := wlP_at hx
    by_cases c1 : k < nw
    · have hlt : ad G k < H.size := by rw [hz]; unfold ad; omega
      exact (hP k _ (wlP_get G f c1)).kept (o1 _ hlt)
    · by_cases c2 : k = nw
      · subst c2
        rw [hf0]
        show H1[ad G k]? = some (arrV (G.2.1 (t + 4)) N (fun j => va_rf ((fun i => some (ad G (k + 1 + 1 * i))) j)))
        rw [e1]
        congr 1
        unfold muO
        refine arrV_ext _ (fun j hj => ?_)
        rw [if_pos hj, hadj j, show k + 1 + j = k + 1 + 1 * j by omega]
        rfl
      · obtain ⟨j, rfl⟩ : ∃ j, k = nw + 1 + j := ⟨k - (nw + 1), by omega⟩
        rw [hf1 j (by omega)]
        show H1[ad G (nw + 1 + j)]? = some (vp_cell _ _)
        rw [← hadj j, e2 j (by omega)]
        rfl
  · have := hS.1; omega
  · intro x h1 h2
    exact (o1 x (by have := hS.1; omega)).trans (hS.2.1 x h1 h2)
  · intro q hq9
    rcases List.mem_append.mp hq9 with h9 | h9
    · exact hS.2.2 q h9
    · obtain ⟨j, -, rfl⟩ := List.mem_map.mp h9
      exact hA _ (by show G.2.2.1 ≤ ad G nw; unfold ad; omega)
theorem JC.iast {X : CX} {G : GX} {cc : ByteArray} {n lev pc q : Nat} {own : String} {mc ms nw kc ks : Nat} {f : Nat → va_E} {lv : List (Nat × Value)} {st : List Value} {c9 N : Nat} {i x : Int32} {r : Nat → Int32} (O : OkC X G cc n own lev mc ms) (hd : decode cc pc = .ok (.iastore, 1)) (hq : pc + 1 = q) (hc : c9 < nw) (hin : vp_in i N) (h : JC X G nw (updE f c9 (aE G 0 N (upd r i.toNatClampNeg x))) kc ks q lv st) : JC X G nw (updE f c9 (aE G 0 N r)) kc ks pc lv (.int x :: .int i :: .ref (ad G c9) :: st) := by
  obtain ⟨p, l, e, R, s, m, args, below, meth, c, nL, cells, slots, Q⟩ := X
  obtain ⟨hx, hb, hml, hnL, hown, hts, hK, hA, hNw, hlev, hlo, hmc, hms⟩ := O
  subst hnL
  subst hq
  intro H locs ls hz hP hS hl
  have ha : (wlP G nw (updE f c9 (aE G 0 N r)))[c9]? = some (ad G c9, aE G 0 N r) := (wlP_get G _ hc).trans (by rw [updE_eq])
  have hD := wlP_D nw (updE f c9 (aE G 0 N r)) hA
  refine W.iast hx hb (hP c9 _ ha) ((hK.2 0 _ rfl).1 N (fun j => .int (r j))) (fun q => by cases q) (by show ¬ (i < 0 ∨ (arrV _ _ _).slots.size ≤ _); rw [arrV_size]; exact hin) rfl rfl hd fun H1 e z oq => ?_
  have hP1 := hP.set hD (e := aE G 0 N (upd r i.toNatClampNeg x)) ha (by
    show H1[ad G c9]? = some (arrV (G.2.1 0) N (fun j => .int (upd r i.toNatClampNeg x j)))
    rw [e, vp_cell_i, arrV_store]
    refine congrArg some (arrV_ext _ (fun j _ => ?_))
    unfold updV upd
    by_cases hj : j = i.toNatClampNeg
    · rw [if_pos hj, if_pos hj]
    · rw [if_neg hj, if_neg hj]) oq
  rw [wlP_set, updE_two] at hP1
  exact h H1 _ ls (z.trans hz) hP1 (hS.put z oq (hA _ (Nat.le_add_right _ _))) hl
/-- an array of references, of which the first i are set (those of the matters) -/
theorem JC.aast {X : CX} {G : GX} {cc : ByteArray} {n lev pc q : Nat} {own : String} {mc ms nw kc ks : Nat} {f : Nat → va_E} {lv : List (Nat × Value)} {st : List Value} {c9 N v : Nat} {vs : List Value} {r : Nat → Option Nat} {i : Int32} (O : OkC X G cc n own lev mc ms) (hd : decode cc pc = .ok (.aastore, 1)) (hq : pc + 1 = q) (hc : c9 < nw) (hin : vp_in i N) (hv : v < nw) (hne : v ≠ c9) (hf : f v = .inr (5, vs)) (h : JC X G nw (updE f c9 (aR G 0 N (va_up r i.toNatClampNeg (some (ad G v))))) kc ks q lv st) : JC X G nw (updE f c9 (aR G 0 N r)) kc ks pc lv (.ref (ad G v) :: .int i :: .ref (ad G c9) :: st) := by
  obtain ⟨p, l, e, R, s, m, args, below, meth, c, nL, cells, slots, Q⟩ := X
  obtain ⟨hx, hb, hml, hnL, hown, hts, hK, hA, hNw, hlev, hlo, hmc, hms⟩ := O
  subst hnL
  subst hq
  intro H locs ls hz hP hS hl
  have ha : (wlP G nw (updE f c9 (aR G 0 N r)))[c9]? = some (ad G c9, aR G 0 N r) := (wlP_get G _ hc).trans (by rw [updE_eq])
  have hv9 : (wlP G nw (updE f c9 (aR G 0 N r)))[v]? = some (ad G v, .inr (5, vs)) := (wlP_get G _ hv).trans (by rw [updE_ne _ _ hne, hf])
  have hD := wlP_D nw (updE f c9 (aR G 0 N r)) hA
  have hlt : i.toNatClampNeg < N := Nat.not_le.mp fun q => hin (Or.inr q)
  have h0 : ¬ i < 0 := fun q => hin (Or.inl q)
  obtain ⟨r', hr', cellV, g1, g2, g3, -⟩ := hP v _ hv9
  have hcls := (hK.1 5 _ (clS_get (ci := 5) (by decide))).2
  obtain ⟨kA, comp, k1, k2, k3, -⟩ := (hK.2 4 _ rfl).2
  have hcomp : comp = G.1.1 5 := Option.some.inj (k3.symm.trans hcls.1)
  subst hcomp
  obtain ⟨kC, hkC, -⟩ := hcls.2
  refine W.aast hx hb (hP c9 _ ha) (fun q h => by cases h) (fun h => by cases h) k1 k2 rfl hkC ⟨h0, by show _ < (arrV _ _ _).slots.size; rw [arrV_size]; exact hlt⟩ g1 (fun q h => by rw [g3] at h; cases h) (by rw [g2]; exact hkC) (by rw [g2]; exact va_assign hcls) rfl rfl hd fun H1 e z oq => ?_
  have hP1 := hP.set hD (e := aR G 0 N (va_up r i.toNatClampNeg (some (ad G v)))) ha (by
    show H1[ad G c9]? = some (arrV (G.2.1 4) N (fun j => va_rf (va_up r i.toNatClampNeg (some (ad G v)) j)))
    rw [e, vp_cell_q, arrV_store]
    refine congrArg some (arrV_ext _ (fun j _ => ?_))
    by_cases hj : j = i.toNatClampNeg
    · subst hj; simp [updV, va_up, va_rf]
    · simp [updV, va_up, hj]) oq
  rw [wlP_set, updE_two] at hP1
  exact h H1 _ ls (z.trans hz) hP1 (hS.put z oq (hA _ (Nat.le_add_right _ _))) hl
theorem JC.aald {X : CX} {G : GX} {cc : ByteArray} {n lev pc q : Nat} {own : String} {mc ms nw kc ks : Nat} {f : Nat → va_E} {lv : List (Nat × Value)} {st : List Value} {t c9 N : Nat} {i : Int32} {r : Nat → Option Nat} {a : Nat} (O : OkC X G cc n own lev mc ms) (hd : decode cc pc = .ok (.aaload, 1)) (hq : pc + 1 = q) (ht : t < 3) (hc : c9 < nw) (hf : f c9 = aR G t N r) (hi : vp_in i N) (hr : r i.toNatClampNeg = some a) (h : JC X G nw f kc ks q lv (.ref a :: st)) : JC X G nw f kc ks pc lv (.int i :: .ref (ad G c9) :: st) := by
  obtain ⟨p, l, e, R, s, m, args, below, meth, c, nL, cells, slots, Q⟩ := X
  obtain ⟨hx, hb, hml, hnL, hown, hts, hK, hA, hNw, hlev, hlo, hmc, hms⟩ := O
  subst hnL
  subst hq
  intro H locs ls hz hP hS hl
  have hlt : i.toNatClampNeg < N := Nat.not_le.mp fun q => hi (Or.inr q)
  have ht2 : ∃ ty : FieldType, (tysL G)[t + 4]? = some (G.2.1 (t + 4), ty) ∧ ty.isReference = true := by
    match t, ht with
    | 0, _ => exact ⟨_, rfl, rfl⟩
    | 1, _ => exact ⟨_, rfl, rfl⟩
    | 2, _ => exact ⟨_, rfl, rfl⟩
  obtain ⟨ty, ht3, hrt⟩ := ht2
  have ha : (wlP G nw f)[c9]? = some (ad G c9, aR G t N r) := (wlP_get G _ hc).trans (by rw [hf])
  exact W.aald (v := .ref a) (ty := ty) hx hb (hP c9 _ ha) ((hK.2 (t + 4) _ ht3).1 N (fun j => va_rf (r j))) hrt (fun q => by cases q) (by show ¬ (i < 0 ∨ (arrV _ _ _).slots.size ≤ _); rw [arrV_size]; exact hi) (by show (arrV _ _ _).slots[_]? = _; rw [arrV_read _ _ hlt, hr]; rfl) rfl rfl hd (h H locs ls hz hP hS hl)
/-- an object half made: those fields of A have their values -/
def dfl (code : Nat) : Value := match code with
  | 0 => .int 0
  | _ => .null
def obL (G : GX) (r : Nat → Int32) (fs : List Nat) (A : Nat → Bool) : List Value := (List.range fs.length).map (fun j => if A j then fv G (r j) (fs.getD j 0) else dfl (fs.getD j 0))
def obF (G : GX) (ci : Nat) (r : Nat → Int32) (fs : List Nat) (A : Nat → Bool) : va_E := .inr (ci, obL G r fs A)
theorem obL_len (G : GX) (r : Nat → Int32) (fs : List Nat) (A : Nat → Bool) : (obL G r fs A).length = fs.length := by simp [obL]
theorem obL_get (G : GX) (r : Nat → Int32) {fs : List Nat} {k code : Nat} (A : Nat → Bool) (h : fs[k]? = some code) : (obL G r fs A)[k]? = some (if A k then fv G (r k) code else dfl code) := by
  have hk : k < fs.length := (List.getElem?_eq_some_iff.mp h).1
  simp [obL, hk]
  rw [(List.getElem?_eq_some_iff.mp h).2]
theorem obL_ext (G : GX) {r r' : Nat → Int32} {fs : List Nat} {A B : Nat → Bool} (h : ∀ j, j < fs.length → (if A j then fv G (r j) (fs.getD j 0) else dfl (fs.getD j 0)) = (if B j then fv G (r' j) (fs.getD j 0) else dfl (fs.getD j 0))) : obL G r fs A = obL G r' fs B := by
  unfold obL
  apply List.map_congr_left
  intro j hj
  exact h j (List.mem_range.mp hj)
theorem obL_set (G : GX) (r : Nat → Int32) {fs : List Nat} {k code : Nat} {A B : Nat → Bool} (h : fs[k]? = some code) (hB : ∀ j, j < fs.length → B j = (j == k || A j)) : (obL G r fs A).set k (fv G (r k) code) = obL G r fs B := by
  have hk : k < fs.length := (List.getElem?_eq_some_iff.mp h).1
  apply List.ext_getElem?
  intro i
  rw [List.getElem?_set, obL_len]
  by_cases hi : k = i
  · subst hi
    rw [if_pos rfl, if_pos hk, obL_get G r B h, hB k hk, beq_self_eq_true, Bool.true_or, if_pos rfl]
  · rw [if_neg hi]
    by_cases hl : i < fs.length
    · have hg : fs[i]? = some fs[i] := List.getElem?_eq_getElem hl
      have hb : (i == k) = false := by simp; omega
      rw [obL_get G r _ hg, obL_get G r _ hg, hB i hl, hb, Bool.false_or]
    · rw [List.getElem?_eq_none_iff.mpr (by rw [obL_len]; omega), List.getElem?_eq_none_iff.mpr (by rw [obL_len]; omega)]
theorem JC.put {X : CX} {G : GX} {cc : ByteArray} {n lev pc q : Nat} {own : String} {mc ms nw kc ks : Nat} {f : Nat → va_E} {lv : List (Nat × Value)} {st : List Value} {c9 ci k ix code : Nat} {r : Nat → Int32} {fs : List Nat} {A9 B9 : Nat → Bool} {v : Value} {N9 : Nat} (O : OkC X G cc n own lev mc ms) (hd : decode cc pc = .ok (.putfield ix, 3)) (hq : pc + 3 = q) (hini : IniC X) (hw : Cond.fieldLink own ix (fl ci k).1 (fl ci k).2.1 (fl ci k).2.2.1 ∈ TW) (hci : ci < 12) (hk : k < flN ci) (hown9 : (fl ci k).1 = own) (hc : c9 < nw) (hcode : fs[k]? = some code) (hv : v = fv G (r k) code) (hn : narrow (clTy ci k) v = v) (hfit : fits (clTy ci k) v = true) (hN9 : fs.length = N9) (hB : ∀ j, j < N9 → B9 j = (j == k || A9 j)) (h : JC X G nw (updE f c9 (obF G ci r fs B9)) kc ks q lv st) : JC X G nw (updE f c9 (obF G ci r fs A9)) kc ks pc lv (v :: .ref (ad G c9) :: st) := by
  obtain ⟨p, l, e, R, s, m, args, below, meth, c, nL, cells, slots, Q⟩ := X
  obtain ⟨hx, hb, hml, hnL, hown, hts, hK, hA, hNw, hlev, hlo, hmc, hms⟩ := O
  subst hnL
  subst hq
  intro H locs ls hz hP hS hl
  subst hv
  subst hN9
  have he : (wlP G nw (updE f c9 (obF G ci r fs A9)))[c9]? = some (ad G c9, .inr (ci, obL G r fs A9)) := (wlP_get G _ hc).trans (by rw [updE_eq]; rfl)
  have hD := wlP_D nw (updE f c9 (obF G ci r fs A9)) hA
  have hll : k < (obL G r fs A9).length := by rw [obL_len]; exact (List.getElem?_eq_some_iff.mp hcode).1
  have hap := va_apart (own := own) hts (inU hci) (clTy ci) (clTok hci) (clNm hci) hK (clS_get hci)
  obtain ⟨r0, h1, cell, q1, q2, q3, q4⟩ := hP c9 _ he
  have hr : r0 = clS ci := Option.some.inj (h1.symm.trans (clS_get hci))
  subst hr
  obtain ⟨hS9, hfc, kC, hkC, hkind⟩ := hK.1 ci _ (clS_get hci)
  obtain ⟨cf, kf, fi, fx, hi, hsl⟩ := hS9 k hk
  have hlay := hts _ (inU hci _ (u_in_lay hk))
  have hst := (u_facts hfc hkC (u_lays hts (inU hci) hk) hi).1
  have fin : ∀ H' : Heap, H'[ad G c9]? = some (cell.setSlot (G.1.2 ci k) (fv G (r k) code)) → H'.size = H.size → (∀ q : Nat, q ≠ ad G c9 → H'[q]? = H[q]?) → ∀ k9, W p l e R s m args below meth c H' (locs ++ [⟨ad G c9, k9⟩]) kc ks Q (F0 m (pc + 3) ls st) := by
    intro H' e1 e2 e3 k9
    have hP1 := hP.set hD he (show va_at G.1 vwCl (ad G c9, .inr (ci, (obL G r fs A9).set k (fv G (r k) code))) H' from ⟨_, clS_get hci, t_OB.to (V := updV (vp_V (obL G r fs A9)) k (fv G (r k) code)) ⟨_, e1, q2, q3, t_set q4 hap hk (fv G (r k) code)⟩ (fun j _ => vp_updV_set hll (fv G (r k) code) j)⟩) e3
    rw [obL_set G r hcode hB, wlP_set, updE_two] at hP1
    exact h H' _ ls (e2.trans hz) hP1 (hS.put e2 e3 (hA _ (Nat.le_add_right _ _))) hl
  cases hfin : (fl ci k).2.2.2
  · unfold u_lay at hlay
    rw [if_neg (show ¬ ((clS ci).2.1 k).2.2.2 = true by rw [show ((clS ci).2.1 k).2.2.2 = false from hfin]; decide)] at hlay
    have h6 := u_store hfc hkC hkind hlay hi (clTok hci k hk) hn hfit
    refine W.putK hx hb (f := fx) ⟨hown, hts _ hw, ⟨_, _, _, hi⟩, hst⟩ (by rw [q2]; exact h6) q1 q3 (by rw [hsl]; exact k2_hasslot (q4 k hk)) rfl rfl hd fun H' e1 e2 e3 => ?_
    rw [hsl] at e1 ⊢
    exact fin H' e1 e2 e3 _
  · unfold u_lay at hlay
    rw [if_pos (show ((clS ci).2.1 k).2.2.2 = true from hfin)] at hlay
    have hcf : m.cls = cf := by
      obtain ⟨_, _, c', _, _, _, -, -, hf', -, -, -, hown2, -⟩ := Cond.laysFinal_spec hlay
      have e1 : c' = cf := by have := hi.symm.trans hf'; simp at this; exact this.1.symm
      have hown8 : ((clS ci).2.1 k).1 = own := hown9
      rw [hown8] at hown2
      rw [← e1]; exact Option.some.inj (hown.symm.trans hown2)
    have h6 := u_fits hfc hkC hkind (Or.inr hlay) hi (clTok hci k hk) hn hfit
    refine W.putFinK hx hb hown (hts _ hw) hi hst hcf hini (by rw [q2]; exact h6) q1 q3 (by rw [hsl]; exact k2_hasslot (q4 k hk)) rfl rfl hd fun H' e1 e2 e3 => ?_
    rw [hsl] at e1 ⊢
    exact fin H' e1 e2 e3 _
theorem JC.get {X : CX} {G : GX} {cc : ByteArray} {n lev pc q : Nat} {own : String} {mc ms nw kc ks : Nat} {f : Nat → va_E} {lv : List (Nat × Value)} {st : List Value} {c9 ci k ix : Nat} {vs : List Value} {v : Value} (O : OkC X G cc n own lev mc ms) (hd : decode cc pc = .ok (.getfield ix, 3)) (hq : pc + 3 = q) (hw : Cond.fieldLink own ix (fl ci k).1 (fl ci k).2.1 (fl ci k).2.2.1 ∈ TW) (hci : ci < 12) (hk : k < flN ci) (hc : c9 < nw) (hf : f c9 = .inr (ci, vs)) (hv : vs[k]? = some v) (h : JC X G nw f kc ks q lv (v :: st)) : JC X G nw f kc ks pc lv (.ref (ad G c9) :: st) := by
  obtain ⟨p, l, e, R, s, m, args, below, meth, c, nL, cells, slots, Q⟩ := X
  obtain ⟨hx, hb, hml, hnL, hown, hts, hK, hA, hNw, hlev, hlo, hmc, hms⟩ := O
  subst hnL
  subst hq
  intro H locs ls hz hP hS hl
  have he : (wlP G nw f)[c9]? = some (ad G c9, .inr (ci, vs)) := (wlP_get G _ hc).trans (by rw [hf])
  exact va_get hx hb hts (inU hci) hown hK hP c9 he (clS_get hci) k hk (hts _ hw) (fun _ h9 => h9) hv hd (h H locs ls hz hP hS hl)
/-! the contract of a constructor: the world behind it is n' cells, by f' -/
def PreC (G : GX) (n : Nat) (f : Nat → va_E) (U : State) : Prop := U.heap.size = ad G n ∧ va_P G.1 vwCl (wlP G n f) U.heap ∧ va_K G.1 vwCl (tysL G) U ∧ NwC U
def rmC (lev mc ms : Nat) : Room := { frames := lev, cells := mc, slots := ms, locals := 41 * lev }
def CC (l : Launch) (G : GX) (y : MethodName) (b : ByteArray) (nL lev mc ms : Nat) (As : List Value) (n n' : Nat) (f f' : Nat → va_E) : Prop :=
  Met l y (.code y b nL none :: TW) (rmC lev mc ms) (va_Pc As (PreC G n f)) (va_Qv (S := Unit) (fun _ => True) (fun _ t => t.heap.size = ad G n' ∧ va_P G.1 vwCl (wlP G n' f') t.heap) G.2.2.2.1) mc ms G.2.2.2.1
theorem PreC.blind {G : GX} {n : Nat} {f : Nat → va_E} {As : List Value} : FrameBlind (va_Pc As (PreC G n f)) := fun a U g mk q => by
  obtain ⟨q0, q1, q2, q3, q4⟩ := q
  refine ⟨q0, q1, q2, va_K.moved (u := U) (U := U.calling g mk a) (Vm.Alike.refl U.vm) q3, ?_⟩
  exact ⟨fun x hx => (q4.1 x hx).same rfl rfl, q4.2.1.moved (u := U) (U := U.calling g mk a) (Vm.Alike.refl U.vm), q4.2.2.1.moved (u := U) (U := U.calling g mk a) (Vm.Alike.refl U.vm), q4.2.2.2.moved (u := U) (U := U.calling g mk a) (Vm.Alike.refl U.vm)⟩
def RetC (X : CX) (G : GX) (cc : ByteArray) (n : Nat) (f : Nat → va_E) (mc ms : Nat) : Prop := ∀ (pc : Nat) (lv : List (Nat × Value)), decode cc pc = .ok (.return_, 1) → JC X G n f mc ms pc lv []
theorem CC.mk {l : Launch} {G : GX} {y : MethodName} {b : ByteArray} {nL lev mc ms n n' : Nat} {As : List Value} {f f' : Nat → va_E} (hA : ∀ q, G.2.2.1 ≤ q → G.2.2.2.1 q) (hy : plainName y.cls = true) (hyi : y.name = "<init>") (lv : List (Nat × Value)) (hlv : lv_args 0 As = lv) (hnl : (lg_sl As).length ≤ nL)
    (h : ∀ X : CX, OkC X G b nL y.cls lev mc ms → IniC X → lX X = l → RetC X G b n' f' mc ms → JC X G n f 0 0 0 lv []) : CC l G y b nL lev mc ms As n n' f f' := by
  refine Met.ofW (cc := b) (maxL := nL) (ret := none) hy rfl ?_
  intro p e s m args below meth c s₁ B hml hv
  obtain ⟨rfl, hz, hP, hK, hN⟩ := hv
  have hx := B.exec
  have hb := B.bytes
  have hr := B.returns
  have hts := atoms_spec (ws := .code y b nL none :: TW) B.pre
  have hown : s.vm.findClass y.cls = some m.cls := findClass_of_methodNamed B.named
  have hlocks := B.notSynchronized
  have hl := lv_entry As (n := nL) hnl
  rw [lg_entry_eq]
  rw [hlv] at hl
  refine h (p, l, e, rmC lev mc ms, s, m, As.toArray, below, meth, c, nL, 0, 0, _) ?_ ?_ rfl ?_ s.heap [] _ hz hP va_S.rf hl
  · exact ⟨hx, hb, hml, rfl, hown, fun w hw => hts w (List.mem_cons_of_mem _ hw), hK, hA, hN, Nat.le_refl _, Nat.le_refl _, Nat.le_refl _, Nat.le_refl _⟩
  · exact (name_of_methodNamed B.named B.method).1.trans hyi
  · intro pc lv hd H locs ls hz hP hS hl
    exact W.vret hx hb hr (fun t ht hW => ⟨⟨(), rfl, trivial, by rw [ht]; exact hz, by rw [ht]; exact hP⟩, hS.F ht⟩) hS.2.2 hd hlocks
theorem JC.callI {X : CX} {G : GX} {cc : ByteArray} {n lev pc q : Nat} {own : String} {mc ms nw kc ks : Nat} {f : Nat → va_E} {lv : List (Nat × Value)} {st : List Value} {ix a nL lev' na mc' ms' nw' : Nat} {f' : Nat → va_E} {y : MethodName} {b : ByteArray} (As st0 : List Value) (hst0 : As.reverse ++ .ref a :: st = st0) (O : OkC X G cc n own lev mc ms) (hd : decode cc pc = .ok (.invokespecial ix, 3)) (hq : pc + 3 = q) (hm : CC (lX X) G y b nL lev' mc' ms' (.ref a :: As) nw nw' f f') (hw : Cond.methodLink own ix y ∈ TW) (hw2 : Cond.initialized y.cls ∈ TW) (hw3 : Cond.instanceMethod y ∈ TW) (hw4 : Cond.code y b nL none ∈ TW) (hy1 : y.name = "<init>") (hyd : y.cls ≠ "java/lang/invoke/MethodHandle" ∧ y.cls ≠ "java/lang/invoke/VarHandle" ∧ (parseMethodDescriptor y.desc).map (fun d => d.parameters.length) = some na) (hnL9 : nL ≤ 22) (hna : As.length = na) (hlv : lev' + 1 ≤ lev) (hc8 : (st.map fun v => v.category).sum ≤ 8) (hkc : kc + mc' ≤ mc) (hks : ks + ms' ≤ ms) (h : JC X G nw' f' (kc + mc') (ks + ms') q lv st) : JC X G nw f kc ks pc lv st0 := by
  obtain ⟨p, l, e, R, s, m, args, below, meth, c, nL8, cells, slots, Q⟩ := X
  obtain ⟨hx, hb, hml, hnL, hown, hts, hK, hA, hNw, hlev, hlo, hmc, hms⟩ := O
  subst hnL
  subst hq
  subst hst0
  intro H locs ls hz hP hS hl
  have hG9 : GoodIn TW (.code y b nL none :: TW) := lit_in (fun w h => by rcases List.mem_cons.mp h with rfl | h; exact hw4; exact h) (fun _ h => h)
  refine va_callv (va_runI (As := As) (rest := st) ⟨hx, hb, hml, hown, hts⟩ hm (cwI na hts hG9 rfl rfl rfl (hts _ hw2) (hts _ hw) (hts _ hw3) hy1 hyd ⟨by show lev' + 1 ≤ _; omega, by show 8 + (nL + 11) + 41 * lev' ≤ _; omega⟩) ⟨PreC.blind, fun U hU hW => ⟨rfl, by rw [hU]; exact hz, by rw [hU]; exact hP, va_K.moved hW.alike hK, hNw.warm hW⟩⟩ rfl hna hl.1 rfl (lv_room hc8) hd ⟨by omega, by omega⟩) hS (fun q _ h => h) (fun q h => h) (fun u t H1 locs1 ht hvm hw9 hB hz1 hk1 hS1 => ?_)
  exact h H1 locs1 ls (by rw [← ht]; exact hB.1) (by rw [← ht]; exact hB.2) hS1 hl
theorem JC.callN {X : CX} {G : GX} {cc : ByteArray} {n lev pc q : Nat} {own : String} {mc ms nw kc ks : Nat} {f : Nat → va_E} {lv : List (Nat × Value)} {st : List Value} {ix a nL lev' na mc' ms' nw' : Nat} {f' : Nat → va_E} {y : MethodName} {b : ByteArray} (As st0 : List Value) (hst0 : As.reverse ++ .ref a :: st = st0) (O : OkC X G cc n own lev mc ms) (hd : decode cc pc = .ok (.invokespecial ix, 3)) (hq : pc + 3 = q) (hm : CC (lX X) G y b nL lev' mc' ms' (.ref a :: As) nw nw' f f') (hw : (own, ix, y) ∈ nestL) (hw2 : Cond.initialized y.cls ∈ TW) (hw3 : Cond.instanceMethod y ∈ TW) (hw4 : Cond.code y b nL none ∈ TW) (hy1 : y.name = "<init>") (hyd : y.cls ≠ "java/lang/invoke/MethodHandle" ∧ y.cls ≠ "java/lang/invoke/VarHandle" ∧ (parseMethodDescriptor y.desc).map (fun d => d.parameters.length) = some na) (hnL9 : nL ≤ 22) (hna : As.length = na) (hlv : lev' + 1 ≤ lev) (hc8 : (st.map fun v => v.category).sum ≤ 8) (hkc : kc + mc' ≤ mc) (hks : ks + ms' ≤ ms) (h : JC X G nw' f' (kc + mc') (ks + ms') q lv st) : JC X G nw f kc ks pc lv st0 := by
  obtain ⟨p, l, e, R, s, m, args, below, meth, c, nL8, cells, slots, Q⟩ := X
  obtain ⟨hx, hb, hml, hnL, hown, hts, hK, hA, hNw, hlev, hlo, hmc, hms⟩ := O
  subst hnL
  subst hq
  subst hst0
  intro H locs ls hz hP hS hl
  have hG9 : GoodIn TW (.code y b nL none :: TW) := lit_in (fun w h => by rcases List.mem_cons.mp h with rfl | h; exact hw4; exact h) (fun _ h => h)
  refine va_callv (va_runIN (As := As) (rest := st) ⟨hx, hb, hml, hown, hts⟩ hm ⟨va_cnB na hts hG9 rfl rfl rfl (hNw.1 _ hw) (hts _ hw2) hyd ⟨by show lev' + 1 ≤ _; omega, by show 8 + (nL + 11) + 41 * lev' ≤ _; omega⟩, hy1, hts _ hw3⟩ ⟨PreC.blind, fun U hU hW => ⟨rfl, by rw [hU]; exact hz, by rw [hU]; exact hP, va_K.moved hW.alike hK, hNw.warm hW⟩⟩ rfl hna hl.1 rfl (lv_room hc8) hd ⟨by omega, by omega⟩) hS (fun q _ h => h) (fun q h => h) (fun u t H1 locs1 ht hvm hw9 hB hz1 hk1 hS1 => ?_)
  exact h H1 locs1 ls (by rw [← ht]; exact hB.1) (by rw [← ht]; exact hB.2) hS1 hl
