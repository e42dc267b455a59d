/-! ROWS OF ROWS: 'multianewarray' with two counts, over the machine -/
/-- the outer row at h, when i of its N rows stand behind it -/
def muO (cA : ClassId) (N h i : Nat) : Cell := arrV cA N (fun j => if j < i then .ref (h + 1 + j) else .null)
def muI (cC : ClassId) (K : Nat) : Cell := arrV cC K (fun _ => .int 0)
def muS (T : State) (cA cC : ClassId) (N K : Nat) : Nat → State
  | 0 => T.pushCell (muO cA N T.heap.size 0)
  | i + 1 => ((muS T cA cC N K i).pushCell (muI cC K)).setCell T.heap.size (muO cA N T.heap.size (i + 1))
theorem muO_st (cA : ClassId) (N h i : Nat) : (muO cA N h i).setSlot i (.ref (h + 1 + i)) = muO cA N h (i + 1) := by
  unfold muO
  rw [arrV_store]
  congr 1
  funext j
  unfold updV
  by_cases e : j = i
  · subst e; rw [if_pos rfl, if_pos (Nat.lt_succ_self _)]
  · rw [if_neg e]
    show (if j < i then Value.ref (h + 1 + j) else Value.null) = _
    by_cases q : j < i
    · rw [if_pos q, if_pos (by omega)]
    · rw [if_neg q, if_neg (by omega)]
theorem muO_n (cA : ClassId) (N h i : Nat) : (muO cA N h i).slots.size = N := arrV_size _ _ _
theorem muI_n (cC : ClassId) (K : Nat) : (muI cC K).slots.size = K := arrV_size _ _ _
theorem muS_at (T : State) (cA cC : ClassId) (N K : Nat) : ∀ i, (muS T cA cC N K i).heap.size = T.heap.size + 1 + i ∧ (muS T cA cC N K i).heap[T.heap.size]? = some (muO cA N T.heap.size i) ∧ (muS T cA cC N K i).vm = T.vm ∧ (muS T cA cC N K i).slotsUsed = T.slotsUsed + N + i * K
  | 0 => ⟨by simp [muS], by simp [muS], rfl, by simp [muS, muO_n]⟩
  | i + 1 => by
    obtain ⟨a1, a2, a3, a4⟩ := muS_at T cA cC N K i
    have h2 : ((muS T cA cC N K i).pushCell (muI cC K)).heap[T.heap.size]? = some (muO cA N T.heap.size i) := by
      have hlt0 : T.heap.size < (muS T cA cC N K i).heap.size := by rw [a1]; omega
      rw [State.heap_pushCell_of_lt (h := hlt0)]; exact a2
    refine ⟨?_, State.heap_setCell_self h2, by simp [muS, a3], ?_⟩
    · simp [muS, State.setCell, a1]; omega
    · simp [muS, a4, muI_n, Nat.succ_mul]; omega
theorem muS_old (T : State) (cA cC : ClassId) (N K : Nat) {q : Addr} (hq : q < T.heap.size) : ∀ i, (muS T cA cC N K i).heap[q]? = T.heap[q]?
  | 0 => State.heap_pushCell_of_lt _ _ hq
  | i + 1 => by
    have a1 := (muS_at T cA cC N K i).1
    show (((muS T cA cC N K i).pushCell (muI cC K)).setCell T.heap.size _).heap[q]? = _
    have hlt0 : q < (muS T cA cC N K i).heap.size := Nat.lt_of_lt_of_le hq (by rw [a1]; omega)
    rw [State.heap_setCell_other (Nat.ne_of_gt hq), State.heap_pushCell_of_lt (h := hlt0)]
    exact muS_old T cA cC N K hq i
theorem muS_in (T : State) (cA cC : ClassId) (N K : Nat) : ∀ i j, j < i → (muS T cA cC N K i).heap[T.heap.size + 1 + j]? = some (muI cC K)
  | 0, _, h => absurd h (Nat.not_lt_zero _)
  | i + 1, j, h => by
    have a1 := (muS_at T cA cC N K i).1
    show (((muS T cA cC N K i).pushCell (muI cC K)).setCell T.heap.size _).heap[T.heap.size + 1 + j]? = _
    rw [State.heap_setCell_other (show T.heap.size ≠ T.heap.size + 1 + j by omega)]
    by_cases e : j < i
    · have hlt0 : T.heap.size + 1 + j < (muS T cA cC N K i).heap.size := by rw [a1]; omega
      rw [State.heap_pushCell_of_lt (h := hlt0)]
      exact muS_in T cA cC N K i j e
    · rw [show T.heap.size + 1 + j = (muS T cA cC N K i).heap.size by omega]
      exact State.heap_pushCell_size _ _
theorem muS_top (T : State) (f : JFrame) (cA cC : ClassId) (N K : Nat) : ∀ i, muS (T.setTop f) cA cC N K i = (muS T cA cC N K i).setTop f
  | 0 => rfl
  | i + 1 => by simp only [muS, muS_top T f cA cC N K i, State.heap_setTop, State.pushCell_setTop, State.setCell_setTop]
section MULTI
variable {p : Program} {l : Launch} {e : Env} {R : Room} {s : State} {m : MethodId} {args : Array Value} {below : List Frame} {meth : Method} {c : Code} {H : Heap} {T : State} {locs : List Loc} {cells slots : Nat} {Q : State → Prop}
theorem muS_X (X : Stand p l e R s m args below meth c T locs cells slots) (cA cC : ClassId) (N K : Nat) : ∀ i, Stand p l e R s m args below meth c (muS T cA cC N K i) (locs ++ (List.range i).map (fun j => ⟨T.heap.size, j⟩)) (cells + 1 + i) (slots + N + i * K)
  | 0 => by
    have h := X.pushed (muO cA N T.heap.size 0)
    rw [muO_n] at h
    simpa [muS] using h
  | i + 1 => by
    have h0 := muS_X X cA cC N K i
    obtain ⟨a1, a2, a3, a4⟩ := muS_at T cA cC N K i
    have h2 : ((muS T cA cC N K i).pushCell (muI cC K)).heap[T.heap.size]? = some (muO cA N T.heap.size i) := by
      have hlt0 : T.heap.size < (muS T cA cC N K i).heap.size := by rw [a1]; omega
      rw [State.heap_pushCell_of_lt (h := hlt0)]; exact a2
    have h := (h0.pushed (muI cC K)).stored h2 i (.ref (T.heap.size + 1 + i))
    rw [muI_n, muO_st] at h
    have e2 : (locs ++ (List.range (i + 1)).map (fun j => (⟨T.heap.size, j⟩ : Loc))) = (locs ++ (List.range i).map (fun j => (⟨T.heap.size, j⟩ : Loc))) ++ [⟨T.heap.size, i⟩] := by
      simp [List.range_succ, List.append_assoc]
    rw [e2, show slots + N + (i + 1) * K = slots + N + i * K + K by rw [Nat.succ_mul]; omega]
    exact h
theorem mu_make {E : CtlPost} {d : Bool} {acts : List Action} {t : State} {cA cC cT : ClassId} {kA kC : Class} {ty : FieldType} {n k : Int32} (hkA : t.vm.classes[cA]? = some kA) (hkindA : kA.kind = .array cC (.array ty)) (hkC : t.vm.classes[cC]? = some kC) (hkindC : kC.kind = .array cT ty)
    (hd0 : defaultValue ty = .int 0) (hft : fits ty (.int 0) = true) (hn : ¬ n < 0) (hk : ¬ k < 0) (hl1 : ¬ n.toNatClampNeg > e.platform.arrayLengthLimit) (hh1 : ¬ n.toNatClampNeg * componentBytes (.array ty) > e.platform.maxHeapBytes)
    (hl2 : ¬ k.toNatClampNeg > e.platform.arrayLengthLimit) (hh2 : ¬ k.toNatClampNeg * componentBytes ty > e.platform.maxHeapBytes)
    (hc : t.heap.size + 1 + n.toNatClampNeg ≤ e.platform.maxCells) (hs : t.slotsUsed + n.toNatClampNeg + n.toNatClampNeg * k.toNatClampNeg ≤ e.platform.maxSlots)
    {P : Addr → Pre} (hq : ∀ d' acts', P t.heap.size d' acts' (muS t cA cC n.toNatClampNeg k.toNatClampNeg n.toNatClampNeg)) : wp (multianewarray.make cA [n, k]) P E e d acts t := by
  have hz := Nat.zero_le (n.toNatClampNeg * k.toNatClampNeg)
  rw [multianewarray.make]
  simp only [wp_bind', W.ite, hn, if_false, wp_pure', W.theClass, hkA, hkindA, Option.some.injEq, exists_eq_left']
  refine W.newArray_of hkA hkindA hl1 hh1 (by omega) (by omega) rfl (fun acts1 => ?_)
  rw [arrV_new]
  have e0 : t.pushCell (arrV cA n.toNatClampNeg (fun _ => .null)) = muS t cA cC n.toNatClampNeg k.toNatClampNeg 0 := by
    show _ = t.pushCell (muO cA n.toNatClampNeg t.heap.size 0)
    unfold muO
    simp
  rw [e0]
  have hfind : ([k].find? (· < 0)) = none := by simp [hk]
  simp only [hfind]
  rw [ite_self, wp_bind', Std.Legacy.Range.forIn_eq_forIn_range']
  have hsz : ([:n.toNatClampNeg] : Std.Legacy.Range).size = n.toNatClampNeg := by simp [Std.Legacy.Range.size]
  rw [hsz]
  show wp (forIn (List.range' 0 n.toNatClampNeg 1) PUnit.unit _) _ E e d acts1 _
  refine wp_forIn_inv (fun r t' => ∃ i, i ≤ n.toNatClampNeg ∧ r = List.range' i (n.toNatClampNeg - i) ∧ t' = muS t cA cC n.toNatClampNeg k.toNatClampNeg i) _ _ ⟨0, Nat.zero_le _, rfl, rfl⟩ ?_ ?_
  · rintro x r t' d' acts' P' ⟨i, hi, hl, rfl⟩ hnext
    have hlt : i < n.toNatClampNeg := by
      rcases Nat.lt_or_ge i n.toNatClampNeg with h | h
      · exact h
      · rw [show n.toNatClampNeg - i = 0 by omega] at hl; simp at hl
    rw [show n.toNatClampNeg - i = (n.toNatClampNeg - (i + 1)) + 1 by omega, List.range'_succ] at hl
    obtain ⟨e1, e2⟩ := List.cons.inj hl
    subst e1
    obtain ⟨a1, a2, a3, a4⟩ := muS_at t cA cC n.toNatClampNeg k.toNatClampNeg x
    have hmul : x * k.toNatClampNeg + k.toNatClampNeg ≤ n.toNatClampNeg * k.toNatClampNeg := by
      have := Nat.mul_le_mul_right k.toNatClampNeg (show x + 1 ≤ n.toNatClampNeg from hlt)
      rw [Nat.succ_mul] at this
      exact this
    have h2 : ((muS t cA cC n.toNatClampNeg k.toNatClampNeg x).pushCell (muI cC k.toNatClampNeg)).heap[t.heap.size]? = some (muO cA n.toNatClampNeg t.heap.size x) := by
      have hlt0 : t.heap.size < (muS t cA cC n.toNatClampNeg k.toNatClampNeg x).heap.size := by rw [a1]; omega
      rw [State.heap_pushCell_of_lt (h := hlt0)]; exact a2
    rw [wp_bind', multianewarray.make]
    simp only [wp_bind', W.ite, hk, if_false, wp_pure', W.theClass, a3, hkC, hkindC, Option.some.injEq, exists_eq_left', hd0]
    refine W.newArray_of (by rw [a3]; exact hkC) hkindC hl2 hh2 (by omega) (by omega) hft (fun acts2 => ?_)
    rw [arrV_new]
    simp only [wp_bind', W.writeLoc, wp_pure']
    refine ⟨muO cA n.toNatClampNeg t.heap.size x, h2, by show (VmData.none) ≠ .unknown; simp, by rw [muO_n]; exact hlt, ?_, hnext _ _ _ ⟨x + 1, hlt, e2, ?_⟩⟩
    · show State.fitsSlot _ cA .none x _ = true
      simp [State.fitsSlot, State.slotType?, a3, hkA, hkindA, fits]
    · rw [a1, muO_st]; rfl
  · rintro t' d' acts' ⟨i, hi, hl, rfl⟩
    have hiN : i = n.toNatClampNeg := by
      rcases Nat.lt_or_ge i n.toNatClampNeg with h | h
      · rw [show n.toNatClampNeg - i = (n.toNatClampNeg - (i + 1)) + 1 by omega, List.range'_succ] at hl; cases hl
      · omega
    subst hiN
    simp only [wp_pure']
    exact hq _ _
theorem W_multi {cc : ByteArray} (hexec : p.tables.exec = Jvm.exec) (hb : c.code = cc) {own : String} {index : Nat} {ty : FieldType} (hd0 : defaultValue ty = .int 0) (hft : fits ty (.int 0) = true) (hown : s.vm.findClass own = some m.cls)
    (hclink : (Cond.classLink own index ("[" ++ (FieldType.array ty).toString)).before args s = true) (hover : (Cond.arrayOver (.array ty)).before args s = true) (harr : (Cond.arrayClass ty).before args s = true)
    {g : JFrame} (hg : g.method = m) (hdg : decode cc g.pc = .ok (.multianewarray index 2, 4)) {n k : Int32} {rest : List Value} (hstack : g.stack = .int k :: .int n :: rest) (hn : ¬ n < 0) (hk : ¬ k < 0) {N K : Nat} (hN : n.toNatClampNeg = N) (hK : k.toNatClampNeg = K)
    (hb1 : N * 4 ≤ 536870912) (hb2 : K * componentBytes ty ≤ 536870912) (hb3 : K ≤ 536870912) (hcells : cells + (1 + N) ≤ R.cells) (hslots : slots + (N + N * K) ≤ R.slots)
    (kk : ∀ (cA cC : ClassId) (H1 : Heap), s.vm.findClass ("[" ++ (FieldType.array ty).toString) = some cA → s.vm.findClass (FieldType.array ty).toString = some cC → H1.size = H.size + 1 + N → H1[H.size]? = some (muO cA N H.size N) → (∀ j, j < N → H1[H.size + 1 + j]? = some (muI cC K)) → (∀ q : Nat, q < H.size → H1[q]? = H[q]?) →
      W p l e R s m args below meth c H1 (locs ++ (List.range N).map (fun j => ⟨H.size, j⟩)) (cells + 1 + N) (slots + N + N * K) Q { g with pc := g.pc + 4, stack := .ref H.size :: rest }) : W p l e R s m args below meth c H locs cells slots Q g := by
  intro T hT X
  subst hT; subst hb; subst hg; subst hN; subst hK
  have hpl : e.platform.magicAccessors = ({} : Platform).magicAccessors := by rw [X.admits.platform]
  obtain ⟨cC, cA, kA, hcomp, -, hkA, hkindA, hnameA⟩ := arrayOverA_spec hover
  obtain ⟨cC', kC, cT, hcomp', hkC, hkindC⟩ := Cond.arrayClass_spec harr
  have ecomp : cC' = cC := Option.some.inj (hcomp'.symm.trans hcomp)
  subst ecomp
  obtain ⟨c0, hfc0, hcl⟩ := Cond.classLink_spec hown hclink e.platform hpl
  cases hnameA.symm.trans hfc0
  obtain ⟨hg₁, hwarm₁, hready₁⟩ := State.classEntry (e := e) X.warmed hcl
  generalize T.vm.noted g.method.cls index (.cls cA) = vm₁ at hg₁ hwarm₁ hready₁
  have hal : s.vm.Alike vm₁ := hwarm₁.alike
  obtain ⟨kA₁, hkA₁, heA⟩ := hal.2.2 _ _ hkA
  obtain ⟨kC₁, hkC₁, heC⟩ := hal.2.2 _ _ hkC
  have hkindA₁ : kA₁.kind = .array cC' (.array ty) := by rw [heA]; exact hkindA
  have hkindC₁ : kC₁.kind = .array cT ty := by rw [heC]; exact hkindC
  have X₁ := X.noted hwarm₁
  have X₂ := muS_X X₁ cA cC' n.toNatClampNeg k.toNatClampNeg n.toNatClampNeg
  obtain ⟨hr1, hr2⟩ := X.roomAbove hcells hslots
  obtain ⟨a1, a2, a3, a4⟩ := muS_at (T.setVm vm₁) cA cC' n.toNatClampNeg k.toNatClampNeg n.toNatClampNeg
  obtain ⟨t', b0, b1⟩ := kk cA cC' (muS (T.setVm vm₁) cA cC' n.toNatClampNeg k.toNatClampNeg n.toNatClampNeg).heap hnameA hcomp a1 a2 (fun j hj => muS_in (T.setVm vm₁) cA cC' n.toNatClampNeg k.toNatClampNeg n.toNatClampNeg j hj) (fun q hq => muS_old (T.setVm vm₁) cA cC' n.toNatClampNeg k.toNatClampNeg hq n.toNatClampNeg) _ rfl X₂
  refine ⟨t', ?_, b1⟩
  have hl1 : ¬ n.toNatClampNeg > e.platform.arrayLengthLimit := by rw [Launch.admits_arrayLengthLimit X.admits]; omega
  have hh1 : ¬ n.toNatClampNeg * componentBytes (.array ty) > e.platform.maxHeapBytes := by
    rw [Launch.admits_maxHeapBytes X.admits]; show ¬ n.toNatClampNeg * 4 > 536870912; omega
  have hl2 : ¬ k.toNatClampNeg > e.platform.arrayLengthLimit := by rw [Launch.admits_arrayLengthLimit X.admits]; omega
  have hh2 : ¬ k.toNatClampNeg * componentBytes ty > e.platform.maxHeapBytes := by rw [Launch.admits_maxHeapBytes X.admits]; omega
  jvm_step X.here [hexec, hdg]
  simp only [multianewarray.sem, wp_bind', W.resolveClassAt_links (State.method?_setTop g X.here.top) hg₁]
  rw [W.popN, if_neg (by decide)]
  refine ⟨g, State.topJava?_setTop' (s := T.setVm vm₁) g X.here.top, [.int n, .int k], rest, rfl, hstack, ?_⟩
  simp only [List.mapM_cons, List.mapM_nil, wp_bind', wp_pure']
  refine mu_make (kA := kA₁) (kC := kC₁) (cC := cC') (cT := cT) (ty := ty) hkA₁ hkindA₁ hkC₁ hkindC₁ hd0 hft hn hk hl1 hh1 hl2 hh2 (by show T.heap.size + 1 + _ ≤ _; omega) (by show T.slotsUsed + _ + _ ≤ _; omega) (fun d' acts' => ?_)
  have eS : ((T.setTop g).setVm vm₁).setTop { g with stack := rest } = (T.setVm vm₁).setTop { g with stack := rest } := by
    show ((T.setVm vm₁).setTop g).setTop _ = _
    rw [State.setTop_setTop]
  rw [eS, muS_top]
  simp only [wp_bind', W.mark, W.pushRef, State.topJava?_setTop' _ X₂.here.top, Option.some.injEq, exists_eq_left', State.setTop_setTop, State.heap_setTop]
  intro acts
  simp [jvm, X₂.here.top]
  exact b0
end MULTI
