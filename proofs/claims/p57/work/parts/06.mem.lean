/-! the memory of both objects as one table of ints: cell and place; the layout is fixed (made by the constructors, in their order) -/
abbrev Mem : Type := Nat → Nat → Int32
def mset (M : Mem) (c k : Nat) (v : Int32) : Mem := fun c' => if c' = c then upd (M c) k v else M c'
theorem mset_eq (M : Mem) (c k : Nat) (v : Int32) : mset M c k v c k = v := by simp [mset, upd]
theorem mset_row (M : Mem) (c k : Nat) (v : Int32) : mset M c k v c = upd (M c) k v := by simp [mset]
theorem mset_ne (M : Mem) {c c' : Nat} (k : Nat) (v : Int32) (h : c' ≠ c) : mset M c k v c' = M c' := by simp [mset, h]
theorem mset_nk (M : Mem) (c : Nat) {k k' : Nat} (v : Int32) (h : k' ≠ k) : mset M c k v c k' = M c k' := by simp [mset, upd, h]
/-- a long in two places -/
def loL (x : Int64) : Int32 := Int32.ofBitVec (BitVec.ofNat 32 x.toBitVec.toNat)
def hiL (x : Int64) : Int32 := Int32.ofBitVec (BitVec.ofNat 32 (x.toBitVec.toNat / 4294967296))
def jnL (lo hi : Int32) : Int64 := Int64.ofBitVec (BitVec.ofNat 64 (hi.toBitVec.toNat * 4294967296 + lo.toBitVec.toNat))
theorem jnL_eq (x : Int64) : jnL (loL x) (hiL x) = x := by
  have hx : x.toBitVec.toNat < 18446744073709551616 := x.toBitVec.isLt
  apply Int64.toBitVec_inj.mp
  apply BitVec.eq_of_toNat_eq
  show (BitVec.ofNat 64 ((BitVec.ofNat 32 (x.toBitVec.toNat / 4294967296)).toNat * 4294967296 + (BitVec.ofNat 32 x.toBitVec.toNat).toNat)).toNat = _
  rw [BitVec.toNat_ofNat, BitVec.toNat_ofNat, BitVec.toNat_ofNat]
  omega
/-- a shape: what kind, how many, what its fields are (0 an int, 1 a reference that changes, r + 2 the cell r), or base and stride -/
abbrev Shp : Type := Nat × Nat × List Nat
def layL : List Shp := [(0, 11, [3, 6, 17, 53, 63, 0, 64, 74, 83, 99, 113, 120, 126, 127, 0, 128]),
  (0, 3, [0, 4, 5]),
  (2, 1001, []),
  (1, 1001, []),
  (0, 9, [0, 7, 8, 9, 10, 11, 12, 13, 14, 15, 16, 0]),
  (1, 24, []),
  (2, 24, []),
  (1, 24, []),
  (1, 24, []),
  (1, 24, []),
  (1, 24, []),
  (1, 24, []),
  (1, 24, []),
  (1, 24, []),
  (1, 4, []),
  (0, 0, [0, 18, 44, 45, 46, 47]),
  (6, 25, [17, 1]),
  (3, 60, []),
  (3, 60, []),
  (3, 60, []),
  (3, 60, []),
  (3, 60, []),
  (3, 60, []),
  (3, 60, []),
  (3, 60, []),
  (3, 60, []),
  (3, 60, []),
  (3, 60, []),
  (3, 60, []),
  (3, 60, []),
  (3, 60, []),
  (3, 60, []),
  (3, 60, []),
  (3, 60, []),
  (3, 60, []),
  (3, 60, []),
  (3, 60, []),
  (3, 60, []),
  (3, 60, []),
  (3, 60, []),
  (3, 60, []),
  (3, 60, []),
  (1, 25, []),
  (1, 24, []),
  (1, 24, []),
  (0, 7, [48, 1, 0, 0, 0, 0, 0, 50, 51, 52]),
  (1, 6, []),
  (3, 60, []),
  (2, 6, []),
  (2, 6, []),
  (1, 6, []),
  (0, 2, [54, 0, 55, 56, 57, 0, 58, 59, 60, 61, 62]),
  (1, 6, []),
  (1, 9, []),
  (1, 9, []),
  (1, 6, []),
  (1, 30, []),
  (1, 30, []),
  (2, 30, []),
  (1, 30, []),
  (1, 30, []),
  (5, 40, [127, 4]),
  (0, 1, [0, 65, 66, 67, 68, 69, 70, 71, 72, 73]),
  (1, 30, []),
  (1, 30, []),
  (1, 30, []),
  (1, 30, []),
  (1, 30, []),
  (2, 30, []),
  (1, 8, []),
  (1, 8, []),
  (2, 8, []),
  (0, 4, [0, 75, 76, 77, 78, 79, 0, 80, 81, 82]),
  (1, 60, []),
  (1, 60, []),
  (1, 60, []),
  (1, 60, []),
  (2, 60, []),
  (1, 100, []),
  (1, 100, []),
  (1, 100, []),
  (0, 8, [84, 85, 0, 0, 0, 86, 87, 88, 89, 94, 95, 96, 0, 97, 98, 0, 0]),
  (1, 3, []),
  (1, 4, []),
  (1, 24, []),
  (1, 24, []),
  (1, 24, []),
  (7, 4, [88, 1]),
  (1, 24, []),
  (1, 24, []),
  (1, 24, []),
  (1, 24, []),
  (1, 5, []),
  (1, 4, []),
  (1, 4, []),
  (4, 1024, []),
  (1, 1024, []),
  (0, 10, [100, 101, 107]),
  (1, 5, []),
  (7, 5, [100, 1]),
  (1, 12, []),
  (1, 12, []),
  (1, 12, []),
  (1, 12, []),
  (1, 12, []),
  (7, 5, [106, 1]),
  (1, 12, []),
  (1, 12, []),
  (1, 12, []),
  (1, 12, []),
  (1, 12, []),
  (0, 6, [0, 114, 115, 116, 117, 118, 119, 0, 0]),
  (1, 7, []),
  (1, 7, []),
  (1, 7, []),
  (1, 7, []),
  (1, 7, []),
  (1, 7, []),
  (7, 5, [119, 1]),
  (1, 3, []),
  (1, 3, []),
  (1, 3, []),
  (1, 3, []),
  (1, 3, []),
  (1, 5, []),
  (1, 40, []),
  (1, 7, []),
  (1, 6, []),
  (1, 6, []),
  (1, 6, []),
  (1, 6, []),
  (1, 6, [])]
/-- the cells of the object -/
def NC : Nat := 287
/-- the shape of each cell: the 40 matters stand at 127 on, four cells each -/
def shp (k : Nat) : Shp := if 127 ≤ k ∧ k < 287 then (if (k - 127) % 4 = 0 then (0, 5, [3, 53, 0, 0, 0, 0, 0, 0, 0, 0, 0, 0, k + 3, k + 4, k + 5]) else (1, 30, [])) else layL.getD (if k < 127 then k else k - 160) (9, 0, [])
abbrev GX : Type := va_G × (Nat → ClassId) × Nat × (Nat → Prop) × Nat × Nat × Nat × Nat × (Nat → Int32)
/-- the class's own constant row; how many cells there are by now (the law makes rows behind the object); the script's address, length and ints -/
abbrev stA (G : GX) : Nat := G.2.2.2.2.1
abbrev nG (G : GX) : Nat := G.2.2.2.2.2.1
abbrev bG (G : GX) : Nat := G.2.2.2.2.2.2.1
abbrev LG (G : GX) : Nat := G.2.2.2.2.2.2.2.1
abbrev xG (G : GX) : Nat → Int32 := G.2.2.2.2.2.2.2.2
def OkX (G : GX) (b L : Nat) (xs : Nat → Int32) : Prop := bG G = b ∧ LG G = L ∧ xG G = xs
/-- the address of a cell -/
def ad (G : GX) (c : Nat) : Nat := G.2.2.1 + c
def fv (G : GX) (m : Int32) (code : Nat) : Value := match code with
  | 0 => .int m
  | 1 => .ref (ad G m.toNatClampNeg)
  | r + 2 => .ref (ad G r)
def fvs (G : GX) (r : Nat → Int32) (fs : List Nat) : List Value := (List.range fs.length).map (fun j => fv G (r j) (fs.getD j 0))
def cte (G : GX) (h : Shp) (r : Nat → Int32) : va_E := match h.1 with
  | 0 => .inr (h.2.1, fvs G r h.2.2)
  | 1 => .inl (G.2.1 0, h.2.1, .inl r)
  | 2 => .inl (G.2.1 1, h.2.1, .inl r)
  | 3 => .inl (G.2.1 2, h.2.1, .inl r)
  | 4 => .inl (G.2.1 3, h.2.1, .inr (.inl (fun j => jnL (r (2 * j)) (r (2 * j + 1)))))
  | t + 5 => .inl (G.2.1 (t + 4), h.2.1, .inr (.inr (.inr (.inr (fun i => some (ad G (h.2.2.getD 0 0 + h.2.2.getD 1 0 * i)))))))
def wl (G : GX) (M : Mem) : va_W := (List.range (nG G)).map (fun k => (ad G k, cte G (shp k) (M k)))
theorem wl_len (G : GX) (M : Mem) : (wl G M).length = nG G := by simp [wl]
theorem wl_get (G : GX) (M : Mem) {k : Nat} (h : k < nG G) : (wl G M)[k]? = some (ad G k, cte G (shp k) (M k)) := by
  simp [wl, h]
theorem wl_set (G : GX) (M : Mem) {c k : Nat} (v : Int32) {e : va_E} (he : e = cte G (shp c) (upd (M c) k v)) : (wl G M).set c (ad G c, e) = wl G (mset M c k v) := by
  apply List.ext_getElem?
  intro i
  rw [List.getElem?_set]
  by_cases hi : i < nG G
  · rw [wl_get G (mset M c k v) hi]
    by_cases hc : c = i
    · subst hc
      rw [if_pos rfl, if_pos (by rw [wl_len]; exact hi), he, mset_row]
    · rw [if_neg hc, wl_get G M hi, mset_ne M k v (fun q => hc q.symm)]
  · have h1 : (wl G (mset M c k v))[i]? = none := by rw [List.getElem?_eq_none_iff, wl_len]; omega
    rw [h1]
    by_cases hc : c = i
    · subst hc
      rw [if_pos rfl, if_neg (by rw [wl_len]; exact hi)]
    · rw [if_neg hc, List.getElem?_eq_none_iff, wl_len]; omega
theorem fvs_get (G : GX) (r : Nat → Int32) {fs : List Nat} {k code : Nat} (h : fs[k]? = some code) : (fvs G r fs)[k]? = some (fv G (r k) code) := by
  have hk : k < fs.length := (List.getElem?_eq_some_iff.mp h).1
  simp [fvs, hk]
  rw [(List.getElem?_eq_some_iff.mp h).2]
theorem fvs_len (G : GX) (r : Nat → Int32) (fs : List Nat) : (fvs G r fs).length = fs.length := by simp [fvs]
theorem fvs_set (G : GX) (r : Nat → Int32) {fs : List Nat} {k code : Nat} (x : Int32) (h : fs[k]? = some code) (v : Value) (hv : v = fv G x code) : (fvs G r fs).set k v = fvs G (upd r k x) fs := by
  have hk : k < fs.length := (List.getElem?_eq_some_iff.mp h).1
  apply List.ext_getElem?
  intro i
  rw [List.getElem?_set, fvs_len]
  by_cases hi : k = i
  · subst hi
    rw [if_pos rfl, if_pos hk, fvs_get G _ h, hv]
    simp [upd]
  · rw [if_neg hi]
    by_cases hl : i < fs.length
    · have hg : fs[i]? = some fs[i] := List.getElem?_eq_getElem hl
      rw [fvs_get G _ hg, fvs_get G _ hg]
      unfold upd
      rw [if_neg (fun q : i = k => hi q.symm)]
    · rw [List.getElem?_eq_none_iff.mpr (by rw [fvs_len]; omega), List.getElem?_eq_none_iff.mpr (by rw [fvs_len]; omega)]
/-- what a cell is -/
def isF (c ci k code : Nat) : Prop := c < NC ∧ ci < 12 ∧ ∃ fs, shp c = (0, ci, fs) ∧ fs[k]? = some code
def arI (c n : Nat) : Prop := c < NC ∧ shp c = (1, n, [])
/-- a row of the law's own -/
def arL (G : GX) (c n : Nat) : Prop := c < nG G ∧ shp c = (1, n, [])
def arZ (c n : Nat) : Prop := c < NC ∧ shp c = (2, n, [])
def arB (c n : Nat) : Prop := c < NC ∧ shp c = (3, n, [])
def arJ (c n : Nat) : Prop := c < NC ∧ shp c = (4, n, [])
def arR (t c n b d : Nat) : Prop := c < NC ∧ shp c = (t + 5, n, [b, d]) ∧ t < 3
def isMat (t : Nat) : Prop := ∃ i, i < 40 ∧ t = 127 + 4 * i
def bz (x : Int32) : Prop := x = 0 ∨ x = 1
theorem shpM {i : Nat} (h : i < 40) : shp (127 + 4 * i) = (0, 5, [3, 53, 0, 0, 0, 0, 0, 0, 0, 0, 0, 0, 127 + 4 * i + 3, 127 + 4 * i + 4, 127 + 4 * i + 5]) := by
  unfold shp
  rw [if_pos (by omega), if_pos (by omega)]
theorem shpMa {i j : Nat} (h : i < 40) (h1 : 0 < j) (h2 : j < 4) : shp (127 + 4 * i + j) = (1, 30, []) := by
  unfold shp
  rw [if_pos (by omega), if_neg (by omega)]
theorem isMat_F {t k code : Nat} (h : isMat t) (hk : [3, 53, 0, 0, 0, 0, 0, 0, 0, 0, 0, 0, t + 3, t + 4, t + 5][k]? = some code) : isF t 5 k code := by
  obtain ⟨i, hi, rfl⟩ := h
  exact ⟨by unfold NC; omega, by decide, _, shpM hi, hk⟩
theorem isMat_A {t j : Nat} (h : isMat t) (h1 : 0 < j) (h2 : j < 4) : arI (t + j) 30 := by
  obtain ⟨i, hi, rfl⟩ := h
  exact ⟨by unfold NC; omega, shpMa hi h1 h2⟩
theorem isMat_of {x : Int32} (h : vp_in x 40) : isMat (127 + 4 * x.toNatClampNeg) := ⟨_, Nat.not_le.mp fun q => h (Or.inr q), rfl⟩
/-- the class's own constant row -/
def svl (k : Nat) : List Int32 := [[255, 30, 1]].getD k []
def sv (k : Nat) (i : Nat) : Int32 := (svl k).getD i 0
def Sts (G : GX) (U : State) (H : Heap) : Prop := (va_Z "WorksCouncil" "MOST_OF_TERM" "[I" (.ref (stA G)) G.2.2.2.1 U H ∧ va_X (stA G) 3 (sv 0) U H ∧ ¬ G.2.2.2.1 (stA G) ∧ stA G < H.size) ∧ va_X (bG G) (LG G) (xG G) U H ∧ ¬ G.2.2.2.1 (bG G) ∧ bG G < H.size
def tysL (G : GX) : List (ClassId × FieldType) := [(G.2.1 0, .int), (G.2.1 1, .boolean), (G.2.1 2, .byte), (G.2.1 3, .long), (G.2.1 4, .object "WorksCouncil$Matter"), (G.2.1 5, .array .byte), (G.2.1 6, .array .int)]
def clS (ci : Nat) : vw_C := vwCl.getD ci (RX0, TX0, 6)
def clTy (ci : Nat) : Nat → FieldType := match ci with
  | 0 => tyX0
  | 1 => tyX1
  | 2 => tyX2
  | 3 => tyX3
  | 4 => tyX4
  | 5 => tyX5
  | 6 => tyX6
  | 7 => tyX7
  | 8 => tyX8
  | 9 => tyX9
  | 10 => tyX10
  | _ => tyX11
theorem clS_get {ci : Nat} (h : ci < 12) : vwCl[ci]? = some (clS ci) := by
  have : ∀ ci, ci < 12 → vwCl[ci]? = some (clS ci) := by
    intro ci h
    rw [clS, List.getD_eq_getElem?_getD, List.getElem?_eq_getElem (show ci < vwCl.length from h)]
    rfl
  exact this ci h
/-- a field of a kind: declarer, name, descriptor, final -/
def fl (ci k : Nat) : String × String × String × Bool := (clS ci).2.1 k
