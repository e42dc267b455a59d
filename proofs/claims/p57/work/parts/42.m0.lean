/-- workdays up to a day -/
def wd (f : Nat → Int32) : Nat → Nat
  | 0 => if f 0 = 0 then 1 else 0
  | d + 1 => wd f d + (if (d + 1) % 7 < 5 ∧ f (d + 1) = 0 then 1 else 0)
theorem rem7 (j : Nat) (h : j < 2147483648) : nI j - nI j / 7 * 7 = nI (j % 7) := pk_rem (d := 7) h (by decide) (by decide)
/-! the memory behind the constructors -/
def M0a : Mem := fun c => match c with
  | 3 => fun k => if k < 1001 then nI (wd (fun _ => 0) k) else 0
  | 4 => fun k => if k = 11 then -9 else 0
  | 14 => fun k => if k < 4 then 1 else 0
  | 45 => fun k => if k = 1 then 47 else if k = 4 then -9 else 0
  | 69 => fun k => if k < 8 then -1 else 0
  | 81 => fun k => if k = 12 then -9 else if k = 16 then -9 else 0
  | 82 => fun k => if k < 3 then 1 else 0
  | 111 => fun k => if k = 7 then -9 else if k = 8 then -9 else 0
  | 119 => fun k => if k = 1 then 5 else 0
  | 120 => fun k => if k = 1 then 5 else if k = 2 then 1 else 0
  | 121 => fun k => if k = 1 then 5 else if k = 2 then 1 else 0
  | 122 => fun k => if k = 1 then 5 else 0
  | 123 => fun k => if k = 1 then 5 else 0
  | 124 => fun k => [3, 30, 14, 3, 3].getD k 0
  | _ => fun _ => 0
def mt0 : Nat → Int32 := fun k => if k = 5 then -9 else 0
def M0 : Mem := fun c => if 127 ≤ c ∧ c < 287 then (if (c - 127) % 4 = 0 then mt0 else fun _ => 0) else M0a c
theorem M0_m {i : Nat} (h : i < 40) : M0 (127 + 4 * i) = mt0 := by
  unfold M0
  rw [if_pos (by omega), if_pos (by omega)]
theorem M0_a {i j : Nat} (h : i < 40) (h1 : 0 < j) (h2 : j < 4) : M0 (127 + 4 * i + j) = fun _ => 0 := by
  unfold M0
  rw [if_pos (by omega), if_neg (by omega)]
def fE (G : GX) (k : Nat) : va_E := cte G (shp k) (M0 k)
theorem fE_wl (G : GX) : wlP G (nG G) (fE G) = wl G M0 := rfl
theorem obL_all (G : GX) {r : Nat → Int32} {fs : List Nat} {A : Nat → Bool} (h : ∀ j, j < fs.length → A j = true ∨ (fs.getD j 0 = 0 ∧ r j = 0)) : obL G r fs A = fvs G r fs := by
  unfold obL fvs
  apply List.map_congr_left
  intro j hj
  rcases h j (List.mem_range.mp hj) with q | ⟨q1, q2⟩
  · rw [q, if_pos rfl]
  · rw [q1, q2]
    by_cases z : A j = true
    · rw [if_pos z]
    · rw [if_neg z]; rfl
theorem obF_skip (G : GX) (ci : Nat) {r : Nat → Int32} {fs : List Nat} {A B : Nat → Bool} {N9 : Nat} (hN9 : fs.length = N9) (h : ∀ j, j < N9 → A j = B j ∨ (fs.getD j 0 = 0 ∧ r j = 0)) : obF G ci r fs A = obF G ci r fs B := by
  subst hN9
  refine congrArg (fun z => Sum.inr (ci, z)) (obL_ext G (fun j hj => ?_))
  rcases h j hj with q | ⟨q1, q2⟩
  · rw [q]
  · rw [q1, q2]
    have e : fv G 0 0 = dfl 0 := rfl
    rw [e, ite_self, ite_self]
theorem ob_end (G : GX) {o ci N9 : Nat} {fs : List Nat} {r : Nat → Int32} {A : Nat → Bool} (ho : shp o = (0, ci, fs)) (hr : M0 o = r) (hN9 : fs.length = N9) (h : ∀ j, j < N9 → A j = true ∨ (fs.getD j 0 = 0 ∧ r j = 0)) : fE G o = obF G ci r fs A := by
  subst hN9
  subst hr
  unfold fE
  rw [ho]
  exact congrArg (fun z => Sum.inr (ci, z)) (obL_all G h).symm
theorem JC.close {X : CX} {G : GX} {nw kc ks pc : Nat} {f : Nat → va_E} {lv : List (Nat × Value)} {st : List Value} {c9 N t : Nat} {r r' : Nat → Int32} (hf : f c9 = aE G t N r') (hr : ∀ j, j < N → r j = r' j) (h : JC X G nw f kc ks pc lv st) : JC X G nw (updE f c9 (aE G t N r)) kc ks pc lv st := by
  obtain ⟨p, l, e, R, s, m, args, below, meth, c, nL, cells, slots, Q⟩ := X
  intro H locs ls hz hP hS hl
  refine h H locs ls hz (fun k x hx => ?_) hS hl
  obtain ⟨hk, rfl⟩ := wlP_at hx
  have h1 := hP k _ (wlP_get G _ hk)
  by_cases hc : k = c9
  · subst hc
    rw [updE_eq] at h1
    rw [hf]
    have h2 : H[ad G k]? = some (arrV (G.2.1 t) N (fun j => .int (r j))) := h1
    show H[ad G k]? = some (arrV (G.2.1 t) N (fun j => .int (r' j)))
    rw [h2, arrV_ext (G.2.1 t) (f := fun j => .int (r j)) (g := fun j => .int (r' j)) (fun j hj => by rw [hr j hj])]
  · rw [updE_ne _ _ hc] at h1
    exact h1
theorem JC.closeR {X : CX} {G : GX} {nw kc ks pc : Nat} {f : Nat → va_E} {lv : List (Nat × Value)} {st : List Value} {c9 N t : Nat} {r r' : Nat → Option Nat} (hf : f c9 = aR G t N r') (hr : ∀ j, j < N → r j = r' j) (h : JC X G nw f kc ks pc lv st) : JC X G nw (updE f c9 (aR G t N r)) kc ks pc lv st := by
  obtain ⟨p, l, e, R, s, m, args, below, meth, c, nL, cells, slots, Q⟩ := X
  intro H locs ls hz hP hS hl
  refine h H locs ls hz (fun k x hx => ?_) hS hl
  obtain ⟨hk, rfl⟩ := wlP_at hx
  have h1 := hP k _ (wlP_get G _ hk)
  by_cases hc : k = c9
  · subst hc
    rw [updE_eq] at h1
    rw [hf]
    have h2 : H[ad G k]? = some (arrV (G.2.1 (t + 4)) N (fun j => va_rf (r j))) := h1
    show H[ad G k]? = some (arrV (G.2.1 (t + 4)) N (fun j => va_rf (r' j)))
    rw [h2, arrV_ext (G.2.1 (t + 4)) (f := fun j => va_rf (r j)) (g := fun j => va_rf (r' j)) (fun j hj => by rw [hr j hj])]
  · rw [updE_ne _ _ hc] at h1
    exact h1
def fsC0 : List Nat := [3, 6, 17, 53, 63, 0, 64, 74, 83, 99, 113, 120, 126, 127, 0, 128]
theorem shC_0 : shp 0 = (0, 11, fsC0) := rfl
def fsC1 : List Nat := [0, 4, 5]
theorem shC_1 : shp 1 = (0, 3, fsC1) := rfl
theorem fe_2 (G : GX) : fE G 2 = aE G 1 1001 (fun _ => 0) := rfl
theorem fe_3 (G : GX) : fE G 3 = aE G 0 1001 (M0 3) := rfl
def fsC4 : List Nat := [0, 7, 8, 9, 10, 11, 12, 13, 14, 15, 16, 0]
theorem shC_4 : shp 4 = (0, 9, fsC4) := rfl
theorem fe_5 (G : GX) : fE G 5 = aE G 0 24 (fun _ => 0) := rfl
theorem fe_6 (G : GX) : fE G 6 = aE G 1 24 (fun _ => 0) := rfl
theorem fe_7 (G : GX) : fE G 7 = aE G 0 24 (fun _ => 0) := rfl
theorem fe_8 (G : GX) : fE G 8 = aE G 0 24 (fun _ => 0) := rfl
theorem fe_9 (G : GX) : fE G 9 = aE G 0 24 (fun _ => 0) := rfl
theorem fe_10 (G : GX) : fE G 10 = aE G 0 24 (fun _ => 0) := rfl
theorem fe_11 (G : GX) : fE G 11 = aE G 0 24 (fun _ => 0) := rfl
theorem fe_12 (G : GX) : fE G 12 = aE G 0 24 (fun _ => 0) := rfl
theorem fe_13 (G : GX) : fE G 13 = aE G 0 24 (fun _ => 0) := rfl
theorem fe_14 (G : GX) : fE G 14 = aE G 0 4 (M0 14) := rfl
def fsC15 : List Nat := [0, 18, 44, 45, 46, 47]
theorem shC_15 : shp 15 = (0, 0, fsC15) := rfl
theorem fe_16 (G : GX) : fE G 16 = aR G 1 25 (fun i => some (ad G (17 + 1 * i))) := rfl
theorem fe_17 (G : GX) : fE G 17 = aE G 2 60 (fun _ => 0) := rfl
theorem fe_18 (G : GX) : fE G 18 = aE G 2 60 (fun _ => 0) := rfl
theorem fe_19 (G : GX) : fE G 19 = aE G 2 60 (fun _ => 0) := rfl
theorem fe_20 (G : GX) : fE G 20 = aE G 2 60 (fun _ => 0) := rfl
theorem fe_21 (G : GX) : fE G 21 = aE G 2 60 (fun _ => 0) := rfl
theorem fe_22 (G : GX) : fE G 22 = aE G 2 60 (fun _ => 0) := rfl
theorem fe_23 (G : GX) : fE G 23 = aE G 2 60 (fun _ => 0) := rfl
theorem fe_24 (G : GX) : fE G 24 = aE G 2 60 (fun _ => 0) := rfl
theorem fe_25 (G : GX) : fE G 25 = aE G 2 60 (fun _ => 0) := rfl
theorem fe_26 (G : GX) : fE G 26 = aE G 2 60 (fun _ => 0) := rfl
theorem fe_27 (G : GX) : fE G 27 = aE G 2 60 (fun _ => 0) := rfl
theorem fe_28 (G : GX) : fE G 28 = aE G 2 60 (fun _ => 0) := rfl
theorem fe_29 (G : GX) : fE G 29 = aE G 2 60 (fun _ => 0) := rfl
theorem fe_30 (G : GX) : fE G 30 = aE G 2 60 (fun _ => 0) := rfl
theorem fe_31 (G : GX) : fE G 31 = aE G 2 60 (fun _ => 0) := rfl
theorem fe_32 (G : GX) : fE G 32 = aE G 2 60 (fun _ => 0) := rfl
theorem fe_33 (G : GX) : fE G 33 = aE G 2 60 (fun _ => 0) := rfl
theorem fe_34 (G : GX) : fE G 34 = aE G 2 60 (fun _ => 0) := rfl
theorem fe_35 (G : GX) : fE G 35 = aE G 2 60 (fun _ => 0) := rfl
theorem fe_36 (G : GX) : fE G 36 = aE G 2 60 (fun _ => 0) := rfl
theorem fe_37 (G : GX) : fE G 37 = aE G 2 60 (fun _ => 0) := rfl
theorem fe_38 (G : GX) : fE G 38 = aE G 2 60 (fun _ => 0) := rfl
theorem fe_39 (G : GX) : fE G 39 = aE G 2 60 (fun _ => 0) := rfl
theorem fe_40 (G : GX) : fE G 40 = aE G 2 60 (fun _ => 0) := rfl
theorem fe_41 (G : GX) : fE G 41 = aE G 2 60 (fun _ => 0) := rfl
theorem fe_42 (G : GX) : fE G 42 = aE G 0 25 (fun _ => 0) := rfl
theorem fe_43 (G : GX) : fE G 43 = aE G 0 24 (fun _ => 0) := rfl
theorem fe_44 (G : GX) : fE G 44 = aE G 0 24 (fun _ => 0) := rfl
def fsC45 : List Nat := [48, 1, 0, 0, 0, 0, 0, 50, 51, 52]
theorem shC_45 : shp 45 = (0, 7, fsC45) := rfl
theorem fe_46 (G : GX) : fE G 46 = aE G 0 6 (fun _ => 0) := rfl
theorem fe_47 (G : GX) : fE G 47 = aE G 2 60 (fun _ => 0) := rfl
theorem fe_48 (G : GX) : fE G 48 = aE G 1 6 (fun _ => 0) := rfl
theorem fe_49 (G : GX) : fE G 49 = aE G 1 6 (fun _ => 0) := rfl
theorem fe_50 (G : GX) : fE G 50 = aE G 0 6 (fun _ => 0) := rfl
def fsC51 : List Nat := [54, 0, 55, 56, 57, 0, 58, 59, 60, 61, 62]
theorem shC_51 : shp 51 = (0, 2, fsC51) := rfl
theorem fe_52 (G : GX) : fE G 52 = aE G 0 6 (fun _ => 0) := rfl
theorem fe_53 (G : GX) : fE G 53 = aE G 0 9 (fun _ => 0) := rfl
theorem fe_54 (G : GX) : fE G 54 = aE G 0 9 (fun _ => 0) := rfl
theorem fe_55 (G : GX) : fE G 55 = aE G 0 6 (fun _ => 0) := rfl
theorem fe_56 (G : GX) : fE G 56 = aE G 0 30 (fun _ => 0) := rfl
theorem fe_57 (G : GX) : fE G 57 = aE G 0 30 (fun _ => 0) := rfl
theorem fe_58 (G : GX) : fE G 58 = aE G 1 30 (fun _ => 0) := rfl
theorem fe_59 (G : GX) : fE G 59 = aE G 0 30 (fun _ => 0) := rfl
theorem fe_60 (G : GX) : fE G 60 = aE G 0 30 (fun _ => 0) := rfl
theorem fe_61 (G : GX) : fE G 61 = aR G 0 40 (fun i => some (ad G (127 + 4 * i))) := rfl
def fsC62 : List Nat := [0, 65, 66, 67, 68, 69, 70, 71, 72, 73]
theorem shC_62 : shp 62 = (0, 1, fsC62) := rfl
theorem fe_63 (G : GX) : fE G 63 = aE G 0 30 (fun _ => 0) := rfl
theorem fe_64 (G : GX) : fE G 64 = aE G 0 30 (fun _ => 0) := rfl
theorem fe_65 (G : GX) : fE G 65 = aE G 0 30 (fun _ => 0) := rfl
theorem fe_66 (G : GX) : fE G 66 = aE G 0 30 (fun _ => 0) := rfl
theorem fe_67 (G : GX) : fE G 67 = aE G 0 30 (fun _ => 0) := rfl
theorem fe_68 (G : GX) : fE G 68 = aE G 1 30 (fun _ => 0) := rfl
theorem fe_69 (G : GX) : fE G 69 = aE G 0 8 (M0 69) := rfl
theorem fe_70 (G : GX) : fE G 70 = aE G 0 8 (fun _ => 0) := rfl
theorem fe_71 (G : GX) : fE G 71 = aE G 1 8 (fun _ => 0) := rfl
def fsC72 : List Nat := [0, 75, 76, 77, 78, 79, 0, 80, 81, 82]
theorem shC_72 : shp 72 = (0, 4, fsC72) := rfl
theorem fe_73 (G : GX) : fE G 73 = aE G 0 60 (fun _ => 0) := rfl
theorem fe_74 (G : GX) : fE G 74 = aE G 0 60 (fun _ => 0) := rfl
theorem fe_75 (G : GX) : fE G 75 = aE G 0 60 (fun _ => 0) := rfl
theorem fe_76 (G : GX) : fE G 76 = aE G 0 60 (fun _ => 0) := rfl
theorem fe_77 (G : GX) : fE G 77 = aE G 1 60 (fun _ => 0) := rfl
theorem fe_78 (G : GX) : fE G 78 = aE G 0 100 (fun _ => 0) := rfl
theorem fe_79 (G : GX) : fE G 79 = aE G 0 100 (fun _ => 0) := rfl
theorem fe_80 (G : GX) : fE G 80 = aE G 0 100 (fun _ => 0) := rfl
def fsC81 : List Nat := [84, 85, 0, 0, 0, 86, 87, 88, 89, 94, 95, 96, 0, 97, 98, 0, 0]
theorem shC_81 : shp 81 = (0, 8, fsC81) := rfl
theorem fe_82 (G : GX) : fE G 82 = aE G 0 3 (M0 82) := rfl
theorem fe_83 (G : GX) : fE G 83 = aE G 0 4 (fun _ => 0) := rfl
theorem fe_84 (G : GX) : fE G 84 = aE G 0 24 (fun _ => 0) := rfl
theorem fe_85 (G : GX) : fE G 85 = aE G 0 24 (fun _ => 0) := rfl
theorem fe_86 (G : GX) : fE G 86 = aE G 0 24 (fun _ => 0) := rfl
theorem fe_87 (G : GX) : fE G 87 = aR G 2 4 (fun i => some (ad G (88 + 1 * i))) := rfl
theorem fe_88 (G : GX) : fE G 88 = aE G 0 24 (fun _ => 0) := rfl
theorem fe_89 (G : GX) : fE G 89 = aE G 0 24 (fun _ => 0) := rfl
theorem fe_90 (G : GX) : fE G 90 = aE G 0 24 (fun _ => 0) := rfl
theorem fe_91 (G : GX) : fE G 91 = aE G 0 24 (fun _ => 0) := rfl
theorem fe_92 (G : GX) : fE G 92 = aE G 0 5 (fun _ => 0) := rfl
theorem fe_93 (G : GX) : fE G 93 = aE G 0 4 (fun _ => 0) := rfl
theorem fe_94 (G : GX) : fE G 94 = aE G 0 4 (fun _ => 0) := rfl
theorem fe_95 (G : GX) : fE G 95 = aJ G 1024 (fun _ => 0) := congrArg (fun z => (Sum.inl (G.2.1 3, 1024, Sum.inr (Sum.inl z)) : va_E)) (funext fun _ => (by decide : jnL 0 0 = 0))
theorem fe_96 (G : GX) : fE G 96 = aE G 0 1024 (fun _ => 0) := rfl
def fsC97 : List Nat := [100, 101, 107]
theorem shC_97 : shp 97 = (0, 10, fsC97) := rfl
theorem fe_98 (G : GX) : fE G 98 = aE G 0 5 (fun _ => 0) := rfl
theorem fe_99 (G : GX) : fE G 99 = aR G 2 5 (fun i => some (ad G (100 + 1 * i))) := rfl
theorem fe_100 (G : GX) : fE G 100 = aE G 0 12 (fun _ => 0) := rfl
theorem fe_101 (G : GX) : fE G 101 = aE G 0 12 (fun _ => 0) := rfl
theorem fe_102 (G : GX) : fE G 102 = aE G 0 12 (fun _ => 0) := rfl
theorem fe_103 (G : GX) : fE G 103 = aE G 0 12 (fun _ => 0) := rfl
theorem fe_104 (G : GX) : fE G 104 = aE G 0 12 (fun _ => 0) := rfl
theorem fe_105 (G : GX) : fE G 105 = aR G 2 5 (fun i => some (ad G (106 + 1 * i))) := rfl
theorem fe_106 (G : GX) : fE G 106 = aE G 0 12 (fun _ => 0) := rfl
theorem fe_107 (G : GX) : fE G 107 = aE G 0 12 (fun _ => 0) := rfl
theorem fe_108 (G : GX) : fE G 108 = aE G 0 12 (fun _ => 0) := rfl
theorem fe_109 (G : GX) : fE G 109 = aE G 0 12 (fun _ => 0) := rfl
theorem fe_110 (G : GX) : fE G 110 = aE G 0 12 (fun _ => 0) := rfl
def fsC111 : List Nat := [0, 114, 115, 116, 117, 118, 119, 0, 0]
theorem shC_111 : shp 111 = (0, 6, fsC111) := rfl
theorem fe_112 (G : GX) : fE G 112 = aE G 0 7 (fun _ => 0) := rfl
theorem fe_113 (G : GX) : fE G 113 = aE G 0 7 (fun _ => 0) := rfl
theorem fe_114 (G : GX) : fE G 114 = aE G 0 7 (fun _ => 0) := rfl
theorem fe_115 (G : GX) : fE G 115 = aE G 0 7 (fun _ => 0) := rfl
theorem fe_116 (G : GX) : fE G 116 = aE G 0 7 (fun _ => 0) := rfl
theorem fe_117 (G : GX) : fE G 117 = aE G 0 7 (fun _ => 0) := rfl
theorem fe_118 (G : GX) : fE G 118 = aR G 2 5 (fun i => some (ad G (119 + 1 * i))) := rfl
theorem fe_119 (G : GX) : fE G 119 = aE G 0 3 (M0 119) := rfl
theorem fe_120 (G : GX) : fE G 120 = aE G 0 3 (M0 120) := rfl
theorem fe_121 (G : GX) : fE G 121 = aE G 0 3 (M0 121) := rfl
theorem fe_122 (G : GX) : fE G 122 = aE G 0 3 (M0 122) := rfl
theorem fe_123 (G : GX) : fE G 123 = aE G 0 3 (M0 123) := rfl
theorem fe_124 (G : GX) : fE G 124 = aE G 0 5 (M0 124) := rfl
theorem fe_125 (G : GX) : fE G 125 = aE G 0 40 (fun _ => 0) := rfl
theorem fe_126 (G : GX) : fE G 126 = aE G 0 7 (fun _ => 0) := rfl
def fsM (o : Nat) : List Nat := [3, 53, 0, 0, 0, 0, 0, 0, 0, 0, 0, 0, o + 3, o + 4, o + 5]
theorem fe_m (G : GX) {i j : Nat} (h : i < 40) (h1 : 0 < j) (h2 : j < 4) : fE G (127 + 4 * i + j) = aE G 0 30 (fun _ => 0) := by
  unfold fE
  rw [shpMa h h1 h2, M0_a h h1 h2]
  rfl
