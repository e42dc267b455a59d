/-! THE INVARIANT between the class's memory (cells 0 .. 286) and the model's (287 ..), group by group -/
def nn (x : Int32) : Nat := x.toNatClampNeg
/-- row i of n rows that begin at cell b, s cells apart -/
def rws (M : Mem) (b s n i : Nat) : Nat → Int32 := if i < n then M (b + s * i) else fun _ => 0
theorem rws_in (M : Mem) (b s n : Nat) {i : Nat} (h : i < n) : rws M b s n i = M (b + s * i) := if_pos h
theorem rws_ne (M : Mem) (b s n c k : Nat) (v : Int32) (h : c < b ∨ b + s * (n - 1) < c) : rws (mset M c k v) b s n = rws M b s n := by
  funext i
  unfold rws
  by_cases hi : i < n
  · rw [if_pos hi, if_pos hi]
    have h1 : i ≤ n - 1 := by omega
    have h2 := Nat.mul_le_mul_left s h1
    exact mset_ne M k v (by omega)
  · rw [if_neg hi, if_neg hi]
theorem rws_at (M : Mem) (b s n : Nat) {j : Nat} (k : Nat) (v : Int32) (hs : 0 < s) (hj : j < n) : rws (mset M (b + s * j) k v) b s n = fun i => if i = j then upd (rws M b s n j) k v else rws M b s n i := by
  funext i
  unfold rws
  by_cases hi : i < n
  · rw [if_pos hi, if_pos hi, if_pos hj]
    by_cases e : i = j
    · subst e; rw [if_pos rfl, mset_row]
    · rw [if_neg e]
      refine mset_ne M k v (fun q => e ?_)
      have : s * i = s * j := by omega
      exact Nat.eq_of_mul_eq_mul_left hs this
  · rw [if_neg hi, if_neg hi, if_neg (by omega)]
theorem rws_off (M : Mem) (b s n c k : Nat) (v : Int32) (h : ∀ i, i < n → c ≠ b + s * i) : rws (mset M c k v) b s n = rws M b s n := by
  funext i
  unfold rws
  by_cases hi : i < n
  · rw [if_pos hi, if_pos hi]
    exact mset_ne M k v (fun q => h i hi q.symm)
  · rw [if_neg hi, if_neg hi]
/-- a whole row written -/
def mput (M : Mem) (c : Nat) (f : Nat → Int32) : Mem := fun c' => if c' = c then f else M c'
theorem mput_s (M : Mem) (c : Nat) (f : Nat → Int32) : mput M c f c = f := if_pos rfl
theorem mput_n (M : Mem) {c c' : Nat} (f : Nat → Int32) (h : c' ≠ c) : mput M c f c' = M c' := if_neg h
theorem mput_at (M : Mem) (c : Nat) (f : Nat → Int32) (c' : Nat) : mput M c f c' = if c' = c then f else M c' := rfl
theorem mset_put (M : Mem) (c k : Nat) (v : Int32) : mset M c k v = mput M c (upd (M c) k v) := rfl
theorem mput_put (M : Mem) (c : Nat) (f g : Nat → Int32) : mput (mput M c f) c g = mput M c g := by
  funext c'
  unfold mput
  by_cases h : c' = c <;> simp [h]
theorem mput_id (M : Mem) (c : Nat) : mput M c (M c) = M := by
  funext c'
  unfold mput
  by_cases h : c' = c <;> simp [h]
theorem mput_sw (M : Mem) {c d : Nat} (f g : Nat → Int32) (h : c ≠ d) : mput (mput M c f) d g = mput (mput M d g) c f := by
  funext c'
  unfold mput
  by_cases h1 : c' = c <;> by_cases h2 : c' = d <;> simp_all
theorem Lp.up {α : Type} {B : (α → Prop) → α → Prop} (I : Nat → α → Prop) (e : Nat) (h : ∀ (j : Nat) (a : α) (r : α → Prop), j ≤ e → I j a → (j < e → ∀ a', I (j + 1) a' → r a') → B r a) {j : Nat} {a : α} (hj : j ≤ e) (ha : I j a) : Lp B a := by
  have key : ∀ k j a, e - j = k → j ≤ e → I j a → lfp B (k + 1) a := by
    intro k
    induction k with
    | zero => intro j a h1 h2 h3; exact h j a _ h2 h3 (fun q => absurd q (by omega))
    | succ k ih => intro j a h1 h2 h3; exact h j a _ h2 h3 (fun q a' h4 => ih (j + 1) a' (by omega) (by omega) h4)
  exact ⟨_, key _ j a rfl hj ha⟩
/-- workdays up to a day -/
def wd (f : Nat → Int32) : Nat → Nat
  | 0 => if f 0 = 0 then 1 else 0
  | d + 1 => wd f d + (if (d + 1) % 7 < 5 ∧ f (d + 1) = 0 then 1 else 0)
/-- a bit -/
def bt (x : Int32) (b : Nat) : Bool := x.toBitVec.getLsbD b
def gR (a b : Nat → Int32) : Prop := b = a
def gDay (x2 x3 y : Nat → Int32) (nx ny : Int32) : Prop := ny = nx ∧ 0 ≤ nx ∧ nx ≤ 1000 ∧ y = x2 ∧ (∀ j, bz (x2 j)) ∧ ∀ j, j ≤ 1000 → x3 j = nI (wd x2 j)
def gSet (x y : Nat → Int32) : Prop := y = x ∧ (∀ k, k < 5 → 0 ≤ x k) ∧ x 0 ≤ 20 ∧ x 1 ≤ 200 ∧ x 2 ≤ 1000 ∧ 3 ≤ x 3 ∧ x 3 ≤ 9 ∧ x 4 ≤ 4
def gPeo (n pn now : Int32) (x5 x6 x7 x8 y289 y290 y291 y294 : Nat → Int32) : Prop := pn = n ∧ 0 ≤ n ∧ n ≤ 24 ∧ y289 = x5 ∧ y290 = x7 ∧ y291 = x8 ∧
  (∀ j, 0 ≤ x5 j ∧ x5 j ≤ 5) ∧ (∀ j, j < nn n → x6 j = (if y294 j = 0 then 1 else 0)) ∧ (∀ j, bz (x6 j)) ∧ (∀ j, bz (y294 j)) ∧ (∀ j, nn n ≤ j → y294 j = 0) ∧
  (∀ j, j < nn n → -25000 ≤ x7 j ∧ x7 j ≤ -5000) ∧ (∀ j, j < nn n → -15000 ≤ x8 j ∧ x8 j ≤ now)
def gPts (n now ld li : Int32) (x9 x10 x11 x12 x14 y292 y293 y360 : Nat → Int32) : Prop := y360 = x14 ∧ (∀ k, 0 ≤ x14 k ∧ x14 k ≤ 9) ∧
  (∀ j, j < nn n → x9 j = y292 (2 * j) ∧ x10 j = y292 (2 * j + 1)) ∧ (∀ k, 0 ≤ y292 k ∧ y292 k ≤ 100) ∧ (∀ k, 0 ≤ y293 k ∧ y293 k ≤ 100) ∧
  ((li = -1 ∧ ld = -9 ∧ ∀ k, k < 2 * nn n → y293 k = y292 k) ∨ (0 ≤ li ∧ li ≤ now ∧ ld = li ∧ ∀ j, j < nn n → x11 j = y293 (2 * j) ∧ x12 j = y293 (2 * j + 1)))
def gWish (x13 y348 : Nat → Int32) : Prop := ∀ p, p < 24 → ∀ b, b < 12 → y348 (12 * p + b) = (if bt (x13 p) b then 1 else 0)
def by8 (x : Int32) : Int32 := x &&& 255
/-- an act's text as the model holds it: a what, a kind, ':' ahead (what its rule must be: part of gActs by okRule) -/
def gActs (a b n : Int32) (tx : Nat → Nat → Int32) (x42 x43 x44 y296 y297 y298 y299 y300 : Nat → Int32) (ok : (Nat → Int32) → Nat → Prop) : Prop := b = a ∧ 0 ≤ a ∧ a ≤ 24 ∧ y299 = x43 ∧ y300 = x44 ∧
  (∀ j, j ≤ nn a → 0 ≤ x42 j ∧ x42 j ≤ 60) ∧ (∀ j, j < nn a → y298 j = x42 j) ∧ n = x42 (nn a) ∧
  (∀ j, j < nn a → ∀ k, k < nn (x42 j) → y297 (60 * j + k) = by8 (tx j k)) ∧ (∀ k, k < nn (x42 (nn a)) → y296 k = by8 (tx (nn a) k)) ∧
  (∀ j, j < nn a → ok (fun k => y297 (60 * j + k)) (nn (x42 j)))
def gTerm (tm : Nat → Nat → Int32) (y305 y306 y307 : Nat → Int32) : Prop := ∀ k, k < 5 → tm k 0 = y305 k ∧ tm k 1 = y306 k ∧ tm k 2 = y307 k ∧ 0 ≤ y305 k ∧ y305 k ≤ 255 ∧ 0 ≤ y306 k ∧ y306 k ≤ 30 ∧ bz (y307 k)
/-- a matter's row against the model's rows -/
def mrow (now se : Int32) (o t1 t2 t3 : Nat → Int32) (i : Nat) (y308 y309 y310 y311 y312 y313 y314 y315 y316 y317 y318 y319 y320 y321 : Nat → Int32) : Prop :=
  o 2 = y308 i ∧ o 3 = y309 i ∧ o 4 = y310 i ∧ o 7 = y311 i ∧ o 5 = y312 i ∧ o 6 = y313 i ∧ o 8 = y314 i ∧ o 9 = y315 i ∧ o 10 = y316 i ∧ o 11 = y317 i ∧
  0 ≤ y308 i ∧ y308 i ≤ 7 ∧ 1 ≤ y309 i ∧ y309 i ≤ 63 ∧ 0 ≤ y310 i ∧ y310 i ≤ 9999 ∧ 0 ≤ y311 i ∧ y311 i ≤ 4 ∧ 0 ≤ y313 i ∧ y313 i ≤ now ∧ 0 ≤ y314 i ∧ y314 i ≤ 255 ∧ 0 ≤ y315 i ∧ y315 i ≤ 30 ∧ bz (y316 i) ∧ 0 ≤ y317 i ∧ y317 i ≤ 30 ∧
  ∀ k, k < nn (y317 i) → t1 k = y318 (30 * i + k) ∧ t3 k = y319 (30 * i + k) ∧ 0 ≤ t1 k ∧ t1 k ≤ 5 ∧ y313 i ≤ t3 k ∧ t3 k ≤ now ∧
    ((t1 k = 0 ∨ t1 k = 1) → t2 k = y320 (30 * i + k) ∧ 0 ≤ t2 k ∧ t2 k ≤ 7) ∧ (t1 k = 2 → y320 (30 * i + k) = -1) ∧ (t1 k = 5 → y320 (30 * i + k) = -1) ∧ (t1 k = 4 → t2 k = y320 (30 * i + k) ∧ bz (t2 k)) ∧
    (t1 k = 3 → t2 k = 2 * y321 (30 * i + k) + y320 (30 * i + k) ∧ bz (y320 (30 * i + k)) ∧ 0 ≤ y321 (30 * i + k) ∧ y321 (30 * i + k) < se)
def gMat (o o2 now se : Int32) (m0 m1 m2 m3 : Nat → Nat → Int32) (y308 y309 y310 y311 y312 y313 y314 y315 y316 y317 y318 y319 y320 y321 : Nat → Int32) : Prop := o2 = o ∧ 0 ≤ o ∧ o ≤ 40 ∧
  (∀ i, i < nn o → mrow now se (m0 i) (m1 i) (m2 i) (m3 i) i y308 y309 y310 y311 y312 y313 y314 y315 y316 y317 y318 y319 y320 y321) ∧ (∀ i, nn o ≤ i → i < 40 → m0 i 11 = 0 ∧ y317 i = 0)
def gSeat (s s2 n : Int32) (x52 x53 x54 y322 y323 y324 : Nat → Int32) : Prop := s2 = s ∧ 0 ≤ s ∧ s ≤ 9 ∧ y322 = x52 ∧ y323 = x53 ∧ y324 = x54 ∧ (∀ k, 0 ≤ x52 k ∧ x52 k ≤ 999) ∧ (∀ k, 0 ≤ x53 k ∧ x53 k ≤ 5) ∧
  (∀ k, k < nn s → x54 k = -9 ∨ (0 ≤ x54 k ∧ x54 k < n))
/-- how many answers of a session the matters hold -/
def ansN (o : Nat) (y317 y318 y321 : Nat → Int32) (s : Int32) : Nat := ((List.range o).map (fun i => ((List.range (nn (y317 i))).filter (fun k => y318 (30 * i + k) = 3 ∧ y321 (30 * i + k) = s)).length)).sum
def gSess (c c2 now o : Int32) (x56 x57 x58 x59 x60 y326 y327 y328 y329 y317 y318 y321 : Nat → Int32) : Prop := c2 = c ∧ 0 ≤ c ∧ c ≤ 30 ∧ y326 = x56 ∧ y327 = x57 ∧ y328 = x58 ∧ y329 = x59 ∧ (∀ k, bz (x58 k)) ∧
  (∀ k, k < nn c → 0 ≤ x56 k ∧ x56 k ≤ now ∧ 0 ≤ x57 k ∧ x57 k < 512 ∧ 0 ≤ x59 k ∧ x59 k ≤ 1000000 ∧ (x59 k = 1000000 ∨ x59 k ≤ now) ∧ x60 k = nI (ansN (nn o) y317 y318 y321 (nI k)))
def gAgr (a a2 now o : Int32) (x63 x64 x65 x66 x67 x68 y330 y331 y332 y333 y334 y335 y311 y313 : Nat → Int32) : Prop := a2 = a ∧ 0 ≤ a ∧ a ≤ 30 ∧ y330 = x63 ∧ y331 = x64 ∧ y332 = x65 ∧ y333 = x66 ∧ y334 = x67 ∧ y335 = x68 ∧ (∀ k, bz (x68 k)) ∧ (∀ k, nn a ≤ k → x68 k = 0) ∧
  (∀ k, k < nn a → 0 ≤ x63 k ∧ x63 k < o ∧ y311 (nn (x63 k)) = 3 ∧ 0 ≤ x64 k ∧ x64 k ≤ 9999 ∧ 0 ≤ x65 k ∧ x65 k ≤ 1000 ∧ 0 ≤ x66 k ∧ x66 k ≤ 1000000 ∧ y313 (nn (x63 k)) ≤ x67 k ∧ 0 ≤ x67 k ∧ x67 k ≤ now)
def gCon (x69 x70 x71 y336 y337 y338 : Nat → Int32) : Prop := y336 = x69 ∧ y337 = x70 ∧ y338 = x71 ∧ (∀ k, bz (x71 k)) ∧ (∀ k, k < 8 → -1 ≤ x69 k ∧ x69 k ≤ 9999) ∧ ∀ k, 0 ≤ x70 k ∧ x70 k ≤ 2
def gDeed (d d2 now o : Int32) (x73 x74 x75 x76 x77 y339 y340 y341 y342 y343 y313 : Nat → Int32) : Prop := d2 = d ∧ 0 ≤ d ∧ d ≤ 60 ∧ y339 = x73 ∧ y340 = x74 ∧ y341 = x75 ∧ y342 = x76 ∧ (∀ k, bz (x77 k)) ∧
  (∀ k, k < nn d → (x77 k = if 0 < y343 k then 1 else 0) ∧ -1 ≤ x73 k ∧ x73 k < o ∧ (0 ≤ x73 k → y313 (nn (x73 k)) ≤ x74 k) ∧ 0 ≤ x74 k ∧ x74 k ≤ now ∧ 1 ≤ x75 k ∧ x75 k ≤ 63 ∧ 0 ≤ x76 k ∧ x76 k ≤ 9999)
def gHang (h h2 now : Int32) (x78 x79 x80 y344 y345 y346 : Nat → Int32) : Prop := h2 = h ∧ 0 ≤ h ∧ h ≤ 100 ∧ y344 = x78 ∧ y345 = x80 ∧ y346 = x79
def gNeed (x82 y347 : Nat → Int32) : Prop := y347 = x82 ∧ ∀ k, 0 ≤ x82 k ∧ x82 k ≤ 2
def gStu (x98 y357 : Nat → Int32) (tk dy : Nat → Nat → Int32) (y358 y359 : Nat → Int32) : Prop := y357 = x98 ∧ (∀ p, 0 ≤ x98 p ∧ x98 p ≤ 12) ∧ ∀ p, p < 5 → ∀ k, k < nn (x98 p) → tk p k = y359 (12 * p + k) ∧ dy p k = y358 (12 * p + k) ∧ 1 ≤ tk p k ∧ tk p k ≤ 999
def gPlan (n n2 : Int32) (x112 x113 x114 y361 y362 y363 : Nat → Int32) : Prop := n2 = n ∧ 0 ≤ n ∧ n ≤ 7 ∧ y361 = x112 ∧ y362 = x113 ∧ y363 = x114 ∧ ∀ k, k < nn n → 1 ≤ x112 k ∧ x112 k ≤ 3 ∧ 0 ≤ x113 k ∧ x113 k ≤ 6 ∧ 0 ≤ x114 k ∧ (x114 k).toInt < 2 ^ k
def gRow (r r2 : Int32) (x125 y368 : Nat → Int32) : Prop := r2 = r ∧ 0 ≤ r ∧ r ≤ 40 ∧ y368 = x125
