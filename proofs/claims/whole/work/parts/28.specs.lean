/-! WHAT BOTH SIDES RECKON, in words of their own: rules of texts, shifts, plans -/
abbrev FT : Type := Nat → Int32
def isDg (c : Int32) : Bool := decide (48 ≤ c ∧ c ≤ 57)
def fcN (c : Int32) : Option Nat := if c = 110 then some 0 else if c = 119 then some 1 else if c = 115 then some 2 else if c = 109 then some 3 else if c = 99 then some 4 else if c = 117 then some 5 else none
/-- digits: how many more may come, the place, the value -/
def dgN (sg : Nat → Int32) : Nat → Nat → Int32 → Nat × Int32
  | 0, p, v => (p, v)
  | k + 1, p, v => if isDg (sg p) then dgN sg k (p + 1) (10 * v + sg p - 48) else (p, v)
/-- a unit: where it ends, whether it is none, its value by the facts -/
def unt (sg : Nat → Int32) (p : Nat) : Nat × Bool × (FT → Int32) := match fcN (sg p) with
  | some f => (p + 1, false, fun F => F f)
  | none => if isDg (sg p) then ((dgN sg 4 p 0).1, false, fun _ => (dgN sg 4 p 0).2) else (p, true, fun _ => 0)
def isOp (c : Int32) : Bool := decide (c = 43 ∨ c = 45 ∨ c = 42)
def opv (c a b : Int32) : Int32 := if c = 43 then a + b else if c = 45 then a - b else a * b
def smL (sg : Nat → Int32) : Nat → Nat → (FT → Int32) → Nat × Bool × (FT → Int32)
  | 0, p, v => (p, false, v)
  | k + 1, p, v => if isOp (sg p) then (if (unt sg (p + 1)).2.1 then ((unt sg (p + 1)).1, true, v) else smL sg k (unt sg (p + 1)).1 (fun F => opv (sg p) (v F) ((unt sg (p + 1)).2.2 F))) else (p, false, v)
def smm (sg : Nat → Int32) (p : Nat) : Nat × Bool × (FT → Int32) := if (unt sg p).2.1 then unt sg p else smL sg 60 (unt sg p).1 (unt sg p).2.2
def cmpB (c a b : Int32) : Bool := if c = 60 then decide (a < b) else if c = 61 then decide (a = b) else decide (b < a)
def tst (sg : Nat → Int32) (p : Nat) : Nat × Bool × (FT → Bool) :=
  if (smm sg p).2.1 then ((smm sg p).1, true, fun _ => false)
  else if 60 ≤ sg (smm sg p).1 ∧ sg (smm sg p).1 ≤ 62 then ((smm sg ((smm sg p).1 + 1)).1, (smm sg ((smm sg p).1 + 1)).2.1, fun F => cmpB (sg (smm sg p).1) ((smm sg p).2.2 F) ((smm sg ((smm sg p).1 + 1)).2.2 F))
  else ((smm sg p).1, true, fun _ => false)
/-- a level: is there a term ahead, a part ahead, what the terms ahead say, what the parts ahead say, how many turn the next part -/
abbrev Fm : Type := Bool × Bool × (FT → Bool) × (FT → Bool) × Nat
def dpt (l : List Fm) : Nat := l.length - 1 + (l.map (fun x => x.2.2.2.2)).sum
def fmZ : Fm := (false, false, fun _ => false, fun _ => true, 0)
def adN : List Fm → List Fm
  | [] => []
  | (o, a, y, z, n) :: r => (o, a, y, z, n + 1) :: r
def opn (sg : Nat → Int32) : Nat → Nat → List Fm → Nat × Bool × List Fm
  | 0, p, l => (p, false, l)
  | k + 1, p, l => if sg p = 33 then (if 5 ≤ dpt l then (p, true, l) else opn sg k (p + 1) (adN l)) else if sg p = 40 then (if 5 ≤ dpt l then (p, true, l) else opn sg k (p + 1) (fmZ :: l)) else (p, false, l)
def enP (h : FT → Bool) : List Fm → List Fm
  | [] => []
  | (o, _, y, z, n) :: r => (o, false, y, (fun F => z F && (h F != (n % 2 == 1))), 0) :: r
def clo (sg : Nat → Int32) : Nat → Nat → List Fm → Nat × List Fm
  | 0, p, l => (p, l)
  | k + 1, p, l => if 1 < l.length ∧ sg p = 41 then (match l with
    | (_, _, y, z, _) :: r => clo sg k (p + 1) (enP (fun F => y F || z F) r)
    | [] => (p, l)) else (p, l)
def joi (sg : Nat → Int32) (p : Nat) (l : List Fm) : Nat × Bool × List Fm := match l with
  | (o, a, y, z, n) :: r => if sg p = 38 then (p + 1, true, (o, true, y, z, n) :: r) else if sg p = 124 then (p + 1, true, (true, false, (fun F => y F || z F), (fun _ => true), n) :: r) else (p, false, (o, a, y, z, n) :: r)
  | [] => (p, false, [])
def vlF : List Fm → FT → Bool
  | (_, _, y, z, _) :: _ => fun F => y F || z F
  | [] => fun _ => false
def botF (l : List Fm) : FT → Bool := match l.getLast? with
  | some (_, _, y, z, _) => fun F => y F || z F
  | none => fun _ => false
def fin (sg : Nat → Int32) (p : Nat) (l : List Fm) : Nat × Bool × (FT → Bool) := (p, decide (1 < l.length) || decide (sg p ≠ -1), vlF l)
/-- a rule from a place on: where it ends, whether there is a fault there, what it says -/
def rle (sg : Nat → Int32) : Nat → Nat → List Fm → Nat × Bool × (FT → Bool)
  | 0, p, l => fin sg p l
  | k + 1, p, l =>
    if (opn sg 6 p l).2.1 then ((opn sg 6 p l).1, true, fun _ => false)
    else if (tst sg (opn sg 6 p l).1).2.1 then ((tst sg (opn sg 6 p l).1).1, true, fun _ => false)
    else
      let c := clo sg 5 (tst sg (opn sg 6 p l).1).1 (enP (tst sg (opn sg 6 p l).1).2.2 (opn sg 6 p l).2.2)
      let d := joi sg c.1 c.2
      if d.2.1 then rle sg k d.1 d.2.2 else fin sg c.1 c.2
def sgn (t : Nat → Int32) (n p : Nat) : Int32 := if p < n then t p else -1
def okR (t : Nat → Int32) (n : Nat) : Prop := 3 ≤ n ∧ 65 ≤ t 0 ∧ t 0 ≤ 72 ∧ 48 ≤ t 1 ∧ t 1 ≤ 52 ∧ t 2 = 58 ∧ (rle (sgn t n) 61 3 [fmZ]).2.1 = false
def valR (t : Nat → Int32) (n : Nat) : FT → Bool := (rle (sgn t n) 61 3 [fmZ]).2.2
/-! shifts -/
def shN (c i : Nat) : Nat := c / 4 ^ (3 - i) % 4
def s4 (f : Nat → Nat) : Nat := f 0 + f 1 + f 2 + f 3
def ndOk (nd : Nat → Nat) (c : Nat) : Bool := (List.range 3).all (fun s => decide (s4 (fun i => if shN c i = s then 1 else 0) = nd s))
def cods (nd : Nat → Nat) : List Nat := (List.range 256).filter (ndOk nd)
def rstOk (c' c : Nat) : Bool := (List.range 4).all (fun i => decide (¬ (shN c' i = 2 ∧ shN c i < 2)))
def cnS (pre : List Nat) (i : Nat) : Nat := (pre.map (fun c => if shN c i < 3 then 1 else 0)).sum
def cnN (pre : List Nat) (i : Nat) : Nat := (pre.map (fun c => if shN c i = 2 then 1 else 0)).sum
def stO (r most : Nat) (pre : List Nat) (c : Nat) : Bool :=
  (!(r % 2 == 1) || (match pre with | c' :: _ => rstOk c' c | [] => true)) && (!(r / 2 % 2 == 1) || (List.range 4).all (fun i => decide (cnS (c :: pre) i ≤ most)))
def faO (r : Nat) (pre : List Nat) : Bool := !(r / 4 % 2 == 1) || (List.range 4).all (fun i => (List.range 4).all (fun j => decide (cnN pre i < cnN pre j + 2)))
def upA {α : Type} (acc : Option (Nat × α)) (x : Nat × α) : Option (Nat × α) := match acc with
  | none => some x
  | some b => if x.1 < b.1 then some x else some b
def rS (r most : Nat) (w : Nat → Nat → Nat) (cs : List Nat) : Nat → List Nat → Nat → Option (Nat × List Nat) → Option (Nat × List Nat)
  | 0, pre, cost, acc => if faO r pre then upA acc (cost, pre) else acc
  | m + 1, pre, cost, acc => cs.foldl (fun acc c => if stO r most pre c then rS r most w cs m (c :: pre) (cost + w pre.length c) acc else acc) acc
/-- the first k here in a shop, of n people -/
def tmL (x5 x6 : Nat → Int32) (s : Int32) : Nat → List Nat
  | 0 => []
  | n + 1 => if (tmL x5 x6 s n).length < 4 ∧ ¬ x6 n = 0 ∧ x5 n = s then tmL x5 x6 s n ++ [n] else tmL x5 x6 s n
def wsh (x13 : Nat → Int32) (tm : List Nat) (d c : Nat) : Nat := s4 (fun i => if shN c i < 3 ∧ bt (x13 (tm.getD i 0)) (3 * d + shN c i) = true then 1 else 0)
def rosS (x82 x5 x6 x13 : Nat → Int32) (n s r m : Nat) : Option (Nat × List Nat) :=
  if (tmL x5 x6 (nI s) n).length = 4 then rS r m (wsh x13 (tmL x5 x6 (nI s) n)) (cods (fun i => nn (x82 i))) 4 [] 0 none else none
def roR (acc : Option (Nat × List Nat)) (none' fw : Int32) (g : Nat → Int32) : Prop := match acc with
  | none => fw = none'
  | some (c, pre) => fw = nI c ∧ ∀ d, d < 4 → g d = nI (pre.getD (3 - d) 0)
def gRoC (fd fs ru mo fw pn : Int32) (x83 x84 x94 x82 x5 x6 x13 : Nat → Int32) : Prop := bz fd ∧ (fd = 1 → ∃ s r m, s < 6 ∧ r < 8 ∧ m ≤ 4 ∧ fs = nI s ∧ ru = nI r ∧ mo = nI m ∧ roR (rosS x82 x5 x6 x13 (nn pn) s r m) (-9) fw (fun d => x84 (nn (x94 d))) ∧
  ((tmL x5 x6 (nI s) (nn pn)).length = 4 → (¬ fw = -9 → ∀ d, d < 4 → vp_in (x94 d) 24) ∧ ∀ i, i < 4 → x83 i = nI ((tmL x5 x6 (nI s) (nn pn)).getD i 0)))
def gRoM (ks kr kb pn : Int32) (y352 x124 x82 x5 x6 x13 : Nat → Int32) : Prop := ks = -1 ∨ ∃ s r m, s < 6 ∧ r < 8 ∧ m ≤ 4 ∧ ks = nI s ∧ kr = nI r ∧ x124 4 = nI m ∧ roR (rosS x82 x5 x6 x13 (nn pn) s r m) (-1) kb y352
/-! plans -/
def mayP (R : Nat) (len wt : Nat → Nat) (i : Nat) (pl full : Nat → Nat) (p : Nat) : Bool := decide (full p + len i ≤ R) && (List.range i).all (fun k => decide (wt i / 2 ^ k % 2 = 1 → pl k < p))
def updN (f : Nat → Nat) (k v : Nat) : Nat → Nat := fun j => if j = k then v else f j
def pS (R : Nat) (len due wt : Nat → Nat) : Nat → Nat → (Nat → Nat) → (Nat → Nat) → Nat → Option (Nat × (Nat → Nat)) → Option (Nat × (Nat → Nat))
  | 0, _, pl, _, late, acc => upA acc (late, pl)
  | m + 1, i, pl, full, late, acc => (List.range 7).foldl (fun acc p => if mayP R len wt i pl full p then pS R len due wt m (i + 1) (updN pl i p) (updN full p (full p + len i)) (late + (p - due i)) acc else acc) acc
def plS (R n : Nat) (x112 x113 x114 : Nat → Int32) : Option (Nat × (Nat → Nat)) := pS R (fun i => nn (x112 i)) (fun i => nn (x113 i)) (fun i => nn (x114 i)) n 0 (fun _ => 0) (fun _ => 0) 0 none
def plR (acc : Option (Nat × (Nat → Nat))) (none' : Int32) (n : Nat) (bl : Int32) (g : Nat → Int32) : Prop := match acc with
  | none => bl = none'
  | some (l, p) => bl = nI l ∧ ∀ k, k < n → g k = nI (p k)
def gPlC (n bl ro : Int32) (x112 x113 x114 x117 : Nat → Int32) : Prop := ro = -9 ∨ ∃ R, 3 ≤ R ∧ R ≤ 9 ∧ ro = nI R ∧ plR (plS R (nn n) x112 x113 x114) (-9) (nn n) bl x117
