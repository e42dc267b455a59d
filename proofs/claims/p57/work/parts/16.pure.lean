theorem i_lt {a b : Int32} : a < b ↔ a.toInt < b.toInt := Int32.lt_iff_toInt_lt
theorem i_le {a b : Int32} : a ≤ b ↔ a.toInt ≤ b.toInt := Int32.le_iff_toInt_le
theorem i_eq {a b : Int32} : a = b ↔ a.toInt = b.toInt := Int32.toInt_inj.symm
theorem clampD (x : Int32) : x.toNatClampNeg = x.toInt.toNat := rfl
theorem nI_cl (n : Nat) (h : n < 2147483648) : (nI n).toNatClampNeg = n := nI_clamp h
theorem nI_ti (n : Nat) (h : n < 2147483648) : (nI n).toInt = (n : Int) := nI_toInt h
/-- an int between bounds is a number -/
theorem nat_of {x : Int32} {n : Nat} (h0 : 0 ≤ x) (h1 : x ≤ nI n) (hn : n < 2147483648) : ∃ j : Nat, j ≤ n ∧ x = nI j := by
  have e1 : (0 : Int32).toInt = 0 := rfl
  rw [i_le] at h0 h1
  rw [nI_ti n hn] at h1
  rw [e1] at h0
  refine ⟨x.toInt.toNat, by omega, ?_⟩
  rw [i_eq, nI_ti _ (by omega)]
  omega
theorem vin_of {x : Int32} {n : Nat} (h0 : 0 ≤ x) (h1 : x.toInt < n) : vp_in x n := by
  have e1 : (0 : Int32).toInt = 0 := rfl
  rw [i_le, e1] at h0
  unfold vp_in
  rw [i_lt, e1, clampD]
  omega
theorem vin_nI {j n : Nat} (h : j < n) (hn : n < 2147483648) : vp_in (nI j) n := vp_in_nI h (by omega)
theorem bz0 : bz 0 := Or.inl rfl
theorem bz1 : bz 1 := Or.inr rfl
theorem bz_if (c : Prop) [Decidable c] : bz (if c then 1 else 0) := by split <;> first | exact bz1 | exact bz0
theorem one_ne : ¬ (1 : Int32) = 0 := by decide
/-- the memory behind a write -/
theorem mset_at (M : Mem) (c k : Nat) (v : Int32) (c' k' : Nat) : mset M c k v c' k' = if c' = c ∧ k' = k then v else M c' k' := by
  unfold mset upd
  by_cases h : c' = c
  · subst h
    by_cases h2 : k' = k <;> simp [h2]
  · simp [h]
theorem upd_at (f : Nat → Int32) (k : Nat) (v : Int32) (j : Nat) : upd f k v j = if j = k then v else f j := rfl
theorem upd_s (f : Nat → Int32) (k : Nat) (v : Int32) : upd f k v k = v := if_pos rfl
theorem upd_n (f : Nat → Int32) {k j : Nat} (v : Int32) (h : j ≠ k) : upd f k v j = f j := if_neg h
theorem lt_nle {a b : Int32} : a < b ↔ ¬ b ≤ a := by rw [i_lt, i_le]; omega
def inB (a l g : Int32) : Int32 := if l ≤ a ∧ a ≤ g then 1 else 0
def outs (a l g : Int32) : Int32 := if l ≤ a then (if a ≤ g then 0 else -6) else -4
def wors (a b : Int32) : Int32 := if a = -4 ∨ b = -4 then -4 else if b < a then b else a
theorem inB_0 {a l g : Int32} : inB a l g = 0 ↔ ¬ (l ≤ a ∧ a ≤ g) := by unfold inB; split <;> simp_all
theorem outs_0 {a l g : Int32} : outs a l g = 0 ↔ l ≤ a ∧ a ≤ g := by
  unfold outs
  by_cases h1 : l ≤ a <;> by_cases h2 : a ≤ g <;> simp [h1, h2]
theorem v_X11_isShop (a : Int32) (M : Mem) (K : Int32 → Mem → Prop) : f_X11_isShop a M K ↔ K (inB a 0 5) M := by
  unfold f_X11_isShop f_X11_isShop_b14 f_X11_isShop_b15 inB
  by_cases h1 : a < 0
  · have : ¬ (0 ≤ a ∧ a ≤ 5) := by rw [i_le]; rw [i_lt] at h1; omega
    simp [h1, this, bz0]
  · by_cases h2 : (6 : Int32) ≤ a
    · have : ¬ (0 ≤ a ∧ a ≤ 5) := by lia
      simp [h1, h2, this, bz0]
    · have : (0 ≤ a ∧ a ≤ 5) := by lia
      simp [h1, h2, this, bz1]
theorem v_X11_isWhat (a : Int32) (M : Mem) (K : Int32 → Mem → Prop) : f_X11_isWhat a M K ↔ K (inB a 0 7) M := by
  unfold f_X11_isWhat f_X11_isWhat_b14 f_X11_isWhat_b15 inB
  by_cases h1 : a < 0
  · have : ¬ (0 ≤ a ∧ a ≤ 7) := by lia
    simp [h1, this, bz0]
  · by_cases h2 : (8 : Int32) ≤ a
    · have : ¬ (0 ≤ a ∧ a ≤ 7) := by lia
      simp [h1, h2, this, bz0]
    · have : (0 ≤ a ∧ a ≤ 7) := by lia
      simp [h1, h2, this, bz1]
theorem v_X11_outside (a l g : Int32) (M : Mem) (K : Int32 → Mem → Prop) : f_X11_outside a l g M K ↔ K (outs a l g) M := by
  unfold f_X11_outside f_X11_outside_b21 outs
  by_cases h1 : l ≤ a <;> by_cases h2 : a ≤ g <;> simp [h1, h2]
theorem v_X11_worse (a b : Int32) (M : Mem) (K : Int32 → Mem → Prop) : f_X11_worse a b M K ↔ K (wors a b) M := by
  unfold f_X11_worse f_X11_worse_b12 f_X11_worse_b22 wors
  by_cases h1 : a = -4 <;> by_cases h2 : b = -4 <;> simp [h1, h2]
/-- a refusal's place -/
def rfx (c : Int32) : Nat := (-c).toNatClampNeg
theorem v_X11_refuse {c : Int32} (h : c = -1 ∨ c = -2 ∨ c = -3 ∨ c = -4 ∨ c = -5 ∨ c = -6) (M : Mem) (K : Int32 → Mem → Prop) : f_X11_refuse c M K ↔ K c (mset M 126 (rfx c) (M 126 (rfx c) + 1)) := by
  unfold f_X11_refuse f_X11_refuse_b21
  have hv : vp_in (-c) 7 := by rcases h with rfl | rfl | rfl | rfl | rfl | rfl <;> exact vin_lit (by decide)
  have h1 : ¬ 0 ≤ c := by rcases h with rfl | rfl | rfl | rfl | rfl | rfl <;> decide
  have h2 : ¬ c < -6 := by rcases h with rfl | rfl | rfl | rfl | rfl | rfl <;> decide
  simp [hv, h1, h2, rfx]
theorem wors_0 {a b : Int32} (ha : a = 0 ∨ a = -4 ∨ a = -6) (hb : b = 0 ∨ b = -4 ∨ b = -6) : wors a b = 0 ↔ a = 0 ∧ b = 0 := by
  rcases ha with rfl | rfl | rfl <;> rcases hb with rfl | rfl | rfl <;> decide
theorem outs_r (a l g : Int32) : outs a l g = 0 ∨ outs a l g = -4 ∨ outs a l g = -6 := by
  unfold outs
  by_cases h1 : l ≤ a <;> by_cases h2 : a ≤ g <;> simp [h1, h2]
theorem outs_4 {a l g : Int32} : outs a l g = -4 ↔ ¬ l ≤ a := by
  unfold outs
  by_cases h1 : l ≤ a <;> by_cases h2 : a ≤ g <;> simp [h1, h2]
def ful (s l : Int32) : Int32 := if l ≤ s then -6 else 0
theorem ful_r (s l : Int32) : ful s l = 0 ∨ ful s l = -4 ∨ ful s l = -6 := by
  unfold ful
  by_cases h1 : l ≤ s <;> simp [h1]
theorem ful_0 {s l : Int32} : ful s l = 0 ↔ ¬ l ≤ s := by
  unfold ful
  by_cases h1 : l ≤ s <;> simp [h1]
theorem v_X11_fullAt (s l : Int32) (M : Mem) (K : Int32 → Mem → Prop) : f_X11_fullAt s l M K ↔ K (ful s l) M := by
  unfold f_X11_fullAt f_X11_fullAt_b11 ful
  by_cases h1 : l ≤ s <;> simp only [lt_nle, h1] <;> simp
def wtop (shops sum : Int32) : Int32 := wors (outs shops 1 63) (outs sum 0 9999)
theorem v_X11_wrongTopic (a b : Int32) (M : Mem) (K : Int32 → Mem → Prop) : f_X11_wrongTopic a b M K ↔ K (wtop a b) M := by
  unfold f_X11_wrongTopic wtop
  rw [v_X11_outside, v_X11_outside, v_X11_worse]
theorem wtop_0 {a b : Int32} : wtop a b = 0 ↔ (1 ≤ a ∧ a ≤ 63) ∧ (0 ≤ b ∧ b ≤ 9999) := by
  unfold wtop
  rw [wors_0 (outs_r _ _ _) (outs_r _ _ _), outs_0, outs_0]
def nn (x : Int32) : Nat := x.toNatClampNeg
theorem Lp.up {α : Type} {B : (α → Prop) → α → Prop} (I : Nat → α → Prop) (e : Nat) (h : ∀ (j : Nat) (a : α) (r : α → Prop), j ≤ e → I j a → (j < e → ∀ a', I (j + 1) a' → r a') → B r a) {j : Nat} {a : α} (hj : j ≤ e) (ha : I j a) : Lp B a := by
  have key : ∀ k j a, e - j = k → j ≤ e → I j a → lfp B (k + 1) a := by
    intro k
    induction k with
    | zero => intro j a h1 h2 h3; exact h j a _ h2 h3 (fun q => absurd q (by omega))
    | succ k ih => intro j a h1 h2 h3; exact h j a _ h2 h3 (fun q a' h4 => ih (j + 1) a' (by omega) (by omega) h4)
  exact ⟨_, key _ j a rfl hj ha⟩
theorem vinB {a : Int32} {g : Int32} {n : Nat} (h : 0 ≤ a ∧ a ≤ g) (hg : g.toInt < n) : vp_in a n := vin_of h.1 (by have := i_le.mp h.2; omega)
theorem i_sub1 {n : Int32} (h : 0 ≤ n) : (n - 1).toInt = n.toInt - 1 := by
  have e0 : (0 : Int32).toInt = 0 := rfl
  have e1 : (1 : Int32).toInt = 1 := rfl
  have h0 := i_le.mp h
  have hb : n.toInt < 2147483648 := Int32.toInt_lt n
  rw [Int32.toInt_sub, e1]
  exact Int.bmod_eq_of_le (by omega) (by omega)
theorem hasB {a n g : Int32} (h0 : 0 ≤ n) (h1 : n ≤ g) : (0 ≤ a ∧ a ≤ n - 1) ↔ (0 ≤ a ∧ ¬ n ≤ a ∧ ¬ g ≤ a) := by
  have e := i_sub1 h0
  rw [i_le] at h0 h1
  constructor
  · intro ⟨x, y⟩
    rw [i_le] at x y
    exact ⟨i_le.mpr x, by rw [i_le]; omega, by rw [i_le]; omega⟩
  · intro ⟨x, y, z⟩
    rw [i_le] at x y z
    exact ⟨i_le.mpr x, by rw [i_le]; omega⟩
theorem vinH {a n : Int32} {w : Nat} (h0 : 0 ≤ n) (h : 0 ≤ a ∧ a ≤ n - 1) (hn : n.toInt ≤ w) : vp_in a w := by
  have e := i_sub1 h0
  have := i_le.mp h.2
  exact vin_of h.1 (by omega)
theorem v_X2_hasSeat {M : Mem} (h0 : 0 ≤ M 51 1) (h1 : M 51 1 ≤ 9) (a : Int32) (K : Int32 → Mem → Prop) : f_X2_hasSeat a M K ↔ K (inB a 0 (M 51 1 - 1)) M := by
  unfold f_X2_hasSeat f_X2_hasSeat_b22 f_X2_hasSeat_b23 inB
  simp only [hasB h0 h1, lt_nle]
  by_cases c1 : 0 ≤ a <;> by_cases c2 : M 51 1 ≤ a <;> by_cases c3 : 9 ≤ a <;> simp [-Int32.not_le, -Int32.not_lt, c1, c2, c3, bz0, bz1]
theorem v_X11_isMatter {M : Mem} (h0 : 0 ≤ M 0 5) (h1 : M 0 5 ≤ 40) (a : Int32) (K : Int32 → Mem → Prop) : f_X11_isMatter a M K ↔ K (inB a 0 (M 0 5 - 1)) M := by
  unfold f_X11_isMatter f_X11_isMatter_b22 f_X11_isMatter_b23 inB
  simp only [hasB h0 h1, lt_nle]
  by_cases c1 : 0 ≤ a <;> by_cases c2 : M 0 5 ≤ a <;> by_cases c3 : 40 ≤ a <;> simp [-Int32.not_le, -Int32.not_lt, c1, c2, c3, bz0, bz1]
theorem i5 {a : Int32} (h : 0 ≤ a ∧ a ≤ 4) : a = 0 ∨ a = 1 ∨ a = 2 ∨ a = 3 ∨ a = 4 := by lia
theorem nI_le_iff {a b : Nat} (ha : a < 2147483648) (hb : b < 2147483648) : nI a ≤ nI b ↔ a ≤ b := nI_leI ha hb
theorem nI_lt_iff {a b : Nat} (ha : a < 2147483648) (hb : b < 2147483648) : nI a < nI b ↔ a < b := nI_ltI ha hb
theorem nI_eq_iff {a b : Nat} (ha : a < 2147483648) (hb : b < 2147483648) : nI a = nI b ↔ a = b := nI_eq ha hb
theorem nn_nI (n : Nat) (h : n < 2147483648) : nn (nI n) = n := nI_cl n h
def exB (p : Nat → Bool) : Nat → Bool
  | 0 => false
  | n + 1 => exB p n || p n
theorem exB_hit {p : Nat → Bool} {q n : Nat} (h : q < n) (hp : p q = true) : exB p n = true := by
  induction n with
  | zero => omega
  | succ n ih =>
    show (exB p n || p n) = true
    by_cases c : q = n
    · rw [← c, hp, Bool.or_true]
    · rw [ih (by omega), Bool.true_or]
theorem exB_cong {p p' : Nat → Bool} : ∀ {n : Nat}, (∀ q, q < n → p q = p' q) → exB p n = exB p' n
  | 0, _ => rfl
  | n + 1, h => by
    show (exB p n || p n) = (exB p' n || p' n)
    rw [exB_cong (n := n) (fun q hq => h q (by omega)), h n (by omega)]
def bi (b : Bool) : Int32 := if b = true then 1 else 0
theorem bi_bz (b : Bool) : bz (bi b) := bz_if _
theorem bi_0 {b : Bool} : bi b = 0 ↔ b = false := by cases b <;> simp [bi]
/-- going down -/
theorem Lp.dn {α : Type} {B : (α → Prop) → α → Prop} (I : Nat → α → Prop) (h : ∀ (q : Nat) (a : α) (r : α → Prop), I q a → (∀ q', q = q' + 1 → ∀ a', I q' a' → r a') → B r a) {q : Nat} {a : α} (ha : I q a) : Lp B a :=
  Lp.up (fun j a => j ≤ q ∧ I (q - j) a) q (fun j a r hj hi hr => h (q - j) a r hi.2 (fun q' e a' h' => hr (by omega) a' ⟨by omega, by rw [show q - (j + 1) = q' by omega]; exact h'⟩)) (j := 0) (by omega) ⟨by omega, by simpa using ha⟩
theorem x_m1 (x : Int32) : x + -1 = x - 1 := by rw [Int32.sub_eq_add_neg]
def lru (W D O : Nat → Int32) (j k : Int32) : Nat → Int32
  | 0 => -9
  | q + 1 => if W q = 5 ∧ D q ≤ k then -9 else if W q = 4 ∧ D q ≤ j then O q else lru W D O j k q
def lan (W D O : Nat → Int32) (v : Int32 → Bool) (j : Int32) : Nat → Int32
  | 0 => -9
  | q + 1 => if W q = 3 ∧ D q ≤ j ∧ v (O q / 2) = false then O q - O q / 2 * 2 else lan W D O v j q
def pad (W D O : Nat → Int32) (p j k : Int32) : Nat → Int32 → Int32
  | 0, f => f
  | q + 1, f => if W q = 1 ∧ O q = p ∧ D q ≤ k then f else pad W D O p j k q (if W q = 0 ∧ O q = p ∧ D q ≤ j then D q else f)
theorem t_X5_withdrawnBy {M : Mem} {K : Int32 → Mem → Prop} {t n : Nat} (ht : isMat t) (hn : n ≤ 30) (e : M t 11 = nI n) (j : Int32)
    (h : K (bi (exB (fun q => decide (M (t + 1) q = 2 ∧ M (t + 3) q ≤ j)) n)) M) : f_X5_withdrawnBy t j M K := by
  unfold f_X5_withdrawnBy
  refine ⟨ht, Lp.up (fun q a => exB (fun q => decide (M (t + 1) q = 2 ∧ M (t + 3) q ≤ j)) q = false ∧ a = (t, j, nI q, M)) n (fun q a r hq ha hr => ?_) (j := 0) (by omega) ⟨rfl, rfl⟩⟩
  obtain ⟨hx, rfl⟩ := ha
  unfold f_X5_withdrawnBy_c2 f_X5_withdrawnBy_b32
  dsimp only
  rw [e, nI_le_iff (by omega) (by omega), nI_cl q (by omega), nI_1]
  refine ⟨ht, fun c => ?_, fun c => ?_⟩
  · rw [show n = q by omega, hx] at h; exact h
  · have hv : vp_in (nI q) 30 := vin_nI (by omega) (by decide)
    by_cases c2 : M (t + 1) q = 2 ∧ M (t + 3) q ≤ j
    · rw [exB_hit (q := q) (by omega) (by simpa using c2)] at h
      have h' : K 1 M := h
      grind
    · have hr2 := hr (by omega) _ ⟨by show (exB _ q || _) = false; rw [hx]; simpa using c2, rfl⟩
      grind
theorem t_X5_paperDay {M : Mem} {K : Int32 → Mem → Prop} {t n : Nat} (ht : isMat t) (hn : n ≤ 30) (e : M t 11 = nI n) (p j k : Int32)
    (h : K (pad (M (t + 1)) (M (t + 3)) (M (t + 2)) p j k n (-9)) M) : f_X5_paperDay t p j k M K := by
  unfold f_X5_paperDay
  refine ⟨ht, Lp.dn (fun q a => q ≤ 30 ∧ ∃ f, K (pad (M (t + 1)) (M (t + 3)) (M (t + 2)) p j k q f) M ∧ a = (t, p, j, k, f, nI q - 1, M)) (fun q a r ha hr => ?_) (q := n) ⟨hn, _, h, by rw [e]⟩⟩
  obtain ⟨hq, f, hx, rfl⟩ := ha
  unfold f_X5_paperDay_c12 f_X5_paperDay_b53 f_X5_paperDay_b94
  dsimp only
  match q, hq, hx, hr with
  | 0, _, hx, hr => exact ⟨ht, fun _ => hx, fun c => absurd (by decide) c⟩
  | q + 1, hq, hx, hr =>
    rw [nI_pred q, nI_cl q (by omega)]
    have hn0 : ¬ nI q < 0 := by rw [lt_nle]; exact fun c => c (nI_pos' (by omega))
    have hv : vp_in (nI q) 30 := vin_nI (by omega) (by decide)
    have hr2 := fun f h => hr q rfl (t, p, j, k, f, nI q - 1, M) ⟨by omega, f, h, rfl⟩
    rw [x_m1]
    unfold pad at hx
    grind (splits := 40)
theorem t_X5_lastRuling {M : Mem} {K : Int32 → Mem → Prop} {t n : Nat} (ht : isMat t) (hn : n ≤ 30) (e : M t 11 = nI n) (j k : Int32)
    (h : K (lru (M (t + 1)) (M (t + 3)) (M (t + 2)) j k n) M) : f_X5_lastRuling t j k M K := by
  unfold f_X5_lastRuling
  refine ⟨ht, Lp.dn (fun q a => q ≤ 30 ∧ K (lru (M (t + 1)) (M (t + 3)) (M (t + 2)) j k q) M ∧ a = (t, j, k, nI q - 1, M)) (fun q a r ha hr => ?_) (q := n) ⟨hn, h, by rw [e]⟩⟩
  obtain ⟨hq, hx, rfl⟩ := ha
  unfold f_X5_lastRuling_c7 f_X5_lastRuling_b34 f_X5_lastRuling_b61
  dsimp only
  match q, hq, hx, hr with
  | 0, _, hx, hr => exact ⟨ht, fun _ => hx, fun c => absurd (by decide) c⟩
  | q + 1, hq, hx, hr =>
    rw [nI_pred q, nI_cl q (by omega)]
    have hn0 : ¬ nI q < 0 := by rw [lt_nle]; exact fun c => c (nI_pos' (by omega))
    have hv : vp_in (nI q) 30 := vin_nI (by omega) (by decide)
    have hr2 := fun h => hr q rfl (t, j, k, nI q - 1, M) ⟨by omega, h, rfl⟩
    rw [x_m1]
    unfold lru at hx
    grind
def voi (c : Int32) (V : Nat → Int32) (k s : Int32) : Bool := decide (0 ≤ s ∧ ¬ c ≤ s ∧ V (nn s) ≤ k)
theorem v_X2_isVoidBy {M : Mem} (h1 : M 51 5 ≤ 30) (s k : Int32) (K : Int32 → Mem → Prop) (h : K (bi (voi (M 51 5) (M 59) k s)) M) : f_X2_isVoidBy s k M K := by
  unfold f_X2_isVoidBy f_X2_isVoidBy_b26 f_X2_isVoidBy_b27
  unfold voi bi nn at h
  have hb0 : bz 0 := bz0
  have hb1 : bz 1 := bz1
  have hv : 0 ≤ s → ¬ M 51 5 ≤ s → vp_in s 30 := fun a b => vin_of a (by rw [i_le] at b h1; have e : (30 : Int32).toInt = 30 := rfl; omega)
  grind
theorem t_X5_lastAnswer {M : Mem} {K : Int32 → Mem → Prop} {t n : Nat} (ht : isMat t) (hn : n ≤ 30) (e : M t 11 = nI n) (hc : M 51 5 ≤ 30) (j k : Int32)
    (h : K (lan (M (t + 1)) (M (t + 3)) (M (t + 2)) (voi (M 51 5) (M 59) k) j n) M) : f_X5_lastAnswer t j k M K := by
  unfold f_X5_lastAnswer
  refine ⟨ht, Lp.dn (fun q a => q ≤ 30 ∧ K (lan (M (t + 1)) (M (t + 3)) (M (t + 2)) (voi (M 51 5) (M 59) k) j q) M ∧ a = (t, j, k, nI q - 1, M)) (fun q a r ha hr => ?_) (q := n) ⟨hn, h, by rw [e]⟩⟩
  obtain ⟨hq, hx, rfl⟩ := ha
  unfold f_X5_lastAnswer_c7 f_X5_lastAnswer_b59
  dsimp only
  match q, hq, hx, hr with
  | 0, _, hx, hr => exact ⟨ht, fun _ => hx, fun c => absurd (by decide) c⟩
  | q + 1, hq, hx, hr =>
    rw [nI_pred q, nI_cl q (by omega)]
    have hn0 : ¬ nI q < 0 := by rw [lt_nle]; exact fun c => c (nI_pos' (by omega))
    have hv : vp_in (nI q) 30 := vin_nI (by omega) (by decide)
    have hr2 := fun h => hr q rfl (t, j, k, nI q - 1, M) ⟨by omega, h, rfl⟩
    rw [x_m1]
    unfold lan at hx
    refine ⟨ht, fun c => absurd c hn0, fun _ => ⟨hv, fun c => ?_, fun c => ⟨hv, fun c2 => ?_, fun c2 => ⟨hv, v_X2_isVoidBy hc _ _ _ ?_⟩⟩⟩⟩
    · rw [if_neg (fun z => c z.1)] at hx; exact ⟨ht, hr2 hx⟩
    · rw [if_neg (fun z => (lt_nle.mp c2) z.2.1)] at hx; exact ⟨ht, hr2 hx⟩
    · have c3 : M (t + 3) q ≤ j := by rw [lt_nle] at c2; exact Classical.not_not.mp c2
      cases hb : voi (M 51 5) (M 59) k (M (t + 2) q / 2)
      · rw [if_pos ⟨c, c3, hb⟩] at hx
        exact ⟨fun z => absurd rfl z, fun _ => ⟨hv, hx⟩⟩
      · rw [if_neg (fun z => by rw [hb] at z; exact absurd z.2.2 (by decide))] at hx
        exact ⟨fun _ => ⟨ht, hr2 hx⟩, fun z => absurd z (by decide)⟩
abbrev FT : Type := Nat → Int32
def isDg (c : Int32) : Bool := decide (48 ≤ c ∧ c ≤ 57)
def fcN (c : Int32) : Option Nat := if c = 110 then some 0 else if c = 119 then some 1 else if c = 115 then some 2 else if c = 109 then some 3 else if c = 99 then some 4 else if c = 117 then some 5 else none
/-- digits: how many more may come, the place, the value -/
def dgN (sg : Nat → Int32) : Nat → Nat → Int32 → Nat × Int32
  | 0, p, v => (p, v)
  | k + 1, p, v => if isDg (sg p) then dgN sg k (p + 1) (10 * v + sg p - 48) else (p, v)
/-- a unit: where it ends, whether it is none, its value by the facts -/
def unt (sg : Nat → Int32) (p : Nat) : Nat × Bool × (FT → Int32) := match fcN (sg p) with
  | some f => (p + 1, false, fun F => F f)
  | none => if isDg (sg p) then ((dgN sg 4 p 0).1, false, fun _ => (dgN sg 4 p 0).2) else (p, true, fun _ => 0)
def isOp (c : Int32) : Bool := decide (c = 43 ∨ c = 45 ∨ c = 42)
def opv (c a b : Int32) : Int32 := if c = 43 then a + b else if c = 45 then a - b else a * b
def smL (sg : Nat → Int32) : Nat → Nat → (FT → Int32) → Nat × Bool × (FT → Int32)
  | 0, p, v => (p, false, v)
  | k + 1, p, v => if isOp (sg p) then (if (unt sg (p + 1)).2.1 then ((unt sg (p + 1)).1, true, v) else smL sg k (unt sg (p + 1)).1 (fun F => opv (sg p) (v F) ((unt sg (p + 1)).2.2 F))) else (p, false, v)
def smm (sg : Nat → Int32) (p : Nat) : Nat × Bool × (FT → Int32) := if (unt sg p).2.1 then unt sg p else smL sg 60 (unt sg p).1 (unt sg p).2.2
def cmpB (c a b : Int32) : Bool := if c = 60 then decide (a < b) else if c = 61 then decide (a = b) else decide (b < a)
def tst (sg : Nat → Int32) (p : Nat) : Nat × Bool × (FT → Bool) :=
  if (smm sg p).2.1 then ((smm sg p).1, true, fun _ => false)
  else if 60 ≤ sg (smm sg p).1 ∧ sg (smm sg p).1 ≤ 62 then ((smm sg ((smm sg p).1 + 1)).1, (smm sg ((smm sg p).1 + 1)).2.1, fun F => cmpB (sg (smm sg p).1) ((smm sg p).2.2 F) ((smm sg ((smm sg p).1 + 1)).2.2 F))
  else ((smm sg p).1, true, fun _ => false)
/-- a level: is there a term ahead, a part ahead, what the terms ahead say, what the parts ahead say, how many turn the next part -/
abbrev Fm : Type := Bool × Bool × (FT → Bool) × (FT → Bool) × Nat
def dpt (l : List Fm) : Nat := l.length - 1 + (l.map (fun x => x.2.2.2.2)).sum
def fmZ : Fm := (false, false, fun _ => false, fun _ => true, 0)
def adN : List Fm → List Fm
  | [] => []
  | (o, a, y, z, n) :: r => (o, a, y, z, n + 1) :: r
def opn (sg : Nat → Int32) : Nat → Nat → List Fm → Nat × Bool × List Fm
  | 0, p, l => (p, false, l)
  | k + 1, p, l => if sg p = 33 then (if 5 ≤ dpt l then (p, true, l) else opn sg k (p + 1) (adN l)) else if sg p = 40 then (if 5 ≤ dpt l then (p, true, l) else opn sg k (p + 1) (fmZ :: l)) else (p, false, l)
def enP (h : FT → Bool) : List Fm → List Fm
  | [] => []
  | (o, _, y, z, n) :: r => (o, false, y, (fun F => z F && (h F != (n % 2 == 1))), 0) :: r
def clo (sg : Nat → Int32) : Nat → Nat → List Fm → Nat × List Fm
  | 0, p, l => (p, l)
  | k + 1, p, l => if 1 < l.length ∧ sg p = 41 then (match l with
    | (_, _, y, z, _) :: r => clo sg k (p + 1) (enP (fun F => y F || z F) r)
    | [] => (p, l)) else (p, l)
def joi (sg : Nat → Int32) (p : Nat) (l : List Fm) : Nat × Bool × List Fm := match l with
  | (o, a, y, z, n) :: r => if sg p = 38 then (p + 1, true, (o, true, y, z, n) :: r) else if sg p = 124 then (p + 1, true, (true, false, (fun F => y F || z F), (fun _ => true), n) :: r) else (p, false, (o, a, y, z, n) :: r)
  | [] => (p, false, [])
def vlF : List Fm → FT → Bool
  | (_, _, y, z, _) :: _ => fun F => y F || z F
  | [] => fun _ => false
def fin (sg : Nat → Int32) (p : Nat) (l : List Fm) : Nat × Bool × (FT → Bool) := (p, decide (1 < l.length) || decide (sg p ≠ -1), vlF l)
/-- a rule from a place on: where it ends, whether there is a fault there, what it says -/
def rle (sg : Nat → Int32) : Nat → Nat → List Fm → Nat × Bool × (FT → Bool)
  | 0, p, l => fin sg p l
  | k + 1, p, l =>
    if (opn sg 6 p l).2.1 then ((opn sg 6 p l).1, true, fun _ => false)
    else if (tst sg (opn sg 6 p l).1).2.1 then ((tst sg (opn sg 6 p l).1).1, true, fun _ => false)
    else
      let c := clo sg 5 (tst sg (opn sg 6 p l).1).1 (enP (tst sg (opn sg 6 p l).1).2.2 (opn sg 6 p l).2.2)
      let d := joi sg c.1 c.2
      if d.2.1 then rle sg k d.1 d.2.2 else fin sg c.1 c.2
def sgn (t : Nat → Int32) (n p : Nat) : Int32 := if p < n then t p else -1
def okR (t : Nat → Int32) (n : Nat) : Prop := 3 ≤ n ∧ 65 ≤ t 0 ∧ t 0 ≤ 72 ∧ 48 ≤ t 1 ∧ t 1 ≤ 52 ∧ t 2 = 58 ∧ (rle (sgn t n) 61 3 [fmZ]).2.1 = false
def valR (t : Nat → Int32) (n : Nat) : FT → Bool := (rle (sgn t n) 61 3 [fmZ]).2.2
