/-! matters: what their tellings say -/
def exB (p : Nat → Bool) : Nat → Bool
  | 0 => false
  | n + 1 => exB p n || p n
theorem exB_hit {p : Nat → Bool} {q n : Nat} (h : q < n) (hp : p q = true) : exB p n = true := by
  induction n with
  | zero => omega
  | succ n ih =>
    show (exB p n || p n) = true
    by_cases c : q = n
    · rw [← c, hp, Bool.or_true]
    · rw [ih (by omega), Bool.true_or]
theorem exB_cong {p p' : Nat → Bool} : ∀ {n : Nat}, (∀ q, q < n → p q = p' q) → exB p n = exB p' n
  | 0, _ => rfl
  | n + 1, h => by
    show (exB p n || p n) = (exB p' n || p' n)
    rw [exB_cong (n := n) (fun q hq => h q (by omega)), h n (by omega)]
def bi (b : Bool) : Int32 := if b = true then 1 else 0
theorem bi_bz (b : Bool) : bz (bi b) := bz_if _
theorem bi_0 {b : Bool} : bi b = 0 ↔ b = false := by cases b <;> simp [bi]
/-- going down -/
theorem Lp.dn {α : Type} {B : (α → Prop) → α → Prop} (I : Nat → α → Prop) (h : ∀ (q : Nat) (a : α) (r : α → Prop), I q a → (∀ q', q = q' + 1 → ∀ a', I q' a' → r a') → B r a) {q : Nat} {a : α} (ha : I q a) : Lp B a :=
  Lp.up (fun j a => j ≤ q ∧ I (q - j) a) q (fun j a r hj hi hr => h (q - j) a r hi.2 (fun q' e a' h' => hr (by omega) a' ⟨by omega, by rw [show q - (j + 1) = q' by omega]; exact h'⟩)) (j := 0) (by omega) ⟨by omega, by simpa using ha⟩
theorem x_m1 (x : Int32) : x + -1 = x - 1 := by rw [Int32.sub_eq_add_neg]
theorem m30 (i : Nat) : (30 : Int32) * nI i = nI (30 * i) := pk_mul 30 i
/-- the ruling by the first q tellings; the class looks backward -/
def rul (W D O : Nat → Int32) (j k : Int32) : Nat → Int32
  | 0 => -1
  | q + 1 => if W q = 4 ∧ D q ≤ j then O q else if W q = 5 ∧ D q ≤ k then -1 else rul W D O j k q
def lru (W D O : Nat → Int32) (j k : Int32) : Nat → Int32
  | 0 => -9
  | q + 1 => if W q = 5 ∧ D q ≤ k then -9 else if W q = 4 ∧ D q ≤ j then O q else lru W D O j k q
def ans (W D O S V : Nat → Int32) (j k : Int32) : Nat → Int32
  | 0 => -1
  | q + 1 => if W q = 3 ∧ D q ≤ j ∧ ¬ V (nn (S q)) ≤ k then O q else ans W D O S V j k q
def lan (W D O : Nat → Int32) (v : Int32 → Bool) (j : Int32) : Nat → Int32
  | 0 => -9
  | q + 1 => if W q = 3 ∧ D q ≤ j ∧ v (O q / 2) = false then O q - O q / 2 * 2 else lan W D O v j q
def giv (W D O : Nat → Int32) (p j k : Int32) : Nat → Int32
  | 0 => -1
  | q + 1 => if O q = p ∧ W q = 1 ∧ D q ≤ k then -1 else if O q = p ∧ W q = 0 ∧ D q ≤ j ∧ giv W D O p j k q < 0 then D q else giv W D O p j k q
def pad (W D O : Nat → Int32) (p j k : Int32) : Nat → Int32 → Int32
  | 0, f => f
  | q + 1, f => if W q = 1 ∧ O q = p ∧ D q ≤ k then f else pad W D O p j k q (if W q = 0 ∧ O q = p ∧ D q ≤ j then D q else f)
theorem t_X5_withdrawnBy {M : Mem} {K : Int32 → Mem → Prop} {t n : Nat} (ht : isMat t) (hn : n ≤ 30) (e : M t 11 = nI n) (j : Int32)
    (h : K (bi (exB (fun q => decide (M (t + 1) q = 2 ∧ M (t + 3) q ≤ j)) n)) M) : f_X5_withdrawnBy t j M K := by
  unfold f_X5_withdrawnBy
  refine ⟨ht, Lp.up (fun q a => exB (fun q => decide (M (t + 1) q = 2 ∧ M (t + 3) q ≤ j)) q = false ∧ a = (t, j, nI q, M)) n (fun q a r hq ha hr => ?_) (j := 0) (by omega) ⟨rfl, rfl⟩⟩
  obtain ⟨hx, rfl⟩ := ha
  unfold f_X5_withdrawnBy_c2 f_X5_withdrawnBy_b32
  dsimp only
  rw [e, nI_le_iff (by omega) (by omega), nI_cl q (by omega), nI_1]
  refine ⟨ht, fun c => ?_, fun c => ?_⟩
  · rw [show n = q by omega, hx] at h; exact h
  · have hv : vp_in (nI q) 30 := vin_nI (by omega) (by decide)
    by_cases c2 : M (t + 1) q = 2 ∧ M (t + 3) q ≤ j
    · rw [exB_hit (q := q) (by omega) (by simpa using c2)] at h
      have h' : K 1 M := h
      grind
    · have hr2 := hr (by omega) _ ⟨by show (exB _ q || _) = false; rw [hx]; simpa using c2, rfl⟩
      grind
theorem t_X12_isWithdrawn {M : Mem} {K : Int32 → Mem → Prop} {i n : Nat} (hi : i < 40) (hn : n ≤ 30) (e : M 317 i = nI n) (j : Int32)
    (h : K (bi (exB (fun q => decide (M 318 (30 * i + q) = 2 ∧ M 319 (30 * i + q) ≤ j)) n)) M) : f_X12_isWithdrawn (nI i) j M K := by
  unfold f_X12_isWithdrawn
  have hv : vp_in (nI i) 40 := vin_nI (by omega) (by decide)
  refine Lp.up (fun q a => a = (nI i, j, bi (exB (fun q => decide (M 318 (30 * i + q) = 2 ∧ M 319 (30 * i + q) ≤ j)) q), nI (30 * i + q), M)) n (fun q a r hq ha hr => ?_) (j := 0) (by omega) (by simp [exB, bi, m30])
  subst ha
  have hle : ((30 : Int32) * nI i + nI n ≤ nI (30 * i + q)) ↔ n ≤ q := by
    rw [show (30 : Int32) * nI i = nI (30 * i) from pk_mul 30 i, nI_add, nI_le_iff (by omega) (by omega)]; omega
  unfold f_X12_isWithdrawn_c8 f_X12_isWithdrawn_b50 f_X12_isWithdrawn_b54 f_X12_isWithdrawn_b55
  dsimp only
  rw [nI_cl i (by omega), e, hle, nI_cl (30 * i + q) (by omega), nI_1]
  refine ⟨hv, fun c => ?_, fun c => ?_⟩
  · rw [show q = n by omega]; exact ⟨bi_bz _, h⟩
  · have hq2 : vp_in (nI (30 * i + q)) 1200 := vin_nI (by omega) (by decide)
    have hr2 := hr (by omega) _ rfl
    rw [show 30 * i + (q + 1) = 30 * i + q + 1 by omega, show exB (fun q => decide (M 318 (30 * i + q) = 2 ∧ M 319 (30 * i + q) ≤ j)) (q + 1) = (exB (fun q => decide (M 318 (30 * i + q) = 2 ∧ M 319 (30 * i + q) ≤ j)) q || decide (M 318 (30 * i + q) = 2 ∧ M 319 (30 * i + q) ≤ j)) from rfl] at hr2
    cases hb : exB (fun q => decide (M 318 (30 * i + q) = 2 ∧ M 319 (30 * i + q) ≤ j)) q <;> rw [hb] at hr2 <;> simp only [bi] at hr2 ⊢ <;> grind
theorem t_X12_ruling {M : Mem} {K : Int32 → Mem → Prop} {i n : Nat} (hi : i < 40) (hn : n ≤ 30) (e : M 317 i = nI n) (j k : Int32)
    (h : K (rul (fun q => M 318 (30 * i + q)) (fun q => M 319 (30 * i + q)) (fun q => M 320 (30 * i + q)) j k n) M) : f_X12_ruling (nI i) j k M K := by
  unfold f_X12_ruling
  have hv : vp_in (nI i) 40 := vin_nI (by omega) (by decide)
  refine Lp.up (fun q a => a = (nI i, j, k, rul (fun q => M 318 (30 * i + q)) (fun q => M 319 (30 * i + q)) (fun q => M 320 (30 * i + q)) j k q, nI (30 * i + q), M)) n (fun q a r hq ha hr => ?_) (j := 0) (by omega) (by simp [rul, m30])
  subst ha
  have hle : ((30 : Int32) * nI i + nI n ≤ nI (30 * i + q)) ↔ n ≤ q := by
    rw [show (30 : Int32) * nI i = nI (30 * i) from pk_mul 30 i, nI_add, nI_le_iff (by omega) (by omega)]; omega
  unfold f_X12_ruling_c9 f_X12_ruling_b57 f_X12_ruling_b83 f_X12_ruling_b85
  dsimp only
  rw [nI_cl i (by omega), e, hle, nI_cl (30 * i + q) (by omega), nI_1]
  refine ⟨hv, fun c => ?_, fun c => ?_⟩
  · rw [show q = n by omega]; exact h
  · have hq2 : vp_in (nI (30 * i + q)) 1200 := vin_nI (by omega) (by decide)
    have hr2 := hr (by omega) _ rfl
    rw [show 30 * i + (q + 1) = 30 * i + q + 1 by omega, rul] at hr2
    grind
theorem t_X12_answer {M : Mem} {K : Int32 → Mem → Prop} {i n : Nat} (hi : i < 40) (hn : n ≤ 30) (e : M 317 i = nI n) (j k : Int32)
    (hs : ∀ q, q < n → M 318 (30 * i + q) = 3 → vp_in (M 321 (30 * i + q)) 30)
    (h : K (ans (fun q => M 318 (30 * i + q)) (fun q => M 319 (30 * i + q)) (fun q => M 320 (30 * i + q)) (fun q => M 321 (30 * i + q)) (M 329) j k n) M) : f_X12_answer (nI i) j k M K := by
  unfold f_X12_answer
  have hv : vp_in (nI i) 40 := vin_nI (by omega) (by decide)
  refine Lp.up (fun q a => a = (nI i, j, k, ans (fun q => M 318 (30 * i + q)) (fun q => M 319 (30 * i + q)) (fun q => M 320 (30 * i + q)) (fun q => M 321 (30 * i + q)) (M 329) j k q, nI (30 * i + q), M)) n (fun q a r hq ha hr => ?_) (j := 0) (by omega) (by simp [ans, m30])
  subst ha
  have hle : ((30 : Int32) * nI i + nI n ≤ nI (30 * i + q)) ↔ n ≤ q := by
    rw [show (30 : Int32) * nI i = nI (30 * i) from pk_mul 30 i, nI_add, nI_le_iff (by omega) (by omega)]; omega
  unfold f_X12_answer_c9 f_X12_answer_b73 f_X12_answer_b75
  dsimp only
  rw [nI_cl i (by omega), e, hle, nI_cl (30 * i + q) (by omega), nI_1]
  refine ⟨hv, fun c => ?_, fun c => ?_⟩
  · rw [show q = n by omega]; exact h
  · have hq2 : vp_in (nI (30 * i + q)) 1200 := vin_nI (by omega) (by decide)
    have hr2 := hr (by omega) _ rfl
    have hs2 := hs q (by omega)
    rw [show 30 * i + (q + 1) = 30 * i + q + 1 by omega, ans] at hr2
    unfold nn at hr2
    grind
theorem t_X12_givenOn {M : Mem} {K : Int32 → Mem → Prop} {i n : Nat} (hi : i < 40) (hn : n ≤ 30) (e : M 317 i = nI n) (p j k : Int32)
    (h : K (giv (fun q => M 318 (30 * i + q)) (fun q => M 319 (30 * i + q)) (fun q => M 320 (30 * i + q)) p j k n) M) : f_X12_givenOn (nI i) p j k M K := by
  unfold f_X12_givenOn
  have hv : vp_in (nI i) 40 := vin_nI (by omega) (by decide)
  refine Lp.up (fun q a => a = (nI i, p, j, k, giv (fun q => M 318 (30 * i + q)) (fun q => M 319 (30 * i + q)) (fun q => M 320 (30 * i + q)) p j k q, nI (30 * i + q), M)) n (fun q a r hq ha hr => ?_) (j := 0) (by omega) (by simp [giv, m30])
  subst ha
  have hle : ((30 : Int32) * nI i + nI n ≤ nI (30 * i + q)) ↔ n ≤ q := by
    rw [show (30 : Int32) * nI i = nI (30 * i) from pk_mul 30 i, nI_add, nI_le_iff (by omega) (by omega)]; omega
  unfold f_X12_givenOn_c9 f_X12_givenOn_b71 f_X12_givenOn_b108
  dsimp only
  rw [nI_cl i (by omega), e, hle, nI_cl (30 * i + q) (by omega), nI_1]
  refine ⟨hv, fun c => ?_, fun c => ?_⟩
  · rw [show q = n by omega]; exact h
  · have hq2 : vp_in (nI (30 * i + q)) 1200 := vin_nI (by omega) (by decide)
    have hr2 := hr (by omega) _ rfl
    rw [show 30 * i + (q + 1) = 30 * i + q + 1 by omega, giv] at hr2
    grind (splits := 40)
theorem t_X5_paperDay {M : Mem} {K : Int32 → Mem → Prop} {t n : Nat} (ht : isMat t) (hn : n ≤ 30) (e : M t 11 = nI n) (p j k : Int32)
    (h : K (pad (M (t + 1)) (M (t + 3)) (M (t + 2)) p j k n (-9)) M) : f_X5_paperDay t p j k M K := by
  unfold f_X5_paperDay
  refine ⟨ht, Lp.dn (fun q a => q ≤ 30 ∧ ∃ f, K (pad (M (t + 1)) (M (t + 3)) (M (t + 2)) p j k q f) M ∧ a = (t, p, j, k, f, nI q - 1, M)) (fun q a r ha hr => ?_) (q := n) ⟨hn, _, h, by rw [e]⟩⟩
  obtain ⟨hq, f, hx, rfl⟩ := ha
  unfold f_X5_paperDay_c12 f_X5_paperDay_b53 f_X5_paperDay_b94
  dsimp only
  match q, hq, hx, hr with
  | 0, _, hx, hr => exact ⟨ht, fun _ => hx, fun c => absurd (by decide) c⟩
  | q + 1, hq, hx, hr =>
    rw [nI_pred q, nI_cl q (by omega)]
    have hn0 : ¬ nI q < 0 := by rw [lt_nle]; exact fun c => c (nI_pos' (by omega))
    have hv : vp_in (nI q) 30 := vin_nI (by omega) (by decide)
    have hr2 := fun f h => hr q rfl (t, p, j, k, f, nI q - 1, M) ⟨by omega, f, h, rfl⟩
    rw [x_m1]
    unfold pad at hx
    grind (splits := 40)
theorem t_X5_lastRuling {M : Mem} {K : Int32 → Mem → Prop} {t n : Nat} (ht : isMat t) (hn : n ≤ 30) (e : M t 11 = nI n) (j k : Int32)
    (h : K (lru (M (t + 1)) (M (t + 3)) (M (t + 2)) j k n) M) : f_X5_lastRuling t j k M K := by
  unfold f_X5_lastRuling
  refine ⟨ht, Lp.dn (fun q a => q ≤ 30 ∧ K (lru (M (t + 1)) (M (t + 3)) (M (t + 2)) j k q) M ∧ a = (t, j, k, nI q - 1, M)) (fun q a r ha hr => ?_) (q := n) ⟨hn, h, by rw [e]⟩⟩
  obtain ⟨hq, hx, rfl⟩ := ha
  unfold f_X5_lastRuling_c7 f_X5_lastRuling_b34 f_X5_lastRuling_b61
  dsimp only
  match q, hq, hx, hr with
  | 0, _, hx, hr => exact ⟨ht, fun _ => hx, fun c => absurd (by decide) c⟩
  | q + 1, hq, hx, hr =>
    rw [nI_pred q, nI_cl q (by omega)]
    have hn0 : ¬ nI q < 0 := by rw [lt_nle]; exact fun c => c (nI_pos' (by omega))
    have hv : vp_in (nI q) 30 := vin_nI (by omega) (by decide)
    have hr2 := fun h => hr q rfl (t, j, k, nI q - 1, M) ⟨by omega, h, rfl⟩
    rw [x_m1]
    unfold lru at hx
    grind
def voi (c : Int32) (V : Nat → Int32) (k s : Int32) : Bool := decide (0 ≤ s ∧ ¬ c ≤ s ∧ V (nn s) ≤ k)
theorem v_X2_isVoidBy {M : Mem} (h1 : M 51 5 ≤ 30) (s k : Int32) (K : Int32 → Mem → Prop) (h : K (bi (voi (M 51 5) (M 59) k s)) M) : f_X2_isVoidBy s k M K := by
  unfold f_X2_isVoidBy f_X2_isVoidBy_b26 f_X2_isVoidBy_b27
  unfold voi bi nn at h
  have hb0 : bz 0 := bz0
  have hb1 : bz 1 := bz1
  have hv : 0 ≤ s → ¬ M 51 5 ≤ s → vp_in s 30 := fun a b => vin_of a (by rw [i_le] at b h1; have e : (30 : Int32).toInt = 30 := rfl; omega)
  grind
theorem t_X5_lastAnswer {M : Mem} {K : Int32 → Mem → Prop} {t n : Nat} (ht : isMat t) (hn : n ≤ 30) (e : M t 11 = nI n) (hc : M 51 5 ≤ 30) (j k : Int32)
    (h : K (lan (M (t + 1)) (M (t + 3)) (M (t + 2)) (voi (M 51 5) (M 59) k) j n) M) : f_X5_lastAnswer t j k M K := by
  unfold f_X5_lastAnswer
  refine ⟨ht, Lp.dn (fun q a => q ≤ 30 ∧ K (lan (M (t + 1)) (M (t + 3)) (M (t + 2)) (voi (M 51 5) (M 59) k) j q) M ∧ a = (t, j, k, nI q - 1, M)) (fun q a r ha hr => ?_) (q := n) ⟨hn, h, by rw [e]⟩⟩
  obtain ⟨hq, hx, rfl⟩ := ha
  unfold f_X5_lastAnswer_c7 f_X5_lastAnswer_b59
  dsimp only
  match q, hq, hx, hr with
  | 0, _, hx, hr => exact ⟨ht, fun _ => hx, fun c => absurd (by decide) c⟩
  | q + 1, hq, hx, hr =>
    rw [nI_pred q, nI_cl q (by omega)]
    have hn0 : ¬ nI q < 0 := by rw [lt_nle]; exact fun c => c (nI_pos' (by omega))
    have hv : vp_in (nI q) 30 := vin_nI (by omega) (by decide)
    have hr2 := fun h => hr q rfl (t, j, k, nI q - 1, M) ⟨by omega, h, rfl⟩
    rw [x_m1]
    unfold lan at hx
    refine ⟨ht, fun c => absurd c hn0, fun _ => ⟨hv, fun c => ?_, fun c => ⟨hv, fun c2 => ?_, fun c2 => ⟨hv, v_X2_isVoidBy hc _ _ _ ?_⟩⟩⟩⟩
    · rw [if_neg (fun z => c z.1)] at hx; exact ⟨ht, hr2 hx⟩
    · rw [if_neg (fun z => (lt_nle.mp c2) z.2.1)] at hx; exact ⟨ht, hr2 hx⟩
    · have c3 : M (t + 3) q ≤ j := by rw [lt_nle] at c2; exact Classical.not_not.mp c2
      cases hb : voi (M 51 5) (M 59) k (M (t + 2) q / 2)
      · rw [if_pos ⟨c, c3, hb⟩] at hx
        exact ⟨fun z => absurd rfl z, fun _ => ⟨hv, hx⟩⟩
      · rw [if_neg (fun z => by rw [hb] at z; exact absurd z.2.2 (by decide))] at hx
        exact ⟨fun _ => ⟨ht, hr2 hx⟩, fun z => absurd z (by decide)⟩
theorem and1 (y : Int32) : y &&& 1 = 0 ∨ y &&& 1 = 1 := by
  obtain ⟨j, hj, e⟩ := pk_andE y (m := 1) 1 (by decide)
  rcases Nat.lt_or_ge j 1 with q | q
  · exact Or.inl (by rw [e, show j = 0 by omega]; rfl)
  · exact Or.inr (by rw [e, show j = 1 by omega]; rfl)
theorem neg1 : (-1 : Int32).toInt = -1 := rfl
theorem zer0 : (0 : Int32).toInt = 0 := rfl
theorem giv_ge (W D O : Nat → Int32) (p j k : Int32) : ∀ n, (∀ q, q < n → 0 ≤ D q) → giv W D O p j k n = -1 ∨ 0 ≤ giv W D O p j k n
  | 0, _ => Or.inl rfl
  | n + 1, h => by
    have ih := giv_ge W D O p j k n (fun q hq => h q (by omega))
    have h1 := h n (by omega)
    unfold giv
    grind
theorem giv_le (W D O : Nat → Int32) (p j k B : Int32) (hB : 0 ≤ B) : ∀ n, (∀ q, q < n → D q ≤ B) → giv W D O p j k n ≤ B
  | 0, _ => by unfold giv; lia
  | n + 1, h => by
    have ih := giv_le W D O p j k B hB n (fun q hq => h q (by omega))
    have h1 := h n (by omega)
    unfold giv
    split
    · lia
    · split <;> assumption
theorem giv_cong {W W' D D' O O' : Nat → Int32} (p j k : Int32) : ∀ {n}, (∀ q, q < n → W q = W' q ∧ D q = D' q ∧ ((W q = 0 ∨ W q = 1) → O q = O' q)) → giv W D O p j k n = giv W' D' O' p j k n
  | 0, _ => rfl
  | n + 1, h => by
    have ih := giv_cong p j k (n := n) (fun q hq => h q (by omega))
    have h1 := h n (by omega)
    unfold giv
    grind
theorem pad_giv (W D O : Nat → Int32) (p j k : Int32) : ∀ n f, (∀ q, q < n → 0 ≤ D q) → pad W D O p j k n f = if giv W D O p j k n < 0 then f else giv W D O p j k n
  | 0, f, _ => rfl
  | n + 1, f, h => by
    have ih := fun f => pad_giv W D O p j k n f (fun q hq => h q (by omega))
    have h1 := h n (by omega)
    have h2 := giv_ge W D O p j k n (fun q hq => h q (by omega))
    have e : (0 : Int32) ≠ 1 := by decide
    unfold giv pad
    rw [ih]
    grind
theorem rul_r (W D O : Nat → Int32) (j k : Int32) : ∀ n, (∀ q, q < n → W q = 4 → bz (O q)) → rul W D O j k n = -1 ∨ bz (rul W D O j k n)
  | 0, _ => Or.inl rfl
  | n + 1, h => by
    have ih := rul_r W D O j k n (fun q hq => h q (by omega))
    have h1 := h n (by omega)
    unfold rul
    grind
theorem rul_cong {W W' D D' O O' : Nat → Int32} (j k : Int32) : ∀ {n}, (∀ q, q < n → W q = W' q ∧ D q = D' q ∧ (W q = 4 → O q = O' q)) → rul W D O j k n = rul W' D' O' j k n
  | 0, _ => rfl
  | n + 1, h => by
    have ih := rul_cong j k (n := n) (fun q hq => h q (by omega))
    have h1 := h n (by omega)
    unfold rul
    grind
theorem lru_rul (W D O : Nat → Int32) (j k : Int32) : ∀ n, (∀ q, q < n → W q = 4 → bz (O q)) → lru W D O j k n = if rul W D O j k n < 0 then -9 else rul W D O j k n
  | 0, _ => rfl
  | n + 1, h => by
    have ih := lru_rul W D O j k n (fun q hq => h q (by omega))
    have h1 := h n (by omega)
    have e : (4 : Int32) ≠ 5 := by decide
    unfold bz at h1
    unfold rul lru
    rw [ih]
    grind
theorem ans_r (W D O S V : Nat → Int32) (j k : Int32) : ∀ n, (∀ q, q < n → W q = 3 → bz (O q)) → ans W D O S V j k n = -1 ∨ bz (ans W D O S V j k n)
  | 0, _ => Or.inl rfl
  | n + 1, h => by
    have ih := ans_r W D O S V j k n (fun q hq => h q (by omega))
    have h1 := h n (by omega)
    unfold ans
    grind
theorem dv2 {s o : Int32} (h0 : 0 ≤ s) (h1 : s < 30) (ho : bz o) : (2 * s + o) / 2 = s ∧ (2 * s + o) - (2 * s + o) / 2 * 2 = o := by
  obtain ⟨u, hu, rfl⟩ := nat_of (n := 29) h0 (by rw [i_le]; rw [i_lt] at h1; have e : (30 : Int32).toInt = 30 := rfl; have e2 : (nI 29).toInt = 29 := rfl; omega) (by decide)
  have hm : (2 : Int32) * nI u = nI (2 * u) := pk_mul 2 u
  have key : ∀ v, v < 2 → (2 * nI u + nI v) / 2 = nI u ∧ (2 * nI u + nI v) - (2 * nI u + nI v) / 2 * 2 = nI v := by
    intro v hv
    rw [hm, nI_add]
    have d := pk_div (a := 2 * u + v) (d := 2) (by omega) (by omega) (by omega)
    have r := pk_rem (a := 2 * u + v) (d := 2) (by omega) (by omega) (by omega)
    rw [show (2 * u + v) / 2 = u by omega] at d
    rw [show (2 * u + v) % 2 = v by omega] at r
    exact ⟨d, r⟩
  rcases ho with rfl | rfl
  · exact key 0 (by omega)
  · exact key 1 (by omega)
theorem lan_ans {W D A W' D' O S V : Nat → Int32} {c : Int32} (hc : c ≤ 30) (j k : Int32) : ∀ n, (∀ q, q < n → W q = W' q ∧ D q = D' q ∧ (W q = 3 → A q = 2 * S q + O q ∧ bz (O q) ∧ 0 ≤ S q ∧ S q < c)) →
    lan W D A (voi c V k) j n = if ans W' D' O S V j k n < 0 then -9 else ans W' D' O S V j k n
  | 0, _ => rfl
  | n + 1, h => by
    have ih := lan_ans (W := W) (D := D) (A := A) (W' := W') (D' := D') (O := O) (S := S) (V := V) hc j k n (fun q hq => h q (by omega))
    obtain ⟨h1, h2, h3⟩ := h n (by omega)
    unfold lan ans
    rw [ih]
    by_cases c1 : W n = 3
    · obtain ⟨h4, h5, h6, h7⟩ := h3 c1
      have d := dv2 (s := S n) (o := O n) h6 (by lia) h5
      have hv : voi c V k (S n) = decide (V (nn (S n)) ≤ k) := by unfold voi; grind
      rw [h4, d.2, d.1, hv]
      unfold bz at h5
      grind
    · have c1' : ¬ W' n = 3 := by rw [← h1]; exact c1
      simp only [c1, c1', false_and, if_false]
/-- since when it is whole, as the model reckons; p papers looked at -/
def wh (W D O : Nat → Int32) (nd d0 j k : Int32) (n : Nat) : Nat → Int32
  | 0 => d0
  | p + 1 => if (nd >>> (nI p &&& 31)) &&& 1 = 1 then (if giv W D O (nI p) j k n < 0 ∨ wh W D O nd d0 j k n p < 0 then -1 else if wh W D O nd d0 j k n p < giv W D O (nI p) j k n then giv W D O (nI p) j k n else wh W D O nd d0 j k n p) else wh W D O nd d0 j k n p
theorem wh_s (W D O : Nat → Int32) (nd d0 j k : Int32) (n p : Nat) : wh W D O nd d0 j k n (p + 1) = if (nd >>> (nI p &&& 31)) &&& 1 = 1 then (if giv W D O (nI p) j k n < 0 ∨ wh W D O nd d0 j k n p < 0 then -1 else if wh W D O nd d0 j k n p < giv W D O (nI p) j k n then giv W D O (nI p) j k n else wh W D O nd d0 j k n p) else wh W D O nd d0 j k n p := rfl
theorem wh_neg (W D O : Nat → Int32) (nd d0 j k : Int32) (n p : Nat) (h : wh W D O nd d0 j k n p < 0) : ∀ m, wh W D O nd d0 j k n (p + m) < 0
  | 0 => h
  | m + 1 => by
    have ih := wh_neg W D O nd d0 j k n p h m
    show wh W D O nd d0 j k n (p + m + 1) < 0
    unfold wh
    grind
theorem wh_r (W D O : Nat → Int32) (nd d0 j k : Int32) (n : Nat) (h0 : 0 ≤ d0) : ∀ p, wh W D O nd d0 j k n p = -1 ∨ 0 ≤ wh W D O nd d0 j k n p
  | 0 => Or.inr h0
  | p + 1 => by
    have ih := wh_r W D O nd d0 j k n h0 p
    unfold wh
    grind
theorem wh_le (W D O : Nat → Int32) (nd d0 j k : Int32) (n : Nat) {B : Int32} (hB : 0 ≤ B) (h0 : d0 ≤ B) (hD : ∀ q, q < n → D q ≤ B) : ∀ p, wh W D O nd d0 j k n p ≤ B
  | 0 => h0
  | p + 1 => by
    have ih := wh_le W D O nd d0 j k n hB h0 hD p
    have hg := giv_le W D O (nI p) j k B hB n hD
    unfold wh
    split
    · split
      · lia
      · split <;> assumption
    · assumption
theorem wh_cong {W W' D D' O O' : Nat → Int32} (nd d0 j k : Int32) {n : Nat} (h : ∀ q, q < n → W q = W' q ∧ D q = D' q ∧ ((W q = 0 ∨ W q = 1) → O q = O' q)) : ∀ p, wh W D O nd d0 j k n p = wh W' D' O' nd d0 j k n p
  | 0 => rfl
  | p + 1 => by
    have ih := wh_cong nd d0 j k h p
    unfold wh
    rw [ih, giv_cong (nI p) j k h]
theorem t_X5_wholeSince {M : Mem} {K : Int32 → Mem → Prop} {t n : Nat} (ht : isMat t) (hn : n ≤ 30) (e : M t 11 = nI n) (hD : ∀ q, q < n → 0 ≤ M (t + 3) q) (h0 : 0 ≤ M t 6) (j k : Int32)
    (h : K (if wh (M (t + 1)) (M (t + 3)) (M (t + 2)) (M t 8) (M t 6) j k n 8 < 0 then -9 else wh (M (t + 1)) (M (t + 3)) (M (t + 2)) (M t 8) (M t 6) j k n 8) M) : f_X5_wholeSince t j k M K := by
  unfold f_X5_wholeSince
  refine ⟨ht, Lp.up (fun p a => 0 ≤ wh (M (t + 1)) (M (t + 3)) (M (t + 2)) (M t 8) (M t 6) j k n p ∧ a = (t, j, k, wh (M (t + 1)) (M (t + 3)) (M (t + 2)) (M t 8) (M t 6) j k n p, nI p, M)) 8 (fun p a r hp ha hr => ?_) (j := 0) (by omega) ⟨h0, rfl⟩⟩
  obtain ⟨hx, rfl⟩ := ha
  unfold f_X5_wholeSince_c8 f_X5_wholeSince_b57
  dsimp only
  have h8 : ((8 : Int32) ≤ nI p) ↔ 8 ≤ p := nI_le_iff (a := 8) (by omega) (by omega)
  rw [h8, nI_1]
  have hs := wh_s (M (t + 1)) (M (t + 3)) (M (t + 2)) (M t 8) (M t 6) j k n p
  refine ⟨ht, fun c => ?_, fun c => ⟨fun c2 => t_X5_paperDay ht hn e _ _ _ ?_, fun c2 => ⟨ht, hr (by omega) _ ⟨?_, ?_⟩⟩⟩⟩
  · rw [show p = 8 by omega] at hx ⊢
    rw [if_neg (by rw [lt_nle]; exact fun z => z hx)] at h
    exact h
  · rw [pad_giv _ _ _ _ _ _ _ _ hD]
    have c3 := (and1 ((M t 8) >>> (nI p &&& 31))).resolve_left c2
    rw [if_pos c3] at hs
    have hg := giv_ge (M (t + 1)) (M (t + 3)) (M (t + 2)) (nI p) j k n hD
    by_cases c4 : giv (M (t + 1)) (M (t + 3)) (M (t + 2)) (nI p) j k n < 0
    · rw [if_pos c4]
      rw [if_pos (Or.inl c4)] at hs
      have hneg := wh_neg (M (t + 1)) (M (t + 3)) (M (t + 2)) (M t 8) (M t 6) j k n (p + 1) (by rw [hs]; decide) (8 - (p + 1))
      rw [show p + 1 + (8 - (p + 1)) = 8 by omega] at hneg
      rw [if_pos hneg] at h
      exact ⟨fun z => absurd rfl z, fun _ => h⟩
    · rw [if_neg c4]
      have hx2 : ¬ wh (M (t + 1)) (M (t + 3)) (M (t + 2)) (M t 8) (M t 6) j k n p < 0 := by rw [lt_nle]; exact fun z => z hx
      rw [if_neg (fun z => z.elim c4 hx2)] at hs
      rw [← hs]
      refine ⟨fun _ => ⟨ht, hr (by omega) _ ⟨?_, rfl⟩⟩, fun z => ?_⟩
      · rw [hs]; grind
      · grind
  · rw [if_neg (by rw [c2]; decide)] at hs
    rw [hs]; exact hx
  · rw [if_neg (by rw [c2]; decide)] at hs
    rw [hs]
theorem t_X12_wholeSince {M : Mem} {K : Int32 → Mem → Prop} {i n : Nat} (hi : i < 40) (hn : n ≤ 30) (e : M 317 i = nI n) (j k : Int32)
    (h : K (wh (fun q => M 318 (30 * i + q)) (fun q => M 319 (30 * i + q)) (fun q => M 320 (30 * i + q)) (M 314 i) (M 313 i) j k n 8) M) : f_X12_wholeSince (nI i) j k M K := by
  unfold f_X12_wholeSince
  have hv : vp_in (nI i) 40 := vin_nI (by omega) (by decide)
  refine ⟨hv, Lp.up (fun p a => a = (nI i, j, k, wh (fun q => M 318 (30 * i + q)) (fun q => M 319 (30 * i + q)) (fun q => M 320 (30 * i + q)) (M 314 i) (M 313 i) j k n p, nI p, M)) 8 (fun p a r hp ha hr => ?_) (j := 0) (by omega) (by rw [nI_cl i (by omega)]; rfl)⟩
  subst ha
  unfold f_X12_wholeSince_c11 f_X12_wholeSince_b54 f_X12_wholeSince_b72 f_X12_wholeSince_b74
  dsimp only
  have h8 : ((8 : Int32) ≤ nI p) ↔ 8 ≤ p := nI_le_iff (a := 8) (by omega) (by omega)
  rw [h8, nI_1, nI_cl i (by omega)]
  refine ⟨fun c => ?_, fun c => ⟨hv, fun c2 => ?_, fun c2 => t_X12_givenOn hi hn e _ _ _ ?_⟩⟩
  · rw [show p = 8 by omega]; exact h
  · have hr2 := hr (by omega) _ rfl
    rw [wh, if_neg c2] at hr2
    exact hr2
  · have hr2 := hr (by omega) _ rfl
    rw [wh, if_pos c2] at hr2
    grind
theorem t_X3_wdB {M : Mem} {K : Int32 → Mem → Prop} {u v : Nat} (hu : u ≤ 1000) (hv : v ≤ 1000) (hw : ∀ j, j ≤ 1000 → M 3 j = nI (wd (M 2) j)) (h : K (nI (wd (M 2) v - wd (M 2) u)) M) : f_X3_workdaysBehind (nI u) (nI v) M K := by
  unfold f_X3_workdaysBehind f_X3_workdaysBehind_b16
  have hva : vp_in (nI u) 1001 := vin_nI (by omega) (by decide)
  have hvb : vp_in (nI v) 1001 := vin_nI (by omega) (by decide)
  have c1 : ¬ nI u < 0 := by rw [lt_nle]; exact fun c => c (nI_pos' (by omega))
  have c2 : ¬ (1000 : Int32) < nI v := fun c => absurd ((nI_lt_iff (a := 1000) (b := v) (by omega) (by omega)).mp c) (by omega)
  have c5 : (nI v ≤ nI u) ↔ v ≤ u := nI_le_iff (by omega) (by omega)
  rw [nI_cl u (by omega), nI_cl v (by omega), hw u hu, hw v hv]
  by_cases c6 : v ≤ u
  · have := wd_mono (M 2) c6
    rw [show wd (M 2) v - wd (M 2) u = 0 by omega] at h
    have h' : K 0 M := h
    grind
  · have := wd_mono (M 2) (show u ≤ v by omega)
    rw [pk_sub this]
    grind
/-- STATE -/
def stt (wr : Bool) (kd rl an w : Int32) (wk : Nat) (sp sl : Int32) : Int32 :=
  if wr = true then 1 else if kd = 0 then 0 else if 0 ≤ rl then 9 - rl else if 0 ≤ an then 5 - an else if w < 0 then 2 else if kd = 1 then 6 else if nI wk ≤ sp then 3 else if sl = 1 then 6 else 7
def whM (M : Mem) (i : Nat) (j k : Int32) : Int32 := wh (fun q => M 318 (30 * i + q)) (fun q => M 319 (30 * i + q)) (fun q => M 320 (30 * i + q)) (M 314 i) (M 313 i) j k (nn (M 317 i)) 8
def rulM (M : Mem) (i : Nat) (j k : Int32) : Int32 := rul (fun q => M 318 (30 * i + q)) (fun q => M 319 (30 * i + q)) (fun q => M 320 (30 * i + q)) j k (nn (M 317 i))
def ansM (M : Mem) (i : Nat) (j k : Int32) : Int32 := ans (fun q => M 318 (30 * i + q)) (fun q => M 319 (30 * i + q)) (fun q => M 320 (30 * i + q)) (fun q => M 321 (30 * i + q)) (M 329) j k (nn (M 317 i))
def wdrM (M : Mem) (i : Nat) (j : Int32) : Bool := exB (fun q => decide (M 318 (30 * i + q) = 2 ∧ M 319 (30 * i + q) ≤ j)) (nn (M 317 i))
def stM (M : Mem) (i : Nat) (j k : Int32) : Int32 := stt (wdrM M i j) (M 311 i) (rulM M i j k) (ansM M i j k) (whM M i j k) (wd (M 288) (nn j) - wd (M 288) (nn (whM M i j k))) (M 315 i) (M 316 i)
def mok (M : Mem) (i : Nat) : Prop := i < 40 ∧ mrow (M 1 0) (M 51 5) (M (127 + 4 * i)) (M (127 + 4 * i + 1)) (M (127 + 4 * i + 2)) (M (127 + 4 * i + 3)) i (M 308) (M 309) (M 310) (M 311) (M 312) (M 313) (M 314) (M 315) (M 316) (M 317) (M 318) (M 319) (M 320) (M 321)
def sok (M : Mem) : Prop := M 329 = M 59 ∧ 0 ≤ M 51 5 ∧ M 51 5 ≤ 30 ∧ gDay (M 2) (M 3) (M 288) (M 1 0) (M 287 0)
theorem mok_n {M : Mem} {i : Nat} (h : mok M i) : ∃ n, n ≤ 30 ∧ M 317 i = nI n ∧ M (127 + 4 * i) 11 = nI n ∧ nn (M 317 i) = n := by
  obtain ⟨hi, h1, h2, h3, h4, h5, h6, h7, h8, h9, h10, b1, b2, b3, b4, b5, b6, b7, b8, b9, b10, b11, b12, b13, b14, b15, b16, b17, h11⟩ := h
  obtain ⟨n, hn, en⟩ := nat_of (n := 30) b16 b17 (by decide)
  exact ⟨n, hn, en, by rw [h10, en], by rw [en, nn_nI n (by omega)]⟩
theorem mok_t {M : Mem} {i : Nat} (h : mok M i) : isMat (127 + 4 * i) := ⟨i, h.1, rfl⟩
theorem mok_kd {M : Mem} {i : Nat} (h : mok M i) : 0 ≤ M 311 i ∧ M 311 i ≤ 4 ∧ M (127 + 4 * i) 7 = M 311 i := by
  obtain ⟨hi, h1, h2, h3, h4, h5, h6, h7, h8, h9, h10, b1, b2, b3, b4, b5, b6, b7, b8, b9, b10, b11, b12, b13, b14, b15, b16, b17, h11⟩ := h
  exact ⟨b7, b8, h4⟩
theorem mok_v {M : Mem} {i : Nat} (h : mok M i) : vp_in (nI i) 40 := vin_nI h.1 (by decide)
/-- what a matter's rows say, as rows over the numbers of its tellings -/
theorem mok_q {M : Mem} {i : Nat} (h : mok M i) : ∀ q, q < nn (M 317 i) → M (127 + 4 * i + 1) q = M 318 (30 * i + q) ∧ M (127 + 4 * i + 3) q = M 319 (30 * i + q) ∧ 0 ≤ M 319 (30 * i + q) ∧ M 319 (30 * i + q) ≤ M 1 0 ∧
    ((M 318 (30 * i + q) = 0 ∨ M 318 (30 * i + q) = 1) → M (127 + 4 * i + 2) q = M 320 (30 * i + q)) ∧ (M 318 (30 * i + q) = 4 → M (127 + 4 * i + 2) q = M 320 (30 * i + q) ∧ bz (M 320 (30 * i + q))) ∧
    (M 318 (30 * i + q) = 3 → M (127 + 4 * i + 2) q = 2 * M 321 (30 * i + q) + M 320 (30 * i + q) ∧ bz (M 320 (30 * i + q)) ∧ 0 ≤ M 321 (30 * i + q) ∧ M 321 (30 * i + q) < M 51 5) := by
  obtain ⟨hi, h1, h2, h3, h4, h5, h6, h7, h8, h9, h10, b1, b2, b3, b4, b5, b6, b7, b8, b9, b10, b11, b12, b13, b14, b15, b16, b17, h11⟩ := h
  intro q hq
  obtain ⟨z1, z2, z3, z4, z5, z6, z7, z8, z9, z10, z11⟩ := h11 q hq
  refine ⟨z1, z2, ?_, ?_, fun c => (z7 (by rw [z1]; exact c)).1, fun c => ?_, fun c => z11 (by rw [z1]; exact c)⟩
  · rw [← z2]; lia
  · rw [← z2]; exact z6
  · have := z10 (by rw [z1]; exact c); exact ⟨this.1, by rw [← this.1]; exact this.2⟩
/-- what the model's half needs -/
def mmo (M : Mem) (i : Nat) : Prop := i < 40 ∧ (∃ n, n ≤ 30 ∧ M 317 i = nI n) ∧ 0 ≤ M 313 i ∧ M 313 i ≤ 1000 ∧ 0 ≤ M 311 i ∧ M 311 i ≤ 4 ∧ ∀ q, q < nn (M 317 i) → M 319 (30 * i + q) ≤ 1000 ∧ (M 318 (30 * i + q) = 3 → vp_in (M 321 (30 * i + q)) 30)
theorem mmo_cell {M M' : Mem} {i : Nat} (hc : ∀ c, 287 ≤ c → M' c = M c) (h : mmo M i) : mmo M' i := by
  unfold mmo
  rw [hc 317 (by decide), hc 313 (by decide), hc 311 (by decide), hc 319 (by decide), hc 318 (by decide), hc 321 (by decide)]
  exact h
theorem stM_cell {M M' : Mem} (hc : ∀ c, 287 ≤ c → M' c = M c) (i : Nat) (j k : Int32) : stM M' i j k = stM M i j k := by
  unfold stM wdrM rulM ansM whM
  rw [hc 311 (by decide), hc 313 (by decide), hc 314 (by decide), hc 315 (by decide), hc 316 (by decide), hc 317 (by decide), hc 318 (by decide), hc 319 (by decide), hc 320 (by decide), hc 321 (by decide), hc 329 (by decide), hc 288 (by decide)]
theorem mmo_of {M : Mem} {i : Nat} (hm : mok M i) (hs : sok M) : mmo M i := by
  obtain ⟨n, hn, en, en2, enn⟩ := mok_n hm
  have hq := mok_q hm
  obtain ⟨eV, c0, c1, hD⟩ := hs
  obtain ⟨eN, n0, n1, e288, hbz, hwd⟩ := hD
  obtain ⟨hi, h1, h2, h3, h4, h5, h6, h7, h8, h9, h10, b1, b2, b3, b4, b5, b6, b7, b8, b9, b10, b11, b12, b13, b14, b15, b16, b17, -⟩ := hm
  refine ⟨hi, ⟨n, hn, en⟩, b9, Int32.le_trans b10 n1, b7, b8, fun q hqn => ⟨Int32.le_trans (hq q hqn).2.2.2.1 n1, fun c => ?_⟩⟩
  obtain ⟨-, -, y0, y1⟩ := (hq q hqn).2.2.2.2.2.2 c
  exact vin_of y0 (by rw [i_lt] at y1; rw [i_le] at c1; have e : (30 : Int32).toInt = 30 := rfl; omega)
theorem t_X12_stateOf {M : Mem} {K : Int32 → Mem → Prop} {i : Nat} (hm : mmo M i) {u : Nat} (hu : u ≤ 1000) (k : Int32) (h : K (stM M i (nI u) k) M) : f_X12_stateOf (nI i) (nI u) k M K := by
  obtain ⟨hi, ⟨n, hn, en⟩, b9, b10, b7, b8, hq⟩ := hm
  have enn : nn (M 317 i) = n := by rw [en, nn_nI n (by omega)]
  have hv : vp_in (nI i) 40 := vin_nI hi (by decide)
  rw [enn] at hq
  unfold stM stt wdrM rulM ansM whM at h
  rw [enn] at h
  have hw1 := wh_r (fun q => M 318 (30 * i + q)) (fun q => M 319 (30 * i + q)) (fun q => M 320 (30 * i + q)) (M 314 i) (M 313 i) (nI u) k n b9 8
  have hw2 := wh_le (fun q => M 318 (30 * i + q)) (fun q => M 319 (30 * i + q)) (fun q => M 320 (30 * i + q)) (M 314 i) (M 313 i) (nI u) k n (B := 1000) (by decide) b10 (fun q hqn => (hq q hqn).1) 8
  unfold f_X12_stateOf f_X12_stateOf_b129
  refine t_X12_isWithdrawn hi hn en _ ?_
  cases hb : exB (fun q => decide (M 318 (30 * i + q) = 2 ∧ M 319 (30 * i + q) ≤ nI u)) n
  · rw [hb, if_neg (by decide)] at h
    refine ⟨fun _ => ⟨hv, fun c => ?_, fun c => ?_⟩, fun c => absurd rfl c⟩
    · rw [nI_cl i (by omega)] at c
      rw [if_neg c] at h
      refine t_X12_ruling hi hn en _ _ ⟨fun c2 => ?_, fun c2 => ?_⟩
      · rw [if_neg (lt_nle.mp c2)] at h
        refine t_X12_answer hi hn en _ _ (fun q hqn => (hq q hqn).2) ⟨fun c3 => ?_, fun c3 => ?_⟩
        · rw [if_neg (lt_nle.mp c3)] at h
          refine t_X12_wholeSince hi hn en _ _ ⟨fun c4 => ?_, fun c4 => ?_⟩
          · rw [if_neg (by rw [lt_nle]; exact fun z => z c4)] at h
            refine ⟨hv, ?_⟩
            rw [nI_cl i (by omega)]
            refine ⟨fun c5 => ?_, fun c5 => ?_⟩
            · rw [if_neg c5] at h
              obtain ⟨w, hw, ew⟩ := nat_of (n := 1000) c4 hw2 (by decide)
              rw [ew] at h ⊢
              refine s_X12_wdIn w u hw hu ?_
              rw [nn_nI u (by omega), nn_nI w (by omega)] at h
              refine ⟨hv, ?_, ?_⟩
              · intro c6
                rw [if_neg (lt_nle.mp c6)] at h
                refine ⟨hv, fun c7 => ?_, fun c7 => ?_⟩
                · rw [if_neg c7] at h
                  exact h
                · rw [if_pos c7] at h
                  exact h
              · intro c6
                rw [lt_nle, Classical.not_not] at c6
                rw [if_pos c6] at h
                exact h
            · rw [if_pos c5] at h; exact h
          · rw [if_pos (by rw [lt_nle]; exact c4)] at h; exact h
        · rw [lt_nle, Classical.not_not] at c3
          rw [if_pos c3] at h
          exact t_X12_answer hi hn en _ _ (fun q hqn => (hq q hqn).2) h
      · rw [lt_nle, Classical.not_not] at c2
        rw [if_pos c2] at h
        exact t_X12_ruling hi hn en _ _ h
    · rw [nI_cl i (by omega)] at c
      rw [if_pos c] at h; exact h
  · rw [hb, if_pos rfl] at h
    exact ⟨fun c => absurd c (by decide), fun _ => h⟩
theorem t_X5_stateOn {M : Mem} {K : Int32 → Mem → Prop} {i : Nat} (hm : mok M i) (hs : sok M) {u : Nat} (hu : u ≤ 1000) (k : Int32) (h : K (stM M i (nI u) k) M) : f_X5_stateOn (127 + 4 * i) (nI u) k M K := by
  obtain ⟨n, hn, en, en2, enn⟩ := mok_n hm
  have ht := mok_t hm
  have hq := mok_q hm
  obtain ⟨eV, c0, c1, hD⟩ := hs
  obtain ⟨eN, n0, n1, e288, hbz, hwd⟩ := hD
  obtain ⟨-, h1, h2, h3, h4, h5, h6, h7, h8, h9, h10, b1, b2, b3, b4, b5, b6, b7, b8, b9, b10, b11, b12, b13, b14, b15, b16, b17, -⟩ := hm
  rw [enn] at hq
  unfold stM stt wdrM rulM ansM whM at h
  rw [enn] at h
  have hw1 := wh_r (fun q => M 318 (30 * i + q)) (fun q => M 319 (30 * i + q)) (fun q => M 320 (30 * i + q)) (M 314 i) (M 313 i) (nI u) k n b9 8
  have hw2 := wh_le (fun q => M 318 (30 * i + q)) (fun q => M 319 (30 * i + q)) (fun q => M 320 (30 * i + q)) (M 314 i) (M 313 i) (nI u) k n (B := M 1 0) n0 b10 (fun q hqn => (hq q hqn).2.2.2.1) 8
  have gw : wh (M (127 + 4 * i + 1)) (M (127 + 4 * i + 3)) (M (127 + 4 * i + 2)) (M (127 + 4 * i) 8) (M (127 + 4 * i) 6) (nI u) k n 8 = wh (fun q => M 318 (30 * i + q)) (fun q => M 319 (30 * i + q)) (fun q => M 320 (30 * i + q)) (M 314 i) (M 313 i) (nI u) k n 8 := by
    rw [h6, h7]
    exact wh_cong _ _ _ _ (fun q hqn => ⟨(hq q hqn).1, (hq q hqn).2.1, fun c => (hq q hqn).2.2.2.2.1 (by rw [← (hq q hqn).1]; exact c)⟩) 8
  have gr : lru (M (127 + 4 * i + 1)) (M (127 + 4 * i + 3)) (M (127 + 4 * i + 2)) (nI u) k n = if rul (fun q => M 318 (30 * i + q)) (fun q => M 319 (30 * i + q)) (fun q => M 320 (30 * i + q)) (nI u) k n < 0 then -9 else rul (fun q => M 318 (30 * i + q)) (fun q => M 319 (30 * i + q)) (fun q => M 320 (30 * i + q)) (nI u) k n := by
    rw [lru_rul _ _ _ _ _ _ (fun q hqn c => by have z := (hq q hqn).2.2.2.2.2.1 (by rw [← (hq q hqn).1]; exact c); rw [z.1]; exact z.2)]
    rw [rul_cong _ _ (fun q hqn => ⟨(hq q hqn).1, (hq q hqn).2.1, fun c => ((hq q hqn).2.2.2.2.2.1 (by rw [← (hq q hqn).1]; exact c)).1⟩)]
  have ga := lan_ans (W := M (127 + 4 * i + 1)) (D := M (127 + 4 * i + 3)) (A := M (127 + 4 * i + 2)) (W' := fun q => M 318 (30 * i + q)) (D' := fun q => M 319 (30 * i + q)) (O := fun q => M 320 (30 * i + q)) (S := fun q => M 321 (30 * i + q)) (V := M 59) (c := M 51 5) c1 (nI u) k n (fun q hqn => ⟨(hq q hqn).1, (hq q hqn).2.1, fun c => (hq q hqn).2.2.2.2.2.2 (by rw [← (hq q hqn).1]; exact c)⟩)
  have rr := rul_r (fun q => M 318 (30 * i + q)) (fun q => M 319 (30 * i + q)) (fun q => M 320 (30 * i + q)) (nI u) k n (fun q hqn c => ((hq q hqn).2.2.2.2.2.1 c).2)
  have ar := ans_r (fun q => M 318 (30 * i + q)) (fun q => M 319 (30 * i + q)) (fun q => M 320 (30 * i + q)) (fun q => M 321 (30 * i + q)) (M 59) (nI u) k n (fun q hqn c => ((hq q hqn).2.2.2.2.2.2 c).2.1)
  have gx : exB (fun q => decide (M (127 + 4 * i + 1) q = 2 ∧ M (127 + 4 * i + 3) q ≤ nI u)) n = exB (fun q => decide (M 318 (30 * i + q) = 2 ∧ M 319 (30 * i + q) ≤ nI u)) n := exB_cong (fun q hqn => by rw [(hq q hqn).1, (hq q hqn).2.1])
  rw [eV] at h
  have hDc : ∀ q, q < n → 0 ≤ M (127 + 4 * i + 3) q := fun q hqn => by rw [(hq q hqn).2.1]; exact (hq q hqn).2.2.1
  generalize wh (fun q => M 318 (30 * i + q)) (fun q => M 319 (30 * i + q)) (fun q => M 320 (30 * i + q)) (M 314 i) (M 313 i) (nI u) k n 8 = w at *
  generalize rul (fun q => M 318 (30 * i + q)) (fun q => M 319 (30 * i + q)) (fun q => M 320 (30 * i + q)) (nI u) k n = rl at *
  generalize ans (fun q => M 318 (30 * i + q)) (fun q => M 319 (30 * i + q)) (fun q => M 320 (30 * i + q)) (fun q => M 321 (30 * i + q)) (M 59) (nI u) k n = an at *
  unfold f_X5_stateOn f_X5_stateOn_b44 f_X5_stateOn_b71 f_X5_stateOn_b133
  refine ⟨ht, t_X5_withdrawnBy ht hn en2 _ ?_⟩
  rw [gx]
  cases hb : exB (fun q => decide (M 318 (30 * i + q) = 2 ∧ M 319 (30 * i + q) ≤ nI u)) n
  · rw [hb, if_neg (by decide)] at h
    refine ⟨fun _ => ⟨fun c => ?_, fun c => ?_⟩, fun c => absurd rfl c⟩
    · rw [h4] at c
      rw [if_neg c] at h
      refine t_X5_lastRuling ht hn en2 _ _ ?_
      rw [gr]
      by_cases c2 : rl < 0
      · rw [if_pos c2]
        rw [if_neg (lt_nle.mp c2)] at h
        refine ⟨fun _ => t_X5_lastAnswer ht hn en2 c1 _ _ ?_, fun z => absurd rfl z⟩
        rw [ga]
        by_cases c3 : an < 0
        · rw [if_pos c3]
          rw [if_neg (lt_nle.mp c3)] at h
          refine ⟨fun _ => t_X5_wholeSince ht hn en2 hDc (by rw [h6]; exact b9) _ _ ?_, fun z => absurd rfl z⟩
          rw [gw]
          by_cases c4 : w < 0
          · rw [if_pos c4] at h ⊢
            exact ⟨fun z => absurd rfl z, fun _ => h⟩
          · rw [if_neg c4] at h ⊢
            have c4' : 0 ≤ w := by rw [lt_nle, Classical.not_not] at c4; exact c4
            refine ⟨fun _ => ?_, fun z => by rw [z] at c4'; exact absurd c4' (by decide)⟩
            rw [h4]
            refine ⟨fun c5 => ?_, fun c5 => ?_⟩
            · rw [if_neg c5] at h
              obtain ⟨v, hv, ev⟩ := nat_of (n := 1000) c4' (Int32.le_trans hw2 n1) (by decide)
              rw [ev] at h ⊢
              refine t_X3_wdB hv hu hwd ?_
              rw [nn_nI u (by omega), nn_nI v (by omega), e288] at h
              rw [h8, h9]
              refine ⟨fun c6 => ?_, fun c6 => ?_⟩
              · rw [if_neg (lt_nle.mp c6)] at h
                refine ⟨fun c7 => ?_, fun c7 => ?_⟩
                · rw [if_neg (by rw [c7]; decide)] at h; exact h
                · rw [if_pos (b15.resolve_left c7)] at h; exact h
              · rw [lt_nle, Classical.not_not] at c6
                rw [if_pos c6] at h
                exact h
            · rw [if_pos c5] at h; exact h
        · rw [if_neg c3]
          have c3' : 0 ≤ an := by rw [lt_nle, Classical.not_not] at c3; exact c3
          rw [if_pos c3'] at h
          rcases ar with q | q | q <;> subst q
          · exact absurd c3' (by decide)
          · exact ⟨fun z => absurd z (by decide), fun _ => ⟨fun _ => h, fun z => absurd z (by decide)⟩⟩
          · exact ⟨fun z => absurd z (by decide), fun _ => ⟨fun z => absurd rfl z, fun _ => h⟩⟩
      · rw [if_neg c2]
        have c2' : 0 ≤ rl := by rw [lt_nle, Classical.not_not] at c2; exact c2
        rw [if_pos c2'] at h
        rcases rr with q | q | q <;> subst q
        · exact absurd c2' (by decide)
        · exact ⟨fun z => absurd z (by decide), fun _ => ⟨fun _ => h, fun z => absurd z (by decide)⟩⟩
        · exact ⟨fun z => absurd z (by decide), fun _ => ⟨fun z => absurd rfl z, fun _ => h⟩⟩
    · rw [h4] at c
      rw [if_pos c] at h; exact h
  · rw [hb, if_pos rfl] at h
    exact ⟨fun c => absurd c (by decide), fun _ => h⟩
/-- what lets -/
def letb (kd s : Int32) : Bool := decide (kd = 0 ∧ s = 0 ∨ kd = 1 ∧ s = 6 ∨ kd = 2 ∧ (s = 4 ∨ s = 5 ∨ s = 6) ∨ kd = 3 ∧ (s = 4 ∨ s = 6 ∨ s = 8) ∨ kd = 4 ∧ (s = 2 ∨ s = 3 ∨ s = 4 ∨ s = 6 ∨ s = 8))
theorem t_X5_lets {M : Mem} {K : Int32 → Mem → Prop} {t : Nat} (ht : isMat t) (h0 : 0 ≤ M t 7) (h1 : M t 7 ≤ 4) (s : Int32) (h : K (bi (letb (M t 7) s)) M) : f_X5_lets t s M K := by
  unfold f_X5_lets f_X5_lets_b45 f_X5_lets_b57 f_X5_lets_b79 f_X5_lets_b74 f_X5_lets_b79 f_X5_lets_b102 f_X5_lets_b97 f_X5_lets_b102 f_X5_lets_b135 f_X5_lets_b130 f_X5_lets_b135
  unfold letb bi at h
  have z0 := bz0
  have z1 := bz1
  have e4 : (4 : Int32).toInt = 4 := rfl
  refine ⟨ht, ?_⟩
  rcases i5 ⟨h0, h1⟩ with q | q | q | q | q <;> rw [q] at h ⊢ <;> simp at h ⊢ <;> grind
theorem t_X12_lets {M : Mem} {K : Int32 → Mem → Prop} {i : Nat} (hm : mmo M i) {u : Nat} (hu : u ≤ 1000) (h : K (bi (letb (M 311 i) (stM M i (nI u) (M 287 0)))) M) : f_X12_lets (nI i) (nI u) M K := by
  unfold f_X12_lets f_X12_lets_b57 f_X12_lets_b69 f_X12_lets_b100 f_X12_lets_b95 f_X12_lets_b100 f_X12_lets_b133 f_X12_lets_b128 f_X12_lets_b133
  have b5 := hm.2.2.2.2.1
  have b6 := hm.2.2.2.2.2.1
  have hi := hm.1
  refine t_X12_stateOf hm hu _ ⟨vin_nI hi (by decide), ?_⟩
  rw [nI_cl i (by omega)]
  generalize stM M i (nI u) (M 287 0) = s at *
  simp only [v_X12_in]
  unfold letb bi at h
  have z0 := bz0
  have z1 := bz1
  have h46 : inB s 4 6 = if s = 4 ∨ s = 5 ∨ s = 6 then 1 else 0 := by unfold inB; grind
  have e4 : (4 : Int32).toInt = 4 := rfl
  rcases i5 ⟨b5, b6⟩ with q | q | q | q | q <;> rw [q] at h ⊢ <;> simp at h ⊢ <;> grind
theorem t_X5_letsOn {M : Mem} {K : Int32 → Mem → Prop} {i : Nat} (hm : mok M i) (hs : sok M) {u : Nat} (hu : u ≤ 1000) (h : K (bi (letb (M 311 i) (stM M i (nI u) (M 1 0)))) M) : f_X5_letsOn (127 + 4 * i) (nI u) M K := by
  unfold f_X5_letsOn
  obtain ⟨b5, b6, e7⟩ := mok_kd hm
  refine ⟨mok_t hm, t_X5_stateOn hm hs hu _ (t_X5_lets (mok_t hm) (by rw [e7]; exact b5) (by rw [e7]; exact b6) _ ?_)⟩
  rw [e7]
  exact ⟨bi_bz _, h⟩
