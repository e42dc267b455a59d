/-! SHIFTS, the class: sums and keys as numbers; what has been seen -/
def w4 (f : Nat → Nat) : Nat := f 0 + 8 * f 1 + 64 * f 2 + 512 * f 3
def fN (r : Nat) (pre : List Nat) (i : Nat) : Nat := if r / 4 % 2 = 1 then cnN pre i else 0
def fS (r : Nat) (pre : List Nat) (i : Nat) : Nat := if r / 2 % 2 = 1 then cnS pre i else 0
def SU (r : Nat) (pre : List Nat) : Nat := w4 (fN r pre) + 4096 * w4 (fS r pre)
def hdN : List Nat → Nat
  | c :: _ => nt c
  | [] => 0
def LN (r : Nat) (pre : List Nat) : Nat := if r % 2 = 1 then hdN pre else 0
def ctN (r c i : Nat) : Nat := if r / 4 % 2 = 1 then (if shN c i = 2 then 1 else 0) else 0
def ctS (r c i : Nat) : Nat := if r / 2 % 2 = 1 then (if shN c i < 3 then 1 else 0) else 0
def ct (r c : Nat) : Nat := w4 (ctN r c) + 4096 * w4 (ctS r c)
theorem fN_c (r c : Nat) (pre : List Nat) (i : Nat) : fN r (c :: pre) i = ctN r c i + fN r pre i := by
  unfold fN ctN
  rw [cnN_c]
  split <;> omega
theorem fS_c (r c : Nat) (pre : List Nat) (i : Nat) : fS r (c :: pre) i = ctS r c i + fS r pre i := by
  unfold fS ctS
  rw [cnS_c]
  split <;> omega
theorem SU_c (r c : Nat) (pre : List Nat) : SU r (c :: pre) = SU r pre + ct r c := by
  unfold SU ct w4
  rw [fN_c, fN_c, fN_c, fN_c, fS_c, fS_c, fS_c, fS_c]
  omega
theorem fN_le (r : Nat) (pre : List Nat) (i : Nat) : fN r pre i ≤ pre.length := by
  unfold fN
  have := cnN_le pre i
  split <;> omega
theorem fS_le (r : Nat) (pre : List Nat) (i : Nat) : fS r pre i ≤ pre.length := by
  unfold fS
  have := cnS_le pre i
  split <;> omega
theorem SU_lt {r : Nat} {pre : List Nat} (h : pre.length ≤ 4) : SU r pre < 16777216 := by
  have := fN_le r pre 0; have := fN_le r pre 1; have := fN_le r pre 2; have := fN_le r pre 3
  have := fS_le r pre 0; have := fS_le r pre 1; have := fS_le r pre 2; have := fS_le r pre 3
  unfold SU w4
  omega
theorem w4_div {f g : Nat → Nat} (hf : ∀ i, f i ≤ 4) (hg : ∀ i, g i ≤ 4) : (w4 f + 4096 * w4 g) % 8 = f 0 ∧ (w4 f + 4096 * w4 g) / 8 % 8 = f 1 ∧ (w4 f + 4096 * w4 g) / 64 % 8 = f 2 ∧ (w4 f + 4096 * w4 g) / 512 % 8 = f 3 ∧
    (w4 f + 4096 * w4 g) / 4096 % 8 = g 0 ∧ (w4 f + 4096 * w4 g) / 32768 % 8 = g 1 ∧ (w4 f + 4096 * w4 g) / 262144 % 8 = g 2 ∧ (w4 f + 4096 * w4 g) / 2097152 % 8 = g 3 := by
  have := hf 0; have := hf 1; have := hf 2; have := hf 3
  have := hg 0; have := hg 1; have := hg 2; have := hg 3
  unfold w4
  generalize f 0 = a0 at *; generalize f 1 = a1 at *; generalize f 2 = a2 at *; generalize f 3 = a3 at *
  generalize g 0 = b0 at *; generalize g 1 = b1 at *; generalize g 2 = b2 at *; generalize g 3 = b3 at *
  refine ⟨?_, ?_, ?_, ?_, ?_, ?_, ?_, ?_⟩ <;> omega
theorem i4c {P : Nat → Prop} (h0 : P 0) (h1 : P 1) (h2 : P 2) (h3 : P 3) : ∀ i, i < 4 → P i := fun i hi => match i, hi with
  | 0, _ => h0
  | 1, _ => h1
  | 2, _ => h2
  | 3, _ => h3
theorem SU_N {r : Nat} {pre : List Nat} (h : pre.length ≤ 4) : ∀ i, i < 4 → SU r pre / 2 ^ (3 * i) % 8 = fN r pre i := by
  obtain ⟨z1, z2, z3, z4, z5, z6, z7, z8⟩ := w4_div (f := fN r pre) (g := fS r pre) (fun i => Nat.le_trans (fN_le r pre i) h) (fun i => Nat.le_trans (fS_le r pre i) h)
  refine i4c ?_ z2 z3 z4
  rw [Nat.mul_zero, Nat.pow_zero, Nat.div_one]
  exact z1
theorem SU_S {r : Nat} {pre : List Nat} (h : pre.length ≤ 4) : ∀ i, i < 4 → SU r pre / 2 ^ (12 + 3 * i) % 8 = fS r pre i := by
  obtain ⟨z1, z2, z3, z4, z5, z6, z7, z8⟩ := w4_div (f := fN r pre) (g := fS r pre) (fun i => Nat.le_trans (fN_le r pre i) h) (fun i => Nat.le_trans (fS_le r pre i) h)
  exact i4c z5 z6 z7 z8
/-- rest, as bits -/
def nb4 (b0 b1 b2 b3 : Bool) : Nat := (if b0 = true then 1 else 0) + (if b1 = true then 8 else 0) + (if b2 = true then 64 else 0) + (if b3 = true then 512 else 0)
theorem nb_and : ∀ b0 b1 b2 b3 e0 e1 e2 e3 : Bool, (decide (nI (nb4 b0 b1 b2 b3) &&& nI (nb4 e0 e1 e2 e3) = 0)) = (!(b0 && e0) && !(b1 && e1) && !(b2 && e2) && !(b3 && e3)) := by decide +kernel
theorem nt_nb (c : Nat) : nt c = nb4 (decide (shN c 0 = 2)) (decide (shN c 1 = 2)) (decide (shN c 2 = 2)) (decide (shN c 3 = 2)) := by
  unfold nt s4 ntF nb4
  simp only [decide_eq_true_eq]
theorem bd_nb (c : Nat) : bd c = nb4 (decide (shN c 0 < 2)) (decide (shN c 1 < 2)) (decide (shN c 2 < 2)) (decide (shN c 3 < 2)) := by
  unfold bd s4 bdF nb4
  simp only [decide_eq_true_eq]
theorem rst_v (c' c : Nat) : rstOk c' c = decide (nI (nt c') &&& nI (bd c) = 0) := by
  rw [nt_nb, bd_nb, nb_and]
  unfold rstOk
  rw [show List.range 4 = [0, 1, 2, 3] from rfl]
  simp only [List.all_cons, List.all_nil, Bool.and_true, Bool.decide_and, decide_not, Bool.and_assoc]
theorem rsB_v (pre : List Nat) (c : Nat) : rsB pre c = decide (nI (hdN pre) &&& nI (bd c) = 0) := by
  cases pre with
  | nil =>
    show true = decide (nI 0 &&& nI (bd c) = 0)
    rw [show nI 0 = 0 from rfl, Int32.zero_and]
    rfl
  | cons c' l => exact rst_v c' c
theorem nt_lt (c : Nat) : nt c < 4096 := by
  have := sK_lt8 (ntF c) (ntF_le c) 4
  rw [sK4] at this
  exact this
theorem LN_lt (r : Nat) (pre : List Nat) : LN r pre < 4096 := by
  unfold LN
  split
  · cases pre with
    | nil => decide
    | cons c l => exact nt_lt c
  · decide
theorem ct_v : ∀ r : Fin 8, ∀ c : Fin 256, (if r.val / 2 % 2 = 1 then (if r.val / 4 % 2 = 1 then nI (nt c.val) else 0) ||| ((nI (nt c.val) ||| nI (bd c.val)) <<< ((12 : Int32) &&& 31)) else (if r.val / 4 % 2 = 1 then nI (nt c.val) else 0)) = nI (ct r.val c.val) := by decide +kernel
theorem fl_4 : ∀ r : Fin 8, (nI r.val &&& 4 = 0) ↔ ¬ r.val / 4 % 2 = 1 := by decide
theorem fl_2 : ∀ r : Fin 8, (nI r.val &&& 2 = 0) ↔ ¬ r.val / 2 % 2 = 1 := by decide
theorem fl_1 : ∀ r : Fin 8, (nI r.val &&& 1 = 0) ↔ ¬ r.val % 2 = 1 := by decide
theorem t_cby {r c a : Nat} (hr : r < 8) (hc : c < 256) (ha : a < 24) {M : Mem} (e2 : M 81 2 = nI r) (e85 : M 85 a = nI (nt c)) (e86 : M 86 a = nI (bd c)) {K : Int32 → Mem → Prop} (h : K (nI (ct r c)) M) : f_X8_countedBy (nI a) M K := by
  have hv := ct_v ⟨r, hr⟩ ⟨c, hc⟩
  have h4 := fl_4 ⟨r, hr⟩
  have h2 := fl_2 ⟨r, hr⟩
  simp only at hv h4 h2
  unfold f_X8_countedBy f_X8_countedBy_b19 f_X8_countedBy_b51
  rw [e2, h4, h2, nI_cl a (by omega), e85, e86]
  by_cases c4 : r / 4 % 2 = 1 <;> by_cases c2 : r / 2 % 2 = 1
  · rw [if_pos c2, if_pos c4] at hv
    refine ⟨fun z => absurd c4 z, fun _ => ⟨vin_nI ha (by decide), fun z => absurd c2 z, fun _ => ⟨vin_nI ha (by decide), vin_nI ha (by decide), ?_⟩⟩⟩
    rw [hv]; exact h
  · rw [if_neg c2, if_pos c4] at hv
    refine ⟨fun z => absurd c4 z, fun _ => ⟨vin_nI ha (by decide), fun _ => ?_, fun z => absurd c2 z⟩⟩
    rw [hv]; exact h
  · rw [if_pos c2, if_neg c4] at hv
    refine ⟨fun _ => ⟨fun z => absurd c2 z, fun _ => ⟨vin_nI ha (by decide), vin_nI ha (by decide), ?_⟩⟩, fun z => absurd c4 z⟩
    rw [hv]; exact h
  · rw [if_neg c2, if_neg c4] at hv
    refine ⟨fun _ => ⟨fun _ => ?_, fun z => absurd c2 z⟩, fun z => absurd c4 z⟩
    rw [hv]; exact h
theorem fld_v {S k : Nat} (hS : S < 16777216) (hk : k ≤ 31) : (nI S >>> (nI k &&& 31)) &&& 7 = nI (S / 2 ^ k % 8) := by
  rw [pk_shrN (by omega) _ k (shS k hk)]
  exact pk_andN (n := S / 2 ^ k) (by have := Nat.div_le_self S (2 ^ k); omega) (m := 7) 3 rfl
theorem t_many {S most : Nat} (hS : S < 16777216) (hm : most ≤ 4) {M : Mem} (e3 : M 81 3 = nI most) {K : Int32 → Mem → Prop} (h1 : (∃ i, i < 4 ∧ most < S / 2 ^ (12 + 3 * i) % 8) → K 1 M) (h0 : (∀ i, i < 4 → S / 2 ^ (12 + 3 * i) % 8 ≤ most) → K 0 M) : f_X8_hasTooMany (nI S) M K := by
  unfold f_X8_hasTooMany
  refine Lp.up (fun i a => a = (nI S, nI i, M) ∧ ∀ j, j < i → S / 2 ^ (12 + 3 * j) % 8 ≤ most) 4 (fun i a r hi ha hr => ?_) (j := 0) (by omega) ⟨rfl, fun j hj => absurd hj (by omega)⟩
  obtain ⟨rfl, hp⟩ := ha
  unfold f_X8_hasTooMany_c2
  dsimp only
  have em : (12 : Int32) + (3 : Int32) * nI i = nI (12 + 3 * i) := by rw [show (12 : Int32) = nI 12 from rfl, show (3 : Int32) = nI 3 from rfl, pk_mul, nI_add]
  rw [lq_4 (by omega)]
  refine ⟨fun c => h0 (fun j hj => hp j (by omega)), fun c => ?_⟩
  rw [em, fld_v hS (by omega), e3, nI_le_iff (by omega) (by omega), nI_1]
  refine ⟨fun q => hr (by omega) _ ⟨rfl, fun j hj => ?_⟩, fun q => h1 ⟨i, by omega, by omega⟩⟩
  by_cases e : j = i
  · subst e; exact q
  · exact hp j (by omega)
theorem t_unfair {S da : Nat} (hS : S < 16777216) (hd : da ≤ 3) {M : Mem} {K : Int32 → Mem → Prop} (h1 : (∃ i j, i < 4 ∧ j < 4 ∧ S / 2 ^ (3 * j) % 8 + 2 + da ≤ S / 2 ^ (3 * i) % 8) → K 1 M) (h0 : (¬ ∃ i j, i < 4 ∧ j < 4 ∧ S / 2 ^ (3 * j) % 8 + 2 + da ≤ S / 2 ^ (3 * i) % 8) → K 0 M) : f_X8_isUnfair (nI S) (nI da) M K := by
  have e7 : nI S &&& 7 = nI (S / 2 ^ (3 * 0) % 8) := by
    have := pk_andN (n := S) (by omega) (m := 7) 3 rfl
    rw [this, Nat.mul_zero, Nat.pow_zero, Nat.div_one]
  unfold f_X8_isUnfair
  rw [e7]
  generalize hf : (fun i => S / 2 ^ (3 * i) % 8) = f
  have hfi : ∀ i, S / 2 ^ (3 * i) % 8 = f i := fun i => by rw [← hf]
  have hf8 : ∀ i, f i < 8 := fun i => by rw [← hf]; exact Nat.mod_lt _ (by decide)
  simp only [hfi] at h1 h0 ⊢
  refine Lp.up (fun i a => ∃ mn mx, a = (nI S, nI da, nI mn, nI mx, nI i, M) ∧ mn < 8 ∧ mx < 8 ∧ mn ≤ mx ∧ (∀ j, j < i → mn ≤ f j ∧ f j ≤ mx) ∧ (∃ j, j < 4 ∧ f j = mn) ∧ ∃ j, j < 4 ∧ f j = mx) 4 (fun i a r hi ha hr => ?_) (j := 1) (by omega) ⟨f 0, f 0, rfl, hf8 0, hf8 0, Nat.le_refl _, fun j hj => by rw [show j = 0 by omega]; exact ⟨Nat.le_refl _, Nat.le_refl _⟩, ⟨0, by omega, rfl⟩, ⟨0, by omega, rfl⟩⟩
  obtain ⟨mn, mx, rfl, l1, l2, l3, hp, ⟨jn, hjn, en⟩, ⟨jx, hjx, ex⟩⟩ := ha
  show f_X8_isUnfair_c10 K r (nI S) (nI da) (nI mn) (nI mx) (nI i) M
  unfold f_X8_isUnfair_c10 f_X8_isUnfair_b61
  rw [lq_4 (by omega)]
  refine ⟨fun c => ?_, fun c => ?_⟩
  · rw [nI_sb l3 (by omega), show (2 : Int32) = nI 2 from rfl, nI_add, nI_lt_iff (by omega) (by omega)]
    refine ⟨fun q => ⟨bz0, h0 ?_⟩, fun q => ⟨bz1, h1 ⟨jx, jn, hjx, hjn, by omega⟩⟩⟩
    rintro ⟨i', j', hi', hj', hc⟩
    have := hp i' (by omega)
    have := hp j' (by omega)
    omega
  · have em : (3 : Int32) * nI i = nI (3 * i) := by rw [show (3 : Int32) = nI 3 from rfl, pk_mul]
    have h8 := hf8 i
    rw [em, fld_v hS (by omega), hfi, if_nI (by omega) (by omega), if_nI (by omega) (by omega), nI_1]
    refine hr (by omega) _ ⟨if f i < mn then f i else mn, if mx < f i then f i else mx, rfl, ?_, ?_, ?_, fun j hj => ?_, ?_, ?_⟩
    · split <;> omega
    · split <;> omega
    · split <;> split <;> omega
    · by_cases e : j = i
      · subst e; constructor <;> split <;> omega
      · have := hp j (by omega)
        constructor <;> split <;> omega
    · split
      · exact ⟨i, by omega, rfl⟩
      · exact ⟨jn, hjn, en⟩
    · split
      · exact ⟨i, by omega, rfl⟩
      · exact ⟨jx, hjx, ex⟩
/-! (from laws/BITS, as given to paste) -/
theorem wb_tb (n : Nat) : (lN n).toBitVec = BitVec.ofNat 64 n := rfl
theorem wb_inj {a b : Int64} (h : a.toBitVec = b.toBitVec) : a = b := Int64.toBitVec_inj.mp h
theorem wb_of (x : Int64) : ∃ n, n < 2 ^ 64 ∧ x = lN n := ⟨x.toBitVec.toNat, x.toBitVec.isLt, wb_inj (by rw [wb_tb]; simp)⟩
theorem wb_c : ∀ k, k < 64 → ((nI k).toInt64 &&& 63) = lN k := by decide +kernel
theorem wb_sm : ∀ k, k < 64 → (BitVec.ofNat 64 k).smod 64 = BitVec.ofNat 64 k := by decide +kernel
theorem wb_shl (n : Nat) {k : Nat} (hk : k < 64) : lN n <<< ((nI k).toInt64 &&& 63) = lN (n * 2 ^ k) := by
  rw [wb_c k hk]
  apply wb_inj
  rw [Int64.toBitVec_shiftLeft, wb_tb, wb_tb, wb_tb, wb_sm k hk]
  apply BitVec.eq_of_toNat_eq
  rw [BitVec.shiftLeft_eq', BitVec.toNat_shiftLeft, BitVec.toNat_ofNat, BitVec.toNat_ofNat, BitVec.toNat_ofNat, Nat.mod_eq_of_lt (show k < 2 ^ 64 by omega), Nat.shiftLeft_eq, Nat.mul_mod, Nat.mod_mod, ← Nat.mul_mod]
/-! keys -/
def keyN (d s ln : Nat) : Nat := (ln * 16777216 + s) * 4 + d
theorem lN_or {a b : Nat} (ha : a < 4096) (hb : b < 16777216) : lN (a * 2 ^ 24) ||| lN b = lN (a * 16777216 + b) := by
  apply wb_inj
  show BitVec.ofNat 64 (a * 2 ^ 24) ||| BitVec.ofNat 64 b = BitVec.ofNat 64 (a * 16777216 + b)
  apply BitVec.eq_of_toNat_eq
  rw [BitVec.toNat_or, BitVec.toNat_ofNat, BitVec.toNat_ofNat, BitVec.toNat_ofNat, Nat.mod_eq_of_lt (by omega), Nat.mod_eq_of_lt (by omega), Nat.mod_eq_of_lt (by omega)]
  have := Nat.shiftLeft_add_eq_or_of_lt (b := b) (i := 24) hb a
  rw [Nat.shiftLeft_eq] at this
  rw [← this]
theorem key_v {d s ln : Nat} (hd : d < 4) (hs : s < 16777216) (hl : ln < 4096) : ((((nI ln).toInt64 <<< ((24 : Int32).toInt64 &&& 63)) ||| (nI s).toInt64) * (4 : Int64)) + (nI d).toInt64 = lN (keyN d s ln) := by
  rw [nI_l (by omega), nI_l (by omega), nI_l (by omega)]
  have h24 := wb_shl ln (k := 24) (by decide)
  rw [show nI 24 = (24 : Int32) from rfl] at h24
  rw [h24, lN_or hl hs, show (4 : Int64) = lN 4 from rfl, lN_mul, lN_add]
  rfl
theorem lN_inj {a b : Nat} (ha : a < 9223372036854775808) (hb : b < 9223372036854775808) (h : lN a = lN b) : a = b := by
  have := congrArg (fun x : Int64 => x.toBitVec.toNat) h
  have e1 : (lN a).toBitVec.toNat = a := by show (BitVec.ofNat 64 a).toNat = a; rw [BitVec.toNat_ofNat]; omega
  have e2 : (lN b).toBitVec.toNat = b := by show (BitVec.ofNat 64 b).toNat = b; rw [BitVec.toNat_ofNat]; omega
  rw [← e1, ← e2]
  exact this
theorem lN_m1 {a : Nat} (ha : a < 9223372036854775808) : ¬ lN a = -1 := fun h => by
  have := congrArg (fun x : Int64 => x.toBitVec.toNat) h
  have e1 : (lN a).toBitVec.toNat = a := by show (BitVec.ofNat 64 a).toNat = a; rw [BitVec.toNat_ofNat]; omega
  have e2 : (-1 : Int64).toBitVec.toNat = 18446744073709551615 := by decide
  simp only [e1, e2] at this
  omega
theorem keyN_lt {d s ln : Nat} (hd : d < 4) (hs : s < 16777216) (hl : ln < 4096) : keyN d s ln < 9223372036854775808 := by unfold keyN; omega
theorem keyN_inj {d s ln d' s' ln' : Nat} (hd : d < 4) (hs : s < 16777216) (hd' : d' < 4) (hs' : s' < 16777216) (h : keyN d s ln = keyN d' s' ln') : d = d' ∧ s = s' ∧ ln = ln' := by
  unfold keyN at h
  omega
theorem slo_c : ∀ j : Fin 1024, (lN j.val).toInt32 = nI j.val := by decide +kernel
theorem slo_v (y : Int64) : ∃ j, j < 1024 ∧ (y &&& (1023 : Int64)).toInt32 = nI j := by
  obtain ⟨n, hn, e⟩ := wb_of y
  refine ⟨n % 1024, Nat.mod_lt _ (by decide), ?_⟩
  have h : y &&& (1023 : Int64) = lN (n % 1024) := by
    rw [e]
    apply wb_inj
    show BitVec.ofNat 64 n &&& 1023#64 = BitVec.ofNat 64 (n % 1024)
    apply BitVec.eq_of_toNat_eq
    rw [BitVec.toNat_and, BitVec.toNat_ofNat, BitVec.toNat_ofNat, BitVec.toNat_ofNat, Nat.mod_eq_of_lt (b := 2 ^ 64) hn]
    show n &&& 1023 = n % 1024 % 2 ^ 64
    rw [show (1023 : Nat) = 2 ^ 10 - 1 from rfl, Nat.and_two_pow_sub_one_eq_mod]
    omega
  rw [h]
  exact slo_c ⟨n % 1024, Nat.mod_lt _ (by decide)⟩
