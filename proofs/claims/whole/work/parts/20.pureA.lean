/-! THE PURE PART. Basics: ints, the memory, the small methods' values -/
theorem i_lt {a b : Int32} : a < b ↔ a.toInt < b.toInt := Int32.lt_iff_toInt_lt
theorem i_le {a b : Int32} : a ≤ b ↔ a.toInt ≤ b.toInt := Int32.le_iff_toInt_le
theorem i_eq {a b : Int32} : a = b ↔ a.toInt = b.toInt := Int32.toInt_inj.symm
theorem clampD (x : Int32) : x.toNatClampNeg = x.toInt.toNat := rfl
theorem nI_cl (n : Nat) (h : n < 2147483648) : (nI n).toNatClampNeg = n := nI_clamp h
theorem nI_ti (n : Nat) (h : n < 2147483648) : (nI n).toInt = (n : Int) := nI_toInt h
/-- an int between bounds is a number -/
theorem nat_of {x : Int32} {n : Nat} (h0 : 0 ≤ x) (h1 : x ≤ nI n) (hn : n < 2147483648) : ∃ j : Nat, j ≤ n ∧ x = nI j := by
  have e1 : (0 : Int32).toInt = 0 := rfl
  rw [i_le] at h0 h1
  rw [nI_ti n hn] at h1
  rw [e1] at h0
  refine ⟨x.toInt.toNat, by omega, ?_⟩
  rw [i_eq, nI_ti _ (by omega)]
  omega
theorem vin_of {x : Int32} {n : Nat} (h0 : 0 ≤ x) (h1 : x.toInt < n) : vp_in x n := by
  have e1 : (0 : Int32).toInt = 0 := rfl
  rw [i_le, e1] at h0
  unfold vp_in
  rw [i_lt, e1, clampD]
  omega
theorem vin_nI {j n : Nat} (h : j < n) (hn : n < 2147483648) : vp_in (nI j) n := vp_in_nI h (by omega)
theorem vin_lt {x : Int32} {n : Nat} (h : vp_in x n) : x.toNatClampNeg < n := Nat.not_le.mp fun q => h (Or.inr q)
theorem bz0 : bz 0 := Or.inl rfl
theorem bz1 : bz 1 := Or.inr rfl
theorem bz_if (c : Prop) [Decidable c] : bz (if c then 1 else 0) := by split <;> first | exact bz1 | exact bz0
theorem bz_fi (c : Prop) [Decidable c] : bz (if c then 0 else 1) := by split <;> first | exact bz1 | exact bz0
theorem one_ne : ¬ (1 : Int32) = 0 := by decide
/-- the memory behind a write -/
theorem mset_at (M : Mem) (c k : Nat) (v : Int32) (c' k' : Nat) : mset M c k v c' k' = if c' = c ∧ k' = k then v else M c' k' := by
  unfold mset upd
  by_cases h : c' = c
  · subst h
    by_cases h2 : k' = k <;> simp [h2]
  · simp [h]
theorem upd_at (f : Nat → Int32) (k : Nat) (v : Int32) (j : Nat) : upd f k v j = if j = k then v else f j := rfl
theorem upd_s (f : Nat → Int32) (k : Nat) (v : Int32) : upd f k v k = v := if_pos rfl
theorem upd_n (f : Nat → Int32) {k j : Nat} (v : Int32) (h : j ≠ k) : upd f k v j = f j := if_neg h
theorem ite_iff {c A B : Prop} [Decidable c] : ((c → A) ∧ (¬ c → B)) ↔ (if c then A else B) := by by_cases h : c <;> simp [h]
theorem br_and {c A B : Prop} (ha : c → A) (hb : ¬ c → B) : (c → A) ∧ (¬ c → B) := ⟨ha, hb⟩
theorem lt_nle {a b : Int32} : a < b ↔ ¬ b ≤ a := by rw [i_lt, i_le]; omega
/-! the small methods -/
def inB (a l g : Int32) : Int32 := if l ≤ a ∧ a ≤ g then 1 else 0
def outs (a l g : Int32) : Int32 := if l ≤ a then (if a ≤ g then 0 else -6) else -4
def wors (a b : Int32) : Int32 := if a = -4 ∨ b = -4 then -4 else if b < a then b else a
theorem inB_bz (a l g : Int32) : bz (inB a l g) := bz_if _
theorem inB_0 {a l g : Int32} : inB a l g = 0 ↔ ¬ (l ≤ a ∧ a ≤ g) := by unfold inB; split <;> simp_all
theorem outs_0 {a l g : Int32} : outs a l g = 0 ↔ l ≤ a ∧ a ≤ g := by
  unfold outs
  by_cases h1 : l ≤ a <;> by_cases h2 : a ≤ g <;> simp [h1, h2]
theorem v_X12_in (a l g : Int32) (M : Mem) (K : Int32 → Mem → Prop) : f_X12_in a l g M K ↔ K (inB a l g) M := by
  unfold f_X12_in f_X12_in_b14 f_X12_in_b15 inB
  have e1 : (0 : Int32) = 0 := rfl
  by_cases h1 : a < l
  · have : ¬ (l ≤ a ∧ a ≤ g) := by rw [i_le]; rw [i_lt] at h1; omega
    simp [h1, this, bz0]
  · by_cases h2 : g < a
    · have : ¬ (l ≤ a ∧ a ≤ g) := by rw [i_le, i_le]; rw [i_lt] at h2; omega
      simp [h1, h2, this, bz0]
    · have : (l ≤ a ∧ a ≤ g) := by rw [i_le, i_le]; rw [i_lt] at h1 h2; omega
      simp [h1, h2, this, bz1]
theorem v_X12_isShop (a : Int32) (M : Mem) (K : Int32 → Mem → Prop) : f_X12_isShop a M K ↔ K (inB a 0 5) M := by
  unfold f_X12_isShop
  rw [v_X12_in]
  simp [inB_bz]
theorem v_X12_isWhat (a : Int32) (M : Mem) (K : Int32 → Mem → Prop) : f_X12_isWhat a M K ↔ K (inB a 0 7) M := by
  unfold f_X12_isWhat
  rw [v_X12_in]
  simp [inB_bz]
theorem v_X11_isShop (a : Int32) (M : Mem) (K : Int32 → Mem → Prop) : f_X11_isShop a M K ↔ K (inB a 0 5) M := by
  unfold f_X11_isShop f_X11_isShop_b14 f_X11_isShop_b15 inB
  by_cases h1 : a < 0
  · have : ¬ (0 ≤ a ∧ a ≤ 5) := by rw [i_le]; rw [i_lt] at h1; omega
    simp [h1, this, bz0]
  · by_cases h2 : (6 : Int32) ≤ a
    · have : ¬ (0 ≤ a ∧ a ≤ 5) := by lia
      simp [h1, h2, this, bz0]
    · have : (0 ≤ a ∧ a ≤ 5) := by lia
      simp [h1, h2, this, bz1]
theorem v_X11_isWhat (a : Int32) (M : Mem) (K : Int32 → Mem → Prop) : f_X11_isWhat a M K ↔ K (inB a 0 7) M := by
  unfold f_X11_isWhat f_X11_isWhat_b14 f_X11_isWhat_b15 inB
  by_cases h1 : a < 0
  · have : ¬ (0 ≤ a ∧ a ≤ 7) := by lia
    simp [h1, this, bz0]
  · by_cases h2 : (8 : Int32) ≤ a
    · have : ¬ (0 ≤ a ∧ a ≤ 7) := by lia
      simp [h1, h2, this, bz0]
    · have : (0 ≤ a ∧ a ≤ 7) := by lia
      simp [h1, h2, this, bz1]
theorem v_X11_outside (a l g : Int32) (M : Mem) (K : Int32 → Mem → Prop) : f_X11_outside a l g M K ↔ K (outs a l g) M := by
  unfold f_X11_outside f_X11_outside_b21 outs
  by_cases h1 : l ≤ a <;> by_cases h2 : a ≤ g <;> simp [h1, h2]
theorem v_X11_worse (a b : Int32) (M : Mem) (K : Int32 → Mem → Prop) : f_X11_worse a b M K ↔ K (wors a b) M := by
  unfold f_X11_worse f_X11_worse_b12 f_X11_worse_b22 wors
  by_cases h1 : a = -4 <;> by_cases h2 : b = -4 <;> simp [h1, h2]
/-- a refusal's place -/
def rfx (c : Int32) : Nat := (-c).toNatClampNeg
theorem v_X12_refuse {c : Int32} (h : c = -1 ∨ c = -2 ∨ c = -3 ∨ c = -4 ∨ c = -5 ∨ c = -6) (M : Mem) (K : Int32 → Mem → Prop) : f_X12_refuse c M K ↔ K c (mset M 295 (rfx c) (M 295 (rfx c) + 1)) := by
  unfold f_X12_refuse
  have hv : vp_in (-c) 7 := by rcases h with rfl | rfl | rfl | rfl | rfl | rfl <;> exact vin_lit (by decide)
  simp [hv, rfx]
theorem v_X11_refuse {c : Int32} (h : c = -1 ∨ c = -2 ∨ c = -3 ∨ c = -4 ∨ c = -5 ∨ c = -6) (M : Mem) (K : Int32 → Mem → Prop) : f_X11_refuse c M K ↔ K c (mset M 126 (rfx c) (M 126 (rfx c) + 1)) := by
  unfold f_X11_refuse f_X11_refuse_b21
  have hv : vp_in (-c) 7 := by rcases h with rfl | rfl | rfl | rfl | rfl | rfl <;> exact vin_lit (by decide)
  have h1 : ¬ 0 ≤ c := by rcases h with rfl | rfl | rfl | rfl | rfl | rfl <;> decide
  have h2 : ¬ c < -6 := by rcases h with rfl | rfl | rfl | rfl | rfl | rfl <;> decide
  simp [hv, h1, h2, rfx]
theorem wors_0 {a b : Int32} (ha : a = 0 ∨ a = -4 ∨ a = -6) (hb : b = 0 ∨ b = -4 ∨ b = -6) : wors a b = 0 ↔ a = 0 ∧ b = 0 := by
  rcases ha with rfl | rfl | rfl <;> rcases hb with rfl | rfl | rfl <;> decide
theorem wors_r {a b : Int32} (ha : a = 0 ∨ a = -4 ∨ a = -6) (hb : b = 0 ∨ b = -4 ∨ b = -6) : wors a b = 0 ∨ wors a b = -4 ∨ wors a b = -6 := by
  rcases ha with rfl | rfl | rfl <;> rcases hb with rfl | rfl | rfl <;> decide
theorem wors_4 {a b : Int32} (ha : a = 0 ∨ a = -4 ∨ a = -6) (hb : b = 0 ∨ b = -4 ∨ b = -6) : wors a b = -4 ↔ a = -4 ∨ b = -4 := by
  rcases ha with rfl | rfl | rfl <;> rcases hb with rfl | rfl | rfl <;> decide
theorem outs_r (a l g : Int32) : outs a l g = 0 ∨ outs a l g = -4 ∨ outs a l g = -6 := by
  unfold outs
  by_cases h1 : l ≤ a <;> by_cases h2 : a ≤ g <;> simp [h1, h2]
theorem outs_4 {a l g : Int32} : outs a l g = -4 ↔ ¬ l ≤ a := by
  unfold outs
  by_cases h1 : l ≤ a <;> by_cases h2 : a ≤ g <;> simp [h1, h2]
def ful (s l : Int32) : Int32 := if l ≤ s then -6 else 0
theorem ful_r (s l : Int32) : ful s l = 0 ∨ ful s l = -4 ∨ ful s l = -6 := by
  unfold ful
  by_cases h1 : l ≤ s <;> simp [h1]
theorem ful_0 {s l : Int32} : ful s l = 0 ↔ ¬ l ≤ s := by
  unfold ful
  by_cases h1 : l ≤ s <;> simp [h1]
theorem ful_4 {s l : Int32} : ¬ ful s l = -4 := by
  unfold ful
  by_cases h1 : l ≤ s <;> simp [h1]
theorem v_X11_fullAt (s l : Int32) (M : Mem) (K : Int32 → Mem → Prop) : f_X11_fullAt s l M K ↔ K (ful s l) M := by
  unfold f_X11_fullAt f_X11_fullAt_b11 ful
  by_cases h1 : l ≤ s <;> simp only [lt_nle, h1] <;> simp
def wtop (shops sum : Int32) : Int32 := wors (outs shops 1 63) (outs sum 0 9999)
theorem v_X11_wrongTopic (a b : Int32) (M : Mem) (K : Int32 → Mem → Prop) : f_X11_wrongTopic a b M K ↔ K (wtop a b) M := by
  unfold f_X11_wrongTopic wtop
  rw [v_X11_outside, v_X11_outside, v_X11_worse]
theorem wtop_0 {a b : Int32} : wtop a b = 0 ↔ (1 ≤ a ∧ a ≤ 63) ∧ (0 ≤ b ∧ b ≤ 9999) := by
  unfold wtop
  rw [wors_0 (outs_r _ _ _) (outs_r _ _ _), outs_0, outs_0]
theorem wtop_r (a b : Int32) : wtop a b = 0 ∨ wtop a b = -4 ∨ wtop a b = -6 := wors_r (outs_r _ _ _) (outs_r _ _ _)
theorem v_X12_wrongSums (a b : Int32) (M : Mem) (K : Int32 → Mem → Prop) : f_X12_wrongSums a b M K ↔ K (wtop a b) M := by
  have h4 := wors_4 (outs_r a 1 63) (outs_r b 0 9999)
  have h0 := wors_0 (outs_r a 1 63) (outs_r b 0 9999)
  have hr := wors_r (outs_r a 1 63) (outs_r b 0 9999)
  rw [outs_4, outs_4] at h4
  rw [outs_0, outs_0] at h0
  unfold f_X12_wrongSums f_X12_wrongSums_b9 f_X12_wrongSums_b27 f_X12_wrongSums_b33 wtop
  simp only [lt_nle]
  generalize wors (outs a 1 63) (outs b 0 9999) = w at *
  by_cases c1 : (1 : Int32) ≤ a <;> by_cases c2 : 0 ≤ b <;> by_cases c3 : a ≤ 63 <;> by_cases c4 : b ≤ 9999 <;> rcases hr with rfl | rfl | rfl <;> simp [c1, c2, c3, c4] at h4 h0 ⊢
