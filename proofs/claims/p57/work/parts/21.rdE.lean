/-! THE READER OF TEXTS (the class's): faults and verdicts -/
theorem bd_rule {M0 M : Mem} {p : Nat} (hB : BaS M0 M p) {K : Int32 → Mem → Prop} (h : ∀ v M', bz v → BaS M0 M' p → K v M') : f_X7_ruleHolds M K := by
  unfold f_X7_ruleHolds
  refine Lp.up (fun j a => ∃ x1 M', a = (x1, nI j, M') ∧ BaS M0 M' p ∧ (j = 0 ∨ x1 = 0)) 1 (fun j a r hj ha hr => ?_) (j := 0) (by omega) ⟨1, M, rfl, hB, Or.inl rfl⟩
  obtain ⟨x1, M1, rfl, g, hx⟩ := ha
  unfold f_X7_ruleHolds_c4
  have ho : f_X7_ruleHolds_b41 K M1 := bd_out g (fun v hv => h v M1 hv g)
  refine ⟨fun _ => ho, fun _ => ⟨fun _ => ho, fun z => ?_⟩⟩
  have hj0 : j = 0 := hx.resolve_right z
  exact bd_opn g (bd_cmp g (fun v _ => bd_rest g (fun M2 hB2 => by
    rw [nI_1]
    exact hr (by omega) _ ⟨0, M2, rfl, hB2, Or.inr rfl⟩)))
theorem c_begin {tx n p : Nat} (h17 : 17 ≤ tx) (h41 : tx ≤ 41) (hn : n ≤ 60) (hp : p ≤ n) (F : FT) {M : Mem} {K : Mem → Prop} (h : ∀ M', GoS M tx n M' p [fmZ] F → K M') : f_X7_begin tx (nI n) (nI p) M K := by
  unfold f_X7_begin f_X7_openLevel
  have hv : vp_in 0 6 := vin_nI (j := 0) (by omega) (by decide)
  have l6 : (nI 60 < nI n) ↔ False := (nI_lt_iff (by omega) (by omega)).trans ⟨fun h => by omega, False.elim⟩
  refine ⟨arB_tx h17 h41, hv, hv, hv, h _ ⟨fun c c1 c2 c3 c4 => ?_, ?_, ?_, ?_, ?_, ?_, ?_, ?_, hp, by simp, by simp [dpt, fmZ]⟩⟩
  all_goals try simp only [show (0 : Int32).toNatClampNeg = 0 from rfl]
  · simp (disch := omega) only [mset_ne]
  · simp (disch := omega) only [mset_ne, mset_row, upd_n, upd_s]
  · simp (disch := omega) only [mset_ne, mset_row, upd_n, upd_s]; rw [if_neg (fun z => l6.mp z)]
  · simp (disch := omega) only [mset_ne, mset_row, upd_n, upd_s]
  · simp (disch := omega) only [mset_ne, mset_row, upd_n, upd_s]
  · simp (disch := omega) only [mset_ne, mset_row, upd_n, upd_s]; rfl
  · simp (disch := omega) only [mset_ne, mset_row, upd_n, upd_s]; rfl
  · refine ⟨?_, ?_, ?_, trivial⟩
    · simp (disch := omega) only [mset_ne, mset_row, List.length_nil, upd_s]; rfl
    · simp (disch := omega) only [mset_ne, mset_row, List.length_nil, upd_s]; rfl
    · simp (disch := omega) only [mset_ne, mset_row, List.length_nil, upd_s]; rfl
/-- the first place where a text fails -/
def fltO (sg : Nat → Int32) : Option Nat :=
  if ¬ (65 ≤ sg 0 ∧ sg 0 ≤ 72) then some 0 else if ¬ (48 ≤ sg 1 ∧ sg 1 ≤ 52) then some 1 else if ¬ (58 ≤ sg 2 ∧ sg 2 ≤ 58) then some 2
  else if (rle sg 61 3 [fmZ]).2.1 = true then some (rle sg 61 3 [fmZ]).1 else none
def fltI (o : Option Nat) : Int32 := match o with
  | some p => nI p
  | none => -9
theorem a255 (x : Int32) : ¬ (x &&& 255) = -1 := by
  intro h
  have := congrArg Int32.toBitVec h
  rw [Int32.toBitVec_and] at this
  have h2 := congrArg (fun b => b.getLsbD 31) this
  simp at h2
theorem sgn_m1 {M : Mem} {tx n p : Nat} : sgn (txT M tx) n p = -1 ↔ n ≤ p := by
  unfold sgn txT
  by_cases h : p < n
  · rw [if_pos h]
    exact ⟨fun z => absurd z (a255 _), fun z => absurd z (by omega)⟩
  · rw [if_neg h]
    exact ⟨fun _ => by omega, fun _ => rfl⟩
theorem c_faultOf {tx n : Nat} (h17 : 17 ≤ tx) (h41 : tx ≤ 41) (hn : n ≤ 60) {M : Mem} {K : Int32 → Mem → Prop} (h : ∀ M', RFr M M' → (∀ p, fltO (sgn (txT M tx) n) = some p → p ≤ 60) → K (fltI (fltO (sgn (txT M tx) n))) M') : f_X7_faultOf tx (nI n) M K := by
  unfold f_X7_faultOf f_X7_faultOf_b51
  have hH : RdH M tx n (fun k => M 46 k) := ⟨h17, h41, hn, fun _ _ => rfl⟩
  unfold fltO at h
  have bado : ∀ {M' : Mem} {p}, BaS M M' p → (∀ M', RFr M M' → (∀ q, some p = some q → q ≤ 60) → K (fltI (some p)) M') → ((M' 45 2 ≤ M' 45 3 → K (M' 45 4) M') ∧ (¬ M' 45 2 ≤ M' 45 3 → f_X7_fail M' (fun M7 => K (M7 45 4) M7))) := fun {M' p} hB hk => by
    have : K (M' 45 4) M' := by rw [hB.2.1]; exact hk M' hB.1 (fun q e => by cases e; exact hB.2.2.1)
    exact ⟨fun _ => this, fun _ => bd_fail hB this⟩
  refine ⟨arB_tx h17 h41, c_begin (p := 0) h17 h41 hn (by omega) (fun k => M 46 k) (fun M1 g1 => ?_)⟩
  refine gd_expect hH g1 (by decide) (fun c M2 hB => ?_) (fun c M2 g2 => ?_)
  · rw [if_pos c] at h
    exact bd_expect hB (by decide) (bd_expect hB (by decide) (bd_rule hB (fun v M5 _ hB5 => bado hB5 h)))
  rw [if_neg (Classical.not_not.mpr c)] at h
  refine gd_expect hH g2 (by decide) (fun c M3 hB => ?_) (fun c M3 g3 => ?_)
  · rw [if_pos c] at h
    exact bd_expect hB (by decide) (bd_rule hB (fun v M5 _ hB5 => bado hB5 h))
  rw [if_neg (Classical.not_not.mpr c)] at h
  refine gd_expect hH g3 (by decide) (fun c M4 hB => ?_) (fun c M4 g4 => ?_)
  · rw [if_pos c] at h
    exact bd_rule hB (fun v M5 _ hB5 => bado hB5 h)
  rw [if_neg (Classical.not_not.mpr c)] at h
  refine gd_rule hH g4 (fun v M5 hR => ?_)
  obtain ⟨-, ⟨hB, e⟩ | ⟨x, g, -, e⟩⟩ := hR
  · rw [if_pos e] at h
    exact bado hB h
  · change GoS M tx n M5 (rle (sgn (txT M tx) n) 61 3 [fmZ]).1 [x] _ at g
    have hle : (nI n ≤ nI (rle (sgn (txT M tx) n) 61 3 [fmZ]).1) ↔ n ≤ (rle (sgn (txT M tx) n) 61 3 [fmZ]).1 := nI_le_iff (by omega) (by have := g.2.2.2.2.2.2.2.2.1; omega)
    rw [g.2.2.1, g.2.2.2.1, hle]
    refine ⟨fun c => ?_, fun c => ?_⟩
    · rw [if_neg (by rw [e, sgn_m1.mpr c]; decide)] at h
      rw [g.2.2.2.2.1]
      exact h M5 g.1 (fun q e => by cases e)
    · rw [if_pos (by rw [e]; exact decide_eq_true (fun z => c (sgn_m1.mp z)))] at h
      refine gd_fail hH g (fun M7 hB => ?_)
      rw [hB.2.1]
      exact h M7 hB.1 (fun q e => by cases e; exact hB.2.2.1)
theorem okR_flt {t : Nat → Int32} {n : Nat} (hn : 3 ≤ n) : okR t n ↔ fltO (sgn t n) = none := by
  unfold okR fltO sgn
  rw [if_pos (show 0 < n by omega), if_pos (show 1 < n by omega), if_pos (show 2 < n by omega)]
  constructor
  · rintro ⟨-, a1, a2, a3, a4, a5, a6⟩
    rw [if_neg (Classical.not_not.mpr ⟨a1, a2⟩), if_neg (Classical.not_not.mpr ⟨a3, a4⟩), if_neg (Classical.not_not.mpr (by rw [a5]; decide))]
    exact if_neg (by rw [a6]; exact Bool.false_ne_true)
  · intro h
    split at h
    · cases h
    · rename_i c1
      split at h
      · cases h
      · rename_i c2
        split at h
        · cases h
        · rename_i c3
          split at h
          · cases h
          · rename_i c4
            have c1 := Classical.not_not.mp c1
            have c2 := Classical.not_not.mp c2
            have c3 := Classical.not_not.mp c3
            exact ⟨hn, c1.1, c1.2, c2.1, c2.2, Int32.le_antisymm c3.2 c3.1, by simpa using c4⟩
theorem c_holds {tx n : Nat} (h17 : 17 ≤ tx) (h41 : tx ≤ 41) (hn : n ≤ 60) {M : Mem} (hok : okR (txT M tx) n) {F : FT} (hF : ∀ k, k < 6 → M 46 k = F k) {K : Int32 → Mem → Prop} (h : ∀ M', RFr M M' → K (bi (valR (txT M tx) n F)) M') : f_X7_holds tx (nI n) M K := by
  unfold f_X7_holds
  have hH : RdH M tx n F := ⟨h17, h41, hn, hF⟩
  have hf : (rle (sgn (txT M tx) n) 61 3 [fmZ]).2.1 = false := hok.2.2.2.2.2.2
  refine ⟨arB_tx h17 h41, c_begin (p := 3) h17 h41 hn hok.1 F (fun M1 g1 => gd_rule hH g1 (fun v M5 hR => ?_))⟩
  obtain ⟨hv, ⟨hB, e⟩ | ⟨x, g, e, -⟩⟩ := hR
  · rw [hf] at e; cases e
  · exact ⟨hv, e ▸ h M5 g.1⟩
