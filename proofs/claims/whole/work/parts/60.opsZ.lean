/-! what bears on a what: facts, acts that bear, the giver, the quarrel -/
def FK (M : Mem) (s m f : Int32) : Nat → Int32 := fun k => if k = 0 then nI (cntB (hrB M s) (nn (M 4 0))) else if k = 1 then nI (cntB (hreB M) (nn (M 4 0))) else if k = 2 then bcv s else if k = 3 then m else if k = 4 then M 51 1 else (if f = 0 then 0 else 1)
theorem hrB_eq {M M' : Mem} (h5 : M' 5 = M 5) (h6 : M' 6 = M 6) (s : Int32) : hrB M' s = hrB M s := by
  funext p; unfold hrB; rw [h5, h6]
theorem t_facts {M : Mem} (H : Inv M) (s m f : Int32) {K : Mem → Prop} (hK : ∀ M', (∀ c, c ≠ 46 → M' c = M c) → (∀ k, k < 6 → M' 46 k = FK M s m f k) → K M') : f_X11_tellFacts s m f M K := by
  obtain ⟨n, hn, en⟩ := nat_of (n := 24) H.P.2.1 H.P.2.2.1 (by decide)
  unfold f_X11_tellFacts f_X11_tellFacts_b73
  refine t_here hn en s _ (t_here (n := n) hn (by rw [mset_ne _ _ _ (by decide)]; exact en) 63 _ ?_)
  rw [v_bc]
  have e63 : hrB (mset M 46 0 (nI (cntB (hrB M s) n))) 63 = hreB M := by
    rw [hrB_eq (M := M) (mset_ne _ _ _ (by decide)) (mset_ne _ _ _ (by decide))]
    funext p; exact hr63 H p
  rw [e63]
  have hv : vp_in 5 6 := vin_nI (j := 5) (by decide) (by decide)
  have key : ∀ w : Int32, w = (if f = 0 then 0 else 1) → K (mset (mset (mset (mset (mset (mset M 46 0 (nI (cntB (hrB M s) n))) 46 1 (nI (cntB (hreB M) n))) 46 2 (bcv s)) 46 3 m) 46 4 ((mset (mset M 46 0 (nI (cntB (hrB M s) n))) 46 1 (nI (cntB (hreB M) n))) 51 1)) 46 5 w) := fun w ew => by
    refine hK _ (fun c hc => ?_) (fun k hk => ?_)
    · simp (disch := omega) only [mset_ne]
    · simp only [mset_row, upd_at]
      unfold FK
      rw [en, nn_nI n (by omega), mset_ne _ _ _ (by decide), mset_ne _ _ _ (by decide), ew]
      match k, hk with
      | 0, _ => rfl
      | 1, _ => rfl
      | 2, _ => rfl
      | 3, _ => rfl
      | 4, _ => rfl
      | 5, _ => rfl
  exact ⟨fun c => ⟨hv, key 0 (if_pos c).symm⟩, fun c => ⟨hv, key 1 (if_neg c).symm⟩⟩
theorem q_facts {M : Mem} (H : Inv M) {s : Nat} (hs : s < 512) (m f : Int32) {M' : Mem} (hE : Eqm M M') {K : Mem → Prop} (hK : ∀ M'', (∀ c, c ≠ 301 → M'' c = M' c) → (∀ k, k < 6 → M'' 301 k = FK M (nI s) m f k) → K M'') : f_X12_findFacts (nI s) m f M' K := by
  obtain ⟨n, hn, en⟩ := nat_of (n := 24) H.P.2.1 H.P.2.2.1 (by decide)
  unfold f_X12_findFacts
  have e287 := hE 287 (by decide)
  have e294 := hE 294 (by decide)
  have e289 := hE 289 (by decide)
  have e2 : M' 287 2 = nI n := by rw [e287, H.P.1]; exact en
  have e48 : M' 287 48 = M 51 1 := by rw [e287]; exact H.V.1
  have h6 : ∀ j, j < n → M 6 j = if M 294 j = 0 then 1 else 0 := fun j hj => H.P.2.2.2.2.2.2.2.1 j (by rw [en, nn_nI n (by omega)]; exact hj)
  have h5 : M 289 = M 5 := H.P.2.2.2.1
  have hv1 : vp_in 1 6 := vin_nI (j := 1) (by decide) (by decide)
  have hv0 : vp_in 0 6 := vin_nI (j := 0) (by decide) (by decide)
  have hv5 : vp_in 5 6 := vin_nI (j := 5) (by decide) (by decide)
  refine Lp.up (fun q a => ∃ M1, a = (nI s, m, f, nI q, M1) ∧ (∀ c, c ≠ 301 → M1 c = M' c) ∧ M1 301 0 = nI (cntB (hrB M (nI s)) q) ∧ M1 301 1 = nI (cntB (hreB M) q)) n (fun q a r hq ha hr => ?_) (j := 0) (by omega) ⟨_, rfl, fun c hc => ?_, ?_, ?_⟩
  · obtain ⟨M1, rfl, k1, k2, k3⟩ := ha
    simp only [f_X12_findFacts_c17, f_X12_findFacts_b48, f_X12_findFacts_b86, f_X12_findFacts_b87, f_X12_findFacts_b136]
    rw [k1 287 (by decide), e2, nI_le_iff (by omega) (by omega), nI_cl q (by omega)]
    refine ⟨fun c => q_ones hs _ _ ?_, fun c => ?_⟩
    · obtain rfl : n = q := by omega
      have key : ∀ w : Int32, w = (if f = 0 then 0 else 1) → K (mset (mset (mset (mset M1 301 2 (bcv (nI s))) 301 3 m) 301 4 (M1 287 48)) 301 5 w) := fun w ew => by
        rw [k1 287 (by decide)]
        refine hK _ (fun c hc => ?_) (fun k hk => ?_)
        · simp (disch := omega) only [mset_ne]; exact k1 c hc
        · simp only [mset_row, upd_at]
          unfold FK
          rw [en, nn_nI n (by omega), ew, e48]
          match k, hk with
          | 0, _ => exact k2
          | 1, _ => exact k3
          | 2, _ => rfl
          | 3, _ => rfl
          | 4, _ => rfl
          | 5, _ => rfl
      exact ⟨fun c => ⟨hv5, key 0 (if_pos c).symm⟩, fun c => ⟨hv5, key 1 (if_neg c).symm⟩⟩
    · have hqn : q < n := by omega
      have hv : vp_in (nI q) 24 := vin_nI (by omega) (by decide)
      rw [k1 294 (by decide), e294, nI_1]
      have g6 := h6 q hqn
      have c0 : hreB M q = decide (M 294 q = 0) := by
        unfold hreB; rw [g6]; by_cases z : M 294 q = 0 <;> simp [z]
      have c1 : hrB M (nI s) q = decide (M 294 q = 0 ∧ (nI s >>> (M 289 q &&& 31)) &&& 1 = 1) := by
        unfold hrB; rw [g6, h5]; by_cases z : M 294 q = 0 <;> simp [z]
      have go : ∀ w1 w0 : Int32, M1 301 1 + w1 = nI (cntB (hreB M) (q + 1)) → M1 301 0 + w0 = nI (cntB (hrB M (nI s)) (q + 1)) → r (nI s, m, f, nI (q + 1), mset (mset M1 301 1 (M1 301 1 + w1)) 301 0 (mset M1 301 1 (M1 301 1 + w1) 301 0 + w0)) := fun w1 w0 d1 d0 => by
        refine hr hqn _ ⟨_, rfl, fun c hc => ?_, ?_, ?_⟩
        · simp (disch := omega) only [mset_ne]; exact k1 c hc
        · rw [mset_eq, mset_row, upd_n _ _ (by decide)]; exact d0
        · rw [mset_row, upd_n _ _ (by decide), mset_eq]; exact d1
      have s1 : ∀ b, M 294 q = 0 → b = (1 : Int32) → M1 301 1 + b = nI (cntB (hreB M) (q + 1)) := fun b z eb => by
        rw [cnt_st, if_pos (by rw [c0]; exact decide_eq_true z), k3, eb]
      have s0 : ∀ b, ¬ M 294 q = 0 → b = (0 : Int32) → M1 301 1 + b = nI (cntB (hreB M) (q + 1)) := fun b z eb => by
        rw [cnt_st, if_neg (by rw [c0]; exact fun y => z (of_decide_eq_true y)), k3, eb, Int32.add_zero]
      have u1 : M 294 q = 0 → (nI s >>> (M 289 q &&& 31)) &&& 1 = 1 → M1 301 0 + 1 = nI (cntB (hrB M (nI s)) (q + 1)) := fun z y => by
        rw [cnt_st, if_pos (by rw [c1]; exact decide_eq_true ⟨z, y⟩), k2]
      have u0 : ¬ (M 294 q = 0 ∧ (nI s >>> (M 289 q &&& 31)) &&& 1 = 1) → M1 301 0 + 0 = nI (cntB (hrB M (nI s)) (q + 1)) := fun z => by
        rw [cnt_st, if_neg (by rw [c1]; exact fun y => z (of_decide_eq_true y)), k2, Int32.add_zero]
      have m94 : ∀ w, mset M1 301 (1 : Int32).toNatClampNeg w 294 q = M 294 q := fun w => by rw [mset_ne _ _ _ (by decide), k1 294 (by decide), e294]
      have m89 : ∀ w, mset M1 301 (1 : Int32).toNatClampNeg w 289 q = M 289 q := fun w => by rw [mset_ne _ _ _ (by decide), k1 289 (by decide), e289]
      rw [k1 289 (by decide), e289]
      refine ⟨hv, fun c => ⟨hv1, hv, fun z => absurd c z, fun _ => ⟨hv, fun z => ⟨hv0, go 1 0 (s1 1 c rfl) (u0 (fun y => z y.2))⟩, fun z => ⟨hv0, go 1 1 (s1 1 c rfl) (u1 c z)⟩⟩⟩, fun c => ⟨hv1, hv, fun z => ⟨hv0, go 0 0 (s0 0 c rfl) (u0 (fun y => c y.1))⟩, fun z => absurd z c⟩⟩
  · exact (mset_ne _ _ _ hc).trans (mset_ne _ _ _ hc)
  · rw [mset_row, upd_n _ _ (by decide), mset_eq]; rfl
  · rw [mset_eq]; rfl
