/-! SHIFTS, the class: the team, the whole search, whether there can be any -/
theorem SU_nil (r : Nat) : SU r [] = 0 := by
  have h1 : fN r [] = fun _ => 0 := by funext i; unfold fN; split <;> rfl
  have h2 : fS r [] = fun _ => 0 := by funext i; unfold fS; split <;> rfl
  unfold SU
  rw [h1, h2]
  rfl
theorem LN_nil (r : Nat) : LN r [] = 0 := by unfold LN; split <;> rfl
theorem t_search {M0 : Mem} {r most : Nat} {w : Nat → Nat → Nat} {la : Nat → Nat} {cs : List Nat} (H : SHC r most w la cs M0) {K : Mem → Prop}
    (h : ∀ M' : Mem, (∀ c k, c ≠ 93 → c ≠ 94 → c ≠ 95 → c ≠ 96 → ¬ (c = 81 ∧ k = 12) → M' c k = M0 c k) →
      (match rS r most w cs 4 [] 0 none with | none => M' 81 12 = -9 | some (b, p) => M' 81 12 = nI b ∧ b ≤ 16 ∧ ∀ d, d < 4 → vp_in (M' 94 d) 24 ∧ M0 84 (nn (M' 94 d)) = nI (p.getD (3 - d) 0)) → K M') : f_X8_search M0 K := by
  unfold f_X8_search
  refine Lp.up (fun j a => ∃ M', a = (nI j, M') ∧ (∀ c k, c ≠ 95 → ¬ (c = 81 ∧ k = 12) → M' c k = M0 c k) ∧ M' 81 12 = -9 ∧ ∀ s, s < j → lgA M' s = -1) 1024 (fun j a r' hj ha hr => ?_) (j := 0) (by omega) ⟨_, rfl, fun c k d1 d2 => by rw [mset_at, if_neg d2], mset_eq _ _ _ _, fun s hs => absurd hs (by omega)⟩
  obtain ⟨M', rfl, f1, f2, f3⟩ := ha
  unfold f_X8_search_c8
  dsimp only
  rw [show (1024 : Int32) = nI 1024 from rfl, nI_le_iff (by omega) (by omega)]
  refine ⟨fun c => ?_, fun c => ⟨vin_nI (by omega) (by decide), ?_⟩⟩
  · have e0 : SU r [] = 0 := SU_nil r
    have e1 : LN r [] = 0 := LN_nil r
    have := k_rs H 8 [] 4 0 (fun _ _ => False) none M' K (by omega) rfl (by omega) (fun p b z => z.elim) (fun z => absurd z (by omega)) ⟨fun c k d1 d2 d3 d4 d5 => f1 c k d3 d5, f2, fun k hk => absurd hk (Nat.not_lt_zero _), fun s hs => Or.inl (f3 s (by omega))⟩ (fun M2 hM2 => h M2 hM2.1 hM2.2.1)
    rw [e0, e1] at this
    exact this
  · rw [nI_1, nI_cl j (by omega)]
    refine hr (by omega) _ ⟨_, rfl, fun c k d1 d2 => ?_, ?_, fun s hs => ?_⟩
    · rw [mset_ne _ _ _ d1, mset_ne _ _ _ d1]; exact f1 c k d1 d2
    · rw [mset_ne _ _ _ (by decide), mset_ne _ _ _ (by decide)]; exact f2
    · unfold lgA
      by_cases e : s = j
      · subst e
        rw [mset_row, upd_n _ _ (by omega), mset_eq, upd_s, jnL_eq]
      · rw [mset_row, upd_n _ _ (by omega), upd_n _ _ (by omega), mset_row, upd_n _ _ (by omega), upd_n _ _ (by omega)]
        exact f3 s (by omega)
theorem tmL_le (x5 x6 : Nat → Int32) (s : Int32) : ∀ n, (tmL x5 x6 s n).length ≤ 4
  | 0 => Nat.zero_le _
  | n + 1 => by
    have := tmL_le x5 x6 s n
    unfold tmL
    split
    · rename_i c
      rw [List.length_append, List.length_singleton]
      omega
    · exact this
theorem tmL_lt (x5 x6 : Nat → Int32) (s : Int32) : ∀ n p, p ∈ tmL x5 x6 s n → p < n
  | 0, p, h => absurd h (List.not_mem_nil)
  | n + 1, p, h => by
    unfold tmL at h
    split at h
    · rcases List.mem_append.mp h with q | q
      · have := tmL_lt x5 x6 s n p q; omega
      · rw [List.mem_singleton.mp q]; omega
    · have := tmL_lt x5 x6 s n p h; omega
theorem tmL_full {x5 x6 : Nat → Int32} {s : Int32} {j : Nat} (h : (tmL x5 x6 s j).length = 4) : ∀ n, j ≤ n → tmL x5 x6 s n = tmL x5 x6 s j
  | 0, hn => by rw [show j = 0 by omega]
  | n + 1, hn => by
    by_cases e : j = n + 1
    · rw [e]
    · have := tmL_full h n (by omega)
      have hst : tmL x5 x6 s (n + 1) = if (tmL x5 x6 s n).length < 4 ∧ ¬ x6 n = 0 ∧ x5 n = s then tmL x5 x6 s n ++ [n] else tmL x5 x6 s n := rfl
      rw [hst, this, if_neg (fun z => by omega)]
theorem t_team {M : Mem} {n s : Nat} (hn : n ≤ 24) (e : M 4 0 = nI n) {K : Int32 → Mem → Prop} (h : ∀ M', (∀ c k, c ≠ 83 → M' c k = M c k) → (∀ i, i < (tmL (M 5) (M 6) (nI s) n).length → M' 83 i = nI ((tmL (M 5) (M 6) (nI s) n).getD i 0)) → K (bi (decide ((tmL (M 5) (M 6) (nI s) n).length = 4))) M') : f_X8_findTeam (nI s) M K := by
  unfold f_X8_findTeam
  refine Lp.up (fun j a => ∃ M', a = (nI s, nI (tmL (M 5) (M 6) (nI s) j).length, nI j, M') ∧ (∀ c k, c ≠ 83 → M' c k = M c k) ∧ ∀ i, i < (tmL (M 5) (M 6) (nI s) j).length → M' 83 i = nI ((tmL (M 5) (M 6) (nI s) j).getD i 0)) n (fun j a r hj ha hr => ?_) (j := 0) (by omega) ⟨M, rfl, fun _ _ _ => rfl, fun i hi => absurd hi (Nat.not_lt_zero _)⟩
  obtain ⟨M', rfl, f1, f2⟩ := ha
  have hle := tmL_le (M 5) (M 6) (nI s) j
  have hend : tmL (M 5) (M 6) (nI s) j = tmL (M 5) (M 6) (nI s) n → f_X8_findTeam_b57 K (nI (tmL (M 5) (M 6) (nI s) j).length) M' := by
    intro e1
    unfold f_X8_findTeam_b57 f_X8_findTeam_b67
    rw [show (4 : Int32) = nI 4 from rfl, nI_eq_iff (by omega) (by omega)]
    rw [e1] at f2 ⊢
    have := h M' f1 f2
    refine ⟨fun c => ⟨bz0, ?_⟩, fun c => ⟨bz1, ?_⟩⟩
    · rw [decide_eq_false c] at this; exact this
    · rw [decide_eq_true c] at this; exact this
  unfold f_X8_findTeam_c5 f_X8_findTeam_b51
  dsimp only
  rw [f1 4 0 (by decide), e, nI_le_iff (by omega) (by omega), lq_4 (by omega)]
  refine ⟨fun c => hend (by rw [show j = n by omega]), fun c => ⟨fun c4 => hend (tmL_full (by omega) n (by omega)).symm, fun c4 => ⟨vin_nI (by omega) (by decide), ?_⟩⟩⟩
  have hst : tmL (M 5) (M 6) (nI s) (j + 1) = if (tmL (M 5) (M 6) (nI s) j).length < 4 ∧ ¬ M 6 j = 0 ∧ M 5 j = nI s then tmL (M 5) (M 6) (nI s) j ++ [j] else tmL (M 5) (M 6) (nI s) j := rfl
  rw [nI_cl j (by omega), f1 6 j (by decide), f1 5 j (by decide), nI_1]
  have hno : ¬ (¬ M 6 j = 0 ∧ M 5 j = nI s) → r (nI s, nI (tmL (M 5) (M 6) (nI s) j).length, nI (j + 1), M') := by
    intro z
    rw [if_neg (fun y => z y.2)] at hst
    have := hr (by omega) _ ⟨M', rfl, f1, by rw [hst]; exact f2⟩
    rw [hst] at this
    exact this
  refine ⟨fun c6 => hno (fun z => z.1 c6), fun c6 => ⟨vin_nI (by omega) (by decide), fun c5 => hno (fun z => c5 z.2), fun c5 => ⟨vin_nI (by omega) (by decide), ?_⟩⟩⟩
  rw [if_pos ⟨by omega, c6, c5⟩] at hst
  rw [nI_cl _ (by omega), nI_1]
  generalize htm : tmL (M 5) (M 6) (nI s) j = tm at *
  have := hr (by omega) (nI s, nI (tm ++ [j]).length, nI (j + 1), mset M' 83 tm.length (nI j)) ⟨_, by rw [hst], fun c k d => by rw [mset_ne _ _ _ d]; exact f1 c k d, fun i hi => ?_⟩
  · rw [List.length_append, List.length_singleton] at this
    exact this
  · rw [hst, List.length_append, List.length_singleton] at hi
    rw [hst, getD_snoc, mset_row, upd_at]
    by_cases e : i = tm.length
    · subst e; rw [if_pos rfl, if_neg (by omega), if_pos rfl]
    · rw [if_neg e, if_pos (by omega)]; exact f2 i (by omega)
theorem rS_bd (r most : Nat) (w : Nat → Nat → Nat) (cs : List Nat) (hw : ∀ d c, w d c ≤ 4) : ∀ m pre cost (acc : Ar), cost + 4 * m ≤ 16 → (∀ l p, acc = some (l, p) → l ≤ 16) → ∀ l p, rS r most w cs m pre cost acc = some (l, p) → l ≤ 16
  | 0, pre, cost, acc, h1, h2, l, p, e => by
    rw [rS_z] at e
    by_cases q : faO r pre = true
    · rw [if_pos q] at e
      cases acc with
      | none => cases e; omega
      | some x =>
        obtain ⟨b, bp⟩ := x
        have hb := h2 b bp rfl
        have e' : (if cost < b then some (cost, pre) else some (b, bp)) = some (l, p) := e
        by_cases c : cost < b
        · rw [if_pos c] at e'; cases e'; omega
        · rw [if_neg c] at e'; cases e'; exact hb
    · rw [if_neg q] at e
      exact h2 l p e
  | m + 1, pre, cost, acc, h1, h2, l, p, e => by
    rw [rS_s] at e
    have key := fold_inv (fun a : Ar => ∀ l p, a = some (l, p) → l ≤ 16) (fun acc c => if stO r most pre c then rS r most w cs m (c :: pre) (cost + w pre.length c) acc else acc) cs acc h2 (fun b x hx hb => by
      have hwx := hw pre.length x
      by_cases c : stO r most pre x = true
      · simp only [if_pos c]
        exact rS_bd r most w cs hw m _ _ b (by omega) hb
      · simp only [if_neg c]
        exact hb)
    exact key l p e
/-- what both find -/
def rR (M : Mem) (s r : Nat) : Ar := rosS (M 82) (M 5) (M 6) (M 13) (nn (M 4 0)) s r (nn (M 124 4))
theorem rR_bd {M : Mem} {s r l : Nat} {p : List Nat} (h : rR M s r = some (l, p)) : l ≤ 16 := by
  unfold rR rosS at h
  split at h
  · exact rS_bd _ _ _ _ (fun d c => wsh_le _ _ _ _) 4 [] 0 none (by omega) (fun _ _ e => by cases e) l p h
  · cases h
theorem Inv.ned {M : Mem} (H : Inv M) : ∀ s, M 82 s = nI (nn (M 82 s)) ∧ nn (M 82 s) ≤ 2 := fun s => by
  have := H.F.2 s
  exact nnE (n := 2) this.1 this.2 (by decide)
theorem Inv.mos {M : Mem} (H : Inv M) : M 124 4 = nI (nn (M 124 4)) ∧ nn (M 124 4) ≤ 4 := by
  obtain ⟨a1, a2, a3, a4, a5, a6, a7, a8⟩ := H.S
  exact nnE (n := 4) (a2 4 (by decide)) a8 (by decide)
theorem Inv.pn {M : Mem} (H : Inv M) : M 4 0 = nI (nn (M 4 0)) ∧ nn (M 4 0) ≤ 24 := nnE (n := 24) H.P.2.1 H.P.2.2.1 (by decide)
/-- only the roster's own cells have changed -/
def TFr (M M' : Mem) : Prop := ∀ c k, (c = 87 ∨ ¬ (83 ≤ c ∧ c ≤ 96)) → ¬ (c = 81 ∧ (k = 2 ∨ k = 3 ∨ k = 4 ∨ k = 12 ∨ k = 15 ∨ k = 16)) → M' c k = M c k
theorem i_ros {M M' : Mem} (H : Inv M) (hF : TFr M M') (hJ : gRoC (M' 81 15) (M' 81 16) (M' 81 2) (M' 81 3) (M' 81 12) (M 4 0) (M' 83) (M' 84) (M' 94) (M 82) (M 5) (M 6) (M 13)) : Inv M' := by
  have h0 : Inv (mput (mput (mput (mset (mset (mset (mset (mset M 81 15 (M' 81 15)) 81 16 (M' 81 16)) 81 2 (M' 81 2)) 81 3 (M' 81 3)) 81 12 (M' 81 12)) 83 (M' 83)) 84 (M' 84)) 94 (M' 94)) := by
    unfold Inv
    simp (disch := omega) only [mset_ne, mset_row, rws_ne, upd_s, upd_n, mput_n, mput_s, rws_put]
    exact ⟨H.R, H.D, H.S, H.P, H.Q, H.W, H.A, H.X, H.B, H.T, H.M, H.V, H.N, H.G, H.C, H.E, H.H, H.F, H.U, H.L, H.O, H.I, hJ, H.K⟩
  refine Inv.fr (fun c k hs => ?_) h0
  unfold Sc at hs
  simp only [mput_at]
  by_cases e1 : c = 94
  · subst e1; rw [if_pos rfl]
  · by_cases e2 : c = 84
    · subst e2; rw [if_neg (by decide), if_pos rfl]
    · by_cases e3 : c = 83
      · subst e3; rw [if_neg (by decide), if_neg (by decide), if_pos rfl]
      · rw [if_neg e1, if_neg e2, if_neg e3]
        simp only [mset_at]
        by_cases d1 : c = 81 ∧ k = 12
        · rw [if_pos d1, d1.1, d1.2]
        · by_cases d2 : c = 81 ∧ k = 3
          · rw [if_neg d1, if_pos d2, d2.1, d2.2]
          · by_cases d3 : c = 81 ∧ k = 2
            · rw [if_neg d1, if_neg d2, if_pos d3, d3.1, d3.2]
            · by_cases d4 : c = 81 ∧ k = 16
              · rw [if_neg d1, if_neg d2, if_neg d3, if_pos d4, d4.1, d4.2]
              · by_cases d5 : c = 81 ∧ k = 15
                · rw [if_neg d1, if_neg d2, if_neg d3, if_neg d4, if_pos d5, d5.1, d5.2]
                · rw [if_neg d1, if_neg d2, if_neg d3, if_neg d4, if_neg d5]
                  exact hF c k (by omega) (by omega)
/-- what the class holds behind a search -/
def RoA (M : Mem) (s r : Nat) (M1 : Mem) : Prop :=
  roR (rR M s r) (-9) (M1 81 12) (fun d => M1 84 (nn (M1 94 d))) ∧ ((tmL (M 5) (M 6) (nI s) (nn (M 4 0))).length = 4 → (¬ M1 81 12 = -9 → ∀ d, d < 4 → vp_in (M1 94 d) 24) ∧ ∀ i, i < 4 → M1 83 i = nI ((tmL (M 5) (M 6) (nI s) (nn (M 4 0))).getD i 0))
theorem getD_mem {l : List Nat} {a : Nat} (h : a < l.length) : l.getD a 0 ∈ l := by
  rw [List.getD_eq_getElem?_getD, List.getElem?_eq_getElem h]
  exact List.getElem_mem h
theorem C_few {M : Mem} (H : Inv M) {s r : Nat} (hs : s < 6) (hr : r < 8) {K : Int32 → Mem → Prop} (h : ∀ M1, TFr M M1 → Inv M1 → RoA M s r M1 → K (M1 81 12) M1) : f_X8_fewestBroken (nI s) (nI r) (M 124 4) M K := by
  obtain ⟨pn1, pn2⟩ := H.pn
  obtain ⟨mo1, mo2⟩ := H.mos
  have hned := H.ned
  have hfresh : f_X8_fewestBroken_b37 K (nI s) (nI r) (M 124 4) M := by
    unfold f_X8_fewestBroken_b37
    generalize hMa : mset (mset (mset M 81 12 (-9)) 81 2 (nI r)) 81 3 (M 124 4) = Ma
    have ha : ∀ c k, ¬ (c = 81 ∧ (k = 12 ∨ k = 2 ∨ k = 3)) → Ma c k = M c k := fun c k hc => by
      rw [← hMa, mset_at, if_neg (by omega), mset_at, if_neg (by omega), mset_at, if_neg (by omega)]
    have ha' : ∀ c, c ≠ 81 → Ma c = M c := fun c hc => by funext k; exact ha c k (by omega)
    have hfin : ∀ M5, TFr M M5 → M5 81 2 = nI r → M5 81 3 = M 124 4 → roR (rR M s r) (-9) (M5 81 12) (fun d => M5 84 (nn (M5 94 d))) → ((tmL (M 5) (M 6) (nI s) (nn (M 4 0))).length = 4 → (¬ M5 81 12 = -9 → ∀ d, d < 4 → vp_in (M5 94 d) 24) ∧ ∀ i, i < 4 → M5 83 i = nI ((tmL (M 5) (M 6) (nI s) (nn (M 4 0))).getD i 0)) → f_X8_fewestBroken_b76 K (nI s) M5 := by
      intro M5 hF e2 e3 hro hrt
      unfold f_X8_fewestBroken_b76
      have hx : ∀ c k, ¬ (c = 81 ∧ (k = 15 ∨ k = 16)) → mset (mset M5 81 15 1) 81 16 (nI s) c k = M5 c k := fun c k hc => by rw [mset_at, if_neg (by omega), mset_at, if_neg (by omega)]
      have hx' : ∀ c, c ≠ 81 → mset (mset M5 81 15 1) 81 16 (nI s) c = M5 c := fun c hc => by funext k; exact hx c k (by omega)
      have hro' : RoA M s r (mset (mset M5 81 15 1) 81 16 (nI s)) := by
        unfold RoA
        rw [hx 81 12 (by omega), hx' 84 (by decide), hx' 94 (by decide), hx' 83 (by decide)]
        exact ⟨hro, hrt⟩
      have hF' : TFr M (mset (mset M5 81 15 1) 81 16 (nI s)) := fun c k d1 d2 => by rw [hx c k (by omega)]; exact hF c k d1 d2
      have e12 : mset (mset M5 81 15 1) 81 16 (nI s) 81 12 = M5 81 12 := hx 81 12 (by omega)
      have := h _ hF' (i_ros H hF' ⟨by rw [mset_at, if_neg (by omega), mset_eq]; exact bz1, fun _ => ⟨s, r, nn (M 124 4), hs, hr, mo2, mset_eq _ _ _ _, by rw [hx 81 2 (by omega)]; exact e2, by rw [hx 81 3 (by omega), e3]; exact mo1, hro'.1, hro'.2⟩⟩) hro'
      rw [e12] at this
      exact this
    have hpa : Ma 4 0 = nI (nn (M 4 0)) := (ha 4 0 (by decide)).trans pn1
    refine t_team (n := nn (M 4 0)) (s := s) pn2 hpa (fun M1 f1 f2 => ?_)
    rw [ha' 5 (by decide), ha' 6 (by decide)] at f2 ⊢
    by_cases h4 : (tmL (M 5) (M 6) (nI s) (nn (M 4 0))).length = 4
    · rw [decide_eq_true h4]
      refine ⟨fun z => absurd z (by decide), fun _ => ?_⟩
      rw [h4] at f2
      have hlt : ∀ i, i < 4 → (tmL (M 5) (M 6) (nI s) (nn (M 4 0))).getD i 0 < 24 := fun i hi => by
        have := tmL_lt (M 5) (M 6) (nI s) _ _ (getD_mem (l := tmL (M 5) (M 6) (nI s) (nn (M 4 0))) (a := i) (by omega))
        omega
      generalize htm : tmL (M 5) (M 6) (nI s) (nn (M 4 0)) = tm at *
      have e82 : M1 82 = M 82 := by funext k; rw [f1 82 k (by decide)]; exact ha 82 k (by omega)
      refine t_list (nd := fun s => nn (M 82 s)) (fun q _ => by rw [e82]; exact (hned q).1) (fun q _ => (hned q).2) (fun M2 g1 g2 => ?_)
      have hcl : ∀ a, a < (cods (fun s => nn (M 82 s))).length → (cods (fun s => nn (M 82 s))).getD a 0 < 256 := fun a ha => cods_lt (getD_mem ha)
      have hlen := cods24 (nd := fun s => nn (M 82 s)) (fun q _ => (hned q).2)
      refine t_count (tm := tm) hlen hcl g2 (fun i hi => ⟨by rw [g1 83 i (by decide) (by decide) (by decide) (by omega)]; exact f2 i hi, hlt i hi⟩) (fun M3 u1 u2 => ?_)
      have e13 : M2 13 = M 13 := by funext k; rw [g1 13 k (by decide) (by decide) (by decide) (by omega), f1 13 k (by decide)]; exact ha 13 k (by omega)
      rw [e13] at u2
      obtain ⟨la, hla⟩ := u2
      have e2 : M3 81 2 = nI r := by
        rw [u1 81 2 (by decide), g1 81 2 (by decide) (by decide) (by decide) (by decide), f1 81 2 (by decide), ← hMa, mset_nk _ _ _ (by decide), mset_eq]
      have e3 : M3 81 3 = nI (nn (M 124 4)) := by
        rw [u1 81 3 (by decide), g1 81 3 (by decide) (by decide) (by decide) (by decide), f1 81 3 (by decide), ← hMa, mset_eq]; exact mo1
      have hSH : SHC r (nn (M 124 4)) (wsh (M 13) tm) la (cods (fun s => nn (M 82 s))) M3 := ⟨hr, mo2, hlen, hcl, e2, e3, LsC.fr g2 u1, hla, fun d c => wsh_le _ _ _ _⟩
      refine t_search hSH (fun M4 v1 v2 => ?_)
      have hrR : rR M s r = rS r (nn (M 124 4)) (wsh (M 13) tm) (cods (fun s => nn (M 82 s))) 4 [] 0 none := by
        unfold rR rosS
        rw [htm, if_pos h4]
      rw [← hrR] at v2
      refine hfin M4 (fun c k d1 d2 => ?_) ?_ ?_ ?_ (fun _ => ⟨fun hne d hd => ?_, fun i hi => ?_⟩)
      · rw [v1 c k (by omega) (by omega) (by omega) (by omega) (by omega), u1 c k (by omega), g1 c k (by omega) (by omega) (by omega) (by omega), f1 c k (by omega)]
        exact ha c k (by omega)
      · rw [v1 81 2 (by decide) (by decide) (by decide) (by decide) (by decide)]; exact e2
      · rw [v1 81 3 (by decide) (by decide) (by decide) (by decide) (by decide), e3]; exact mo1.symm
      · cases hR : rR M s r with
        | none => rw [hR] at v2; exact v2
        | some x =>
          obtain ⟨b, p⟩ := x
          rw [hR] at v2
          refine ⟨v2.1, fun d hd => ?_⟩
          show M4 84 (nn (M4 94 d)) = nI (p.getD (3 - d) 0)
          rw [v1 84 _ (by decide) (by decide) (by decide) (by decide) (by omega)]
          exact (v2.2.2 d hd).2
      · cases hR : rR M s r with
        | none => rw [hR] at v2; exact absurd v2 hne
        | some x =>
          obtain ⟨b, p⟩ := x
          rw [hR] at v2
          exact (v2.2.2 d hd).1
      · rw [v1 83 i (by decide) (by decide) (by decide) (by decide) (by omega), u1 83 i (by decide), g1 83 i (by decide) (by decide) (by decide) (by omega)]
        exact f2 i hi
    · rw [decide_eq_false h4]
      refine ⟨fun _ => ?_, fun z => absurd rfl z⟩
      refine hfin M1 (fun c k d1 d2 => ?_) ?_ ?_ ?_ (fun z => absurd z h4)
      · rw [f1 c k (by omega)]; exact ha c k (by omega)
      · rw [f1 81 2 (by decide), ← hMa, mset_nk _ _ _ (by decide), mset_eq]
      · rw [f1 81 3 (by decide), ← hMa, mset_eq]
      · have hrR : rR M s r = none := by
          unfold rR rosS
          rw [if_neg h4]
        rw [hrR]
        show M1 81 12 = -9
        rw [f1 81 12 (by decide), ← hMa, mset_nk _ _ _ (by decide), mset_nk _ _ _ (by decide), mset_eq]
  unfold f_X8_fewestBroken
  refine ⟨fun _ => hfresh, fun c1 => ⟨fun _ => hfresh, fun c2 => ⟨fun _ => hfresh, fun c3 => ⟨fun _ => hfresh, fun c4 => ?_⟩⟩⟩⟩
  refine h M (fun _ _ _ _ => rfl) H ?_
  obtain ⟨j1, j2⟩ := H.J
  have hfd : M 81 15 = 1 := by
    rcases j1 with z | z
    · exact absurd z c1
    · exact z
  obtain ⟨s', r', m', b1, b2, b3, b4, b5, b6, b7, b8⟩ := j2 hfd
  have es : s' = s := by rw [b4] at c2; exact (nI_eq_iff (by omega) (by omega)).mp c2
  have er : r' = r := by rw [b5] at c3; exact (nI_eq_iff (by omega) (by omega)).mp c3
  have em : m' = nn (M 124 4) := by rw [b6, mo1] at c4; exact (nI_eq_iff (by omega) (by omega)).mp c4
  subst es er em
  exact ⟨b7, b8⟩
