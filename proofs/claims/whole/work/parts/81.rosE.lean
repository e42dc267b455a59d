/-! SHIFTS, the class: the search -/
def lgA (M : Mem) (s : Nat) : Int64 := jnL (M 95 (2 * s)) (M 95 (2 * s + 1))
def kyp (r : Nat) (pre : List Nat) : Int64 := lN (keyN pre.length (SU r pre) (LN r pre))
def Tab (r most : Nat) (w : Nat → Nat → Nat) (cs : List Nat) (Q : List Nat → Nat → Prop) (acc : Ar) (M : Mem) : Prop :=
  ∀ s, s < 1024 → lgA M s = -1 ∨ ∃ pre b, pre.length < 4 ∧ lgA M s = kyp r pre ∧ M 96 s = nI b ∧ b ≤ 16 ∧ (dmn b acc (lvR r most w cs (4 - pre.length) pre) ∨ Q pre b)
theorem Tab.mono {r most : Nat} {w : Nat → Nat → Nat} {cs : List Nat} {Q Q' : List Nat → Nat → Prop} {acc : Ar} {M : Mem} (h : Tab r most w cs Q acc M) (hq : ∀ p b, p.length < 4 → Q p b → dmn b acc (lvR r most w cs (4 - p.length) p) ∨ Q' p b) : Tab r most w cs Q' acc M := fun s hs => by
  rcases h s hs with e | ⟨pre, b, h1, h2, h3, h4, h5⟩
  · exact Or.inl e
  · refine Or.inr ⟨pre, b, h1, h2, h3, h4, ?_⟩
    rcases h5 with q | q
    · exact Or.inl q
    · exact hq pre b h1 q
theorem Tab.imp {r most : Nat} {w : Nat → Nat → Nat} {cs : List Nat} {Q : List Nat → Nat → Prop} {acc acc' : Ar} {M : Mem} (h : Tab r most w cs Q acc M) (hi : imp acc acc') : Tab r most w cs Q acc' M := fun s hs => by
  rcases h s hs with e | ⟨pre, b, h1, h2, h3, h4, h5⟩
  · exact Or.inl e
  · refine Or.inr ⟨pre, b, h1, h2, h3, h4, ?_⟩
    rcases h5 with q | q
    · exact Or.inl (dmn.imp q hi)
    · exact Or.inr q
theorem Tab.fr {r most : Nat} {w : Nat → Nat → Nat} {cs : List Nat} {Q : List Nat → Nat → Prop} {acc : Ar} {M M' : Mem} (h : Tab r most w cs Q acc M) (e1 : M' 95 = M 95) (e2 : M' 96 = M 96) : Tab r most w cs Q acc M' := fun s hs => by
  have := h s hs
  unfold lgA at this ⊢
  rw [e1, e2]
  exact this
theorem kyp_alk {r : Nat} {cs pre pre' : List Nat} (h1 : pre.length < 4) (h2 : pre'.length < 4) (h : kyp r pre' = kyp r pre) : alk r cs pre pre' := by
  have hk := lN_inj (keyN_lt h2 (SU_lt (by omega)) (LN_lt r pre')) (keyN_lt h1 (SU_lt (by omega)) (LN_lt r pre)) h
  obtain ⟨a1, a2, a3⟩ := keyN_inj h2 (SU_lt (by omega)) h1 (SU_lt (by omega)) hk
  refine ⟨a1, fun hr c _ => ?_, fun hr i hi => ?_, fun hr i hi => ?_⟩
  · have : hdN pre' = hdN pre := by
      unfold LN at a3
      rw [if_pos hr, if_pos hr] at a3
      exact a3
    rw [rsB_v, rsB_v, this]
  · have e1 := SU_S (r := r) (pre := pre) (by omega) i hi
    have e2 := SU_S (r := r) (pre := pre') (by omega) i hi
    rw [a2] at e2
    have e3 := e2.symm.trans e1
    unfold fS at e3
    rw [if_pos hr, if_pos hr] at e3
    exact e3
  · have e1 := SU_N (r := r) (pre := pre) (by omega) i hi
    have e2 := SU_N (r := r) (pre := pre') (by omega) i hi
    rw [a2] at e2
    have e3 := e2.symm.trans e1
    unfold fN at e3
    rw [if_pos hr, if_pos hr] at e3
    exact e3
theorem t_seen {r most : Nat} {w : Nat → Nat → Nat} {cs : List Nat} {Q : List Nat → Nat → Prop} {acc : Ar} {pre : List Nat} {cost : Nat} (hp : pre.length < 4) (hc : cost ≤ 16) (hQ : ∀ p b, Q p b → p.length < pre.length) {M : Mem} (hT : Tab r most w cs Q acc M) {K : Int32 → Mem → Prop}
    (h1 : dmn cost acc (lvR r most w cs (4 - pre.length) pre) → K 1 M) (h0 : ∀ M', (∀ c k, c ≠ 95 → c ≠ 96 → M' c k = M c k) → Tab r most w cs (fun p b => Q p b ∨ (p = pre ∧ b = cost)) acc M' → K 0 M') : f_X8_isSeen (kyp r pre) (nI cost) M K := by
  have hky : kyp r pre = lN (keyN pre.length (SU r pre) (LN r pre)) := rfl
  have hkn : ¬ kyp r pre = -1 := lN_m1 (keyN_lt hp (SU_lt (by omega)) (LN_lt r pre))
  unfold f_X8_isSeen
  obtain ⟨j0, hj0, ej0⟩ := slo_v ((kyp r pre * (-7046029254386353131 : Int64)).toUInt64 >>> ((40 : Int32).toInt64.toUInt64 &&& Int64.toUInt64 63)).toInt64
  rw [ej0]
  refine Lp.up (fun i a => ∃ sl, a = (kyp r pre, nI cost, nI sl, nI i, M) ∧ sl < 1024) 1024 (fun i a r' hi ha hr => ?_) (j := 0) (by omega) ⟨j0, rfl, hj0⟩
  obtain ⟨sl, rfl, hsl⟩ := ha
  have hput : f_X8_isSeen_b77 K (kyp r pre) (nI cost) (nI sl) M := by
    unfold f_X8_isSeen_b77
    refine ⟨vin_nI hsl (by decide), vin_nI hsl (by decide), ?_⟩
    rw [nI_cl sl (by omega)]
    refine h0 _ (fun c k d1 d2 => by rw [mset_ne _ _ _ d2, mset_ne _ _ _ d1, mset_ne _ _ _ d1]) (fun s hs => ?_)
    by_cases e : s = sl
    · subst e
      refine Or.inr ⟨pre, cost, hp, ?_, mset_eq _ _ _ _, hc, Or.inr (Or.inr ⟨rfl, rfl⟩)⟩
      unfold lgA
      rw [mset_ne _ _ _ (by decide), mset_row, upd_n _ _ (by omega), mset_eq, upd_s, jnL_eq]
    · have e1 : lgA (mset (mset (mset M 95 (2 * sl) (loL (kyp r pre))) 95 (2 * sl + 1) (hiL (kyp r pre))) 96 sl (nI cost)) s = lgA M s := by
        unfold lgA
        rw [mset_ne _ _ _ (by decide), mset_row, upd_n _ _ (by omega), upd_n _ _ (by omega), mset_row, upd_n _ _ (by omega), upd_n _ _ (by omega)]
      have e2 : mset (mset (mset M 95 (2 * sl) (loL (kyp r pre))) 95 (2 * sl + 1) (hiL (kyp r pre))) 96 sl (nI cost) 96 s = M 96 s := by
        rw [mset_nk _ _ _ e, mset_ne _ _ _ (by decide), mset_ne _ _ _ (by decide)]
      rw [e1, e2]
      rcases hT s hs with z | ⟨p, b, z1, z2, z3, z4, z5⟩
      · exact Or.inl z
      · refine Or.inr ⟨p, b, z1, z2, z3, z4, ?_⟩
        rcases z5 with q | q
        · exact Or.inl q
        · exact Or.inr (Or.inl q)
  have hb51 : f_X8_isSeen_b51 r' K (kyp r pre) (nI cost) (nI sl) (nI i) M ↔ f_X8_isSeen_b51 r' K (kyp r pre) (nI cost) (nI sl) (nI i) M := Iff.rfl
  unfold f_X8_isSeen_c18
  dsimp only
  rw [show (1024 : Int32) = nI 1024 from rfl, nI_le_iff (by omega) (by omega)]
  refine ⟨fun c => h0 M (fun _ _ _ _ => rfl) (Tab.mono hT (fun p b _ q => Or.inr (Or.inl q))), fun c => ?_⟩
  have hnext : f_X8_isSeen_b51 r' K (kyp r pre) (nI cost) (nI sl) (nI i) M := by
    unfold f_X8_isSeen_b51
    refine ⟨vin_nI hsl (by decide), fun _ => hput, fun _ => ⟨vin_nI hsl (by decide), fun _ => ?_, fun _ => hput⟩⟩
    have es : (nI sl + 1) &&& (1023 : Int32) = nI ((sl + 1) % 1024) := by
      rw [nI_1]
      exact pk_andN (n := sl + 1) (by omega) (m := 1023) 10 rfl
    rw [es, nI_1]
    exact hr (by omega) _ ⟨(sl + 1) % 1024, rfl, Nat.mod_lt _ (by decide)⟩
  refine ⟨vin_nI hsl (by decide), fun _ => hnext, fun hk => ⟨vin_nI hsl (by decide), fun _ => hnext, fun hle => ?_⟩⟩
  rw [lg_cmp_eq, nI_cl sl (by omega)] at hk
  rw [nI_cl sl (by omega)] at hle
  have hk' : lgA M sl = kyp r pre := hk
  rcases hT sl hsl with z | ⟨p, b, z1, z2, z3, z4, z5⟩
  · exact absurd (hk'.symm.trans z) hkn
  · have hal := kyp_alk (cs := cs) hp z1 (z2.symm.trans hk')
    rw [z3, nI_lt_iff (by omega) (by omega)] at hle
    rcases z5 with q | q
    · refine h1 (fun x hx => ?_)
      have hx' := lvR_alk (w := w) (most := most) (4 - pre.length) pre p hal x hx
      rw [← hal.1] at hx'
      obtain ⟨y, ey, ly⟩ := q x hx'
      exact ⟨y, ey, by omega⟩
    · have := hQ p b q
      have := hal.1
      omega
/-- what the search is given -/
def SHC (r most : Nat) (w : Nat → Nat → Nat) (la : Nat → Nat) (cs : List Nat) (M : Mem) : Prop :=
  r < 8 ∧ most ≤ 4 ∧ cs.length ≤ 24 ∧ (∀ a, a < cs.length → cs.getD a 0 < 256) ∧ M 81 2 = nI r ∧ M 81 3 = nI most ∧ LsC cs M ∧ LsB cs w la M ∧ ∀ d c, w d c ≤ 4
/-- the class's search, at a way -/
def RC (M0 : Mem) (r most : Nat) (w : Nat → Nat → Nat) (cs : List Nat) (Q : List Nat → Nat → Prop) (pre : List Nat) (acc : Ar) (M : Mem) : Prop :=
  (∀ c k, c ≠ 93 → c ≠ 94 → c ≠ 95 → c ≠ 96 → ¬ (c = 81 ∧ k = 12) → M c k = M0 c k) ∧
  (match acc with | none => M 81 12 = -9 | some (b, p) => M 81 12 = nI b ∧ b ≤ 16 ∧ ∀ d, d < 4 → vp_in (M 94 d) 24 ∧ M0 84 (nn (M 94 d)) = nI (p.getD (3 - d) 0)) ∧
  (∀ k, k < pre.length → vp_in (M 93 k) 24 ∧ M0 84 (nn (M 93 k)) = nI (pre.getD (pre.length - 1 - k) 0)) ∧ Tab r most w cs Q acc M
theorem t_keep {M0 : Mem} {r most : Nat} {w : Nat → Nat → Nat} {cs : List Nat} {Q : List Nat → Nat → Prop} {pre : List Nat} {acc : Ar} {cost : Nat} (hp : pre.length = 4) (hc : cost ≤ 16) (hi : imp acc (some (cost, pre))) {M : Mem} (hM : RC M0 r most w cs Q pre acc M) {K : Mem → Prop}
    (h : ∀ M', RC M0 r most w cs Q pre (some (cost, pre)) M' → K M') : f_X8_keepChosen (nI cost) M K := by
  obtain ⟨c1, c2, c3, c4⟩ := hM
  unfold f_X8_keepChosen
  refine Lp.up (fun d a => ∃ M', a = (nI d, M') ∧ (∀ c k, c ≠ 94 → ¬ (c = 81 ∧ k = 12) → M' c k = M c k) ∧ M' 81 12 = nI cost ∧ ∀ k, k < d → M' 94 k = M 93 k) 4 (fun d a r' hd ha hr => ?_) (j := 0) (by omega) ⟨_, rfl, fun c k d1 d2 => by rw [mset_at, if_neg d2], mset_eq _ _ _ _, fun k hk => absurd hk (by omega)⟩
  obtain ⟨M', rfl, f1, f2, f3⟩ := ha
  unfold f_X8_keepChosen_c7
  dsimp only
  rw [lq_4 (by omega)]
  refine ⟨fun c => h M' ⟨fun c k d1 d2 d3 d4 d5 => ?_, ⟨f2, hc, fun d' hd' => ?_⟩, fun k hk => ?_, ?_⟩, fun c => ⟨vin_nI (by omega) (by decide), vin_nI (by omega) (by decide), ?_⟩⟩
  · rw [f1 c k d2 d5]; exact c1 c k d1 d2 d3 d4 d5
  · rw [f3 d' (by omega)]
    have := c3 d' (by omega)
    rw [hp] at this
    exact this
  · rw [f1 93 k (by decide) (by omega)]; exact c3 k hk
  · refine Tab.fr (Tab.imp c4 hi) ?_ ?_
    · funext k; exact f1 95 k (by decide) (by omega)
    · funext k; exact f1 96 k (by decide) (by omega)
  · rw [nI_1, nI_cl d (by omega)]
    refine hr (by omega) _ ⟨_, rfl, fun c k d1 d2 => ?_, ?_, fun k hk => ?_⟩
    · rw [mset_ne _ _ _ d1]; exact f1 c k d1 d2
    · rw [mset_ne _ _ _ (by decide)]; exact f2
    · rw [mset_row, upd_at]
      by_cases e : k = d
      · subst e; rw [if_pos rfl]; exact f1 93 k (by decide) (by omega)
      · rw [if_neg e]; exact f3 k (by omega)
theorem take_s {cs : List Nat} {a : Nat} (h : a < cs.length) : cs.take (a + 1) = cs.take a ++ [cs.getD a 0] := by
  rw [List.take_succ, List.getD_eq_getElem?_getD, List.getElem?_eq_getElem h]
  rfl
theorem apart_fld {r : Nat} {pre : List Nat} {m : Nat} (hp : pre.length ≤ 4) : (∃ i j, i < 4 ∧ j < 4 ∧ SU r pre / 2 ^ (3 * j) % 8 + 2 + m ≤ SU r pre / 2 ^ (3 * i) % 8) ↔ (r / 4 % 2 = 1 ∧ apart m pre) := by
  have hN := SU_N (r := r) hp
  constructor
  · rintro ⟨i, j, hi, hj, hc⟩
    rw [hN i hi, hN j hj] at hc
    unfold fN at hc
    by_cases q : r / 4 % 2 = 1
    · rw [if_pos q, if_pos q] at hc
      exact ⟨q, i, j, hi, hj, hc⟩
    · rw [if_neg q, if_neg q] at hc
      omega
  · rintro ⟨q, i, j, hi, hj, hc⟩
    refine ⟨i, j, hi, hj, ?_⟩
    rw [hN i hi, hN j hj]
    unfold fN
    rw [if_pos q, if_pos q]
    exact hc
theorem k_rs {M0 : Mem} {r most : Nat} {w : Nat → Nat → Nat} {la : Nat → Nat} {cs : List Nat} (H : SHC r most w la cs M0) : ∀ (f : Nat) (pre : List Nat) (m cost : Nat) (Q : List Nat → Nat → Prop) (acc : Ar) (M : Mem) (K : Mem → Prop), m < f → pre.length + m = 4 → cost ≤ 4 * pre.length → (∀ p b, Q p b → p.length < pre.length) →
    (m = 0 → faO r pre = true) → RC M0 r most w cs Q pre acc M → (∀ M', RC M0 r most w cs Q pre (rS r most w cs m pre cost acc) M' → K M') → fr_rs f (nI pre.length) (nI (SU r pre)) (nI (LN r pre)) (nI cost) M K := by
  intro f
  induction f with
  | zero => intro pre m cost Q acc M K h; exact absurd h (by omega)
  | succ f ih =>
    intro pre m cost Q acc M K hf hm hcost hQ hfa hM h
    have H' := H
    obtain ⟨hr8, hm4, hlen, hcs, e2, e3, hLC, hLB, hw4⟩ := H'
    have hM' := hM
    obtain ⟨c1, c2, c3, c4⟩ := hM'
    show f_X8_searchFrom (fr_rs f) (nI pre.length) (nI (SU r pre)) (nI (LN r pre)) (nI cost) M K
    have key : (∀ b p, acc = some (b, p) → m = 0 → cost < b) → f_X8_searchFrom_b31 (fr_rs f) K (nI pre.length) (nI (SU r pre)) (nI (LN r pre)) (nI cost) M := by
      intro hbest
      unfold f_X8_searchFrom_b31
      rw [show (4 : Int32) = nI 4 from rfl, nI_eq_iff (by omega) (by omega)]
      refine ⟨fun c => ?_, fun c => ?_⟩
      · obtain ⟨m', rfl⟩ : ∃ m', m = m' + 1 := ⟨m - 1, by omega⟩
        have hkv := key_v (d := pre.length) (s := SU r pre) (ln := LN r pre) (by omega) (SU_lt (by omega)) (LN_lt r pre)
        rw [hkv]
        refine t_seen (r := r) (most := most) (w := w) (cs := cs) (Q := Q) (acc := acc) (pre := pre) (by omega) (by omega) hQ c4 (fun hd => ⟨fun _ => h M ?_, fun z => absurd z (by decide)⟩) (fun M1 g1 g2 => ⟨fun z => absurd rfl z, fun _ => ?_⟩)
        · rw [show 4 - pre.length = m' + 1 by omega] at hd
          rw [rS_dom r most w cs (m' + 1) pre cost acc hd]
          exact hM
        · have hQ' : ∀ p b, (Q p b ∨ (p = pre ∧ b = cost)) → p.length < pre.length + 1 := by
            rintro p b (q | ⟨rfl, rfl⟩)
            · have := hQ p b q; omega
            · omega
          unfold f_X8_searchOn
          refine Lp.up (fun a x => ∃ M', x = (nI pre.length, nI (SU r pre), nI (LN r pre), nI cost, nI a, M') ∧ RC M0 r most w cs (fun p b => Q p b ∨ (p = pre ∧ b = cost)) pre (rA r most w cs m' pre cost (cs.take a) acc) M') cs.length (fun a x r' ha hx hr => ?_) (j := 0) (by omega) ⟨M1, rfl, ?_⟩
          · obtain ⟨M2, rfl, hC⟩ := hx
            have hC' := hC
            obtain ⟨d1, d2, d3, d4⟩ := hC'
            have eL : M2 81 4 = nI cs.length := (d1 81 4 (by decide) (by decide) (by decide) (by decide) (by decide)).trans hLC.1
            have e2' : M2 81 2 = nI r := (d1 81 2 (by decide) (by decide) (by decide) (by decide) (by decide)).trans e2
            have e3' : M2 81 3 = nI most := (d1 81 3 (by decide) (by decide) (by decide) (by decide) (by decide)).trans e3
            unfold f_X8_searchOn_c3 f_X8_searchOn_b113
            dsimp only
            rw [eL, nI_le_iff (by omega) (by omega)]
            refine ⟨fun c5 => ?_, fun c5 => ⟨vin_nI (by omega) (by decide), ?_⟩⟩
            · refine h M2 ?_
              rw [show a = cs.length by omega, List.take_length, ← rS_s] at hC
              obtain ⟨u1, u2, u3, u4⟩ := hC
              refine ⟨u1, u2, u3, Tab.mono u4 (fun p b hp4 q => ?_)⟩
              rcases q with q | ⟨rfl, rfl⟩
              · exact Or.inr q
              · refine Or.inl ?_
                rw [show 4 - p.length = m' + 1 by omega]
                exact rS_made r most w cs (m' + 1) p b acc
            · obtain ⟨l1, l2, l3⟩ := hLC.2 a (by omega)
              have hcc := hcs a (by omega)
              generalize hcv : cs.getD a 0 = cc at l1 l2 l3 hcc
              have l2' : M2 85 a = nI (nt cc) := (d1 85 a (by decide) (by decide) (by decide) (by decide) (by omega)).trans l2
              have l3' : M2 86 a = nI (bd cc) := (d1 86 a (by decide) (by decide) (by decide) (by decide) (by omega)).trans l3
              have hst := rA_snoc r most w cs m' pre cost (cs.take a) cc acc
              rw [← hcv, ← take_s (by omega), hcv] at hst
              have hskip : (stO r most pre cc = true → rS r most w cs m' (cc :: pre) (cost + w pre.length cc) (rA r most w cs m' pre cost (cs.take a) acc) = rA r most w cs m' pre cost (cs.take a) acc) → r' (nI pre.length, nI (SU r pre), nI (LN r pre), nI cost, nI a + 1, M2) := by
                intro hz
                rw [nI_1]
                refine hr (by omega) _ ⟨M2, rfl, ?_⟩
                rw [hst]
                by_cases q : stO r most pre cc = true
                · rw [if_pos q, hz q]; exact hC
                · rw [if_neg q]; exact hC
              rw [nI_cl a (by omega), l3']
              have hrb : (r % 2 = 1 → rsB pre cc = true) ↔ nI (LN r pre) &&& nI (bd cc) = 0 := by
                rw [rsB_v, decide_eq_true_iff]
                unfold LN
                by_cases q : r % 2 = 1
                · rw [if_pos q]; exact ⟨fun z => z q, fun z _ => z⟩
                · rw [if_neg q, show nI 0 = 0 from rfl, Int32.zero_and]
                  exact ⟨fun _ => rfl, fun _ z => absurd z q⟩
              refine ⟨fun hz => ?_, fun hz => hskip (fun q => absurd ((hrb.mp (stO_iff.mp q).1)) hz)⟩
              refine t_cby hr8 hcc (by omega) e2' l2' l3' ?_
              rw [nI_add, ← SU_c]
              have hSl := SU_lt (r := r) (pre := cc :: pre) (by rw [List.length_cons]; omega)
              have hSS := SU_S (r := r) (pre := cc :: pre) (by rw [List.length_cons]; omega)
              refine t_many hSl hm4 e3' (fun hex => ⟨fun _ => hskip (fun q => ?_), fun z => absurd z (by decide)⟩) (fun hall => ⟨fun z => absurd rfl z, fun _ => ?_⟩)
              · obtain ⟨i, hi, hlt⟩ := hex
                rw [hSS i hi] at hlt
                unfold fS at hlt
                by_cases q2 : r / 2 % 2 = 1
                · rw [if_pos q2] at hlt
                  have := (stO_iff.mp q).2 q2 i hi
                  omega
                · rw [if_neg q2] at hlt
                  omega
              · have hsto : stO r most pre cc = true := stO_iff.mpr ⟨hrb.mpr hz, fun q2 i hi => by
                  have := hall i hi
                  rw [hSS i hi] at this
                  unfold fS at this
                  rw [if_pos q2] at this
                  exact this⟩
                rw [show (3 : Int32) = nI 3 from rfl, nI_sb (by omega) (by omega), show 3 - pre.length = m' by omega]
                refine t_unfair hSl (by omega) (fun hex => ⟨fun z => absurd z (by decide), fun _ => hskip (fun _ => ?_)⟩) (fun hnex => ⟨fun _ => ⟨vin_nI (by omega) (by decide), ?_⟩, fun z => absurd rfl z⟩)
                · rw [apart_fld (by rw [List.length_cons]; omega)] at hex
                  refine rS_dom r most w cs m' (cc :: pre) _ _ ?_
                  rw [lvR_apart hex.1 m' (cc :: pre) hex.2]
                  intro x hx
                  exact absurd hx (List.not_mem_nil)
                · rw [apart_fld (by rw [List.length_cons]; omega)] at hnex
                  have hgo : ∀ ln, ln = nI (LN r (cc :: pre)) → f_X8_searchOn_b88 (fr_rs f) r' K (nI pre.length) (nI (SU r pre)) (nI (LN r pre)) (nI cost) (nI a) (nI (SU r (cc :: pre))) ln (mset M2 93 pre.length (nI a)) := by
                    intro ln eln
                    subst eln
                    unfold f_X8_searchOn_b88 f_X8_searchOn_b113
                    refine ⟨vin_nI (by omega) (by decide), vin_nI (by omega) (by decide), ?_⟩
                    have eb : mset M2 93 pre.length (nI a) (88 + 1 * pre.length) a = nI (w pre.length cc) := by
                      rw [mset_ne _ _ _ (by omega), Nat.one_mul, d1 _ a (by omega) (by omega) (by omega) (by omega) (by omega), hLB.1 pre.length a (by omega) (by omega), hcv]
                    rw [nI_cl pre.length (by omega), nI_cl a (by omega), eb, nI_add, nI_1, nI_1, show pre.length + 1 = (cc :: pre).length from rfl]
                    have hwc := hw4 pre.length cc
                    refine ih (cc :: pre) m' (cost + w pre.length cc) (fun p b => Q p b ∨ (p = pre ∧ b = cost)) (rA r most w cs m' pre cost (cs.take a) acc) _ _ (by omega) (by rw [List.length_cons]; omega) (by rw [List.length_cons]; omega) hQ' (fun z => faO_iff.mpr (fun q z' => hnex ⟨q, by rw [z]; exact z'⟩)) ⟨fun c k v1 v2 v3 v4 v5 => ?_, ?_, fun k hk => ?_, ?_⟩ (fun M3 hM3 => ?_)
                    · rw [mset_ne _ _ _ v1]; exact d1 c k v1 v2 v3 v4 v5
                    · rw [mset_ne _ _ _ (by decide), mset_ne _ _ _ (by decide)]; exact d2
                    · rw [List.length_cons] at hk
                      rw [mset_row, upd_at]
                      by_cases e : k = pre.length
                      · subst e
                        rw [if_pos rfl]
                        refine ⟨vin_nI (by omega) (by decide), ?_⟩
                        rw [nn_nI a (by omega), l1, List.length_cons, Nat.add_sub_cancel, Nat.sub_self]
                        rfl
                      · rw [if_neg e, List.length_cons, Nat.add_sub_cancel, show pre.length - k = (pre.length - 1 - k) + 1 by omega, List.getD_cons_succ]
                        exact d3 k (by omega)
                    · exact Tab.fr d4 (mset_ne _ _ _ (by decide)) (mset_ne _ _ _ (by decide))
                    · refine hr (by omega) _ ⟨M3, rfl, ?_⟩
                      rw [hst, if_pos hsto]
                      obtain ⟨u1, u2, u3, u4⟩ := hM3
                      refine ⟨u1, u2, fun k hk => ?_, u4⟩
                      have := u3 k (by rw [List.length_cons]; omega)
                      rw [List.length_cons, Nat.add_sub_cancel, show pre.length - k = (pre.length - 1 - k) + 1 by omega, List.getD_cons_succ] at this
                      exact this
                  have h1 := fl_1 ⟨r, hr8⟩
                  simp only at h1
                  rw [e2', h1, nI_cl pre.length (by omega), l2']
                  have hLc : LN r (cc :: pre) = if r % 2 = 1 then nt cc else 0 := rfl
                  refine ⟨fun q => hgo 0 ?_, fun q => ⟨vin_nI (by omega) (by decide), hgo _ ?_⟩⟩
                  · rw [hLc, if_neg q]; rfl
                  · rw [hLc, if_pos (by omega)]
          · rw [List.take_zero]
            refine ⟨fun c k v1 v2 v3 v4 v5 => ?_, ?_, fun k hk => ?_, g2⟩
            · rw [g1 c k v3 v4]; exact c1 c k v1 v2 v3 v4 v5
            · rw [show rA r most w cs m' pre cost [] acc = acc from rfl, g1 81 12 (by decide) (by decide)]
              have e94 : M1 94 = M 94 := by funext k; exact g1 94 k (by decide) (by decide)
              rw [e94]
              exact c2
            · rw [g1 93 k (by decide) (by decide)]; exact c3 k hk
      · have hm0 : m = 0 := by omega
        subst hm0
        have hrs : rS r most w cs 0 pre cost acc = some (cost, pre) := by
          rw [rS_z, if_pos (hfa rfl)]
          cases acc with
          | none => rfl
          | some x =>
            obtain ⟨b, p⟩ := x
            exact if_pos (hbest b p rfl rfl)
        rw [hrs] at h
        refine t_keep (by omega) (by omega) (fun p e => ⟨(cost, pre), rfl, ?_⟩) hM h
        obtain ⟨b, q⟩ := p
        exact Nat.le_of_lt (hbest b q e rfl)
    unfold f_X8_searchFrom
    rw [show (4 : Int32) = nI 4 from rfl, nI_lt_iff (by omega) (by omega)]
    refine ⟨fun z => absurd z (by omega), fun _ => ?_⟩
    cases acc with
    | none =>
      have e12 : M 81 12 = -9 := c2
      rw [e12]
      exact ⟨fun _ => key (fun b p e => by cases e), fun z => absurd rfl z⟩
    | some x =>
      obtain ⟨b, p⟩ := x
      obtain ⟨e12, hb16, -⟩ := c2
      have hla := hLB.2.1 pre.length (by omega)
      have hlb := hLB.2.2.2.1 pre.length (by omega)
      rw [e12]
      refine ⟨fun z => absurd z (nI_n9 (by omega)), fun _ => ⟨vin_nI (by omega) (by decide), ?_⟩⟩
      rw [nI_cl pre.length (by omega), c1 92 pre.length (by decide) (by decide) (by decide) (by decide) (by omega), hla, nI_add, nI_lt_iff (by omega) (by omega)]
      refine ⟨fun z => key (fun b' p' e _ => by cases e; omega), fun z => h M ?_⟩
      rw [rS_dom r most w cs m pre cost (some (b, p)) (fun x hx => ⟨(b, p), rfl, ?_⟩)]
      · exact hM
      · have := lvR_least hLB.2.2.1 (fun d c hd hc => by
          obtain ⟨i, hi, e⟩ := List.getElem_of_mem hc
          have := hLB.2.2.2.2 d i hd hi
          rw [List.getD_eq_getElem?_getD, List.getElem?_eq_getElem hi] at this
          simp only [Option.getD_some] at this
          rw [e] at this
          exact this) m pre hm x hx
        show b ≤ cost + x
        omega
