theorem sgn_eq {t t' : Nat → Int32} {n : Nat} (h : ∀ q, q < n → t q = t' q) : sgn t n = sgn t' n := by
  funext p
  unfold sgn
  by_cases c : p < n
  · rw [if_pos c, if_pos c, h p c]
  · rw [if_neg c, if_neg c]
theorem okR_eq {t t' : Nat → Int32} {n : Nat} (h : ∀ q, q < n → t q = t' q) (hk : okR t n) : okR t' n := by
  obtain ⟨h1, h2⟩ := hk
  rw [h 0 (by omega), h 1 (by omega), h 2 (by omega), sgn_eq h] at h2
  exact ⟨h1, h2⟩
