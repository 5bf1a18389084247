/-! plain facts for the pure part -/
theorem v_loop_run {α β : Type} {body : α → Option (α ⊕ β)} (f : Nat → α) (r : β) : ∀ (m n : Nat), m < n → (∀ i, i < m → body (f i) = some (.inl (f (i + 1)))) → body (f m) = some (.inr r) → v_loop body n (f 0) = some r := by
  intro m
  induction m generalizing f with
  | zero =>
    intro n hn _ hx
    obtain ⟨k, rfl⟩ : ∃ k, n = k + 1 := ⟨n - 1, by omega⟩
    simp [v_loop, hx]
  | succ m ih =>
    intro n hn hs hx
    obtain ⟨k, rfl⟩ : ∃ k, n = k + 1 := ⟨n - 1, by omega⟩
    have h0 := hs 0 (by omega)
    have h1 := ih (fun i => f (i + 1)) k (by omega) (fun i hi => hs (i + 1) (by omega)) hx
    simp only [v_loop, h0]
    exact h1
theorem v_loop_FU {α β : Type} {body : α → Option (α ⊕ β)} (f : Nat → α) (r : β) (m : Nat) (hm : m < 100000) (hs : ∀ i, i < m → body (f i) = some (.inl (f (i + 1)))) (hx : body (f m) = some (.inr r)) : v_loop body FU (f 0) = some r := v_loop_run f r m FU (by rw [FU_eq]; exact hm) hs hx
theorem p_in_nI {n k : Nat} (h : k < n) (hn : n < 2 ^ 31) : p_in n (nI k) = some k := by
  unfold p_in
  rw [if_pos (nI_in h hn), nI_clamp (by omega)]
theorem b_neg (x y : Int64) : (lg_cmp x y < 0) ↔ x < y := by
  unfold lg_cmp
  by_cases h1 : y < x
  · have h2 : ¬ x < y := lg_lt_not h1
    simp [h1, h2]
  · by_cases h2 : x = y
    · subst h2; simp
    · have h3 : x < y := by
        rcases Int64.lt_or_eq_of_le (Int64.not_lt.mp h1) with h | h
        · exact h
        · exact absurd h h2
      simp [h1, h2, h3]
theorem b_pos (x y : Int64) : (0 < lg_cmp x y) ↔ y < x := by
  unfold lg_cmp
  by_cases h1 : y < x
  · simp [h1]
  · by_cases h2 : x = y
    · subst h2; simp
    · simp [h1, h2]
theorem b_64lt (x y : Int32) : x.toInt64 < y.toInt64 ↔ x < y := by
  rw [Int64.lt_iff_toInt_lt, Int32.lt_iff_toInt_lt, Int32.toInt_toInt64, Int32.toInt_toInt64]
theorem b_lies (p lo hi : Int32) : h_X10_lies p lo hi = some (if lo ≤ p ∧ p ≤ hi then 1 else 0) := by
  unfold h_X10_lies
  by_cases h1 : p < lo
  · rw [if_pos h1, if_neg (fun q => absurd h1 (Int32.not_lt.mpr q.1))]
  · rw [if_neg h1]
    by_cases h2 : hi < p
    · rw [if_pos h2, if_neg (fun q => absurd h2 (Int32.not_lt.mpr q.2))]
    · rw [if_neg h2, if_pos ⟨Int32.not_lt.mp h1, Int32.not_lt.mp h2⟩]
theorem b_isUpTo (p hi : Int32) : h_X9_isUpTo p.toInt64 hi = some (if 0 ≤ p ∧ p ≤ hi then 1 else 0) := by
  unfold h_X9_isUpTo
  simp only [b_neg, b_pos]
  have e0 : (p.toInt64 < 0) ↔ p < 0 := by
    have := b_64lt p 0
    exact this
  simp only [e0, b_64lt]
  by_cases h1 : p < 0
  · rw [if_pos h1, if_neg (fun q => absurd h1 (Int32.not_lt.mpr q.1))]
  · rw [if_neg h1]
    by_cases h2 : hi < p
    · rw [if_pos h2, if_neg (fun q => absurd h2 (Int32.not_lt.mpr q.2))]
    · rw [if_neg h2, if_pos ⟨Int32.not_lt.mp h1, Int32.not_lt.mp h2⟩]
