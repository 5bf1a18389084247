noncomputable section sp98h
theorem nI_mul' (a b : Nat) : nI a * nI b = nI (a * b) := (Int32.ofNat_mul a b).symm
theorem wd_at {i : Nat} (h : i < 123) : p_wd (nI i) = some (v_wordsT.getD i 0) := by
  unfold p_wd
  rw [if_pos (nI_in h (by decide)), nI_clamp (by omega)]
/-! the model's words -/
theorem m_word {I : v_I} {b : Nat → Nat} {k e : Nat} (hW : rW I) (hke : k < e) (he : e ≤ 400) (hb : ∀ i, k ≤ i → i < e → b i < 128 ∧ I 56 i = nI (b i)) : h_X10_wordOf I (nI k) (nI e) = some (nI (mi (wx b k e))) := by
  have B18 : ∀ j, j < 25 → ∀ w3, v_loop (h_X10_wordOf_B18 I (nI k) (nI e) w3 (nI (oM j))) FU (0 : Int32) = some (nI (wM j).length) := by
    intro j hj w3
    obtain ⟨a1, a2, a3⟩ := oM_s j hj
    have := v_loop_FU (body := h_X10_wordOf_B18 I (nI k) (nI e) w3 (nI (oM j))) (fun i => nI i) (nI (wM j).length) (wM j).length (by omega) (fun i hi => by
      unfold h_X10_wordOf_B18
      rw [nI_add, p_in_nI (by omega) (by decide), p_bs, hW _ (by omega), if_neg (oM_l j hj i hi).2.1, p_le, ← nI_succ]) (by
      unfold h_X10_wordOf_B18
      rw [nI_add, p_in_nI a2 (by decide), p_bs, hW _ a2, if_pos (oM_b j hj)])
    exact this
  have B57 : ∀ j, j < 25 → (wM j).length = e - k → ∀ w3, wp (v_loop (h_X10_wordOf_B57 I (nI k) (nI e) w3 (nI (oM j)) (nI (wM j).length)) FU ((1 : Int32), (0 : Int32))) (fun q => q.1 = if wM j = wx b k e then 1 else 0) := by
    intro j hj hl w3
    obtain ⟨a1, a2, a3⟩ := oM_s j hj
    refine wp_loop (fun i s => (s = ((1 : Int32), nI i) ∧ ∀ t, t < i → (wM j).getD t 0 = b (k + t)) ∨ (s.1 = 0 ∧ ¬ wM j = wx b k e)) (wM j).length (by omega) (.inl ⟨rfl, fun t ht => absurd ht (by omega)⟩) (fun i s hi hI => ?_)
    rcases hI with ⟨rfl, hI⟩ | ⟨h0, hI⟩
    · unfold h_X10_wordOf_B57
      dsimp only
      by_cases q : i < (wM j).length
      · obtain ⟨l1, l2, l3⟩ := oM_l j hj i q
        obtain ⟨b1, b2⟩ := hb (k + i) (by omega) (by omega)
        rw [if_neg (nI_ge q (by omega)), if_neg (by decide), nI_add, p_in_nI (by omega) (by decide), p_bs, nI_add, p_in_nI (by omega) (by decide), p_bs, hW _ (by omega), l1, b2]
        unfold h_X10_wordOf_J57_96
        rw [p_le, p_le, ← nI_succ]
        by_cases w : (wM j).getD i 0 = b (k + i)
        · rw [if_pos (by rw [w])]
          refine wp_some.mpr ⟨q, .inl ⟨rfl, fun t ht => ?_⟩⟩
          by_cases u : t = i
          · rw [u]; exact w
          · exact hI t (by omega)
        · rw [if_neg (fun u => w ((nI_eq (by omega) (by omega)).mp u))]
          exact wp_some.mpr ⟨q, .inr ⟨rfl, fun u => w ((wx_eq.mp u).2 i q)⟩⟩
      · rw [if_pos (nI_le (by omega) (by omega))]
        refine wp_some.mpr ?_
        show (1 : Int32) = _
        rw [if_pos (wx_eq.mpr ⟨hl, fun t ht => hI t (by omega)⟩)]
    · unfold h_X10_wordOf_B57
      by_cases q : nI (wM j).length ≤ s.2
      · rw [if_pos q]
        refine wp_some.mpr ?_
        show s.1 = _
        rw [h0, if_neg hI]
      · rw [if_neg q, if_pos h0]
        refine wp_some.mpr ?_
        show s.1 = _
        rw [h0, if_neg hI]
  have J5 : ∀ j, j < 25 → h_X10_wordOf_B5 I (nI k) (nI e) (nI (j + 1), nI (oM j)) = if wM j = wx b k e then some (.inr (0, (nI (j + 1), nI (oM j)))) else some (.inl (nI (j + 2), nI (oM (j + 1)))) := by
    intro j hj
    obtain ⟨a1, a2, a3⟩ := oM_s j hj
    unfold h_X10_wordOf_B5
    dsimp only
    rw [if_neg (show ¬ (123 : Int32) ≤ nI (oM j) from i_nle (a := 123) rfl rfl (by omega) (by omega)), B18 j hj, p_bs, nI_sub (by omega)]
    have nxt' : nI (oM j) + (nI (wM j).length + 1) = nI (oM (j + 1)) := by rw [← nI_succ, nI_add, a1]; rfl
    by_cases q : (wM j).length = e - k
    · rw [if_pos (by rw [q])]
      unfold h_X10_wordOf_J5_52 h_X10_wordOf_J5_104
      obtain ⟨r, e1, e2⟩ := B57 j hj q (nI (j + 1))
      rw [e1, p_bs, e2]
      by_cases w : wM j = wx b k e
      · rw [if_pos w, if_neg (by decide), if_pos w]
      · rw [if_neg w, if_pos rfl, if_neg w, p_le, p_le, nxt', ← nI_succ]
    · have w : ¬ wM j = wx b k e := fun u => q (wx_eq.mp u).1
      rw [if_neg (fun u => q ((nI_eq (by omega) (by omega)).mp u)), if_neg w]
      unfold h_X10_wordOf_J5_52 h_X10_wordOf_J5_104
      have : v_loop (h_X10_wordOf_B57 I (nI k) (nI e) (nI (j + 1)) (nI (oM j)) (nI (wM j).length)) FU ((0 : Int32), (0 : Int32)) = some (0, 0) := by
        obtain ⟨m, hF⟩ : ∃ k, FU = k + 1 := ⟨FU - 1, by rw [FU_eq]⟩
        have : h_X10_wordOf_B57 I (nI k) (nI e) (nI (j + 1)) (nI (oM j)) (nI (wM j).length) ((0 : Int32), (0 : Int32)) = some (.inr (0, 0)) := by
          unfold h_X10_wordOf_B57
          dsimp only
          by_cases u : nI (wM j).length ≤ 0
          · rw [if_pos u]
          · rw [if_neg u, if_pos rfl]
        rw [hF]
        simp only [v_loop, this]
      rw [this, p_bs, if_pos rfl, p_le, p_le, nxt', ← nI_succ]
  have L : wp (v_loop (h_X10_wordOf_B5 I (nI k) (nI e)) FU ((1 : Int32), (0 : Int32))) (fun q => (q.1 = 0 ∧ q.2.1 = nI (mi (wx b k e))) ∨ (q.1 = 1 ∧ mi (wx b k e) = 0)) := by
    refine wp_loop (fun j s => s = (nI (j + 1), nI (oM j)) ∧ ∀ t, t < j → wM t ≠ wx b k e) 25 (by omega) ⟨rfl, fun t ht => absurd ht (by omega)⟩ (fun j s hj hI => ?_)
    obtain ⟨rfl, hI⟩ := hI
    by_cases q : j < 25
    · rw [J5 j q]
      by_cases w : wM j = wx b k e
      · rw [if_pos w]
        refine wp_some.mpr (.inl ⟨rfl, ?_⟩)
        rw [← w, mi_at j q]
      · rw [if_neg w]
        refine wp_some.mpr ⟨q, rfl, fun t ht => ?_⟩
        by_cases u : t = j
        · rw [u]; exact w
        · exact hI t (by omega)
    · have : j = 25 := by omega
      subst this
      unfold h_X10_wordOf_B5
      dsimp only
      rw [oM_e, if_pos (by decide)]
      exact wp_some.mpr (.inr ⟨rfl, mi_no hI⟩)
  obtain ⟨r, e1, e2⟩ := L
  unfold h_X10_wordOf
  rw [e1, p_bs]
  rcases e2 with ⟨h1, h2⟩ | ⟨h1, h2⟩
  · rw [if_pos h1, h2]
  · rw [if_neg (by omega), h2]; rfl
/-! the class's words, numbers -/
theorem c_spell {S : v_S} {I : v_I} {b : Nat → Nat} {k e i : Nat} (hS : p_SS S) (he : e ≤ 400) (hb : ∀ i, k ≤ i → i < e → b i < 128 ∧ I 29 i = nI (b i)) (hi : i < 123) (h32 : v_wordsT.getD i 0 = 32) (hl : (wC (wJ i)).length = e - k) : h_X6_isSpelledAt S I 29 (nI k) (nI (wO i)) (nI i) = some (if wC (wJ i) = wx b k e then 1 else 0) := by
  obtain ⟨a1, a2, a3, a4⟩ := wJ_b i hi h32
  have L : wp (v_loop (h_X6_isSpelledAt_B3 S I 29 (nI k) (nI (wO i)) (nI i)) FU (nI (wO i))) (fun q => q.1 = if wC (wJ i) = wx b k e then 1 else 0) := by
    refine wp_loop (fun t s => s = nI (wO i + t) ∧ ∀ u, u < t → (wC (wJ i)).getD u 0 = b (k + u)) (wC (wJ i)).length (by omega) ⟨rfl, fun t ht => absurd ht (by omega)⟩ (fun t s ht hI => ?_)
    obtain ⟨rfl, hI⟩ := hI
    unfold h_X6_isSpelledAt_B3
    by_cases q : t < (wC (wJ i)).length
    · obtain ⟨l1, l2⟩ := wJ_l i hi h32 t q
      obtain ⟨b1, b2⟩ := hb (k + t) (by omega) (by omega)
      rw [if_neg (nI_ge (by omega) (by omega)), nI_add, nI_sub (by omega), show k + (wO i + t) - wO i = k + t by omega, p_ixS hS (a := 29) (kd := 20) (n := 400) rfl, p_in_nI (by omega) (by decide), p_bs, wd_at (by omega), p_bs, l1, b2]
      by_cases w : (wC (wJ i)).getD t 0 = b (k + t)
      · rw [if_pos (by rw [w]), p_le, ← nI_succ]
        refine wp_some.mpr ⟨q, rfl, fun u hu => ?_⟩
        by_cases x : u = t
        · rw [x]; exact w
        · exact hI u (by omega)
      · rw [if_neg (fun u => w ((nI_eq (by omega) (by omega)).mp u).symm)]
        refine wp_some.mpr ?_
        show (0 : Nat) = _
        rw [if_neg (fun u => w ((wx_eq.mp u).2 t q))]
    · rw [if_pos (nI_le (by omega) (by omega))]
      refine wp_some.mpr ?_
      show (1 : Nat) = _
      rw [if_pos (wx_eq.mpr ⟨hl, fun u hu => hI u (by omega)⟩)]
  obtain ⟨r, e1, e2⟩ := L
  unfold h_X6_isSpelledAt
  rw [e1, p_bs, e2]
  by_cases w : wC (wJ i) = wx b k e
  · rw [if_pos w, if_neg (by decide), if_pos w]
  · rw [if_neg w, if_pos rfl, if_neg w]
theorem c_word {S : v_S} {I : v_I} {b : Nat → Nat} {k e : Nat} (hS : p_SS S) (hke : k < e) (he : e ≤ 400) (hb : ∀ i, k ≤ i → i < e → b i < 128 ∧ I 29 i = nI (b i)) : h_X6_wordToken S I 29 (nI k) (nI e) = some (ct (wx b k e)) := by
  have L : wp (v_loop (h_X6_wordToken_B10 S I 29 (nI k) (nI e)) FU ((256 : Int32), (0 : Int32), (0 : Int32))) (fun q => (q.1 = 0 ∧ q.2.1 = ct (wx b k e)) ∨ (q.1 = 1 ∧ ct (wx b k e) = -2)) := by
    refine wp_loop (fun i s => s = (nI (256 + wJ i), nI (wO i), nI i) ∧ ∀ t, t < wJ i → wC t ≠ wx b k e) 123 (by omega) ⟨by rw [wJ_0.1, wJ_0.2.1]; rfl, fun t ht => absurd ht (by rw [wJ_0.1]; omega)⟩ (fun i s hi hI => ?_)
    obtain ⟨rfl, hI⟩ := hI
    unfold h_X6_wordToken_B10
    dsimp only
    by_cases q : i < 123
    · rw [if_neg (show ¬ (123 : Int32) ≤ nI i from i_nle (a := 123) rfl rfl q (by omega)), wd_at q, p_bs]
      by_cases h32 : v_wordsT.getD i 0 = 32
      · obtain ⟨a1, a2, a3, a4⟩ := wJ_b i q h32
        have next : wC (wJ i) ≠ wx b k e → wp (h_X6_wordToken_J10_57 S I 29 (nI k) (nI e) (nI (256 + wJ i)) (nI i)) (fun x => match x with
            | .inl t => i < 123 ∧ t = (nI (256 + wJ (i + 1)), nI (wO (i + 1)), nI (i + 1)) ∧ ∀ u, u < wJ (i + 1) → wC u ≠ wx b k e
            | .inr q => (q.1 = 0 ∧ q.2.1 = ct (wx b k e)) ∨ (q.1 = 1 ∧ ct (wx b k e) = -2)) := by
          intro w
          unfold h_X6_wordToken_J10_57 h_X6_wordToken_J10_66
          rw [p_le, p_le, p_le, ← nI_succ, ← nI_succ]
          refine wp_some.mpr ⟨q, by rw [a1, a2]; rfl, fun u hu => ?_⟩
          rw [a1] at hu
          by_cases x : u = wJ i
          · rw [x]; exact w
          · exact hI u (by omega)
        rw [if_pos h32, nI_sub (by omega), nI_sub (by omega)]
        by_cases hl : (wC (wJ i)).length = e - k
        · rw [if_pos (by rw [show i - wO i = e - k by omega]), c_spell hS he hb q h32 hl, p_bs]
          by_cases w : wC (wJ i) = wx b k e
          · rw [if_pos w, if_neg (by decide)]
            refine wp_some.mpr (.inl ⟨rfl, ?_⟩)
            show nI (256 + wJ i) = _
            rw [← w, ct_at _ a3]
          · rw [if_neg w, if_pos rfl]
            exact wp_mono (next w) (fun r h => by cases r <;> exact h)
        · rw [if_neg (fun u => hl (by have := (nI_eq (by omega) (by omega)).mp u; omega))]
          exact wp_mono (next (fun u => hl (wx_eq.mp u).1)) (fun r h => by cases r <;> exact h)
      · obtain ⟨a1, a2⟩ := wJ_n i q h32
        rw [if_neg h32]
        unfold h_X6_wordToken_J10_66
        rw [p_le, ← nI_succ]
        exact wp_some.mpr ⟨q, by rw [a1, a2], by rw [a1]; exact hI⟩
    · have : i = 123 := by omega
      subst this
      rw [if_pos (by decide)]
      refine wp_some.mpr (.inr ⟨rfl, ct_no ?_⟩)
      rw [wJ_0.2.2] at hI
      exact hI
  obtain ⟨r, e1, e2⟩ := L
  unfold h_X6_wordToken
  rw [e1, p_bs]
  rcases e2 with ⟨h1, h2⟩ | ⟨h1, h2⟩
  · rw [if_pos h1, h2]
  · rw [if_neg (by omega), h2]
theorem c_numb {S : v_S} {I : v_I} {b : Nat → Nat} {e : Nat} (hS : p_SS S) (he : e ≤ 400) : ∀ (f k a m : Nat), k + f = e → (∀ i, k ≤ i → i < e → 48 ≤ b i ∧ b i ≤ 57 ∧ I 29 i = nI (b i)) → a ≤ 20000 → f < m → ∃ y, v_loop (h_X6_numberToken_B5 S I 29 (nI e)) m (nI a, nI k) = some (nI (cv b f k a), y) := by
  intro f
  induction f with
  | zero =>
    intro k a m hk hb ha hm
    obtain ⟨m, rfl⟩ : ∃ q, m = q + 1 := ⟨m - 1, by omega⟩
    have : h_X6_numberToken_B5 S I 29 (nI e) (nI a, nI k) = some (.inr (nI a, nI k)) := by
      unfold h_X6_numberToken_B5
      dsimp only
      rw [if_pos (nI_le (by omega) (by omega))]
    refine ⟨nI k, ?_⟩
    simp only [v_loop, this]
    rfl
  | succ f ih =>
    intro k a m hk hb ha hm
    obtain ⟨m, rfl⟩ : ∃ q, m = q + 1 := ⟨m - 1, by omega⟩
    obtain ⟨b1, b2, b3⟩ := hb k (by omega) (by omega)
    unfold cv
    by_cases q : 1000 < a
    · rw [if_pos q]
      have : h_X6_numberToken_B5 S I 29 (nI e) (nI a, nI k) = some (.inr (nI a, nI k)) := by
        unfold h_X6_numberToken_B5
        dsimp only
        rw [if_neg (nI_ge (by omega) (by omega)), if_pos (show (1000 : Int32) < nI a from i_lt (a := 1000) rfl rfl q (by omega))]
      refine ⟨nI k, ?_⟩
      simp only [v_loop, this]
    · rw [if_neg q]
      have e2 : nI a * 10 + nI (b k) - 48 = nI (a * 10 + b k - 48) := by
        rw [show (10 : Int32) = nI 10 from rfl, nI_mul', nI_add, show (48 : Int32) = nI 48 from rfl, nI_sub (by omega)]
      have : h_X6_numberToken_B5 S I 29 (nI e) (nI a, nI k) = some (.inl (nI (a * 10 + b k - 48), nI (k + 1))) := by
        unfold h_X6_numberToken_B5
        dsimp only
        rw [if_neg (nI_ge (by omega) (by omega)), if_neg (show ¬ (1000 : Int32) < nI a from i_nlt (a := 1000) rfl rfl (by omega) (by omega)), p_ixS hS (a := 29) (kd := 20) (n := 400) rfl, p_in_nI (by omega) (by decide), p_bs, b3, p_le, p_le, e2, ← nI_succ]
      obtain ⟨y, hy⟩ := ih (k + 1) (a * 10 + b k - 48) m (by omega) (fun i h1 h2 => hb i (by omega) h2) (by omega) (by omega)
      refine ⟨y, ?_⟩
      simp only [v_loop, this]
      exact hy
theorem c_number {S : v_S} {I : v_I} {b : Nat → Nat} {k e : Nat} (hS : p_SS S) (hke : k < e) (he : e ≤ 400) (hb : ∀ i, k ≤ i → i < e → 48 ≤ b i ∧ b i ≤ 57 ∧ I 29 i = nI (b i)) : h_X6_numberToken S I 29 (nI k) (nI e) = some (if 1000 < cv b (e - k) k 0 then -2 else nI (1024 + cv b (e - k) k 0)) := by
  obtain ⟨y, hy⟩ := c_numb (b := b) hS he (e - k) k 0 FU (by omega) hb (by omega) (by rw [FU_eq]; omega)
  have := cv_le (e - k) k 0 (fun i a1 a2 => (hb i a1 (by omega)).2.1) (by omega)
  rw [show nI 0 = (0 : Int32) from rfl] at hy
  unfold h_X6_numberToken h_X6_numberToken_J37
  rw [hy, p_bs]
  dsimp only
  by_cases q : 1000 < cv b (e - k) k 0
  · rw [if_pos q, if_pos (show (1000 : Int32) < nI _ from i_lt (a := 1000) rfl rfl q (by omega))]
  · rw [if_neg q, if_neg (show ¬ (1000 : Int32) < nI _ from i_nlt (a := 1000) rfl rfl (by omega) (by omega)), show (1024 : Int32) = nI 1024 from rfl, nI_add]
end sp98h
