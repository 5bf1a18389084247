noncomputable section sp98j
/-! TOKENS are split: the class -/
def fsc (t : Nat) (I I' : v_I) : Prop := ∀ a j, ¬ (a = 30 ∧ j = 3) → ¬ ((a = 38 ∨ a = 39) ∧ t ≤ j) → I' a j = I a j
theorem fsc_trans {t t' : Nat} {I I' I'' : v_I} (h : fsc t I I') (h' : fsc t' I' I'') (q : t ≤ t') : fsc t I I'' := fun a j h1 h2 => (h' a j h1 (by omega)).trans (h a j h1 h2)
theorem c_addT {S : v_S} {F : v_F} {I : v_I} {t k : Nat} (x : Int32) (ht : t < 401) (h3 : I 30 3 = nI t) : ∃ I', h_X6_addToken S I F (nI k) x = some I' ∧ I' 30 3 = nI (t + 1) ∧ I' 38 t = x ∧ I' 39 t = nI k ∧ fsc t I I' := by
  unfold h_X6_addToken
  rw [h3, p_in_nI ht (by decide), p_bs, p_le, w_row _ _ _ _ (show (30 : Nat) ≠ 38 by decide), h3, p_in_nI ht (by decide), p_bs, p_le, p_le, w_row _ _ _ _ (show (30 : Nat) ≠ 39 by decide), w_row _ _ _ _ (show (30 : Nat) ≠ 38 by decide), h3, ← nI_succ]
  refine ⟨_, rfl, v_up_at _ _ _ _, ?_, ?_, fun a j h1 h2 => ?_⟩
  · rw [w_row _ _ _ _ (by decide), w_row _ _ _ _ (by decide), w_at]
  · rw [w_row _ _ _ _ (by decide), w_at]
  · rw [v_up_ne _ _ h1, v_up_ne _ _ (by omega), v_up_ne _ _ (by omega)]
theorem c_tok {S : v_S} {F : v_F} {I : v_I} {b : Nat → Nat} {z k t : Nat} (hS : p_SS S) (hz : z ≤ 400) (hk : k < z) (ht : t ≤ k) (h3 : I 30 3 = nI t) (hb : ∀ i, i < 400 → b i < 256 ∧ I 29 i = nI (b i)) (h32 : b k ≠ 32) :
    ∃ I', h_X6_splitTokens_B7 S F 29 (nI z) (nI k, I) = some (.inl (nI (te b z k), I')) ∧ I' 30 3 = nI (t + 1) ∧ I' 38 t = tx b (k, te b z k) ∧ I' 39 t = nI k ∧ fsc t I I' := by
  have hge := te_gt b z k
  have hle := te_le (b := b) hk
  obtain ⟨bk, ek⟩ := hb k (by omega)
  have loopL : v_loop (h_X6_splitTokens_B38 S F I 29 (nI z) (nI k)) FU (nI (k + 1)) = some (nI (re (fun i => ltr (b i)) z 400 (k + 1))) := by
    refine re_loop (P := fun i => ltr (b i)) (z := z) (fun i hi hP => ?_) (fun i hi hP => ?_) ?_ 400 (k + 1) FU (by omega) (by omega) (by rw [FU_eq]; omega)
    · unfold h_X6_splitTokens_B38
      rw [if_neg (nI_ge hi (by omega)), p_ixS hS (a := 29) (kd := 20) (n := 400) rfl, p_in_nI (by omega) (by decide), p_bs, (hb i (by omega)).2, bt_3 _ (hb i (by omega)).1, p_bs, hP, if_neg (show ¬ bI true = 0 by decide), p_le, ← nI_succ]
    · unfold h_X6_splitTokens_B38
      rw [if_neg (nI_ge hi (by omega)), p_ixS hS (a := 29) (kd := 20) (n := 400) rfl, p_in_nI (by omega) (by decide), p_bs, (hb i (by omega)).2, bt_3 _ (hb i (by omega)).1, p_bs, hP, if_pos (show bI false = 0 from rfl)]
    · unfold h_X6_splitTokens_B38
      rw [if_pos (nI_le (Nat.le_refl _) (by omega))]
  have loopD : v_loop (h_X6_splitTokens_B84 S F I 29 (nI z) (nI k)) FU (nI (k + 1)) = some (nI (re (fun i => dgt (b i)) z 400 (k + 1))) := by
    refine re_loop (P := fun i => dgt (b i)) (z := z) (fun i hi hP => ?_) (fun i hi hP => ?_) ?_ 400 (k + 1) FU (by omega) (by omega) (by rw [FU_eq]; omega)
    · unfold h_X6_splitTokens_B84
      rw [if_neg (nI_ge hi (by omega)), p_ixS hS (a := 29) (kd := 20) (n := 400) rfl, p_in_nI (by omega) (by decide), p_bs, (hb i (by omega)).2, bt_4 _ (hb i (by omega)).1, p_bs, hP, if_neg (show ¬ bI true = 0 by decide), p_le, ← nI_succ]
    · unfold h_X6_splitTokens_B84
      rw [if_neg (nI_ge hi (by omega)), p_ixS hS (a := 29) (kd := 20) (n := 400) rfl, p_in_nI (by omega) (by decide), p_bs, (hb i (by omega)).2, bt_4 _ (hb i (by omega)).1, p_bs, hP, if_pos (show bI false = 0 from rfl)]
    · unfold h_X6_splitTokens_B84
      rw [if_pos (nI_le (Nat.le_refl _) (by omega))]
  obtain ⟨I', a1, a2, a3, a4, a5⟩ := c_addT (S := S) (F := F) (k := k) (tx b (k, te b z k)) (show t < 401 by omega) h3
  refine ⟨I', ?_, a2, a3, a4, a5⟩
  have q400 : ¬ (400 : Int32) ≤ I 30 3 := i_nle (a := 400) rfl h3 (by omega) (by omega)
  unfold h_X6_splitTokens_B7 h_X6_splitTokens_J7_58 h_X6_splitTokens_J7_104 h_X6_splitTokens_J7_139
  dsimp only
  rw [if_neg (nI_ge hk (by omega)), if_neg q400, p_le, p_ixS hS (a := 29) (kd := 20) (n := 400) rfl, p_in_nI (show k < 400 by omega) (by decide), p_bs, ek, bt_3 _ bk, p_bs]
  have hte : te b z k = if ltr (b k) = true then re (fun i => ltr (b i)) z 400 (k + 1) else if dgt (b k) = true then re (fun i => dgt (b i)) z 400 (k + 1) else k + 1 := rfl
  have htx : tx b (k, te b z k) = if ltr (b k) = true then ct (wx b k (te b z k)) else if dgt (b k) = true then (if 1000 < cv b (te b z k - k) k 0 then -2 else nI (1024 + cv b (te b z k - k) k 0)) else nI (b k) := rfl
  cases q : ltr (b k) with
  | true =>
    have el := te_lt (b := b) (z := z) q
    rw [q, if_pos rfl] at hte htx
    rw [if_neg (show ¬ bI true = 0 by decide), ← nI_succ, loopL, p_bs, ← hte, c_word (b := b) hS (by omega) (by omega) (fun i h1 h2 => ⟨by have := el i h1 h2; omega, (hb i (by omega)).2⟩), p_bs, ← htx, a1, p_bs]
  | false =>
    have q' : ¬ ltr (b k) = true := by rw [q]; decide
    rw [if_neg q'] at hte htx
    rw [if_pos (show bI false = 0 from rfl), p_bs, ek, bt_4 _ bk, p_bs]
    cases q2 : dgt (b k) with
    | true =>
      have ed := te_dg (b := b) (z := z) q' q2
      rw [if_pos q2] at hte htx
      rw [if_neg (show ¬ bI true = 0 by decide), ← nI_succ, loopD, p_bs, ← hte, c_number (b := b) hS (by omega) (by omega) (fun i h1 h2 => ⟨(ed i h1 h2).1, (ed i h1 h2).2, (hb i (by omega)).2⟩), p_bs, ← htx, a1, p_bs]
    | false =>
      have q2' : ¬ dgt (b k) = true := by rw [q2]; decide
      rw [if_neg q2'] at hte htx
      rw [if_pos (show bI false = 0 from rfl), p_bs, p_bs, if_neg (show ¬ I 29 k = 32 from fun u => h32 ((bt_6 _ bk).mp (ek.symm.trans u))), ek, ← htx, a1, p_bs, ← nI_succ, ← hte]
theorem c_toks {S : v_S} {F : v_F} {b : Nat → Nat} {z : Nat} (hS : p_SS S) (hz : z ≤ 400) : ∀ (f k t m : Nat) (I : v_I), k ≤ z → z ≤ k + f → t ≤ k → I 30 3 = nI t → (∀ i, i < 400 → b i < 256 ∧ I 29 i = nI (b i)) → f < m →
    ∃ y I', v_loop (h_X6_splitTokens_B7 S F 29 (nI z)) m (nI k, I) = some (y, I') ∧ I' 30 3 = nI (t + (tz b z f k).length) ∧ (∀ (i : Nat) (x : Nat × Nat), (tz b z f k)[i]? = some x → I' 38 (t + i) = tx b x ∧ I' 39 (t + i) = nI x.1) ∧ fsc t I I' := by
  have stop : ∀ I m, v_loop (h_X6_splitTokens_B7 S F 29 (nI z)) (m + 1) (nI z, I) = some (nI z, I) := by
    intro I m
    have : h_X6_splitTokens_B7 S F 29 (nI z) (nI z, I) = some (.inr (nI z, I)) := by
      unfold h_X6_splitTokens_B7
      dsimp only
      rw [if_pos (nI_le (Nat.le_refl _) (by omega))]
    simp only [v_loop, this]
  intro f
  induction f with
  | zero =>
    intro k t m I hk hf ht h3 hb hm
    obtain ⟨m, rfl⟩ : ∃ q, m = q + 1 := ⟨m - 1, by omega⟩
    have : k = z := by omega
    subst this
    exact ⟨nI k, I, stop I m, by unfold tz; exact h3, (fun i x h => by unfold tz at h; simp at h), fun _ _ _ _ => rfl⟩
  | succ f ih =>
    intro k t m I hk hf ht h3 hb hm
    obtain ⟨m, rfl⟩ : ∃ q, m = q + 1 := ⟨m - 1, by omega⟩
    unfold tz
    by_cases q : z ≤ k
    · have : k = z := by omega
      subst this
      rw [if_pos q]
      exact ⟨nI k, I, stop I m, h3, (fun i x h => by simp at h), fun _ _ _ _ => rfl⟩
    · rw [if_neg q]
      by_cases h32 : b k = 32
      · rw [if_pos h32]
        obtain ⟨y, I', a1, a2⟩ := ih (k + 1) t m I (by omega) (by omega) (by omega) h3 hb (by omega)
        refine ⟨y, I', ?_, a2⟩
        have : h_X6_splitTokens_B7 S F 29 (nI z) (nI k, I) = some (.inl (nI (k + 1), I)) := by
          obtain ⟨bk, ek⟩ := hb k (by omega)
          have q400 : ¬ (400 : Int32) ≤ I 30 3 := i_nle (a := 400) rfl h3 (by omega) (by omega)
          have l32 : ltr (b k) = false := by rw [h32]; decide
          have d32 : dgt (b k) = false := by rw [h32]; decide
          unfold h_X6_splitTokens_B7 h_X6_splitTokens_J7_139
          dsimp only
          rw [if_neg (nI_ge (by omega) (by omega)), if_neg q400, p_le, p_ixS hS (a := 29) (kd := 20) (n := 400) rfl, p_in_nI (show k < 400 by omega) (by decide), p_bs, ek, bt_3 _ bk, p_bs, l32, if_pos (show bI false = 0 from rfl), p_bs, ek, bt_4 _ bk, p_bs, d32, if_pos (show bI false = 0 from rfl), p_bs, if_pos (show I 29 k = 32 from ek.trans ((bt_6 _ bk).mpr h32)), ← nI_succ]
        simp only [v_loop, this]
        exact a1
      · rw [if_neg h32]
        obtain ⟨K, k1, k2, k3, k4, k5⟩ := c_tok (S := S) (F := F) hS hz (by omega) ht h3 hb h32
        have hge := te_gt b z k
        have hle := te_le (b := b) (z := z) (k := k) (by omega)
        obtain ⟨y, I', a1, a2, a3, a4⟩ := ih (te b z k) (t + 1) m K hle (by omega) (by omega) k2 (fun i hi => by rw [k5 29 i (by omega) (by omega)]; exact hb i hi) (by omega)
        refine ⟨y, I', ?_, ?_, fun i x hx => ?_, fsc_trans k5 a4 (by omega)⟩
        · simp only [v_loop, k1]
          exact a1
        · rw [a2, List.length_cons]; congr 1; omega
        · cases i with
          | zero =>
            simp at hx
            subst hx
            rw [Nat.add_zero, a4 38 t (by omega) (by omega), a4 39 t (by omega) (by omega)]
            exact ⟨k3, k4⟩
          | succ i =>
            rw [List.getElem?_cons_succ] at hx
            have := a3 i x hx
            rw [show t + 1 + i = t + (i + 1) by omega] at this
            exact this
/-! both, of one tape -/
def tL (b : Nat → Nat) (z : Nat) : List (Nat × Nat) := tz b z 400 0
def tC (b : Nat → Nat) (z : Nat) : Nat → Int32 := fun i => if i < (tL b z).length then tc b ((tL b z).getD i (0, 0)) else 0
def tV (b : Nat → Nat) (z : Nat) : Nat → Int32 := fun i => if i < (tL b z).length then tv b ((tL b z).getD i (0, 0)) else 0
def tP (b : Nat → Nat) (z : Nat) : Nat → Nat := fun i => if i < (tL b z).length then ((tL b z).getD i (0, 0)).1 else z
theorem tL_le (b : Nat → Nat) {z : Nat} : (tL b z).length ≤ z := by have := tz_len b z 400 0 (Nat.zero_le _); unfold tL; omega
theorem tL_at {b : Nat → Nat} {z i : Nat} (h : i < (tL b z).length) : (tL b z)[i]? = some ((tL b z).getD i (0, 0)) := by
  rw [List.getD_eq_getElem?_getD, List.getElem?_eq_getElem h]; rfl
theorem tL_in {b : Nat → Nat} {z i : Nat} (h : i < (tL b z).length) : ((tL b z).getD i (0, 0)).1 < z ∧ ((tL b z).getD i (0, 0)).2 = te b z ((tL b z).getD i (0, 0)).1 ∧ b ((tL b z).getD i (0, 0)).1 ≠ 32 := tz_in b z 400 0 _ (List.mem_of_getElem? (tL_at h))
theorem tC_cz (b : Nat → Nat) (z : Nat) : cz (tC b z) (tL b z).length := fun p hp => by unfold tC; rw [if_neg (by omega)]
theorem tP_le {b : Nat → Nat} {z : Nat} (p : Nat) : tP b z p ≤ z := by
  unfold tP
  by_cases h : p < (tL b z).length
  · rw [if_pos h]; have := (tL_in h).1; omega
  · rw [if_neg h]; exact Nat.le_refl _
/-- the model -/
theorem m_split {I : v_I} {b : Nat → Nat} {z : Nat} (hz : z ≤ 400) (hW : rW I) (hb : ∀ i, i < 400 → b i < 256 ∧ I 56 i = sgn (b i)) : ∃ r1, h_X10_splits I (nI z) = some r1 ∧ r1 49 18 = nI (tL b z).length ∧ (∀ p, p ≤ (tL b z).length → r1 58 p = tC b z p ∧ r1 59 p = tV b z p ∧ r1 60 p = nI (tP b z p)) ∧ fsm 0 I r1 := by
  have hl := tL_le b (z := z)
  have f0 : fsm 0 I (v_up I 49 18 0) := fun a j h1 h2 => v_up_ne _ _ h1
  obtain ⟨I', a1, a2, a3, a4⟩ := m_toks (b := b) hz 400 0 0 FU (v_up I 49 18 0) (by intro i hi; rw [w_row _ _ _ _ (by decide)]; exact hW i hi) (Nat.zero_le _) (by omega) (Nat.le_refl _) (v_up_at _ _ _ _) (fun i hi => by rw [w_row _ _ _ _ (by decide)]; exact hb i hi) (by rw [FU_eq]; omega)
  rw [Nat.zero_add] at a2
  have e18 : I' 49 18 = nI (tL b z).length := a2
  have ez : ∀ (J : v_I) (a j : Nat) (x : Int32), a ≠ 49 → v_up J a j x 49 18 = J 49 18 := fun J a j x h => by rw [w_row _ _ _ _ (fun q => h q.symm)]
  refine ⟨v_up (v_up (v_up I' 60 (tL b z).length (nI z)) 58 (tL b z).length 0) 59 (tL b z).length 0, ?_, ?_, fun p hp => ?_, fun a j h1 h2 => ?_⟩
  · unfold h_X10_splits
    rw [show nI 0 = (0 : Int32) from rfl] at a1
    rw [p_le, a1, p_bs]
    dsimp only
    rw [e18, p_in_nI (by omega) (by decide), p_bs, p_le, ez _ _ _ _ (by decide), e18, p_in_nI (by omega) (by decide), p_bs, p_le, ez _ _ _ _ (by decide), ez _ _ _ _ (by decide), e18, p_in_nI (by omega) (by decide), p_bs, p_le]
  · rw [ez _ _ _ _ (by decide), ez _ _ _ _ (by decide), ez _ _ _ _ (by decide), e18]
  · unfold tC tV tP
    by_cases q : p < (tL b z).length
    · have := a3 p _ (tL_at q)
      rw [Nat.zero_add] at this
      rw [if_pos q, if_pos q, if_pos q]
      refine ⟨?_, ?_, ?_⟩
      · rw [w_row _ _ _ _ (by decide), w_ne _ _ _ _ (by omega), w_row _ _ _ _ (by decide)]; exact this.1
      · rw [w_ne _ _ _ _ (by omega), w_row _ _ _ _ (by decide), w_row _ _ _ _ (by decide)]; exact this.2.1
      · rw [w_row _ _ _ _ (by decide), w_row _ _ _ _ (by decide), w_ne _ _ _ _ (by omega)]; exact this.2.2
    · have : p = (tL b z).length := by omega
      rw [if_neg q, if_neg q, if_neg q, this]
      refine ⟨?_, ?_, ?_⟩
      · rw [w_row _ _ _ _ (by decide), w_at]
      · rw [w_at]
      · rw [w_row _ _ _ _ (by decide), w_row _ _ _ _ (by decide), w_at]
  · rw [v_up_ne _ _ (by omega), v_up_ne _ _ (by omega), v_up_ne _ _ (by omega), a4 a j h1 h2, v_up_ne _ _ h1]
/-- the class -/
theorem c_split {S : v_S} {F : v_F} {I : v_I} {b : Nat → Nat} {z : Nat} (hS : p_SS S) (hz : z ≤ 400) (hb : ∀ i, i < 400 → b i < 256 ∧ I 29 i = nI (b i)) : ∃ r4, h_X6_splitTokens S I F 29 (nI z) = some r4 ∧ fr I r4 ∧ Ct r4 (tC b z) (tV b z) (tP b z) (tL b z).length := by
  have hl := tL_le b (z := z)
  obtain ⟨y, I', a1, a2, a3, a4⟩ := c_toks (S := S) (F := F) (b := b) hS hz 400 0 0 FU (v_up I 30 3 0) (Nat.zero_le _) (by omega) (Nat.le_refl _) (v_up_at _ _ _ _) (fun i hi => by rw [w_row _ _ _ _ (by decide)]; exact hb i hi) (by rw [FU_eq]; omega)
  rw [Nat.zero_add] at a2
  have e3 : I' 30 3 = nI (tL b z).length := a2
  refine ⟨v_up (v_up I' 38 (tL b z).length (-2)) 39 (tL b z).length (nI z), ?_, fun a j h => ?_, by omega, ?_, fun p hp => ?_, tC_cz b z, fun p hp => ⟨?_, by have := tP_le (b := b) (z := z) p; omega⟩⟩
  · unfold h_X6_splitTokens h_X6_splitTokens_J142
    rw [show nI 0 = (0 : Int32) from rfl] at a1
    rw [p_le, a1, p_bs]
    dsimp only
    rw [e3, p_in_nI (by omega) (by decide), p_bs, p_le, w_row _ _ _ _ (show (30 : Nat) ≠ 38 by decide), e3, p_in_nI (by omega) (by decide), p_bs, p_le]
  · unfold scr at h
    rw [v_up_ne _ _ (by omega), v_up_ne _ _ (by omega), a4 a j (by omega) (by omega), v_up_ne _ _ (by omega)]
  · rw [w_row _ _ _ _ (by decide), w_row _ _ _ _ (by decide)]; exact e3
  · by_cases q : p < (tL b z).length
    · have := a3 p _ (tL_at q)
      rw [Nat.zero_add] at this
      have hi := tL_in q
      have hk := tk_all (b := b) (z := z) (x := (tL b z).getD p (0, 0)) (hb _ (by omega)).1 hi.2.1
      rw [w_row _ _ _ _ (by decide), w_ne _ _ _ _ (by omega), this.1]
      unfold tC tV
      rw [if_pos q, if_pos q]
      exact hk
    · have : p = (tL b z).length := by omega
      unfold tC tV
      rw [if_neg q, if_neg q, this, w_row _ _ _ _ (by decide), w_at]
      exact .inl ⟨0, .inl (by omega), rfl, rfl⟩
  · unfold tP
    by_cases q : p < (tL b z).length
    · have := a3 p _ (tL_at q)
      rw [Nat.zero_add] at this
      rw [if_pos q, w_ne _ _ _ _ (by omega), w_row _ _ _ _ (by decide)]; exact this.2
    · have : p = (tL b z).length := by omega
      rw [if_neg q, this, w_at]
end sp98j
