noncomputable section sp98i
/-! TOKENS are split: the model -/
def fsm (t : Nat) (I I' : v_I) : Prop := ∀ a j, ¬ (a = 49 ∧ j = 18) → ¬ ((a = 58 ∨ a = 59 ∨ a = 60) ∧ t ≤ j) → I' a j = I a j
theorem fsm_trans {t t' : Nat} {I I' I'' : v_I} (h : fsm t I I') (h' : fsm t' I' I'') (q : t ≤ t') : fsm t I I'' := fun a j h1 h2 => (h' a j h1 (by omega)).trans (h a j h1 h2)
theorem up_up (I : v_I) (a j : Nat) (x y : Int32) : v_up (v_up I a j x) a j y = v_up I a j y := by
  funext b i
  unfold v_up
  by_cases h : b = a ∧ i = j
  · simp [h]
  · simp [h]
theorem up_id {I : v_I} {a j : Nat} {x : Int32} (h : I a j = x) : v_up I a j x = I := by
  funext b i
  unfold v_up
  by_cases q : b = a ∧ i = j
  · rw [if_pos q, q.1, q.2, h]
  · rw [if_neg q]
theorem m_numb {b : Nat → Nat} {e t : Nat} {w1 w3 : Int32} (he : e ≤ 400) (ht : t < 401) (hw : h_X10_isDigit w3 = some 1) : ∀ (f k a m : Nat) (I : v_I), k + f = e → (∀ i, k ≤ i → i < e → 48 ≤ b i ∧ b i ≤ 57 ∧ I 56 i = nI (b i)) → I 49 18 = nI t → I 59 t = nI a → a ≤ 20000000 → f < m → v_loop (h_X10_splits_B169 w1 w3 (nI e)) m (nI k, I) = some (nI e, v_up I 59 t (nI (nv b f k a))) := by
  intro f
  induction f with
  | zero =>
    intro k a m I hk hb h18 h59 ha hm
    obtain ⟨m, rfl⟩ : ∃ q, m = q + 1 := ⟨m - 1, by omega⟩
    have : k = e := by omega
    subst this
    have : h_X10_splits_B169 w1 w3 (nI k) (nI k, I) = some (.inr (nI k, I)) := by
      unfold h_X10_splits_B169
      dsimp only
      rw [if_pos (nI_le (Nat.le_refl _) (by omega))]
    simp only [v_loop, this]
    unfold nv
    rw [up_id h59]
  | succ f ih =>
    intro k a m I hk hb h18 h59 ha hm
    obtain ⟨m, rfl⟩ : ∃ q, m = q + 1 := ⟨m - 1, by omega⟩
    obtain ⟨b1, b2, b3⟩ := hb k (by omega) (by omega)
    have e2 : (10 : Int32) * nI a + nI (b k) - 48 = nI (10 * a + b k - 48) := by
      rw [show (10 : Int32) = nI 10 from rfl, nI_mul', nI_add, show (48 : Int32) = nI 48 from rfl, nI_sub (by omega)]
    have : h_X10_splits_B169 w1 w3 (nI e) (nI k, I) = some (.inl (nI (k + 1), v_up I 59 t (nI (if 1000000 < a then a else 10 * a + b k - 48)))) := by
      unfold h_X10_splits_B169 h_X10_splits_J169_240
      dsimp only
      rw [if_neg (nI_ge (by omega) (by omega)), hw, p_bs, if_neg (by decide), h18, p_in_nI ht (by decide), p_bs]
      by_cases q : 1000000 < a
      · rw [if_neg (show ¬ I 59 t ≤ (1000000 : Int32) from i_nle (b := 1000000) h59 rfl q (by omega)), p_bs, p_bs, p_le, p_le, h59, if_pos q, ← nI_succ]
      · rw [if_pos (show I 59 t ≤ (1000000 : Int32) from i_le (b := 1000000) h59 rfl (by omega) (by omega)), p_bs, p_in_nI (show k < 400 by omega) (by decide), p_bs, p_bs, p_le, p_le, h59, b3, e2, if_neg q, ← nI_succ]
    have hn : (if 1000000 < a then a else 10 * a + b k - 48) ≤ 20000000 := by
      by_cases q : 1000000 < a
      · rw [if_pos q]; exact ha
      · rw [if_neg q]; omega
    unfold nv
    simp only [v_loop, this]
    rw [ih (k + 1) _ m (v_up I 59 t _) (by omega) (fun i h1 h2 => by rw [w_row _ _ _ _ (by decide)]; exact hb i (by omega) h2) (by rw [w_row _ _ _ _ (by decide)]; exact h18) (v_up_at _ _ _ _) hn (by omega), up_up]
theorem m_tok {I : v_I} {b : Nat → Nat} {z k t : Nat} (hW : rW I) (hz : z ≤ 400) (hk : k < z) (ht : t ≤ k) (h18 : I 49 18 = nI t) (hb : ∀ i, i < 400 → b i < 256 ∧ I 56 i = sgn (b i)) (h32 : b k ≠ 32) :
    ∃ I', h_X10_splits_B7 (nI z) (nI k, I) = some (.inl (nI (te b z k), I')) ∧ I' 49 18 = nI (t + 1) ∧ I' 58 t = tc b (k, te b z k) ∧ I' 59 t = tv b (k, te b z k) ∧ I' 60 t = nI k ∧ fsm t I I' := by
  have hge := te_gt b z k
  have hle := te_le (b := b) hk
  obtain ⟨bk, ek⟩ := hb k (by omega)
  have nld : ltr (b k) = true → dgt (b k) = false := by
    intro h
    cases q : dgt (b k) with
    | false => rfl
    | true => have := ltr_iff.mp h; have := dgt_iff.mp q; omega
  have loopL : v_loop (h_X10_splits_B43 I (nI z) (nI k) (sgn (b k))) FU (nI (k + 1)) = some (nI (re (fun i => ltr (b i)) z 400 (k + 1))) := by
    refine re_loop (P := fun i => ltr (b i)) (z := z) (fun i hi hP => ?_) (fun i hi hP => ?_) ?_ 400 (k + 1) FU (by omega) (by omega) (by rw [FU_eq]; omega)
    · unfold h_X10_splits_B43
      rw [if_neg (nI_ge hi (by omega)), p_in_nI (by omega) (by decide), p_bs, (hb i (by omega)).2, bt_1 _ (hb i (by omega)).1, p_bs, hP, if_neg (show ¬ bI true = 0 by decide), p_le, ← nI_succ]
    · unfold h_X10_splits_B43
      rw [if_neg (nI_ge hi (by omega)), p_in_nI (by omega) (by decide), p_bs, (hb i (by omega)).2, bt_1 _ (hb i (by omega)).1, p_bs, hP, if_pos (show bI false = 0 from rfl)]
    · unfold h_X10_splits_B43
      rw [if_pos (nI_le (Nat.le_refl _) (by omega))]
  have loopD : v_loop (h_X10_splits_B75 I (nI z) (nI k) (sgn (b k))) FU (nI (k + 1)) = some (nI (re (fun i => dgt (b i)) z 400 (k + 1))) := by
    refine re_loop (P := fun i => dgt (b i)) (z := z) (fun i hi hP => ?_) (fun i hi hP => ?_) ?_ 400 (k + 1) FU (by omega) (by omega) (by rw [FU_eq]; omega)
    · unfold h_X10_splits_B75
      rw [if_neg (nI_ge hi (by omega)), p_in_nI (by omega) (by decide), p_bs, (hb i (by omega)).2, bt_2 _ (hb i (by omega)).1, p_bs, hP, if_neg (show ¬ bI true = 0 by decide), p_le, ← nI_succ]
    · unfold h_X10_splits_B75
      rw [if_neg (nI_ge hi (by omega)), p_in_nI (by omega) (by decide), p_bs, (hb i (by omega)).2, bt_2 _ (hb i (by omega)).1, p_bs, hP, if_pos (show bI false = 0 from rfl)]
    · unfold h_X10_splits_B75
      rw [if_pos (nI_le (Nat.le_refl _) (by omega))]
  have e1 : h_X10_splits_B7 (nI z) (nI k, I) = h_X10_splits_J7_100 (nI z) I (nI k) (sgn (b k)) (nI (te b z k)) := by
    unfold h_X10_splits_B7 h_X10_splits_J7_68
    dsimp only
    rw [if_neg (nI_ge hk (by omega)), p_in_nI (by omega) (by decide), p_bs, p_le, ek, if_neg (show ¬ sgn (b k) = 32 from fun q => h32 ((bt_5 _ bk).mp q)), p_le, bt_1 _ bk, p_bs]
    cases q : ltr (b k) with
    | true =>
      rw [if_neg (show ¬ bI true = 0 by decide), ← nI_succ, loopL, p_bs, bt_2 _ bk, p_bs, nld q, if_pos (show bI false = 0 from rfl)]
      unfold te
      rw [if_pos q]
    | false =>
      rw [if_pos (show bI false = 0 from rfl), bt_2 _ bk, p_bs]
      have q' : ¬ ltr (b k) = true := by rw [q]; decide
      cases q2 : dgt (b k) with
      | true =>
        rw [if_neg (show ¬ bI true = 0 by decide), ← nI_succ, loopD, p_bs]
        unfold te
        rw [if_neg q', if_pos q2]
      | false =>
        rw [if_pos (show bI false = 0 from rfl), ← nI_succ]
        unfold te
        rw [if_neg q', if_neg (by rw [q2]; decide)]
  rw [e1]
  have ht4 : t < 401 := by omega
  let A : v_I := v_up (v_up I 60 t (nI k)) 59 t 0
  have ar : ∀ a, a ≠ 59 → a ≠ 60 → A a = I a := fun a h1 h2 => by
    show v_up _ _ _ _ a = _
    rw [w_row _ _ _ _ h1, w_row _ _ _ _ h2]
  have A59 : A 59 t = 0 := v_up_at _ _ _ _
  have A60 : A 60 t = nI k := by
    show v_up _ _ _ _ 60 t = _
    rw [w_row _ _ _ _ (by decide), w_at]
  have fA : fsm t I A := fun a j h1 h2 => by
    show v_up _ _ _ _ a j = _
    rw [v_up_ne _ _ (by omega), v_up_ne _ _ (by omega)]
  have e2 : h_X10_splits_J7_100 (nI z) I (nI k) (sgn (b k)) (nI (te b z k)) = h_X10_splits_J7_165 (nI z) A (nI k) (sgn (b k)) (nI (te b z k)) (tc b (k, te b z k)) (nI t) := by
    unfold h_X10_splits_J7_100
    rw [h18, p_in_nI ht4 (by decide), p_bs, p_le, w_row _ _ _ _ (show (49 : Nat) ≠ 60 by decide), h18, p_in_nI ht4 (by decide), p_bs, p_le, bt_1 _ bk, p_bs, bt_2 _ bk, p_bs]
    show (if bI (ltr (b k)) = 0 then (if bI (dgt (b k)) = 0 then h_X10_splits_J7_165 (nI z) A (nI k) (sgn (b k)) (nI (te b z k)) (100 + (sgn (b k) &&& 255)) (A 49 18) else h_X10_splits_J7_165 (nI z) A (nI k) (sgn (b k)) (nI (te b z k)) 50 (A 49 18)) else (h_X10_wordOf A (nI k) (nI (te b z k))).bind fun r => h_X10_splits_J7_165 (nI z) A (nI k) (sgn (b k)) (nI (te b z k)) r (A 49 18)) = _
    rw [ar 49 (by decide) (by decide), h18]
    unfold tc
    dsimp only
    cases q : ltr (b k) with
    | true =>
      rw [if_neg (show ¬ bI true = 0 by decide), if_pos rfl, m_word (I := A) (b := b) (by unfold rW; rw [ar 55 (by decide) (by decide)]; exact hW) (by omega) (by omega) (fun i h1 h2 => by
        obtain ⟨b1, b2⟩ := hb i (by omega)
        have := te_lt q i h1 h2
        rw [ar 56 (by decide) (by decide), b2, bt_8 _ b1 (by omega)]
        exact ⟨by omega, rfl⟩), p_bs]
    | false =>
      rw [if_pos (show bI false = 0 from rfl), if_neg (show ¬ false = true by decide), bt_7 _ bk]
      cases q2 : dgt (b k) with
      | true => rw [if_neg (show ¬ bI true = 0 by decide), if_pos rfl]
      | false => rw [if_pos (show bI false = 0 from rfl), if_neg (show ¬ false = true by decide)]
  rw [e2]
  generalize A = A at ar A59 A60 fA
  unfold h_X10_splits_J7_165 h_X10_splits_J7_247
  rw [p_in_nI ht4 (by decide), p_bs, p_le]
  have K18 : v_up A 58 t (tc b (k, te b z k)) 49 18 = nI t := by rw [w_row _ _ _ _ (by decide), ar 49 (by decide) (by decide), h18]
  have K59 : v_up A 58 t (tc b (k, te b z k)) 59 t = nI 0 := by rw [w_row _ _ _ _ (by decide), A59]; rfl
  have K60 : v_up A 58 t (tc b (k, te b z k)) 60 t = nI k := by rw [w_row _ _ _ _ (by decide), A60]
  have K58 : v_up A 58 t (tc b (k, te b z k)) 58 t = tc b (k, te b z k) := w_at _ _ _ _
  have K56 : v_up A 58 t (tc b (k, te b z k)) 56 = I 56 := by rw [w_row _ _ _ _ (by decide), ar 56 (by decide) (by decide)]
  have fK : fsm t I (v_up A 58 t (tc b (k, te b z k))) := fun a j h1 h2 => by rw [v_up_ne _ _ (by omega)]; exact fA a j h1 h2
  generalize v_up A 58 t (tc b (k, te b z k)) = K at K18 K59 K60 K58 K56 fK
  have L : v_loop (h_X10_splits_B169 (nI z) (sgn (b k)) (nI (te b z k))) FU (nI k, K) = some (nI (if dgt (b k) = true ∧ ¬ ltr (b k) = true then te b z k else k), v_up K 59 t (tv b (k, te b z k))) := by
    unfold tv
    dsimp only
    have stop : dgt (b k) = false → v_loop (h_X10_splits_B169 (nI z) (sgn (b k)) (nI (te b z k))) FU (nI k, K) = some (nI k, K) := by
      intro q
      obtain ⟨m, hF⟩ : ∃ k, FU = k + 1 := ⟨FU - 1, by rw [FU_eq]⟩
      have : h_X10_splits_B169 (nI z) (sgn (b k)) (nI (te b z k)) (nI k, K) = some (.inr (nI k, K)) := by
        unfold h_X10_splits_B169
        dsimp only
        rw [if_neg (nI_ge (by omega) (by omega)), bt_2 _ bk, q, p_bs, if_pos (show bI false = 0 from rfl)]
      rw [hF]
      simp only [v_loop, this]
    cases q : ltr (b k) with
    | true => rw [stop (nld q), if_neg (fun w => w.2 rfl), if_pos rfl, up_id (x := 0) (by rw [K59]; rfl)]
    | false =>
      rw [if_neg (show ¬ false = true by decide)]
      cases q2 : dgt (b k) with
      | true =>
        rw [if_pos ⟨rfl, by decide⟩, if_pos rfl]
        have hd := te_dg (b := b) (z := z) (k := k) (by rw [q]; decide) q2
        exact m_numb (b := b) (by omega) ht4 (by rw [bt_2 _ bk, q2]; rfl) (te b z k - k) k 0 FU K (by omega) (fun i h1 h2 => by
          obtain ⟨b1, b2⟩ := hb i (by omega)
          have := hd i h1 h2
          rw [K56, b2, bt_8 _ b1 (by omega)]
          exact ⟨this.1, this.2, rfl⟩) K18 K59 (by omega) (by rw [FU_eq]; omega)
      | false => rw [stop q2, if_neg (fun w => by cases w.1), if_neg (by decide), up_id (x := 0) (by rw [K59]; rfl)]
  rw [L, p_bs]
  dsimp only
  rw [p_le, w_row _ _ _ _ (show (49 : Nat) ≠ 59 by decide), K18, ← nI_succ]
  refine ⟨_, rfl, v_up_at _ _ _ _, ?_, ?_, ?_, fun a j h1 h2 => ?_⟩
  · rw [w_row _ _ _ _ (by decide), w_row _ _ _ _ (by decide)]; exact K58
  · rw [w_row _ _ _ _ (by decide), w_at]
  · rw [w_row _ _ _ _ (by decide), w_row _ _ _ _ (by decide)]; exact K60
  · rw [v_up_ne _ _ h1, v_up_ne _ _ (by omega)]; exact fK a j h1 h2
theorem m_toks {b : Nat → Nat} {z : Nat} (hz : z ≤ 400) : ∀ (f k t m : Nat) (I : v_I), rW I → k ≤ z → z ≤ k + f → t ≤ k → I 49 18 = nI t → (∀ i, i < 400 → b i < 256 ∧ I 56 i = sgn (b i)) → f < m →
    ∃ I', v_loop (h_X10_splits_B7 (nI z)) m (nI k, I) = some (nI z, I') ∧ I' 49 18 = nI (t + (tz b z f k).length) ∧ (∀ (i : Nat) (x : Nat × Nat), (tz b z f k)[i]? = some x → I' 58 (t + i) = tc b x ∧ I' 59 (t + i) = tv b x ∧ I' 60 (t + i) = nI x.1) ∧ fsm t I I' := by
  have stop : ∀ I m, v_loop (h_X10_splits_B7 (nI z)) (m + 1) (nI z, I) = some (nI z, I) := by
    intro I m
    have : h_X10_splits_B7 (nI z) (nI z, I) = some (.inr (nI z, I)) := by
      unfold h_X10_splits_B7
      dsimp only
      rw [if_pos (nI_le (Nat.le_refl _) (by omega))]
    simp only [v_loop, this]
  intro f
  induction f with
  | zero =>
    intro k t m I hW hk hf ht h18 hb hm
    obtain ⟨m, rfl⟩ : ∃ q, m = q + 1 := ⟨m - 1, by omega⟩
    have : k = z := by omega
    subst this
    exact ⟨I, stop I m, by unfold tz; exact h18, (fun i x h => by unfold tz at h; simp at h), fun _ _ _ _ => rfl⟩
  | succ f ih =>
    intro k t m I hW hk hf ht h18 hb hm
    obtain ⟨m, rfl⟩ : ∃ q, m = q + 1 := ⟨m - 1, by omega⟩
    unfold tz
    by_cases q : z ≤ k
    · have : k = z := by omega
      subst this
      rw [if_pos q]
      exact ⟨I, stop I m, h18, (fun i x h => by simp at h), fun _ _ _ _ => rfl⟩
    · rw [if_neg q]
      by_cases h32 : b k = 32
      · rw [if_pos h32]
        obtain ⟨I', a1, a2⟩ := ih (k + 1) t m I hW (by omega) (by omega) (by omega) h18 hb (by omega)
        refine ⟨I', ?_, a2⟩
        have : h_X10_splits_B7 (nI z) (nI k, I) = some (.inl (nI (k + 1), I)) := by
          obtain ⟨bk, ek⟩ := hb k (by omega)
          unfold h_X10_splits_B7
          dsimp only
          rw [if_neg (nI_ge (by omega) (by omega)), p_in_nI (by omega) (by decide), p_bs, p_le, ek, if_pos ((bt_5 _ bk).mpr h32), p_le, ← nI_succ]
        simp only [v_loop, this]
        exact a1
      · rw [if_neg h32]
        obtain ⟨K, k1, k2, k3, k4, k5, k6⟩ := m_tok hW hz (by omega) ht h18 hb h32
        have hge := te_gt b z k
        have hle := te_le (b := b) (z := z) (k := k) (by omega)
        obtain ⟨I', a1, a2, a3, a4⟩ := ih (te b z k) (t + 1) m K (by
          intro i hi
          rw [k6 55 i (by omega) (by omega)]
          exact hW i hi) hle (by omega) (by omega) k2 (fun i hi => by rw [k6 56 i (by omega) (by omega)]; exact hb i hi) (by omega)
        refine ⟨I', ?_, ?_, fun i x hx => ?_, fsm_trans k6 a4 (by omega)⟩
        · simp only [v_loop, k1]
          exact a1
        · rw [a2, List.length_cons]; congr 1; omega
        · cases i with
          | zero =>
            simp at hx
            subst hx
            rw [Nat.add_zero, a4 58 t (by omega) (by omega), a4 59 t (by omega) (by omega), a4 60 t (by omega) (by omega)]
            exact ⟨k3, k4, k5⟩
          | succ i =>
            rw [List.getElem?_cons_succ] at hx
            have := a3 i x hx
            rw [show t + 1 + i = t + (i + 1) by omega] at this
            exact this
end sp98i
