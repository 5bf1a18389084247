noncomputable section sp50
theorem ok_30 {S : v_S} {I : v_I} {J : v_J} {F : v_F} (h : R S I J F) : op_30 R S I J F := by
  have hC := h.2.2.1
  have hK := h.2.2.2.1
  have hO := h.2.2.2.2.2.1
  obtain ⟨⟨m1, m2, m3, m4⟩, c1, c2, c3, c4, c5, c6, c7, c8, c9, c10, c11⟩ := hC
  obtain ⟨n, tl, k1, k2, k3, k4, k5, k6, k7, k8, k9⟩ := hK
  obtain ⟨o1, o2, o3, o4, o5, o6, o7, o8, o9⟩ := hO
  refine ⟨(I 1 7, v_up I 1 7 0), ((v_up I 1 7 0) 51 50, v_up (v_up I 1 7 0) 51 50 0), s_X9_forget h.1 h.2.1 I, s_X10_forget h.1 h.2.1 _, ?_, h.1, ?_⟩
  · simpa [v_up] using c7
  · refine R_K h (fk_up (fk_up (fk_refl I) (by omega)) (by omega)) ?_ ?_ ?_ (by simp [v_up]) (.inr ⟨by simp [v_up], by simp [v_up], by simp [v_up]⟩)
    · refine ⟨⟨?_, ?_, ?_, ?_⟩, ?_, ?_, ?_, ?_, ?_, ?_, ?_, ?_, ?_, ?_, ?_⟩ <;> intros <;> simp only [v_up] <;> (try rw [if_neg (by omega)]) <;> (try rw [if_neg (by omega)]) <;> (try rw [if_neg (by omega)]) <;> (try rw [if_neg (by omega)]) <;> first | (simp [*]; done) | skip
    · refine ⟨n, tl, k1, ?_, ⟨?_, ?_, ?_⟩, ?_, ?_, ?_, k7, ?_, ?_⟩ <;> intros <;> simp only [v_up] <;> (try rw [if_neg (by omega)]) <;> (try rw [if_neg (by omega)]) <;> first | exact k2 | exact k3.1 | exact k3.2.1 | exact k3.2.2 _ ‹_› | exact k4 _ ‹_› | exact k5 | exact k6 _ ‹_› | exact k8 | exact k9 | skip
      exact ⟨0, by omega, by simp; rfl⟩
    · simp [rO, v_up, *]
theorem law_cases {S : v_S} {I : v_I} {J : v_J} {F : v_F} (h : R S I J F) (p : Int32) (hp : p ≠ -1) : (∃ (tl k : Nat) (x : Nat), tl ≤ 6 ∧ I 51 51 = nI tl ∧ k < tl ∧ p = nI k ∧ h_X0_lawAt S I F p = some (some x) ∧ F 9 k = some x ∧ h_X10_isLaw I p = some 1) ∨ (h_X0_lawAt S I F p = some none ∧ h_X10_isLaw I p = some 0) := by
  have hC := h.2.2.1
  have hK := h.2.2.2.1
  obtain ⟨⟨m1, m2, m3, m4⟩, c1, c2, c3, c4, c5, c6, c7, c8, c9, c10, c11⟩ := hC
  obtain ⟨n, tl, k1, k2, k3, k4, k5, k6, k7, k8, k9⟩ := hK
  obtain ⟨own, hN, hL, _⟩ := h.2.2.2.2.2.2.2.2
  have hl : h_X10_isLaw I p = some (if -1 ≤ p ∧ p ≤ I 51 51 - 1 then 1 else 0) := by
    unfold h_X10_isLaw
    simp only [b_lies, p_bs, b_bl]
  by_cases h0 : p < 0
  · right
    refine ⟨?_, ?_⟩
    · unfold h_X0_lawAt
      rw [if_pos h0]
    · rw [hl, if_neg]
      rintro ⟨q, _⟩
      rw [Int32.lt_iff_toInt_lt] at h0
      rw [Int32.le_iff_toInt_le] at q
      apply hp
      rw [← Int32.toInt_inj]
      have e1 : (-1 : Int32).toInt = -1 := by decide
      have e2 : (0 : Int32).toInt = 0 := by decide
      omega
  · obtain ⟨k, hk, rfl⟩ := nI_of h0
    have hm : -1 ≤ nI k := by
      rw [Int32.le_iff_toInt_le, nI_toInt hk]
      have e1 : (-1 : Int32).toInt = -1 := by decide
      omega
    by_cases hlt : k < tl
    · left
      obtain ⟨x, hx, _⟩ := hL k tl k7 k8 hlt
      refine ⟨tl, k, x, k7, k8, hlt, rfl, ?_, hx, ?_⟩
      · unfold h_X0_lawAt
        rw [if_neg h0, if_neg (i_nle (c10.trans k8) rfl hlt (by omega)), if_neg (show ¬ (6 : Int32) ≤ nI k from i_nle (a := 6) rfl rfl (by omega) (by omega)), p_in_nI (by omega) (by omega)]
        simp only [p_bs, p_le, hx]
      · have q : nI k ≤ I 51 51 - 1 := by
          rw [k8]
          obtain ⟨t', rfl⟩ : ∃ t', tl = t' + 1 := ⟨tl - 1, by omega⟩
          rw [nI_pred]
          exact nI_le (by omega) (by omega)
        rw [hl, if_pos ⟨hm, q⟩]
    · right
      refine ⟨?_, ?_⟩
      · unfold h_X0_lawAt
        rw [if_neg h0, if_pos (i_le (c10.trans k8) rfl (by omega) (by omega))]
      · rw [hl, if_neg]
        rintro ⟨_, q⟩
        rw [k8] at q
        cases tl with
        | zero =>
          rw [Int32.le_iff_toInt_le, nI_toInt hk] at q
          have : (nI 0 - 1).toInt = -1 := by decide
          omega
        | succ t =>
          rw [nI_pred] at q
          exact absurd q (nI_ge (by omega) (by omega))
theorem isLaw_none {S : v_S} {I : v_I} {J : v_J} {F : v_F} (h : R S I J F) : h_X10_isLaw I (-1) = some 1 := by
  have hK := h.2.2.2.1
  obtain ⟨n, tl, k1, k2, k3, k4, k5, k6, k7, k8, k9⟩ := hK
  have hl : h_X10_isLaw I (-1) = some (if -1 ≤ (-1 : Int32) ∧ (-1 : Int32) ≤ I 51 51 - 1 then 1 else 0) := by
    unfold h_X10_isLaw
    simp only [b_lies, p_bs, b_bl]
  have q : (-1 : Int32) ≤ I 51 51 - 1 := by
    rw [k8]
    cases tl with
    | zero => decide
    | succ t =>
      rw [nI_pred, Int32.le_iff_toInt_le, nI_toInt (by omega)]
      have e1 : (-1 : Int32).toInt = -1 := by decide
      omega
  rw [hl, if_pos ⟨Int32.le_refl _, q⟩]
theorem ok_12 {S : v_S} {I : v_I} {J : v_J} {F : v_F} (h : R S I J F) : op_12 R S I J F := by
  intro a
  have hC := h.2.2.1
  have hK := h.2.2.2.1
  have hO := h.2.2.2.2.2.1
  obtain ⟨⟨m1, m2, m3, m4⟩, c1, c2, c3, c4, c5, c6, c7, c8, c9, c10, c11⟩ := hC
  obtain ⟨n, tl, k1, k2, k3, k4, k5, k6, k7, k8, k9⟩ := hK
  obtain ⟨o1, o2, o3, o4, o5, o6, o7, o8, o9⟩ := hO
  simp only [s_X9_force h.1 h.2.1, s_X10_force h.1 h.2.1]
  have acc : (a = -1 ∨ ∃ f : Nat, f < tl ∧ a = nI f) → h_X9_force S I F a = some (I 1 12, v_up (v_up I 1 12 a) 0 14 0) → (∀ I' : v_I, I' 51 51 = I 51 51 → h_X10_isLaw I' a = some 1) → ∃ (r : Int32 × v_I) (q : Int32 × v_I), h_X9_force S I F a = some r ∧ h_X10_force r.2 a = some q ∧ r.1 = q.1 ∧ p_SS S ∧ R S q.2 J F := by
    intro ha hc hm
    have e := hm (v_up (v_up I 1 12 a) 0 14 0) (by simp [v_up])
    refine ⟨_, ((v_up (v_up I 1 12 a) 0 14 0) 51 52, v_up (v_up (v_up (v_up I 1 12 a) 0 14 0) 51 52 a) 49 0 0), hc, ?_, ?_, h.1, ?_⟩
    · unfold h_X10_force
      simp only [e, p_bs, p_le, i10, if_false, m_good]
    · simpa [v_up] using c11
    · refine R_K h (fk_up (fk_up (fk_up (fk_up (fk_refl I) (by omega)) (by omega)) (by omega)) (by omega)) ?_ ?_ ?_ (by simp [v_up]) (.inr ⟨by simp [v_up], by simp [v_up], by simp [v_up]⟩)
      · refine ⟨⟨?_, ?_, ?_, ?_⟩, ?_, ?_, ?_, ?_, ?_, ?_, ?_, ?_, ?_, ?_, ?_⟩ <;> intros <;> simp only [v_up] <;> (try rw [if_neg (by omega)]) <;> (try rw [if_neg (by omega)]) <;> (try rw [if_neg (by omega)]) <;> (try rw [if_neg (by omega)]) <;> (try rw [if_neg (by omega)]) <;> (try rw [if_neg (by omega)]) <;> (try rw [if_neg (by omega)]) <;> (try rw [if_neg (by omega)]) <;> first | (simp [*]; done) | skip
      · refine ⟨n, tl, k1, ?_, ⟨?_, ?_, ?_⟩, ?_, ?_, ?_, k7, ?_, ?_⟩ <;> intros <;> simp only [v_up] <;> (try rw [if_neg (by omega)]) <;> (try rw [if_neg (by omega)]) <;> (try rw [if_neg (by omega)]) <;> first | exact k2 | exact k3.1 | exact k3.2.1 | exact k3.2.2 _ ‹_› | exact k4 _ ‹_› | exact k5 | exact k6 _ ‹_› | exact k8 | exact k9 | skip
        simpa using ha
      · simp [rO, v_up, *]
  have lawc : ∀ I' : v_I, I' 51 51 = I 51 51 → h_X10_isLaw I' a = h_X10_isLaw I a := fun I' e => by
    unfold h_X10_isLaw; rw [e]
  by_cases hp : a = -1
  · subst hp
    refine acc (.inl rfl) ?_ (fun I' e => (lawc I' e).trans (isLaw_none h))
    unfold h_X9_force h_X9_force_J23
    rw [if_pos rfl]
    simp only [p_le, c_accept, p_bs]
  · rcases law_cases h a hp with ⟨tl', k, x, q1, q2, q3, q4, q5, _, q6⟩ | ⟨q1, q2⟩
    · have : tl' = tl := (nI_eq (by omega) (by omega)).mp (q2.symm.trans k8)
      subst this
      refine acc (.inr ⟨k, q3, q4⟩) ?_ (fun I' e => (lawc I' e).trans q6)
      unfold h_X9_force h_X9_force_J23
      rw [if_neg hp, q5, p_bs]
      simp only [p_nul, p_le, c_accept, p_bs]
    · obtain ⟨I1, I2, e1, e2, hR⟩ := R_ref2 (J' := J) h
      have e3 : I1 51 51 = I 51 51 := by
        rw [c_ref2] at e1
        cases e1
        simp [v_up]
      refine ⟨(-2, I1), (-2, I2), ?_, ?_, rfl, h.1, hR⟩
      · unfold h_X9_force
        rw [if_neg hp, q1, p_bs]
        simp only [p_nul, e1, p_bs]
      · unfold h_X10_force
        simp only [(lawc I1 e3).trans q2, p_bs, if_true, e2]
theorem ok_3 {S : v_S} {I : v_I} {J : v_J} {F : v_F} (h : R S I J F) : op_3 R S I J F := by
  intro a b
  have hC := h.2.2.1
  have hK := h.2.2.2.1
  have hO := h.2.2.2.2.2.1
  obtain ⟨⟨m1, m2, m3, m4⟩, c1, c2, c3, c4, c5, c6, c7, c8, c9, c10, c11⟩ := hC
  obtain ⟨n, tl, k1, k2, k3, k4, k5, k6, k7, k8, k9⟩ := hK
  obtain ⟨o1, o2, o3, o4, o5, o6, o7, o8, o9⟩ := hO
  simp only [s_X9_terms h.1 h.2.1, s_X10_terms h.1 h.2.1]
  have bad : h_X9_terms S I F a b = h_X9_refuse S I F (-1) → (∀ I', h_X10_terms I' a b = h_X10_refuses I' (-1)) → ∃ (r : Int32 × v_I) (q : Int32 × v_I), h_X9_terms S I F a b = some r ∧ h_X10_terms r.2 a b = some q ∧ r.1 = q.1 ∧ p_SS S ∧ R S q.2 J F := by
    intro ec em
    obtain ⟨I1, I2, e1, e2, hR⟩ := R_ref1 (J' := J) h
    exact ⟨(-1, I1), (-1, I2), ec.trans e1, (em I1).trans e2, rfl, h.1, hR⟩
  have bindref : ∀ o : Option (Int32 × v_I), (o.bind fun r => some (r.1, r.2)) = o := fun o => by cases o <;> rfl
  rcases upTo_cases a (q := 3) (m := 3) rfl (by omega) with ⟨k, hk, rfl, u1, -⟩ | ⟨u1, -, u3⟩
  · have four : k = 0 ∨ k = 1 ∨ k = 2 ∨ k = 3 := by omega
    rcases four with rfl | rfl | rfl | rfl
    · rcases upTo_cases b (q := 999) (m := 999) rfl (by omega) with ⟨q, hq, rfl, v1, v2⟩ | ⟨v1, v2, v3⟩
      · have tc : h_X9_terms S I F (nI 0) (nI q) = some (I 2 1, v_up (v_up (v_up I 2 1 (nI q)) 11 0 0) 0 14 0) := by
          have e : p_mt (nI 0) = some 999 := by decide
          unfold h_X9_terms
          simp only [u1, p_bs, i10, if_false, e, v1]
          unfold h_X0_term h_X0_setTerm
          rw [if_pos (show nI 0 = 0 from rfl), if_pos (show nI 0 = 0 from rfl)]
          simp only [p_bs, p_le, c_clear, c_accept]
        have tm : ∀ I' : v_I, h_X10_terms I' (nI 0) (nI q) = some (I' 51 17, v_up (v_up (v_up I' 51 17 (nI q)) 49 32 0) 49 0 0) := fun I' => by
          have e : h_X10_isTerm (nI 0) (nI q) = some 1 := by
            unfold h_X10_isTerm
            rw [if_pos (show nI 0 = 0 from rfl)]
            skip
            simp only [v2, p_bs]
            have e2 : p_bl 1 = some () := by decide
            simp only [e2, p_bs]
          have e1 : h_X10_termAt (nI 0) = some 17 := by decide
          have e2 : p_in 5660 17 = some 17 := by decide
          unfold h_X10_terms
          simp only [e, e1, e2, p_bs, p_le, i10, if_false, m_settled]
        refine ⟨_, _, tc, tm _, ?_, h.1, ?_⟩
        · simpa [v_up] using m2
        · refine R_K h (fk_up (fk_up (fk_up (fk_up (fk_up (fk_up (fk_refl I) (by omega)) (by omega)) (by omega)) (by omega)) (by omega)) (by omega)) ?_ ?_ ?_ (by simp [v_up]) (.inl ⟨by simp [v_up], by simp [v_up]⟩)
          · refine ⟨⟨?_, ?_, ?_, ?_⟩, ?_, ?_, ?_, ?_, ?_, ?_, ?_, ?_, ?_, ?_, ?_⟩ <;> intros <;> simp only [v_up] <;> (try rw [if_neg (by omega)]) <;> (try rw [if_neg (by omega)]) <;> (try rw [if_neg (by omega)]) <;> (try rw [if_neg (by omega)]) <;> (try rw [if_neg (by omega)]) <;> (try rw [if_neg (by omega)]) <;> (try rw [if_neg (by omega)]) <;> (try rw [if_neg (by omega)]) <;> (try rw [if_neg (by omega)]) <;> (try rw [if_neg (by omega)]) <;> first | (simp [*]; done) | skip
          · refine ⟨n, tl, k1, ?_, ⟨?_, ?_, ?_⟩, ?_, ?_, ?_, k7, ?_, ?_⟩ <;> intros <;> simp only [v_up] <;> (try rw [if_neg (by omega)]) <;> (try rw [if_neg (by omega)]) <;> (try rw [if_neg (by omega)]) <;> (try rw [if_neg (by omega)]) <;> first | exact k2 | exact k3.1 | exact k3.2.1 | exact k3.2.2 _ ‹_› | exact k4 _ ‹_› | exact k5 | exact k6 _ ‹_› | exact k8 | exact k9 | skip
            exact ⟨q, hq, by simp⟩
          · simp [rO, v_up, *]
      · refine bad ?_ (fun I' => ?_)
        · have e : p_mt (nI 0) = some 999 := by decide
          unfold h_X9_terms h_X9_terms_J22
          simp only [u1, p_bs, i10, if_false, e, v1, if_true, bindref]
        · have e : h_X10_isTerm (nI 0) b = some 0 := by
            unfold h_X10_isTerm
            rw [if_pos (show nI 0 = 0 from rfl)]
            skip
            simp only [v2, p_bs]
            have e2 : p_bl 0 = some () := by decide
            simp only [e2, p_bs]
          unfold h_X10_terms
          simp only [e, p_bs, if_true, bindref]
    · rcases upTo_cases b (q := 10) (m := 10) rfl (by omega) with ⟨q, hq, rfl, v1, v2⟩ | ⟨v1, v2, v3⟩
      · have tc : h_X9_terms S I F (nI 1) (nI q) = some (I 1 4, v_up (v_up (v_up I 1 4 (nI q)) 11 0 0) 0 14 0) := by
          have e : p_mt (nI 1) = some 10 := by decide
          unfold h_X9_terms
          simp only [u1, p_bs, i10, if_false, e, v1]
          unfold h_X0_term h_X0_setTerm
          rw [if_neg (show ¬ nI 1 = 0 by decide), if_pos (show nI 1 = 1 from rfl), if_neg (show ¬ nI 1 = 0 by decide), if_pos (show nI 1 = 1 from rfl)]
          simp only [p_bs, p_le, c_clear, c_accept]
        have tm : ∀ I' : v_I, h_X10_terms I' (nI 1) (nI q) = some (I' 51 46, v_up (v_up (v_up I' 51 46 (nI q)) 49 32 0) 49 0 0) := fun I' => by
          have e : h_X10_isTerm (nI 1) (nI q) = some 1 := by
            unfold h_X10_isTerm
            rw [if_neg (show ¬ nI 1 = 0 by decide), if_pos (show nI 1 = 1 from rfl)]
            skip
            simp only [v2, p_bs]
            have e2 : p_bl 1 = some () := by decide
            simp only [e2, p_bs]
          have e1 : h_X10_termAt (nI 1) = some 46 := by decide
          have e2 : p_in 5660 46 = some 46 := by decide
          unfold h_X10_terms
          simp only [e, e1, e2, p_bs, p_le, i10, if_false, m_settled]
        refine ⟨_, _, tc, tm _, ?_, h.1, ?_⟩
        · simpa [v_up] using c4
        · refine R_K h (fk_up (fk_up (fk_up (fk_up (fk_up (fk_up (fk_refl I) (by omega)) (by omega)) (by omega)) (by omega)) (by omega)) (by omega)) ?_ ?_ ?_ (by simp [v_up]) (.inl ⟨by simp [v_up], by simp [v_up]⟩)
          · refine ⟨⟨?_, ?_, ?_, ?_⟩, ?_, ?_, ?_, ?_, ?_, ?_, ?_, ?_, ?_, ?_, ?_⟩ <;> intros <;> simp only [v_up] <;> (try rw [if_neg (by omega)]) <;> (try rw [if_neg (by omega)]) <;> (try rw [if_neg (by omega)]) <;> (try rw [if_neg (by omega)]) <;> (try rw [if_neg (by omega)]) <;> (try rw [if_neg (by omega)]) <;> (try rw [if_neg (by omega)]) <;> (try rw [if_neg (by omega)]) <;> (try rw [if_neg (by omega)]) <;> (try rw [if_neg (by omega)]) <;> first | (simp [*]; done) | skip
          · refine ⟨n, tl, k1, ?_, ⟨?_, ?_, ?_⟩, ?_, ?_, ?_, k7, ?_, ?_⟩ <;> intros <;> simp only [v_up] <;> (try rw [if_neg (by omega)]) <;> (try rw [if_neg (by omega)]) <;> (try rw [if_neg (by omega)]) <;> (try rw [if_neg (by omega)]) <;> first | exact k2 | exact k3.1 | exact k3.2.1 | exact k3.2.2 _ ‹_› | exact k4 _ ‹_› | exact k5 | exact k6 _ ‹_› | exact k8 | exact k9 | skip
          · simp [rO, v_up, *]
      · refine bad ?_ (fun I' => ?_)
        · have e : p_mt (nI 1) = some 10 := by decide
          unfold h_X9_terms h_X9_terms_J22
          simp only [u1, p_bs, i10, if_false, e, v1, if_true, bindref]
        · have e : h_X10_isTerm (nI 1) b = some 0 := by
            unfold h_X10_isTerm
            rw [if_neg (show ¬ nI 1 = 0 by decide), if_pos (show nI 1 = 1 from rfl)]
            skip
            simp only [v2, p_bs]
            have e2 : p_bl 0 = some () := by decide
            simp only [e2, p_bs]
          unfold h_X10_terms
          simp only [e, p_bs, if_true, bindref]
    · rcases upTo_cases b (q := 9) (m := 9) rfl (by omega) with ⟨q, hq, rfl, v1, v2⟩ | ⟨v1, v2, v3⟩
      · have tc : h_X9_terms S I F (nI 2) (nI q) = some (I 1 5, v_up (v_up (v_up I 1 5 (nI q)) 11 0 0) 0 14 0) := by
          have e : p_mt (nI 2) = some 9 := by decide
          unfold h_X9_terms
          simp only [u1, p_bs, i10, if_false, e, v1]
          unfold h_X0_term h_X0_setTerm
          rw [if_neg (show ¬ nI 2 = 0 by decide), if_neg (show ¬ nI 2 = 1 by decide), if_pos (show nI 2 = 2 from rfl), if_neg (show ¬ nI 2 = 0 by decide), if_neg (show ¬ nI 2 = 1 by decide), if_pos (show nI 2 = 2 from rfl)]
          simp only [p_bs, p_le, c_clear, c_accept]
        have tm : ∀ I' : v_I, h_X10_terms I' (nI 2) (nI q) = some (I' 51 47, v_up (v_up (v_up I' 51 47 (nI q)) 49 32 0) 49 0 0) := fun I' => by
          have e : h_X10_isTerm (nI 2) (nI q) = some 1 := by
            unfold h_X10_isTerm
            rw [if_neg (show ¬ nI 2 = 0 by decide), if_neg (show ¬ nI 2 = 1 by decide), if_pos (show nI 2 = 2 from rfl)]
            unfold h_X10_isNine
            simp only [v2, p_bs]
            have e2 : p_bl 1 = some () := by decide
            simp only [e2, p_bs]
          have e1 : h_X10_termAt (nI 2) = some 47 := by decide
          have e2 : p_in 5660 47 = some 47 := by decide
          unfold h_X10_terms
          simp only [e, e1, e2, p_bs, p_le, i10, if_false, m_settled]
        refine ⟨_, _, tc, tm _, ?_, h.1, ?_⟩
        · simpa [v_up] using c5
        · refine R_K h (fk_up (fk_up (fk_up (fk_up (fk_up (fk_up (fk_refl I) (by omega)) (by omega)) (by omega)) (by omega)) (by omega)) (by omega)) ?_ ?_ ?_ (by simp [v_up]) (.inl ⟨by simp [v_up], by simp [v_up]⟩)
          · refine ⟨⟨?_, ?_, ?_, ?_⟩, ?_, ?_, ?_, ?_, ?_, ?_, ?_, ?_, ?_, ?_, ?_⟩ <;> intros <;> simp only [v_up] <;> (try rw [if_neg (by omega)]) <;> (try rw [if_neg (by omega)]) <;> (try rw [if_neg (by omega)]) <;> (try rw [if_neg (by omega)]) <;> (try rw [if_neg (by omega)]) <;> (try rw [if_neg (by omega)]) <;> (try rw [if_neg (by omega)]) <;> (try rw [if_neg (by omega)]) <;> (try rw [if_neg (by omega)]) <;> (try rw [if_neg (by omega)]) <;> first | (simp [*]; done) | skip
          · refine ⟨n, tl, k1, ?_, ⟨?_, ?_, ?_⟩, ?_, ?_, ?_, k7, ?_, ?_⟩ <;> intros <;> simp only [v_up] <;> (try rw [if_neg (by omega)]) <;> (try rw [if_neg (by omega)]) <;> (try rw [if_neg (by omega)]) <;> (try rw [if_neg (by omega)]) <;> first | exact k2 | exact k3.1 | exact k3.2.1 | exact k3.2.2 _ ‹_› | exact k4 _ ‹_› | exact k5 | exact k6 _ ‹_› | exact k8 | exact k9 | skip
          · simp [rO, v_up, *]
      · refine bad ?_ (fun I' => ?_)
        · have e : p_mt (nI 2) = some 9 := by decide
          unfold h_X9_terms h_X9_terms_J22
          simp only [u1, p_bs, i10, if_false, e, v1, if_true, bindref]
        · have e : h_X10_isTerm (nI 2) b = some 0 := by
            unfold h_X10_isTerm
            rw [if_neg (show ¬ nI 2 = 0 by decide), if_neg (show ¬ nI 2 = 1 by decide), if_pos (show nI 2 = 2 from rfl)]
            unfold h_X10_isNine
            simp only [v2, p_bs]
            have e2 : p_bl 0 = some () := by decide
            simp only [e2, p_bs]
          unfold h_X10_terms
          simp only [e, p_bs, if_true, bindref]
    · rcases upTo_cases b (q := 9) (m := 9) rfl (by omega) with ⟨q, hq, rfl, v1, v2⟩ | ⟨v1, v2, v3⟩
      · have tc : h_X9_terms S I F (nI 3) (nI q) = some (I 1 6, v_up (v_up (v_up I 1 6 (nI q)) 11 0 0) 0 14 0) := by
          have e : p_mt (nI 3) = some 9 := by decide
          unfold h_X9_terms
          simp only [u1, p_bs, i10, if_false, e, v1]
          unfold h_X0_term h_X0_setTerm
          rw [if_neg (show ¬ nI 3 = 0 by decide), if_neg (show ¬ nI 3 = 1 by decide), if_neg (show ¬ nI 3 = 2 by decide), if_pos (show nI 3 = 3 from rfl), if_neg (show ¬ nI 3 = 0 by decide), if_neg (show ¬ nI 3 = 1 by decide), if_neg (show ¬ nI 3 = 2 by decide), if_pos (show nI 3 = 3 from rfl)]
          simp only [p_bs, p_le, c_clear, c_accept]
        have tm : ∀ I' : v_I, h_X10_terms I' (nI 3) (nI q) = some (I' 51 48, v_up (v_up (v_up I' 51 48 (nI q)) 49 32 0) 49 0 0) := fun I' => by
          have e : h_X10_isTerm (nI 3) (nI q) = some 1 := by
            unfold h_X10_isTerm
            rw [if_neg (show ¬ nI 3 = 0 by decide), if_neg (show ¬ nI 3 = 1 by decide), if_neg (show ¬ nI 3 = 2 by decide), if_pos (show nI 3 = 3 from rfl)]
            unfold h_X10_isNine
            simp only [v2, p_bs]
            have e2 : p_bl 1 = some () := by decide
            simp only [e2, p_bs]
          have e1 : h_X10_termAt (nI 3) = some 48 := by decide
          have e2 : p_in 5660 48 = some 48 := by decide
          unfold h_X10_terms
          simp only [e, e1, e2, p_bs, p_le, i10, if_false, m_settled]
        refine ⟨_, _, tc, tm _, ?_, h.1, ?_⟩
        · simpa [v_up] using c6
        · refine R_K h (fk_up (fk_up (fk_up (fk_up (fk_up (fk_up (fk_refl I) (by omega)) (by omega)) (by omega)) (by omega)) (by omega)) (by omega)) ?_ ?_ ?_ (by simp [v_up]) (.inl ⟨by simp [v_up], by simp [v_up]⟩)
          · refine ⟨⟨?_, ?_, ?_, ?_⟩, ?_, ?_, ?_, ?_, ?_, ?_, ?_, ?_, ?_, ?_, ?_⟩ <;> intros <;> simp only [v_up] <;> (try rw [if_neg (by omega)]) <;> (try rw [if_neg (by omega)]) <;> (try rw [if_neg (by omega)]) <;> (try rw [if_neg (by omega)]) <;> (try rw [if_neg (by omega)]) <;> (try rw [if_neg (by omega)]) <;> (try rw [if_neg (by omega)]) <;> (try rw [if_neg (by omega)]) <;> (try rw [if_neg (by omega)]) <;> (try rw [if_neg (by omega)]) <;> first | (simp [*]; done) | skip
          · refine ⟨n, tl, k1, ?_, ⟨?_, ?_, ?_⟩, ?_, ?_, ?_, k7, ?_, ?_⟩ <;> intros <;> simp only [v_up] <;> (try rw [if_neg (by omega)]) <;> (try rw [if_neg (by omega)]) <;> (try rw [if_neg (by omega)]) <;> (try rw [if_neg (by omega)]) <;> first | exact k2 | exact k3.1 | exact k3.2.1 | exact k3.2.2 _ ‹_› | exact k4 _ ‹_› | exact k5 | exact k6 _ ‹_› | exact k8 | exact k9 | skip
          · simp [rO, v_up, *]
      · refine bad ?_ (fun I' => ?_)
        · have e : p_mt (nI 3) = some 9 := by decide
          unfold h_X9_terms h_X9_terms_J22
          simp only [u1, p_bs, i10, if_false, e, v1, if_true, bindref]
        · have e : h_X10_isTerm (nI 3) b = some 0 := by
            unfold h_X10_isTerm
            rw [if_neg (show ¬ nI 3 = 0 by decide), if_neg (show ¬ nI 3 = 1 by decide), if_neg (show ¬ nI 3 = 2 by decide), if_pos (show nI 3 = 3 from rfl)]
            unfold h_X10_isNine
            simp only [v2, p_bs]
            have e2 : p_bl 0 = some () := by decide
            simp only [e2, p_bs]
          unfold h_X10_terms
          simp only [e, p_bs, if_true, bindref]
  · refine bad ?_ (fun I' => ?_)
    · unfold h_X9_terms h_X9_terms_J22
      simp only [u1, p_bs, if_true, bindref]
    · have e : h_X10_isTerm a b = some 0 := by
        unfold h_X10_isTerm
        rw [if_neg (fun q => u3 (by rw [q]; decide)), if_neg (fun q => u3 (by rw [q]; decide)), if_neg (fun q => u3 (by rw [q]; decide)), if_neg (fun q => u3 (by rw [q]; decide))]
      unfold h_X10_terms
      simp only [e, p_bs, if_true, bindref]
end sp50
