noncomputable section sp52
theorem bit_of {p : Int32} {x : Int32} (e : h_X10_lies p 0 1 = some x) (hx : x = 0 ∨ x = 1) : h_X10_isBit p = some x := by
  unfold h_X10_isBit
  have e2 : p_bl x = some () := by rcases hx with rfl | rfl <;> decide
  simp only [e, p_bs, e2]
theorem ok_1 {S : v_S} {I : v_I} {J : v_J} {F : v_F} (h : R S I J F) : op_1 R S I J F := by
  intro a b c
  have hC := h.2.2.1
  have hK := h.2.2.2.1
  have hO := h.2.2.2.2.2.1
  obtain ⟨⟨m1, m2, m3, m4⟩, c1, c2, c3, c4, c5, c6, c7, c8, c9, c10, c11⟩ := hC
  obtain ⟨n, tl, k1, k2, k3, k4, k5, k6, k7, k8, k9⟩ := hK
  obtain ⟨o1, o2, o3, o4, o5, o6, o7, o8, o9⟩ := hO
  simp only [s_X9_watch h.1 h.2.1, s_X10_watch h.1 h.2.1]
  have bad1 : h_X9_watch S I F a b c = h_X9_refuse S I F (-1) → (∀ I', h_X10_watch I' a b c = h_X10_refuses I' (-1)) → ∃ (r : Int32 × v_I) (q : Int32 × v_I), h_X9_watch S I F a b c = some r ∧ h_X10_watch r.2 a b c = some q ∧ r.1 = q.1 ∧ p_SS S ∧ R S q.2 J F := by
    intro ec em
    obtain ⟨I1, I2, e1, e2, hR⟩ := R_ref1 (J' := J) h
    exact ⟨(-1, I1), (-1, I2), ec.trans e1, (em I1).trans e2, rfl, h.1, hR⟩
  have bad2 : h_X9_watch S I F a b c = h_X9_refuse S I F (-2) → (∀ I' : v_I, I' 51 49 = nI n → h_X10_watch I' a b c = h_X10_refuses I' (-2)) → ∃ (r : Int32 × v_I) (q : Int32 × v_I), h_X9_watch S I F a b c = some r ∧ h_X10_watch r.2 a b c = some q ∧ r.1 = q.1 ∧ p_SS S ∧ R S q.2 J F := by
    intro ec em
    obtain ⟨I1, I2, e1, e2, hR⟩ := R_ref2 (J' := J) h
    refine ⟨(-2, I1), (-2, I2), ec.trans e1, (em I1 ?_).trans e2, rfl, h.1, hR⟩
    rw [c_ref2] at e1
    cases e1
    simp [v_up, k2]
  rcases upTo_cases c (q := 1) (m := 1) rfl (by omega) with ⟨is, his, rfl, u1, u2⟩ | ⟨u1, u2, u3⟩
  · by_cases hab : a = b
    · refine bad1 ?_ (fun I' => ?_)
      · unfold h_X9_watch h_X9_watch_J14
        simp only [u1, p_bs, i10, if_false, if_pos hab, bindref]
      · unfold h_X10_watch h_X10_watch_J12
        simp only [if_pos hab, bindref]
    · rcases one_cases a k1 with ⟨x, hx, rfl, ha1, ha2⟩ | ⟨ha1, ha2, ha3⟩
      · rcases one_cases b k1 with ⟨y, hy, rfl, hb1, hb2⟩ | ⟨hb1, hb2, hb3⟩
        · have tc : h_X9_watch S I F (nI x) (nI y) (nI is) = some ((I 6 x >>> (nI y &&& 31)) &&& 1, v_up (v_up I 6 x ((I 6 x &&& ((1 <<< (nI y &&& 31)) ^^^ -1)) ||| (nI is <<< (nI y &&& 31)))) 0 14 0) := by
            unfold h_X9_watch h_X0_setWatching
            simp only [u1, p_bs, i10, if_false, if_neg hab, ha1 S I (c1.trans k2), hb1 S I (c1.trans k2), p_in_nI (show x < 8 by omega) (by omega), p_le, c_accept]
          have tm : ∀ I' : v_I, I' 51 49 = nI n → h_X10_watch I' (nI x) (nI y) (nI is) = some ((I' 51 (26 + x) >>> (nI y &&& 31)) &&& 1, v_up (v_up I' 51 (26 + x) ((I' 51 (26 + x) &&& ((1 <<< (nI y &&& 31)) ^^^ -1)) ||| (nI is <<< (nI y &&& 31)))) 49 0 0) := fun I' e => by
            have e26 : p_in 5660 (26 + nI x) = some (26 + x) := p_inA (c := 26) rfl (by omega) (by omega)
            unfold h_X10_watch
            simp only [bit_of u2 (.inr rfl), p_bs, i10, if_false, if_neg hab, ha2 I' e, hb2 I' e, e26, p_le, m_good]
          refine ⟨_, _, tc, tm _ (by simp [v_up, k2]), ?_, h.1, ?_⟩
          · simp [v_up, c3 x (by omega)]
          · dsimp only
            obtain ⟨w, hw, ew⟩ := k4 x (by omega)
            have p8 := two_le k1
            have val : (I 6 x &&& ((1 <<< (nI y &&& 31)) ^^^ -1)) ||| (nI is <<< (nI y &&& 31)) = nI ((w &&& (255 - 2 ^ y)) ||| (is * 2 ^ y)) := by
              rw [c3 x (by omega), ew]; exact b_wat y w is (by omega) (by omega) (by omega)
            have vlt : (w &&& (255 - 2 ^ y)) ||| (is * 2 ^ y) < 2 ^ n := by
              apply Nat.or_lt_two_pow
              · exact Nat.lt_of_le_of_lt Nat.and_le_left hw
              · have : 2 ^ y < 2 ^ n := Nat.pow_lt_pow_right (by omega) hy
                have h2 : is * 2 ^ y ≤ 1 * 2 ^ y := Nat.mul_le_mul_right _ his
                omega
            have v2 : (v_up (v_up I 6 x ((I 6 x &&& ((1 <<< (nI y &&& 31)) ^^^ -1)) ||| (nI is <<< (nI y &&& 31)))) 0 14 0) 51 = I 51 := by
              funext j; simp [v_up]
            rw [v2, val, ← c3 x (by omega), val]
            refine R_K h (fk_up (fk_up (fk_up (fk_up (fk_refl I) (by omega)) (by omega)) (by omega)) (by omega)) ?_ ?_ ?_ ?_ (.inr ⟨by simp [v_up], by simp [v_up], ?_⟩)
            · refine ⟨⟨?_, ?_, ?_, ?_⟩, ?_, ?_, ?_, ?_, ?_, ?_, ?_, ?_, ?_, ?_, ?_⟩
              · simp only [v_up]; rw [if_neg (by omega), if_neg (by omega), if_neg (by omega), if_neg (by omega), if_neg (by omega), if_neg (by omega), if_neg (by omega), if_neg (by omega)]; exact m1
              · simp only [v_up]; rw [if_neg (by omega), if_neg (by omega), if_neg (by omega), if_neg (by omega), if_neg (by omega), if_neg (by omega), if_neg (by omega), if_neg (by omega)]; exact m2
              · intro z hz; simp only [v_up]; rw [if_neg (by omega), if_neg (by omega), if_neg (by omega), if_neg (by omega), if_neg (by omega), if_neg (by omega), if_neg (by omega), if_neg (by omega)]; exact m3 z hz
              · intro z hz; simp only [v_up]; rw [if_neg (by omega), if_neg (by omega), if_neg (by omega), if_neg (by omega), if_neg (by omega), if_neg (by omega), if_neg (by omega), if_neg (by omega)]; exact m4 z hz
              · simp only [v_up]; rw [if_neg (by omega), if_neg (by omega), if_neg (by omega), if_neg (by omega), if_neg (by omega), if_neg (by omega), if_neg (by omega), if_neg (by omega)]; exact c1
              · intro z hz; simp only [v_up]; rw [if_neg (by omega), if_neg (by omega), if_neg (by omega), if_neg (by omega), if_neg (by omega), if_neg (by omega), if_neg (by omega), if_neg (by omega)]; exact c2 z hz
              · intro z hz
                by_cases e : z = x
                · subst e; simp [v_up]
                · simp only [v_up]; rw [if_neg (by omega), if_neg (by omega), if_neg (by omega), if_neg (by omega), if_neg (by omega), if_neg (by omega), if_neg (by omega), if_neg (by omega)]; exact c3 z hz
              · simp only [v_up]; rw [if_neg (by omega), if_neg (by omega), if_neg (by omega), if_neg (by omega), if_neg (by omega), if_neg (by omega), if_neg (by omega), if_neg (by omega)]; exact c4
              · simp only [v_up]; rw [if_neg (by omega), if_neg (by omega), if_neg (by omega), if_neg (by omega), if_neg (by omega), if_neg (by omega), if_neg (by omega), if_neg (by omega)]; exact c5
              · simp only [v_up]; rw [if_neg (by omega), if_neg (by omega), if_neg (by omega), if_neg (by omega), if_neg (by omega), if_neg (by omega), if_neg (by omega), if_neg (by omega)]; exact c6
              · simp only [v_up]; rw [if_neg (by omega), if_neg (by omega), if_neg (by omega), if_neg (by omega), if_neg (by omega), if_neg (by omega), if_neg (by omega), if_neg (by omega)]; exact c7
              · intro z hz; simp only [v_up]; rw [if_neg (by omega), if_neg (by omega), if_neg (by omega), if_neg (by omega), if_neg (by omega), if_neg (by omega), if_neg (by omega), if_neg (by omega)]; exact c8 z hz
              · intro z hz; simp only [v_up]; rw [if_neg (by omega), if_neg (by omega), if_neg (by omega), if_neg (by omega), if_neg (by omega), if_neg (by omega), if_neg (by omega), if_neg (by omega)]; exact c9 z hz
              · simp only [v_up]; rw [if_neg (by omega), if_neg (by omega), if_neg (by omega), if_neg (by omega), if_neg (by omega), if_neg (by omega), if_neg (by omega), if_neg (by omega)]; exact c10
              · simp only [v_up]; rw [if_neg (by omega), if_neg (by omega), if_neg (by omega), if_neg (by omega), if_neg (by omega), if_neg (by omega), if_neg (by omega), if_neg (by omega)]; exact c11
            · refine ⟨n, tl, k1, ?_, ⟨?_, ?_, ?_⟩, ?_, ?_, ?_, k7, ?_, ?_⟩
              · simp only [v_up]; rw [if_neg (by omega), if_neg (by omega), if_neg (by omega), if_neg (by omega)]; exact k2
              · simp only [v_up]; rw [if_neg (by omega), if_neg (by omega), if_neg (by omega), if_neg (by omega)]; exact k3.1
              · simp only [v_up]; rw [if_neg (by omega), if_neg (by omega), if_neg (by omega), if_neg (by omega)]; exact k3.2.1
              · intro z hz; simp only [v_up]; rw [if_neg (by omega), if_neg (by omega), if_neg (by omega), if_neg (by omega)]; exact k3.2.2 z hz
              · intro z hz
                by_cases e : z = x
                · subst e; exact ⟨_, vlt, by simp [v_up]⟩
                · simp only [v_up]; rw [if_neg (by omega), if_neg (by omega), if_neg (by omega), if_neg (by omega)]; exact k4 z hz
              · simp only [v_up]; rw [if_neg (by omega), if_neg (by omega), if_neg (by omega), if_neg (by omega)]; exact k5
              · intro z hz; simp only [v_up]; rw [if_neg (by omega), if_neg (by omega), if_neg (by omega), if_neg (by omega)]; exact k6 z hz
              · simp only [v_up]; rw [if_neg (by omega), if_neg (by omega), if_neg (by omega), if_neg (by omega)]; exact k8
              · simp only [v_up]; rw [if_neg (by omega), if_neg (by omega), if_neg (by omega), if_neg (by omega)]; exact k9
            · simp [rO, v_up, *]
            · simp only [v_up]; rw [if_neg (by omega), if_neg (by omega), if_neg (by omega), if_neg (by omega)]
            · simp only [v_up]; rw [if_neg (by omega), if_neg (by omega), if_neg (by omega), if_neg (by omega)]
        · refine bad2 ?_ (fun I' e => ?_)
          · unfold h_X9_watch h_X9_watch_J44
            simp only [u1, p_bs, i10, if_false, if_neg hab, ha1 S I (c1.trans k2), hb1 S I (c1.trans k2), if_true, bindref]
          · unfold h_X10_watch h_X10_watch_J34
            simp only [bit_of u2 (.inr rfl), p_bs, i10, if_false, if_neg hab, ha2 I' e, hb2 I' e, if_true, bindref]
      · refine bad2 ?_ (fun I' e => ?_)
        · unfold h_X9_watch h_X9_watch_J44
          simp only [u1, p_bs, i10, if_false, if_neg hab, ha1 S I (c1.trans k2), if_true, bindref]
        · unfold h_X10_watch h_X10_watch_J34
          simp only [bit_of u2 (.inr rfl), p_bs, i10, if_false, if_neg hab, ha2 I' e, if_true, bindref]
  · refine bad1 ?_ (fun I' => ?_)
    · unfold h_X9_watch h_X9_watch_J14
      simp only [u1, p_bs, if_true, bindref]
    · unfold h_X10_watch h_X10_watch_J12
      by_cases hab : a = b
      · simp only [if_pos hab, bindref]
      · simp only [if_neg hab, bit_of u2 (.inl rfl), p_bs, if_true, bindref]
end sp52
