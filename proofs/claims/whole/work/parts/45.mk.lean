noncomputable section sp45
theorem tk_fr' {o : Bool} {k k' : Nat → Int32} {t : Nat} {D : List Cls} (h0 : k' (53 + t) = k (53 + t)) (h1 : ∀ i, i < 400 → k' (60 + 400 * t + i) = k (60 + 400 * t + i)) (h2 : ∀ i, i < 400 → k' (2860 + 400 * t + i) = k (2860 + 400 * t + i)) (hd : tk_D o k t D) : tk_D o k' t D := by
  obtain ⟨n, hn, e, hp⟩ := hd
  refine ⟨n, hn, h0.trans e, ?_⟩
  have e1 : tk_c k' t n = tk_c k t n := by
    funext i; unfold tk_c
    by_cases q : i < n
    · rw [if_pos q, if_pos q, h1 i (by omega)]
    · rw [if_neg q, if_neg q]
  have e2 : tk_v k' t n = tk_v k t n := by
    funext i; unfold tk_v
    by_cases q : i < n
    · rw [if_pos q, if_pos q, h2 i (by omega)]
    · rw [if_neg q, if_neg q]
  rw [e1, e2]; exact hp
theorem tk_fr {o : Bool} {k k' : Nat → Int32} {t : Nat} {D : List Cls} (h : ∀ i, 53 ≤ i → k' i = k i) (hd : tk_D o k t D) : tk_D o k' t D := tk_fr' (h _ (by omega)) (fun i _ => h _ (by omega)) (fun i _ => h _ (by omega)) hd
theorem rX_tk {S : v_S} {I : v_I} {F : v_F} {own : Nat → Nat} {x : Nat} {k k' : Nat → Int32} {t : Nat} (h : ∀ i, 53 ≤ i → k' i = k i) (hx : rX S I F own x k t) : rX S I F own x k' t := by
  obtain ⟨D, ak, af, as, at', ai, ac, cn, m, h1, h2⟩ := hx
  exact ⟨D, ak, af, as, at', ai, ac, cn, m, tk_fr h h1, h2⟩
theorem rL_tk {S : v_S} {I : v_I} {F : v_F} {own : Nat → Nat} {la : Nat} {k k' : Nat → Int32} (h51 : k' 51 = k 51) (h : ∀ i, 53 ≤ i → k' i = k i) (hx : rL S I F own la k) : rL S I F own la k' := fun t n hn hk ht => by
  obtain ⟨x, e, r⟩ := hx t n hn (h51 ▸ hk) ht
  exact ⟨x, e, rX_tk h r⟩
/-- R anew, where no cell came, no LAW, no IMAGE, and what can be undone stands or is gone -/
theorem R_mk {S : v_S} {I I' : v_I} {J J' : v_J} {F : v_F} (h : R S I J F) (hb : ∀ a, 72 ≤ a → I' a = I a) (hC : rC I' 1 2 3 4 5 6 7 8 (I' 51)) (hK : kK (I' 51)) (hT : rT I') (hO : rO I') (hD : rD I') (h55 : I' 55 = I 55) (h52 : I' 52 = I 52) (h53 : I' 53 = I 53) (hl : I' 51 51 = I 51 51) (hl' : ∀ i, 53 ≤ i → I' 51 i = I 51 i)
    (hP : (I' 11 0 = 0 ∧ I' 49 32 = 0 ∧ I' 11 1 = I 11 1) ∨ (I' 11 = I 11 ∧ I' 49 32 = I 49 32 ∧ I' 12 = I 12 ∧ I' 63 = I 63 ∧ I' 51 49 = I 51 49)) : R S I' J' F := by
  obtain ⟨hS, hF, _, _, _, _, _, hW, own, hN, hL, hp, hG⟩ := h
  refine ⟨hS, hF, hC, hK, hT, hO, hD, ?_, own, hN, ?_, ?_, rG_fr hN hb h52 h53 hG⟩
  · unfold rW; rw [h55]; exact hW
  · exact rL_tk hl hl' (rL_fr (fun a q => hb a (hN a (by omega)).1) hL)
  · rcases hP with ⟨a, b, c⟩ | ⟨a, b, c, d, e⟩
    · obtain ⟨n, nx, hn, hx, e1, e2, e3, h4, h5⟩ := hp
      exact ⟨0, nx, by omega, hx, a, b, c.trans e3, h4, fun j hj => absurd hj (Nat.not_lt_zero j)⟩
    · exact rP_fr hN hb a b c d e hp
theorem p_le {α β : Type} (x : α) (f : α → Option β) : p_let x f = f x := Eq.trans (Eq.refl _) (Eq.refl _)
/-! refusing and accepting -/
theorem c_accept (S : v_S) (I : v_I) (x : Int32) : h_X9_accept S I x = some (x, v_up I 0 14 0) := rfl
theorem m_good (I : v_I) (x : Int32) : h_X10_good I x = some (x, v_up I 49 0 0) := rfl
theorem m_settled (I : v_I) (x : Int32) : h_X10_settled I x = some (x, v_up (v_up I 49 32 0) 49 0 0) := rfl
theorem c_clear (S : v_S) (I : v_I) : h_X4_clear S I = some (v_up I 11 0 0) := rfl
theorem c_ref1 (S : v_S) (I : v_I) (F : v_F) : h_X9_refuse S I F (-1) = some (-1, v_up (v_up I 0 14 (-1)) 48 0 (I 48 0 + 1)) := by
  have e : p_in 5 (-(-1 : Int32) - 1) = some 0 := by decide
  unfold h_X9_refuse h_X9_refuse_J22
  rw [p_le, if_neg (by decide), if_neg (by decide), if_neg (by decide)]
  simp only [e, p_bs, p_le]
  rw [v_up_row I 0 14 _ (show (48 : Nat) ≠ 0 by decide)]
theorem c_ref2 (S : v_S) (I : v_I) (F : v_F) : h_X9_refuse S I F (-2) = some (-2, v_up (v_up I 0 14 (-2)) 48 1 (I 48 1 + 1)) := by
  have e : p_in 5 (-(-2 : Int32) - 1) = some 1 := by decide
  unfold h_X9_refuse h_X9_refuse_J22
  rw [p_le, if_neg (by decide), if_neg (by decide), if_neg (by decide)]
  simp only [e, p_bs, p_le]
  rw [v_up_row I 0 14 _ (show (48 : Nat) ≠ 0 by decide)]
theorem c_ref3 (S : v_S) (I : v_I) (F : v_F) : h_X9_refuse S I F (-3) = some (-3, v_up (v_up I 0 14 (-3)) 48 2 (I 48 2 + 1)) := by
  have e : p_in 5 (-(-3 : Int32) - 1) = some 2 := by decide
  unfold h_X9_refuse h_X9_refuse_J22
  rw [p_le, if_neg (by decide), if_neg (by decide), if_neg (by decide)]
  simp only [e, p_bs, p_le]
  rw [v_up_row I 0 14 _ (show (48 : Nat) ≠ 0 by decide)]
theorem c_ref5 (S : v_S) (I : v_I) (F : v_F) : h_X9_refuse S I F (-5) = some (-5, v_up (v_up I 0 14 (-5)) 48 3 (I 48 3 + 1)) := by
  have e : p_in 5 (-(-5 : Int32) - 2) = some 3 := by decide
  unfold h_X9_refuse h_X9_refuse_J22
  rw [p_le, if_pos (by decide), if_neg (by decide), if_neg (by decide)]
  simp only [e, p_bs, p_le]
  rw [v_up_row I 0 14 _ (show (48 : Nat) ≠ 0 by decide)]
theorem c_ref6 (S : v_S) (I : v_I) (F : v_F) : h_X9_refuse S I F (-6) = some (-6, v_up (v_up I 0 14 (-6)) 48 4 (I 48 4 + 1)) := by
  have e : p_in 5 (-(-6 : Int32) - 2) = some 4 := by decide
  unfold h_X9_refuse h_X9_refuse_J22
  rw [p_le, if_pos (by decide), if_neg (by decide), if_neg (by decide)]
  simp only [e, p_bs, p_le]
  rw [v_up_row I 0 14 _ (show (48 : Nat) ≠ 0 by decide)]
theorem m_ref1 (I : v_I) : h_X10_refuses I (-1) = some (-1, v_up (v_up I 49 0 (-1)) 50 1 (I 50 1 + 1)) := by
  have e : p_in 7 (-(-1 : Int32)) = some 1 := by decide
  unfold h_X10_refuses
  simp only [e, p_bs, p_le]
  rw [v_up_row I 49 0 _ (show (50 : Nat) ≠ 49 by decide)]
theorem m_ref2 (I : v_I) : h_X10_refuses I (-2) = some (-2, v_up (v_up I 49 0 (-2)) 50 2 (I 50 2 + 1)) := by
  have e : p_in 7 (-(-2 : Int32)) = some 2 := by decide
  unfold h_X10_refuses
  simp only [e, p_bs, p_le]
  rw [v_up_row I 49 0 _ (show (50 : Nat) ≠ 49 by decide)]
theorem m_ref3 (I : v_I) : h_X10_refuses I (-3) = some (-3, v_up (v_up I 49 0 (-3)) 50 3 (I 50 3 + 1)) := by
  have e : p_in 7 (-(-3 : Int32)) = some 3 := by decide
  unfold h_X10_refuses
  simp only [e, p_bs, p_le]
  rw [v_up_row I 49 0 _ (show (50 : Nat) ≠ 49 by decide)]
theorem m_ref5 (I : v_I) : h_X10_refuses I (-5) = some (-5, v_up (v_up I 49 0 (-5)) 50 5 (I 50 5 + 1)) := by
  have e : p_in 7 (-(-5 : Int32)) = some 5 := by decide
  unfold h_X10_refuses
  simp only [e, p_bs, p_le]
  rw [v_up_row I 49 0 _ (show (50 : Nat) ≠ 49 by decide)]
theorem m_ref6 (I : v_I) : h_X10_refuses I (-6) = some (-6, v_up (v_up I 49 0 (-6)) 50 6 (I 50 6 + 1)) := by
  have e : p_in 7 (-(-6 : Int32)) = some 6 := by decide
  unfold h_X10_refuses
  simp only [e, p_bs, p_le]
  rw [v_up_row I 49 0 _ (show (50 : Nat) ≠ 49 by decide)]
end sp45
