noncomputable section sp98v
/-- what is kept, the TOKENS of ORDERS among it -/
def Ko (K : Nat → Int32) (b : Nat → Nat) (nt : Nat) : Nat → Int32 := fun j => if j = 59 then nI (tL b nt).length else if 2460 ≤ j ∧ j < 2460 + (tL b nt).length then tC b nt (j - 2460) else if 5260 ≤ j ∧ j < 5260 + (tL b nt).length then tV b nt (j - 5260) else K j
theorem Ko_o {K : Nat → Int32} {b : Nat → Nat} {nt : Nat} (hz : (tL b nt).length ≤ 400) {j : Nat} (h : j ≠ 59) (h1 : ¬ (2460 ≤ j ∧ j < 2860)) (h2 : ¬ (5260 ≤ j ∧ j < 5660)) : Ko K b nt j = K j := by
  unfold Ko
  rw [if_neg h, if_neg (by omega), if_neg (by omega)]
theorem Ko_lt {K : Nat → Int32} {b : Nat → Nat} {nt : Nat} {j : Nat} (h : j < 59) : Ko K b nt j = K j := by
  unfold Ko
  rw [if_neg (by omega), if_neg (by omega), if_neg (by omega)]
theorem rC_k {I : v_I} {k k' : Nat → Int32} (h : rC I 1 2 3 4 5 6 7 8 k) (ek : ∀ z, z < 59 → k' z = k z) : rC I 1 2 3 4 5 6 7 8 k' := by
  obtain ⟨hM, c1, c2, c3, c4, c5, c6, c7, c8, c9, c10, c11⟩ := h
  refine ⟨rM_k hM (fun i hi => ek i (by omega)), ?_, fun z hz => ?_, fun z hz => ?_, ?_, ?_, ?_, ?_, fun z hz => ?_, fun z hz => ?_, ?_, ?_⟩
  · rw [ek _ (by omega)]; exact c1
  · rw [ek _ (by omega)]; exact c2 z hz
  · rw [ek _ (by omega)]; exact c3 z hz
  · rw [ek _ (by omega)]; exact c4
  · rw [ek _ (by omega)]; exact c5
  · rw [ek _ (by omega)]; exact c6
  · rw [ek _ (by omega)]; exact c7
  · rw [ek _ (by omega)]; exact c8 z hz
  · rw [ek _ (by omega)]; exact c9 z hz
  · rw [ek _ (by omega)]; exact c10
  · rw [ek _ (by omega)]; exact c11
theorem kK_k {k k' : Nat → Int32} (h : kK k) (ek : ∀ z, z < 59 → k' z = k z) : kK k' := by
  obtain ⟨n', tl, k1, kk2, k3, k4, k5, k6, k7, k8, k9⟩ := h
  exact ⟨n', tl, k1, by rw [ek _ (by omega)]; exact kk2, kM_ext (fun i hi => ek i (by omega)) k3, fun z hz => by rw [ek _ (by omega)]; exact k4 z hz, by rw [ek _ (by omega)]; exact k5, fun z hz => by rw [ek _ (by omega)]; exact k6 z hz, k7, by rw [ek _ (by omega)]; exact k8, by rw [ek _ (by omega)]; exact k9⟩
theorem tk_Ko {K : Nat → Int32} {b : Nat → Nat} {nt : Nat} (hz : (tL b nt).length ≤ 400) {t : Nat} (ht : t < 6) {D : List Cls} (h : tk_D false K t D) : tk_D false (Ko K b nt) t D := tk_fr' (Ko_lt (by omega)) (fun i hi => Ko_o hz (by omega) (by omega) (by omega)) (fun i hi => Ko_o hz (by omega) (by omega) (by omega)) h
theorem mLw_Ko {K : Nat → Int32} {b : Nat → Nat} {nt : Nat} {L : Option (List Cls)} (hz : (tL b nt).length ≤ 400) (h : mLw K L) : mLw (Ko K b nt) L := by
  rcases h with ⟨h1, h2⟩ | ⟨D, f, h1, h2, h3, h4⟩
  · exact .inl ⟨h1, by rw [Ko_lt (by omega)]; exact h2⟩
  · exact .inr ⟨D, f, h1, h2, by rw [Ko_lt (by omega)]; exact h3, tk_Ko hz h2 h4⟩
/-- what the model's ORDERS leave alone -/
def fo9 (I I' : v_I) : Prop := ∀ a j, a ≠ 50 → a ≠ 51 → a ≠ 54 → ¬ (58 ≤ a ∧ a ≤ 64) → ¬ (a = 49 ∧ (j = 0 ∨ (8 ≤ j ∧ j ≤ 10) ∨ j = 13 ∨ j = 14 ∨ (18 ≤ j ∧ j ≤ 25) ∨ j = 27 ∨ j = 28 ∨ j = 32 ∨ (38 ≤ j ∧ j ≤ 43))) → I' a j = I a j
theorem m_ordX {X : v_I} (J : v_J) {b : Nat → Nat} {nt n : Nat} {L : Option (List Cls)} {g : RG} {D : List Cls} (hnt : nt ≤ 400) (h13 : X 49 13 = nI nt) (hW : rW X) (hb : ∀ i, i < 400 → b i < 256 ∧ X 56 i = sgn (b i)) (hn : n ≤ 8) (h49 : X 51 49 = nI n) (hkB : kB (X 51)) (hkM : kM n (X 51)) (hL : mLw (X 51) L) (hR : mR X g) (hD : sp_text (tC b nt) (tV b nt) true (tL b nt).length = .inr D) :
    (∀ u, oRx L n D 0 ((Ko (X 51) b nt, 0, -1), g) = .inl u → ∃ X' J', h_X10_orders X J = some (u.1.2.1, X', J') ∧ X' 49 0 = 0 ∧ X' 49 13 = 0 ∧ X' 49 14 = -1 ∧ X' 49 38 = -1 ∧ X' 50 = X 50 ∧ X' 51 = u.1.1 ∧ (∀ z, 18 ≤ z → X' 51 z = Ko (X 51) b nt z) ∧ mR X' u.2 ∧ fo9 X X') ∧
    (∀ e, oRx L n D 0 ((Ko (X 51) b nt, 0, -1), g) = .inr e → ∃ X' J', h_X10_orders X J = some (-3, X', J') ∧ X' 49 0 = -3 ∧ X' 49 13 = 0 ∧ X' 49 14 = -1 ∧ X' 49 38 = nI e ∧ X' 50 3 = X 50 3 + 1 ∧ (∀ j, j ≠ 3 → X' 50 j = X 50 j) ∧ (∀ z, z < 18 → X' 51 z = X 51 z) ∧ (∀ z, 18 ≤ z → X' 51 z = Ko (X 51) b nt z) ∧ mR X' g ∧ fo9 X X') := by
  have hz : (tL b nt).length ≤ 400 := by have := tL_le b (z := nt); omega
  have e1 : ∀ a, a ≠ 49 → v_up X 49 38 (-1) a = X a := fun a h => w_row _ _ _ _ h
  obtain ⟨X2, a1, a2, a3, a4, a5⟩ := (m_rd (I := v_up X 49 38 (-1)) (b := b) true hnt (by rw [w_ne _ _ _ _ (by decide)]; exact h13) (by intro i hi; rw [e1 55 (by decide)]; exact hW i hi) (fun i hi => by rw [e1 56 (by decide)]; exact hb i hi)).2 D hD
  have x51 : X2 51 = X 51 := funext fun j => by rw [a3.2 51 j (by omega) (by omega), e1 51 (by decide)]
  obtain ⟨X3, b1, b2, b3⟩ := m_aside (I := X2) (q := 1) (by omega)
  obtain ⟨y4, X4, c1, c2, c3⟩ := m_cpA (I := X3) J
  have x4_32 : X4 49 32 = nI g.1 := by
    rw [c3 49 (by decide), b3 49 32 (by omega), a3.2 49 32 (by omega) (by omega), w_ne _ _ _ _ (by decide)]; exact hR.2.1
  have x4_18 : X4 49 18 = nI (tL b nt).length := by rw [c3 49 (by decide), b3 49 18 (by omega)]; exact a4
  obtain ⟨X5, d1, d2, d3, d4⟩ := m_lay2 (I := X4) (t := 6) (by omega) hz x4_18
  have x4_51 : X4 51 = X 51 := by rw [c3 51 (by decide)]; exact (funext fun j => b3 51 j (by omega)).trans x51
  have x5_51 : X5 51 = Ko (X 51) b nt := by
    funext j
    unfold Ko
    by_cases q1 : j = 59
    · rw [if_pos q1, q1]; exact d2
    · rw [if_neg q1]
      by_cases q2 : 2460 ≤ j ∧ j < 2460 + (tL b nt).length
      · rw [if_pos q2]
        have := (d3 (j - 2460) (by omega)).1
        rw [show 60 + 400 * 6 + (j - 2460) = j by omega] at this
        rw [this, c3 58 (by decide), b3 58 _ (by omega)]
        exact (a5 _ (by omega)).1
      · rw [if_neg q2]
        by_cases q3 : 5260 ≤ j ∧ j < 5260 + (tL b nt).length
        · rw [if_pos q3]
          have := (d3 (j - 5260) (by omega)).2
          rw [show 2860 + 400 * 6 + (j - 5260) = j by omega] at this
          rw [this, c3 59 (by decide), b3 59 _ (by omega)]
          exact (a5 _ (by omega)).2
        · rw [if_neg q3, d4 51 j (by omega), x4_51]
  let X8 : v_I := v_up (v_up (v_up X5 49 27 0) 49 28 (-1)) 49 39 2400
  have r8 : ∀ a, a ≠ 49 → X8 a = X5 a := fun a h => by
    show v_up _ _ _ _ a = _
    rw [w_row _ _ _ _ h, w_row _ _ _ _ h, w_row _ _ _ _ h]
  have r8' : ∀ j, j ≠ 27 → j ≠ 28 → j ≠ 39 → X8 49 j = X5 49 j := fun j h1 h2 h3 => by
    show v_up _ _ _ _ 49 j = _
    rw [w_ne _ _ _ _ h3, w_ne _ _ _ _ h2, w_ne _ _ _ _ h1]
  have x8_27 : X8 49 27 = 0 := by
    show v_up _ _ _ _ 49 27 = _
    rw [w_ne _ _ _ _ (by decide), w_ne _ _ _ _ (by decide), w_at]
  have x8_28 : X8 49 28 = -1 := by
    show v_up _ _ _ _ 49 28 = _
    rw [w_ne _ _ _ _ (by decide), w_at]
  have x8_39 : X8 49 39 = 2400 := w_at _ _ _ _
  have e0 : h_X10_orders X J = (v_loop (h_X10_orders_B95 (nI g.1) (nI (2400 + (tL b nt).length))) FU ((0 : Int32), X8, J)).bind fun q_35 =>
      if q_35.1 = 0 then (
      (h_X10_takesBack q_35.2.2.1 (1 : Int32)).bind fun r_37 =>
      (v_loop (h_X10_orders_B122 q_35.2.2.2 (nI g.1) q_35.2.1) FU ((0 : Int32), r_37)).bind fun q_46 =>
      p_let (v_up q_46.2 49 32 (nI g.1)) fun I_48 =>
      p_let (v_up I_48 49 38 q_35.2.1) fun I_50 =>
      (h_X10_refuses I_50 (-3 : Int32)).bind fun r_52 =>
      some (r_52.1, r_52.2, q_35.2.2.2))
      else (
      (h_X10_good q_35.2.2.1 (q_35.2.2.1 49 27)).bind fun r_54 =>
      some (r_54.1, r_54.2, q_35.2.2.2)) := by
    unfold h_X10_orders
    rw [show bI true = (1 : Int32) from rfl] at a1
    rw [show nI 1 = (1 : Int32) from rfl] at b1
    rw [show nI 6 = (6 : Int32) from rfl] at d1
    rw [p_le, a1, p_bs]
    dsimp only
    rw [if_neg (by decide), b1, p_bs, c1, p_bs]
    dsimp only
    rw [p_le, x4_32, d1, p_bs, p_le, p_le, p_le, p_le]
    show (v_loop (h_X10_orders_B95 (nI g.1) (X8 49 39 + X8 51 59)) FU ((0 : Int32), X8, J)).bind _ = _
    rw [x8_39, r8 51 (by decide), x5_51, show Ko (X 51) b nt 59 = nI (tL b nt).length from if_pos rfl, show (2400 : Int32) + nI (tL b nt).length = nI (2400 + (tL b nt).length) from nI_add 2400 _]
  rw [e0]
  generalize X8 = X8 at r8 r8' x8_27 x8_28 x8_39
  have x8_51 : X8 51 = Ko (X 51) b nt := by rw [r8 51 (by decide)]; exact x5_51
  have f8 : ∀ a j, a ≠ 51 → a ≠ 54 → a ≠ 64 → ¬ (58 ≤ a ∧ a ≤ 60) → ¬ (a = 49 ∧ ((8 ≤ j ∧ j ≤ 10) ∨ j = 13 ∨ j = 14 ∨ (18 ≤ j ∧ j ≤ 21) ∨ j = 27 ∨ j = 28 ∨ j = 38 ∨ j = 39)) → X8 a j = X a j := fun a j q1 q2 q3 q4 q5 => by
    have : X5 a j = X a j := by rw [d4 a j (by omega), c3 a q3, b3 a j (by omega), a3.2 a j (by omega) q4, v_up_ne _ _ (by omega)]
    by_cases h : a = 49
    · subst h; rw [r8' j (by omega) (by omega) (by omega)]; exact this
    · rw [r8 a h]; exact this
  have M : Mi X8 (tC b nt) (tV b nt) (tL b nt).length n L ((Ko (X 51) b nt, 0, -1), g) 0 := by
    refine ⟨x8_51, ⟨hz, fun p hp => ?_, tC_cz b nt, fun p hp => ?_, hn, ?_, ?_, x8_27, x8_28⟩, kM_ext (fun i hi => Ko_lt (by omega)) hkM, mLw_Ko hz hL, mR_fr hR (f8 49 32 (by omega) (by omega) (by omega) (by omega) (by omega)) (funext fun j => f8 63 j (by omega) (by omega) (by omega) (by omega) (by omega)), x8_39⟩
    · rw [x8_51]
      unfold Ko
      rw [if_neg (by omega), if_pos (by omega), show 60 + 2400 + p - 2460 = p by omega]
    · rw [x8_51]
      unfold Ko
      rw [if_neg (by omega), if_neg (by omega), if_pos (by omega), show 2860 + 2400 + p - 5260 = p by omega]
    · rw [x8_51, Ko_lt (by omega)]; exact h49
    · rw [x8_51]
      exact ⟨by rw [Ko_lt (by omega)]; exact hkB.1, fun h hh => by rw [Ko_lt (by omega)]; exact hkB.2 h hh⟩
  obtain ⟨k1, k2⟩ := m_textX (w1 := nI g.1) J hD M
  have i13 : X8 49 13 = 0 := by rw [r8' 13 (by omega) (by omega) (by omega), d4 49 13 (by omega), c3 49 (by decide), b3 49 13 (by omega)]; exact a3.1
  have i14 : X8 49 14 = -1 := by rw [r8' 14 (by omega) (by omega) (by omega), d4 49 14 (by omega), c3 49 (by decide), b3 49 14 (by omega)]; exact a2
  have i38 : X8 49 38 = -1 := by rw [r8' 38 (by omega) (by omega) (by omega), d4 49 38 (by omega), c3 49 (by decide), b3 49 38 (by omega), a3.2 49 38 (by omega) (by omega), w_at]
  refine ⟨fun u hu => ?_, fun e he => ?_⟩
  · obtain ⟨y, X9, J', p', l1, l2, l3⟩ := k1 u hu
    rw [l1, p_bs, if_neg (show ¬ (1 : Nat) = 0 by decide), m_good, p_bs]
    obtain ⟨n1, n2, n3, n4, n5, n6⟩ := l2
    refine ⟨v_up X9 49 0 0, J', ?_, w_at _ _ _ _, ?_, ?_, ?_, ?_, ?_, fun z hz => ?_, ?_, fun a j q1 q2 q3 q4 q5 => ?_⟩
    · dsimp only; rw [n2.2.2.2.2.2.2.2.1]
    · rw [w_ne _ _ _ _ (by decide), l3.1 49 13 (by omega) (by omega) (by omega) (by omega) (by omega)]; exact i13
    · rw [w_ne _ _ _ _ (by decide), l3.1 49 14 (by omega) (by omega) (by omega) (by omega) (by omega)]; exact i14
    · rw [w_ne _ _ _ _ (by decide), l3.1 49 38 (by omega) (by omega) (by omega) (by omega) (by omega)]; exact i38
    · rw [w_row _ _ _ _ (by decide)]
      funext j
      rw [l3.1 50 j (by omega) (by omega) (by omega) (by omega) (by omega), f8 50 j (by omega) (by omega) (by omega) (by omega) (by omega)]
    · rw [w_row _ _ _ _ (by decide)]; exact n1
    · rw [w_row _ _ _ _ (by decide), l3.2 z hz, x8_51]
    · exact mR_fr n5 (w_ne _ _ _ _ (by decide)) (w_row _ _ _ _ (by decide))
    · rw [v_up_ne _ _ (by omega), l3.1 a j q2 (by omega) (by omega) (by omega) (by omega), f8 a j q2 q3 (by omega) (by omega) (by omega)]
  · obtain ⟨X9, J', l1, l3⟩ := k2 e he
    rw [l1, p_bs, if_pos rfl]
    dsimp only
    obtain ⟨X10, m1, m2, m3⟩ := m_back (I := X9) (q := 1) (by omega)
    rw [show nI 1 = (1 : Int32) from rfl] at m1
    obtain ⟨y11, X11, o1, o2, o3⟩ := m_cpB (I := X10) J' (nI g.1) (nI e)
    rw [m1, p_bs, o1, p_bs]
    dsimp only
    rw [p_le, p_le, m_ref3, p_bs]
    have g49 : ∀ j, X11 49 j = X9 49 j := fun j => by rw [o3 49 (by decide), m3 49 j (by omega)]
    have g50 : ∀ j, X11 50 j = X 50 j := fun j => by rw [o3 50 (by decide), m3 50 j (by omega), l3.1 50 j (by omega) (by omega) (by omega) (by omega) (by omega), f8 50 j (by omega) (by omega) (by omega) (by omega) (by omega)]
    let Y : v_I := v_up (v_up (v_up (v_up X11 49 32 (nI g.1)) 49 38 (nI e)) 49 0 (-3)) 50 3 (v_up (v_up X11 49 32 (nI g.1)) 49 38 (nI e) 50 3 + 1)
    have yr : ∀ a, a ≠ 49 → a ≠ 50 → Y a = X11 a := fun a h1 h2 => by
      show v_up _ _ _ _ a = _
      rw [w_row _ _ _ _ h2, w_row _ _ _ _ h1, w_row _ _ _ _ h1, w_row _ _ _ _ h1]
    have y49 : ∀ j, j ≠ 0 → j ≠ 32 → j ≠ 38 → Y 49 j = X11 49 j := fun j h1 h2 h3 => by
      show v_up _ _ _ _ 49 j = _
      rw [w_row _ _ _ _ (by decide), w_ne _ _ _ _ h1, w_ne _ _ _ _ h3, w_ne _ _ _ _ h2]
    have y0 : Y 49 0 = -3 := by
      show v_up _ _ _ _ 49 0 = _
      rw [w_row _ _ _ _ (by decide), w_at]
    have y32 : Y 49 32 = nI g.1 := by
      show v_up _ _ _ _ 49 32 = _
      rw [w_row _ _ _ _ (by decide), w_ne _ _ _ _ (by decide), w_ne _ _ _ _ (by decide), w_at]
    have y38 : Y 49 38 = nI e := by
      show v_up _ _ _ _ 49 38 = _
      rw [w_row _ _ _ _ (by decide), w_ne _ _ _ _ (by decide), w_at]
    have y503 : Y 50 3 = X 50 3 + 1 := by
      show v_up _ _ _ _ 50 3 = _
      rw [w_at, w_row _ _ _ _ (by decide), w_row _ _ _ _ (by decide), g50]
    have y50 : ∀ j, j ≠ 3 → Y 50 j = X 50 j := fun j h => by
      show v_up _ _ _ _ 50 j = _
      rw [w_ne _ _ _ _ h, w_row _ _ _ _ (by decide), w_row _ _ _ _ (by decide), w_row _ _ _ _ (by decide), g50]
    show ∃ X' J'', some ((-3 : Int32), Y, J') = some (-3, X', J'') ∧ _
    generalize Y = Y at yr y49 y0 y32 y38 y503 y50
    refine ⟨Y, J', rfl, y0, ?_, ?_, y38, y503, y50, fun z hz => ?_, fun z hz => ?_, ⟨hR.1, y32, fun j i hj hi => ?_⟩, fun a j q1 q2 q3 q4 q5 => ?_⟩
    · rw [y49 13 (by omega) (by omega) (by omega), g49, l3.1 49 13 (by omega) (by omega) (by omega) (by omega) (by omega)]; exact i13
    · rw [y49 14 (by omega) (by omega) (by omega), g49, l3.1 49 14 (by omega) (by omega) (by omega) (by omega) (by omega)]; exact i14
    · rw [yr 51 (by decide) (by decide), o3 51 (by decide), m2 z hz, l3.1 54 _ (by omega) (by omega) (by omega) (by omega) (by omega), r8 54 (by decide), d4 54 _ (by omega), c3 54 (by decide), b2 z hz, x51]
    · rw [yr 51 (by decide) (by decide), o3 51 (by decide), m3 51 z (by omega), l3.2 z hz, x8_51]
    · have := hR.1
      rw [yr 63 (by decide) (by decide), o2 _ (by omega), m3 64 _ (by omega), l3.1 64 _ (by omega) (by omega) (by omega) (by omega) (by omega), r8 64 (by decide), d4 64 _ (by omega), c2 _ (by omega), b3 63 _ (by omega), a3.2 63 _ (by omega) (by omega), e1 63 (by decide)]
      exact hR.2.2 j i hj hi
    · by_cases h49 : a = 49
      · subst h49
        rw [y49 j (by omega) (by omega) (by omega), g49, l3.1 49 j (by omega) (by omega) (by omega) (by omega) (by omega), f8 49 j (by omega) (by omega) (by omega) (by omega) (by omega)]
      · rw [yr a h49 q1, o3 a (by omega), m3 a j (by omega), l3.1 a j q2 (by omega) (by omega) (by omega) (by omega), f8 a j q2 q3 (by omega) (by omega) (by omega)]
end sp98v
