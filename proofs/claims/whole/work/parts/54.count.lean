noncomputable section sp54
/-- how many of eight -/
def pc (o : Nat) : Nat := o % 2 + o / 2 % 2 + o / 4 % 2 + o / 8 % 2 + o / 16 % 2 + o / 32 % 2 + o / 64 % 2 + o / 128 % 2
theorem pc_le (o : Nat) : pc o ≤ 8 := by unfold pc; omega
theorem b_ones {o : Nat} (ho : o < 256) : h_X10_ones (nI o) = some (nI (pc o)) := by
  have key : ∀ i, i < 8 → ∀ o, o < 256 → h_X10_ones_B4 (nI o) (nI (pc (o % 2 ^ i)), nI i) = some (.inl (nI (pc (o % 2 ^ (i + 1))), nI (i + 1))) := by decide +kernel
  have k8 : ∀ o, o < 256 → h_X10_ones_B4 (nI o) (nI (pc (o % 2 ^ 8)), nI 8) = some (.inr (nI (pc (o % 2 ^ 8)), nI 8)) := by decide +kernel
  have hl := v_loop_FU (body := h_X10_ones_B4 (nI o)) (fun i => (nI (pc (o % 2 ^ i)), nI i)) (nI (pc (o % 2 ^ 8)), nI 8) 8 (by omega) (fun i hi => key i hi o ho) (k8 o ho)
  have e0 : (nI (pc (o % 2 ^ 0)), nI 0) = ((0 : Int32), (0 : Int32)) := by rw [Nat.pow_zero, Nat.mod_one]; rfl
  rw [e0] at hl
  unfold h_X10_ones
  rw [hl, p_bs]
  dsimp only
  rw [Nat.mod_eq_of_lt (show o < 2 ^ 8 by omega)]
theorem b_bc {o : Nat} (ho : o < 256) : h_J6_bitCount_0f7a4 (nI o) = some (nI (pc o)) := by
  have key : ∀ o, o < 256 → h_J6_bitCount_0f7a4 (nI o) = some (nI (pc o)) := by decide +kernel
  exact key o ho
theorem ok_39 {S : v_S} {I : v_I} {J : v_J} {F : v_F} (h : R S I J F) : op_39 R S I J F := by
  intro a
  have hC := h.2.2.1
  have hK := h.2.2.2.1
  have hO := h.2.2.2.2.2.1
  obtain ⟨⟨m1, m2, m3, m4⟩, c1, c2, c3, c4, c5, c6, c7, c8, c9, c10, c11⟩ := hC
  obtain ⟨n, tl, k1, k2, k3, k4, k5, k6, k7, k8, k9⟩ := hK
  obtain ⟨o1, o2, o3, o4, o5, o6, o7, o8, o9⟩ := hO
  obtain ⟨⟨tn, ht, t1, t2⟩, _⟩ := h.2.2.2.2.1
  have t5 : I 0 8 = I 49 13 := t1.trans t2.symm
  obtain ⟨own, _, _, ⟨pn, px, _, _, p1, p2, _⟩, _⟩ := h.2.2.2.2.2.2.2.2
  have p4 : I 11 0 = I 49 32 := p1.trans p2.symm
  simp only [s_X9_count h.1 h.2.1, s_X10_count h.1 h.2.1]
  have fin : ∀ x : Int32, h_X9_count S I F a = some x → h_X10_count I a = some x → ∃ (r : Int32) (q : Int32), h_X9_count S I F a = some r ∧ h_X10_count I a = some q ∧ r = q ∧ p_SS S ∧ R S I J F := fun x e1 e2 => ⟨x, x, e1, e2, rfl, h.1, h⟩
  by_cases e0 : a = 0
  · subst e0
    exact fin (I 51 49) (show h_X9_count S I F 0 = some (I 51 49) by rw [← c1]; rfl) rfl
  by_cases e1 : a = 1
  · subst e1
    obtain ⟨oo, ho, eo⟩ := k3.1
    have p8 := two_le k1
    refine fin (nI (pc oo)) ?_ ?_
    · have : h_X9_count S I F 1 = (h_J6_bitCount_0f7a4 (I 2 0)).bind fun r => (some r).bind fun r => some r := rfl
      rw [this, m1, eo, b_bc (by omega), p_bs, p_bs]
    · have : h_X10_count I 1 = (h_X10_ones (I 51 0)).bind fun r => some r := rfl
      rw [this, eo, b_ones (by omega), p_bs]
  by_cases e2 : a = 2
  · subst e2
    exact fin (I 51 50) (show h_X9_count S I F 2 = some (I 51 50) by rw [← c7]; rfl) rfl
  by_cases e3 : a = 3
  · subst e3
    exact fin (I 51 51) (show h_X9_count S I F 3 = some (I 51 51) by rw [← c10]; rfl) rfl
  by_cases e4 : a = 4
  · subst e4
    exact fin (I 49 32) (show h_X9_count S I F 4 = some (I 49 32) by rw [← p4]; rfl) rfl
  by_cases e5 : a = 5
  · subst e5
    exact fin (I 49 13) (show h_X9_count S I F 5 = some (I 49 13) by rw [← t5]; rfl) rfl
  by_cases e6 : a = 6
  · subst e6
    exact fin (I 50 1) (show h_X9_count S I F 6 = some (I 50 1) by rw [← o2]; rfl) rfl
  by_cases e7 : a = 7
  · subst e7
    exact fin (I 50 2) (show h_X9_count S I F 7 = some (I 50 2) by rw [← o3]; rfl) rfl
  by_cases e8 : a = 8
  · subst e8
    exact fin (I 50 3) (show h_X9_count S I F 8 = some (I 50 3) by rw [← o4]; rfl) rfl
  by_cases e9 : a = 9
  · subst e9
    exact fin (I 50 5) (show h_X9_count S I F 9 = some (I 50 5) by rw [← o5]; rfl) rfl
  by_cases e10 : a = 10
  · subst e10
    exact fin (I 50 6) (show h_X9_count S I F 10 = some (I 50 6) by rw [← o6]; rfl) rfl
  by_cases e11 : a = 11
  · subst e11
    exact fin (I 51 52) (show h_X9_count S I F 11 = some (I 51 52) by rw [← c11]; rfl) rfl
  by_cases e12 : a = 12
  · subst e12
    exact fin (I 51 17) (show h_X9_count S I F 12 = some (I 51 17) by rw [← m2]; rfl) rfl
  by_cases e13 : a = 13
  · subst e13
    exact fin (I 51 46) (show h_X9_count S I F 13 = some (I 51 46) by rw [← c4]; rfl) rfl
  by_cases e14 : a = 14
  · subst e14
    exact fin (I 51 47) (show h_X9_count S I F 14 = some (I 51 47) by rw [← c5]; rfl) rfl
  by_cases e15 : a = 15
  · subst e15
    exact fin (I 51 48) (show h_X9_count S I F 15 = some (I 51 48) by rw [← c6]; rfl) rfl
  have ti : ∀ c : Int32, a ≠ c → a.toInt ≠ c.toInt := fun c hc q => hc (Int32.toInt_inj.mp q)
  have w0 := ti 0 e0
  have w1 := ti 1 e1
  have w2 := ti 2 e2
  have w3 := ti 3 e3
  have w4 := ti 4 e4
  have w5 := ti 5 e5
  have w6 := ti 6 e6
  have w7 := ti 7 e7
  have w8 := ti 8 e8
  have w9 := ti 9 e9
  have w10 := ti 10 e10
  have w11 := ti 11 e11
  have w12 := ti 12 e12
  have w13 := ti 13 e13
  have w14 := ti 14 e14
  have w15 := ti 15 e15
  have j46 : h_X9_count_J46 S I F a = some (-1) := by
    unfold h_X9_count_J46
    simp only [e0, e1, e2, e3, e4, e5, e6, e7, e8, e9, e10, e11, if_false]
  refine fin (-1) ?_ ?_
  · unfold h_X9_count h_X9_count_J22
    by_cases q6 : a < 6
    · rw [if_pos q6]
      by_cases q12 : a < 12
      · rw [if_pos q12, j46]
      · exact absurd (Int32.lt_trans q6 (by decide)) q12
    · rw [Int32.lt_iff_toInt_lt] at q6
      have c6' : (6 : Int32).toInt = 6 := by decide
      have c7' : (7 : Int32).toInt = 7 := by decide
      have c8' : (8 : Int32).toInt = 8 := by decide
      have c9' : (9 : Int32).toInt = 9 := by decide
      have c10' : (10 : Int32).toInt = 10 := by decide
      have c11' : (11 : Int32).toInt = 11 := by decide
      have c12' : (12 : Int32).toInt = 12 := by decide
      have c13' : (13 : Int32).toInt = 13 := by decide
      have c14' : (14 : Int32).toInt = 14 := by decide
      have c15' : (15 : Int32).toInt = 15 := by decide
      have c16' : (16 : Int32).toInt = 16 := by decide
      rw [if_neg (by rw [Int32.lt_iff_toInt_lt]; exact q6), if_pos (by rw [Int32.le_iff_toInt_le]; omega), if_neg (by rw [Int32.lt_iff_toInt_lt]; omega), if_pos (by rw [Int32.le_iff_toInt_le]; omega), j46]
  · have c6' : (6 : Int32).toInt = 6 := by decide
    have c7' : (7 : Int32).toInt = 7 := by decide
    have c8' : (8 : Int32).toInt = 8 := by decide
    have c9' : (9 : Int32).toInt = 9 := by decide
    have c10' : (10 : Int32).toInt = 10 := by decide
    have c11' : (11 : Int32).toInt = 11 := by decide
    have c12' : (12 : Int32).toInt = 12 := by decide
    have c13' : (13 : Int32).toInt = 13 := by decide
    have c14' : (14 : Int32).toInt = 14 := by decide
    have c15' : (15 : Int32).toInt = 15 := by decide
    have l1 : h_X10_lies a 6 10 = some 0 := by
      rw [b_lies, if_neg]
      rw [Int32.le_iff_toInt_le, Int32.le_iff_toInt_le]; omega
    have l2 : h_X10_lies a 12 15 = some 0 := by
      rw [b_lies, if_neg]
      rw [Int32.le_iff_toInt_le, Int32.le_iff_toInt_le]; omega
    unfold h_X10_count
    simp only [l1, l2, p_bs, if_true, e0, e1, e2, e3, e4, e5, e6, e7, e8, e9, e10, e11, if_false]
theorem ok_5 {S : v_S} {I : v_I} {J : v_J} {F : v_F} (h : R S I J F) : op_5 R S I J F := by
  intro a
  have hC := h.2.2.1
  have hK := h.2.2.2.1
  have hO := h.2.2.2.2.2.1
  have hD := h.2.2.2.2.2.2.1
  obtain ⟨⟨tn, ht, t1, t2⟩, t3⟩ := h.2.2.2.2.1
  simp only [s_X9_end h.1 h.2.1, s_X10_end h.1 h.2.1]
  rcases upTo_cases a (q := nI tn) (m := tn) rfl (by omega) with ⟨x, hx, rfl, u1, u2⟩ | ⟨u1, u2, u3⟩
  · refine ⟨(nI x, v_up I 0 8 (nI x)), (nI x, v_up (v_up I 0 8 (nI x)) 49 13 (nI x)), ?_, ?_, rfl, h.1, ?_⟩
    · unfold h_X9_end
      rw [t1]
      simp only [u1, p_bs, i10, if_false, p_le]
    · unfold h_X10_end
      have : (v_up I 0 8 (nI x)) 49 13 = nI tn := by simp [v_up, t2]
      simp only [this, u2, p_bs, i10, if_false, p_le]
    · dsimp only
      have row : ∀ b, b ≠ 0 → b ≠ 49 → (v_up (v_up I 0 8 (nI x)) 49 13 (nI x)) b = I b := fun b h0 h1 => by
        rw [v_up_row _ _ _ _ h1, v_up_row _ _ _ _ h0]
      refine R_mk h (fun b hb => row b (by omega) (by omega)) ?_ (by rw [row 51 (by omega) (by omega)]; exact hK) ?_ ?_ ?_ (row _ (by omega) (by omega)) (row _ (by omega) (by omega)) (row _ (by omega) (by omega)) (by rw [row 51 (by omega) (by omega)]) (fun i _ => by rw [row 51 (by omega) (by omega)]) (.inr ⟨row _ (by omega) (by omega), by simp [v_up], row _ (by omega) (by omega), row _ (by omega) (by omega), by rw [row 51 (by omega) (by omega)]⟩)
      · rw [row 51 (by omega) (by omega)]
        exact rC_f hC (fun a h1 h2 => row a (by omega) (by omega))
      · refine ⟨⟨x, by omega, by simp [v_up], by simp [v_up]⟩, fun i hi => ?_⟩
        rw [row 29 (by omega) (by omega), row 56 (by omega) (by omega)]
        exact t3 i hi
      · obtain ⟨o1, o2, o3, o4, o5, o6, o7, o8, o9⟩ := hO
        simp [rO, v_up, *]
      · unfold rD rM
        rw [row 26 (by omega) (by omega), row 27 (by omega) (by omega), row 28 (by omega) (by omega), row 71 (by omega) (by omega)]
        obtain ⟨⟨n, d1, d2, d3⟩, d4⟩ := hD
        exact ⟨⟨n, d1, by simp [v_up, d2], by simpa [v_up] using d3⟩, d4⟩
  · refine ⟨(-1, I), (-1, I), ?_, ?_, rfl, h.1, h⟩
    · unfold h_X9_end
      rw [t1]
      simp only [u1, p_bs, if_true]
    · unfold h_X10_end
      dsimp only
      rw [t2]
      simp only [u2, p_bs, if_true]
theorem lies_dm {I : v_I} (hD : rD I) (p : Int32) : (∃ k n : Nat, k < n ∧ n ≤ 8 ∧ p = nI k ∧ I 0 6 = nI n ∧ h_X10_lies p 0 (I 49 46 - 1) = some 1) ∨ ((p < 0 ∨ ¬ p < I 0 6) ∧ h_X10_lies p 0 (I 49 46 - 1) = some 0) := by
  obtain ⟨⟨n, d1, d2, d3⟩, _⟩ := hD
  by_cases h0 : p < 0
  · exact .inr ⟨.inl h0, by rw [b_lies, if_neg (fun q => absurd h0 (Int32.not_lt.mpr q.1))]⟩
  · obtain ⟨k, hk, rfl⟩ := nI_of h0
    have z : 0 ≤ nI k := Int32.not_lt.mp h0
    by_cases hlt : k < n
    · left
      rcases d3 with ⟨q, _⟩ | ⟨_, d3⟩
      · omega
      · refine ⟨k, n, hlt, d1, rfl, d2, ?_⟩
        obtain ⟨n', rfl⟩ : ∃ n', n = n' + 1 := ⟨n - 1, by omega⟩
        rw [d3, nI_pred, b_lies, if_pos ⟨z, nI_le (by omega) (by omega)⟩]
    · right
      refine ⟨.inr (i_nlt rfl d2 (by omega) hk), ?_⟩
      rw [b_lies, if_neg]
      rintro ⟨_, q⟩
      rcases d3 with ⟨_, d3⟩ | ⟨n0, d3⟩
      · rw [d3, Int32.le_iff_toInt_le, nI_toInt hk] at q
        have : ((-1 : Int32) - 1).toInt = -2 := by decide
        omega
      · obtain ⟨n', rfl⟩ : ∃ n', n = n' + 1 := ⟨n - 1, by omega⟩
        rw [d3, nI_pred] at q
        exact absurd q (nI_ge (by omega) (by omega))
theorem ok_36 {S : v_S} {I : v_I} {J : v_J} {F : v_F} (h : R S I J F) : op_36 R S I J F := by
  intro a b
  have hD := h.2.2.2.2.2.2.1
  have hD0 := hD
  obtain ⟨⟨n, d1, d2, d3⟩, ⟨m1, m2, m3, m4⟩⟩ := hD
  simp only [s_X9_drawn h.1 h.2.1, s_X10_drawn h.1 h.2.1]
  have fin : ∀ x : Int32, h_X9_drawn S I F a b = some x → h_X10_drawn I a b = some x → ∃ (r : Int32) (q : Int32), h_X9_drawn S I F a b = some r ∧ h_X10_drawn I a b = some q ∧ r = q ∧ p_SS S ∧ R S I J F := fun x e1 e2 => ⟨x, x, e1, e2, rfl, h.1, h⟩
  rcases lies_dm hD0 a with ⟨k, n', hk, hn, rfl, en, u⟩ | ⟨u1, u2⟩
  · have i8 : p_in 8 (nI k) = some k := p_in_nI (by omega) (by omega)
    have i1 : p_in 18 (1 + nI k) = some (1 + k) := p_inA (c := 1) rfl (by omega) (by omega)
    have i9 : p_in 18 (9 + nI k) = some (9 + k) := p_inA (c := 9) rfl (by omega) (by omega)
    have bb : ∀ x y : Int32, ((x >>> y) &&& 1) = 0 ∨ ((x >>> y) &&& 1) = 1 := fun x y => by
      have h1 := Jvm.Kit.i32_mask (x >>> y) 1 (k := 1) (by omega) (by decide)
      have h2 : ((x >>> y) &&& 1).toInt = 0 ∨ ((x >>> y) &&& 1).toInt = 1 := by omega
      rcases h2 with h2 | h2
      · left; rw [← Int32.toInt_inj, h2]; rfl
      · right; rw [← Int32.toInt_inj, h2]; rfl
    have cc : ∀ y, h_X9_drawn S I F (nI k) b = y ↔ (if b = 0 then (p_in 8 (nI k)).bind fun j => some (I 27 j) else if b = 1 then (h_X3_isOpen S I 26 27 28 (nI k)).bind fun r => if r = 0 then some 0 else some 1 else if b = 2 then (p_in 8 (nI k)).bind fun j => some (I 28 j) else some (-1)) = y := fun y => by
      unfold h_X9_drawn
      rw [if_neg (nI_pos (by omega)), if_pos (i_lt rfl en hk (by omega))]
    have mm : ∀ y, h_X10_drawn I (nI k) b = y ↔ (if b = 0 then (p_in 18 (1 + nI k)).bind fun j => some (I 71 j) else if b = 1 then some ((I 71 0 >>> (nI k &&& 31)) &&& 1) else if b = 2 then (p_in 18 (9 + nI k)).bind fun j => some (I 71 j) else some (-1)) = y := fun y => by
      unfold h_X10_drawn
      simp only [u, p_bs, i10, if_false]
    by_cases b0 : b = 0
    · refine fin (I 71 (1 + k)) ((cc _).mpr ?_) ((mm _).mpr ?_)
      · rw [if_pos b0, i8, p_bs, m3 k (by omega)]
      · rw [if_pos b0, i1, p_bs]
    by_cases b1 : b = 1
    · refine fin ((I 71 0 >>> (nI k &&& 31)) &&& 1) ((cc _).mpr ?_) ((mm _).mpr ?_)
      · rw [if_neg b0, if_pos b1]
        unfold h_X3_isOpen
        rw [m1]
        rcases bb (I 71 0) (nI k &&& 31) with q | q
        · rw [q, if_neg (by decide), p_bs, if_pos rfl]
        · rw [q, if_pos rfl, p_bs, if_neg (by decide)]
      · rw [if_neg b0, if_pos b1]
    by_cases b2 : b = 2
    · refine fin (I 71 (9 + k)) ((cc _).mpr ?_) ((mm _).mpr ?_)
      · rw [if_neg b0, if_neg b1, if_pos b2, i8, p_bs, m4 k (by omega)]
      · rw [if_neg b0, if_neg b1, if_pos b2, i9, p_bs]
    · refine fin (-1) ((cc _).mpr ?_) ((mm _).mpr ?_)
      · rw [if_neg b0, if_neg b1, if_neg b2]
      · rw [if_neg b0, if_neg b1, if_neg b2]
  · refine fin (-1) ?_ ?_
    · unfold h_X9_drawn
      by_cases q : a < 0
      · rw [if_pos q]
      · rw [if_neg q, if_neg (u1.resolve_left q)]
    · unfold h_X10_drawn
      simp only [u2, p_bs, if_true]
end sp54
