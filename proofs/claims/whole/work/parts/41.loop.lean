noncomputable section lw41
theorem b_sc {sL k : Nat} {sx : Nat → Int32} (h : k < sL) (hs : sL ≤ 3072) : p_sc sL sx (nI k) = some (sx k) := by
  unfold p_sc
  rw [if_pos (nI_in h (by omega)), nI_clamp (by omega)]
theorem b_sub6 {L k : Nat} (hL : L ≤ 3072) (hk : k ≤ 3072) : (Int32.ofNat L - 6 < nI k) ↔ L < k + 6 := by
  rw [Int32.lt_iff_toInt_lt, nI_toInt (by omega)]
  have e : (Int32.ofNat L - 6).toInt = (L : Int) - 6 := by
    have h1 : (Int32.ofNat L).toInt = (L : Int) := nI_toInt (n := L) (by omega)
    rw [Int32.toInt_sub, h1, show (6 : Int32).toInt = 6 from rfl]
    exact Int.bmod_eq_of_le (by omega) (by omega)
  rw [e]
  omega
/-- the law's loop: whatever is drawn, both agree, round by round -/
theorem law_loop {P : v_S → v_I → v_J → v_F → Prop} (hP : ∀ S I J F, P S I J F → p_SS S ∧ op_all P S I J F) {L : Nat} {xs : Nat → Int32} (hL : L ≤ 3072) : ∀ (n k : Nat) (S : v_S) (I : v_I) (J : v_J) (F : v_F), P S I J F → 6 * k ≤ L → L < 6 * (k + n) → ∃ q, v_loop (f_L_law_B18 L xs 0 49) n (nI (6 * k), S, I, J, F) = some q := by
  intro n
  induction n with
  | zero => intro k S I J F _ h1 h2; omega
  | succ n ih =>
    intro k S I J F hp h1 h2
    by_cases hx : L < 6 * k + 6
    · have e : f_L_law_B18 L xs 0 49 (nI (6 * k), S, I, J, F) = some (.inr (nI (6 * k), S, I, J, F)) := by
        unfold f_L_law_B18
        rw [if_pos ((b_sub6 hL (by omega)).mpr hx)]
      refine ⟨(nI (6 * k), S, I, J, F), ?_⟩
      simp only [v_loop, e]
    · have hi : ¬ (Int32.ofNat L - 6 < nI (6 * k)) := fun q => hx ((b_sub6 hL (by omega)).mp q)
      have hs0 := b_sc (sx := xs) (k := 6 * k) (by omega) hL
      have hs : ∀ j : Nat, j < 6 → p_sc L xs (nI (6 * k) + nI j) = some (xs (6 * k + j)) := fun j hj => by
        rw [nI_add]; exact b_sc (by omega) hL
      have s1 : p_sc L xs (nI (6 * k) + 1) = some (xs (6 * k + 1)) := hs 1 (by omega)
      have s2 : p_sc L xs (nI (6 * k) + 2) = some (xs (6 * k + 2)) := hs 2 (by omega)
      have s3 : p_sc L xs (nI (6 * k) + 3) = some (xs (6 * k + 3)) := hs 3 (by omega)
      have s4 : p_sc L xs (nI (6 * k) + 4) = some (xs (6 * k + 4)) := hs 4 (by omega)
      have s5 : p_sc L xs (nI (6 * k) + 5) = some (xs (6 * k + 5)) := hs 5 (by omega)
      obtain ⟨hS, ho⟩ := hP S I J F hp
      have go : ∃ S' I' J' F', f_L_law_B18 L xs 0 49 (nI (6 * k), S, I, J, F) = some (.inl (nI (6 * k) + 6, S', I', J', F')) ∧ P S' I' J' F' := by
        unfold op_all at ho
        obtain ⟨o0, o1, o2, o3, o4, o5, o6, o7, o8, o9, o10, o11, o12, o13, o14, o15, o16, o17, o18, o19, o20, o21, o22, o23, o24, o25, o26, o27, o28, o29, o30, o31, o32, o33, o34, o35, o36, o37, o38, o39, o40⟩ := ho
        by_cases c0 : xs (6 * k) &&& 63 = 0
        · exact law_0 hS hi hs0 c0 s1 s2 o0
        by_cases c1 : xs (6 * k) &&& 63 = 1
        · exact law_1 hS hi hs0 c1 s1 s2 s3 o1
        by_cases c2 : xs (6 * k) &&& 63 = 2
        · exact law_2 hS hi hs0 c2 s1 s2 o2
        by_cases c3 : xs (6 * k) &&& 63 = 3
        · exact law_3 hS hi hs0 c3 s1 s2 o3
        by_cases c4 : xs (6 * k) &&& 63 = 4
        · exact law_4 hS hi hs0 c4 s1 s2 s3 s4 s5 o4
        by_cases c5 : xs (6 * k) &&& 63 = 5
        · exact law_5 hS hi hs0 c5 s1 o5
        by_cases c6 : xs (6 * k) &&& 63 = 6
        · exact law_6 hS hi hs0 c6  o6
        by_cases c7 : xs (6 * k) &&& 63 = 7
        · exact law_7 hS hi hs0 c7  o7
        by_cases c8 : xs (6 * k) &&& 63 = 8
        · exact law_8 hS hi hs0 c8  o8
        by_cases c9 : xs (6 * k) &&& 63 = 9
        · exact law_9 hS hi hs0 c9  o9
        by_cases c10 : xs (6 * k) &&& 63 = 10
        · exact law_10 hS hi hs0 c10  o10
        by_cases c11 : xs (6 * k) &&& 63 = 11
        · exact law_11 hS hi hs0 c11  o11
        by_cases c12 : xs (6 * k) &&& 63 = 12
        · exact law_12 hS hi hs0 c12 s1 o12
        by_cases c13 : xs (6 * k) &&& 63 = 13
        · exact law_13 hS hi hs0 c13 s1 o13
        by_cases c14 : xs (6 * k) &&& 63 = 14
        · exact law_14 hS hi hs0 c14 s1 o14
        by_cases c15 : xs (6 * k) &&& 63 = 15
        · exact law_15 hS hi hs0 c15 s1 s2 o15
        by_cases c16 : xs (6 * k) &&& 63 = 16
        · exact law_16 hS hi hs0 c16  o16
        by_cases c17 : xs (6 * k) &&& 63 = 17
        · exact law_17 hS hi hs0 c17  o17
        by_cases c18 : xs (6 * k) &&& 63 = 18
        · exact law_18 hS hi hs0 c18 s1 o18
        by_cases c19 : xs (6 * k) &&& 63 = 19
        · exact law_19 hS hi hs0 c19 s1 o19
        by_cases c20 : xs (6 * k) &&& 63 = 20
        · exact law_20 hS hi hs0 c20  o20
        by_cases c21 : xs (6 * k) &&& 63 = 21
        · exact law_21 hS hi hs0 c21  o21
        by_cases c22 : xs (6 * k) &&& 63 = 22
        · exact law_22 hS hi hs0 c22 s1 o22
        by_cases c23 : xs (6 * k) &&& 63 = 23
        · exact law_23 hS hi hs0 c23 s1 s2 o23
        by_cases c24 : xs (6 * k) &&& 63 = 24
        · exact law_24 hS hi hs0 c24 s1 o24
        by_cases c25 : xs (6 * k) &&& 63 = 25
        · exact law_25 hS hi hs0 c25 s1 s2 o25
        by_cases c26 : xs (6 * k) &&& 63 = 26
        · exact law_26 hS hi hs0 c26 s1 s2 s3 o26
        by_cases c27 : xs (6 * k) &&& 63 = 27
        · exact law_27 hS hi hs0 c27  o27
        by_cases c28 : xs (6 * k) &&& 63 = 28
        · exact law_28 hS hi hs0 c28 s1 o28
        by_cases c29 : xs (6 * k) &&& 63 = 29
        · exact law_29 hS hi hs0 c29 s1 s2 o29
        by_cases c30 : xs (6 * k) &&& 63 = 30
        · exact law_30 hS hi hs0 c30  o30
        by_cases c31 : xs (6 * k) &&& 63 = 31
        · exact law_31 hS hi hs0 c31  o31
        by_cases c32 : xs (6 * k) &&& 63 = 32
        · exact law_32 hS hi hs0 c32 s1 o32
        by_cases c33 : xs (6 * k) &&& 63 = 33
        · exact law_33 hS hi hs0 c33 s1 s2 o33
        by_cases c34 : xs (6 * k) &&& 63 = 34
        · exact law_34 hS hi hs0 c34 s1 o34
        by_cases c35 : xs (6 * k) &&& 63 = 35
        · exact law_35 hS hi hs0 c35 s1 s2 o35
        by_cases c36 : xs (6 * k) &&& 63 = 36
        · exact law_36 hS hi hs0 c36 s1 s2 o36
        by_cases c37 : xs (6 * k) &&& 63 = 37
        · exact law_37 hS hi hs0 c37 s1 o37
        by_cases c38 : xs (6 * k) &&& 63 = 38
        · exact law_38 hS hi hs0 c38 s1 o38
        by_cases c39 : xs (6 * k) &&& 63 = 39
        · exact law_39 hS hi hs0 c39 s1 o39
        by_cases c40 : xs (6 * k) &&& 63 = 40
        · exact law_40 hS hi hs0 c40  o40
        exact ⟨S, I, J, F, law_def hi hs0 ⟨c0, c1, c2, c3, c4, c5, c6, c7, c8, c9, c10, c11, c12, c13, c14, c15, c16, c17, c18, c19, c20, c21, c22, c23, c24, c25, c26, c27, c28, c29, c30, c31, c32, c33, c34, c35, c36, c37, c38, c39, c40⟩, hp⟩
      obtain ⟨S', I', J', F', e, hp'⟩ := go
      obtain ⟨q, hq⟩ := ih (k + 1) S' I' J' F' hp' (by omega) (by omega)
      refine ⟨q, ?_⟩
      simp only [v_loop, e]
      have e6 : nI (6 * k) + 6 = nI (6 * (k + 1)) := by
        rw [show (6 : Int32) = nI 6 from rfl, nI_add]; rfl
      rw [e6]
      exact hq
end lw41
