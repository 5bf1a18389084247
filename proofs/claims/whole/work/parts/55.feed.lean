noncomputable section sp55
/-- the byte of a feed -/
def fd_y (q : Nat → Int32) (k : Nat) : Int32 := q (k / 4) >>> ((24 - 8 * nI (k % 4)) &&& 31)
theorem fd_b (y : Int32) : ∃ b : Nat, b < 256 ∧ y &&& 255 = nI b ∧ vp_nar .byte y.toInt8.toInt32 = (nI b).toInt8.toInt32 := by
  have h1 := Jvm.Kit.i32_mask y 255 (k := 8) (by omega) (by decide)
  have h2 : 0 ≤ (y &&& 255).toInt ∧ (y &&& 255).toInt < 256 := by omega
  obtain ⟨b, hb, e⟩ := nI_of (x := y &&& 255) (by rw [Int32.lt_iff_toInt_lt]; have : (0 : Int32).toInt = 0 := by decide
                                                  omega)
  rw [e, nI_toInt hb] at h2
  refine ⟨b, by omega, e, ?_⟩
  have e8 : y.toInt8 = (y &&& 255).toInt8 := by
    rw [← Int8.toBitVec_inj]
    simp
    exact (BitVec.and_allOnes (x := BitVec.signExtend 8 y.toBitVec)).symm
  rw [← e, ← e8]
  unfold vp_nar narrow
  simp
def fd_C (I I' : v_I) (q : Nat → Int32) (n m : Nat) : Prop := I' 0 8 = nI (n + m) ∧ (∀ j, I' 29 j = if n ≤ j ∧ j < n + m then fd_y q (j - n) &&& 255 else I 29 j) ∧ (∀ a j, ¬ (a = 0 ∧ j = 8) → a ≠ 29 → I' a j = I a j)
theorem c_put (S : v_S) (F : v_F) {I I1 : v_I} {q : Nat → Int32} {n c : Nat} {x : Int32} (hx : x = q c) (hc : c < 5) (hn : n + 20 ≤ 400) (h : fd_C I I1 q n (4 * c)) : wp (h_X9_putFour S I1 F x) (fun I2 => fd_C I I2 q n (4 * (c + 1))) := by
  subst hx
  unfold h_X9_putFour
  rw [wp_bind]
  refine wp_loop (fun i s => s.1 = 24 - 8 * nI i ∧ fd_C I s.2 q n (4 * c + i)) 4 (by omega) ⟨(show (24 : Int32) = 24 - 8 * nI 0 by decide), h⟩ ?_
  rintro i s hi ⟨e1, e2, e3, e4⟩
  have sg : ∀ i, i < 4 → ¬ ((24 : Int32) - 8 * nI i < 0) := by decide
  by_cases h4 : i < 4
  · unfold h_X9_putFour_B3
    rw [e1, if_neg (sg i h4), e2, if_neg (show ¬ (400 : Int32) ≤ nI (n + (4 * c + i)) from i_nle (a := 400) rfl rfl (by omega) (by omega)), p_in_nI (by omega) (by omega), p_bs]
    simp only [p_le, wp_some]
    refine ⟨h4, ?_, ?_, ?_, ?_⟩
    · have : ∀ i, i < 4 → (24 : Int32) - 8 * nI i + -8 = 24 - 8 * nI (i + 1) := by decide
      exact this i h4
    · rw [v_up_at, v_up_ne _ _ (by omega), e2, nI_1, Nat.add_assoc]; rfl
    · intro j
      rw [v_up_ne _ _ (by omega)]
      by_cases ej : j = n + (4 * c + i)
      · subst ej
        rw [v_up_at, if_pos (by omega)]
        unfold fd_y
        rw [show (n + (4 * c + i) - n) / 4 = c by omega, show (n + (4 * c + i) - n) % 4 = i by omega]
      · rw [v_up_ne _ _ (by omega), e3 j]
        by_cases hq : n ≤ j ∧ j < n + (4 * c + i)
        · rw [if_pos hq, if_pos (by omega)]
        · rw [if_neg hq, if_neg (by omega)]
    · intro a j h1 h2
      rw [v_up_ne _ _ (by omega), v_up_ne _ _ (by omega)]
      exact e4 a j h1 h2
  · have i4 : i = 4 := by omega
    subst i4
    unfold h_X9_putFour_B3
    rw [e1, if_pos (by decide)]
    simp only [wp_some]
    exact ⟨e2, e3, e4⟩
theorem ok_4 {S : v_S} {I : v_I} {J : v_J} {F : v_F} (h : R S I J F) : op_4 R S I J F := by
  intro a1 a2 a3 a4 a5
  have hC := h.2.2.1
  have hK := h.2.2.2.1
  have hO := h.2.2.2.2.2.1
  have hD := h.2.2.2.2.2.2.1
  obtain ⟨⟨n, ht, t1, t2⟩, t3⟩ := h.2.2.2.2.1
  simp only [s_X9_feed h.1 h.2.1, s_X10_feed h.1 h.2.1]
  by_cases hn : n + 20 ≤ 400
  · obtain ⟨q, q0, q1, q2, q3, q4⟩ : ∃ q : Nat → Int32, a1 = q 0 ∧ a2 = q 1 ∧ a3 = q 2 ∧ a4 = q 3 ∧ a5 = q 4 := ⟨fun i => if i = 0 then a1 else if i = 1 then a2 else if i = 2 then a3 else if i = 3 then a4 else a5, by simp, by simp, by simp, by simp, by simp⟩
    have tc : wp (h_X9_feed S I F a1 a2 a3 a4 a5) (fun r => r.1 = nI (n + 20) ∧ fd_C I r.2 q n 20) := by
      unfold h_X9_feed
      rw [t1, if_pos (show nI n + 20 ≤ 400 from i_le (a := n + 20) (b := 400) (by rw [← nI_add]; rfl) rfl hn (by omega))]
      have s0 : fd_C I I q n (4 * 0) := ⟨t1, fun j => by rw [if_neg (by omega)], fun _ _ _ _ => rfl⟩
      refine wp_seq (c_put S F (c := 0) q0 (by omega) hn s0) fun I1 s1 => ?_
      refine wp_seq (c_put S F (c := 1) q1 (by omega) hn s1) fun I2 s2 => ?_
      refine wp_seq (c_put S F (c := 2) q2 (by omega) hn s2) fun I3 s3 => ?_
      refine wp_seq (c_put S F (c := 3) q3 (by omega) hn s3) fun I4 s4 => ?_
      refine wp_seq (c_put S F (c := 4) q4 (by omega) hn s4) fun I5 s5 => ?_
      rw [wp_some]
      exact ⟨s5.1, s5⟩
    obtain ⟨⟨x, I1⟩, ec, rfl, f1, f2, f3⟩ := tc
    have tm : wp (h_X10_feed I1 a1 a2 a3 a4 a5) (fun r => r.1 = nI (n + 20) ∧ r.2 49 13 = nI (n + 20) ∧ (∀ j, r.2 56 j = if n ≤ j ∧ j < n + 20 then vp_nar .byte (fd_y q (j - n)).toInt8.toInt32 else I1 56 j) ∧ ∀ a j, ¬ (a = 49 ∧ j = 13) → a ≠ 56 → a ≠ 57 → r.2 a j = I1 a j) := by
      have t2' : I1 49 13 = nI n := (f3 49 13 (by omega) (by omega)).trans t2
      unfold h_X10_feed
      rw [t2', if_pos (show nI n + 20 ≤ 400 from i_le (a := n + 20) (b := 400) (by rw [← nI_add]; rfl) rfl hn (by omega))]
      simp only [p_le]
      rw [wp_bind]
      refine wp_loop (fun k s => s.1 = nI k ∧ s.2 49 13 = nI n ∧ (∀ i, i < 5 → s.2 57 i = q i) ∧ (∀ j, s.2 56 j = if n ≤ j ∧ j < n + k then vp_nar .byte (fd_y q (j - n)).toInt8.toInt32 else I1 56 j) ∧ ∀ a j, a ≠ 56 → a ≠ 57 → s.2 a j = I1 a j) 20 (by omega) ⟨rfl, by simp [v_up, t2'], ?_, fun j => by rw [if_neg (by omega)]; simp [v_up], fun a j _ h57 => by simp [v_up, h57]⟩ ?_
      · intro i hi
        have : i = 0 ∨ i = 1 ∨ i = 2 ∨ i = 3 ∨ i = 4 := by omega
        rcases this with rfl | rfl | rfl | rfl | rfl <;> simp [v_up, ← q0, ← q1, ← q2, ← q3, ← q4]
      · rintro k s hk ⟨e1, e2, e3, e4, e5⟩
        by_cases h20 : k < 20
        · have d4 : ∀ k, k < 20 → nI k / 4 = nI (k / 4) := by decide
          have d5 : ∀ k, k < 20 → (24 : Int32) - 8 * (nI k - nI k / 4 * 4) = 24 - 8 * nI (k % 4) := by decide
          unfold h_X10_feed_B55
          rw [e1, e2, if_neg (show ¬ (20 : Int32) ≤ nI k from i_nle (a := 20) rfl rfl h20 (by omega)), d5 k h20, d4 k h20, p_in_nI (by omega) (by omega), p_bs, nI_add, p_in_nI (by omega) (by omega), p_bs, e3 _ (by omega)]
          simp only [p_le, wp_some]
          refine ⟨h20, nI_1 k, ?_, ?_, ?_, ?_⟩
          · rw [v_up_ne _ _ (by omega)]; exact e2
          · intro i hi; rw [v_up_ne _ _ (by omega)]; exact e3 i hi
          · intro j
            by_cases ej : j = n + k
            · subst ej
              rw [v_up_at, if_pos (by omega), show n + k - n = k by omega]
              rfl
            · rw [v_up_ne _ _ (by omega), e4 j]
              by_cases hq : n ≤ j ∧ j < n + k
              · rw [if_pos hq, if_pos (by omega)]
              · rw [if_neg hq, if_neg (by omega)]
          · intro a j h1 h2; rw [v_up_ne _ _ (by omega)]; exact e5 a j h1 h2
        · have : k = 20 := by omega
          subst this
          unfold h_X10_feed_B55
          rw [e1, if_pos (show (20 : Int32) ≤ nI 20 by decide)]
          simp only [wp_some, p_le]
          have e6 : s.2 49 13 + 20 = nI (n + 20) := by rw [e2, ← nI_add]; rfl
          refine ⟨by rw [v_up_at]; exact e6, by rw [v_up_at]; exact e6, ?_, ?_⟩
          · intro j; rw [v_up_ne _ _ (by omega)]; exact e4 j
          · intro a j h1 h2 h3; rw [v_up_ne _ _ (by omega)]; exact e5 a j h2 h3
    obtain ⟨⟨y, I2⟩, em, ey, g1, g2, g3⟩ := tm
    refine ⟨_, _, ec, em, ey.symm, h.1, ?_⟩
    dsimp only at g1 g2 g3 f1 f2 f3 ⊢
    have row : ∀ b, b ≠ 0 → b ≠ 29 → b ≠ 49 → b ≠ 56 → b ≠ 57 → I2 b = I b := fun b h0 h1 h2 h3 h4 => funext fun j => by
      rw [g3 b j (by omega) h3 h4, f3 b j (by omega) h1]
    have c0 : ∀ j, j ≠ 8 → I2 0 j = I 0 j := fun j hj => by rw [g3 0 j (by omega) (by omega) (by omega), f3 0 j (by omega) (by omega)]
    have c49 : ∀ j, j ≠ 13 → I2 49 j = I 49 j := fun j hj => by rw [g3 49 j (by omega) (by omega) (by omega), f3 49 j (by omega) (by omega)]
    have r51 := row 51 (by omega) (by omega) (by omega) (by omega) (by omega)
    refine R_mk h (fun b hb => row b (by omega) (by omega) (by omega) (by omega) (by omega)) ?_ (by rw [r51]; exact hK) ?_ ?_ ?_ (row _ (by omega) (by omega) (by omega) (by omega) (by omega)) (row _ (by omega) (by omega) (by omega) (by omega) (by omega)) (row _ (by omega) (by omega) (by omega) (by omega) (by omega)) (by rw [r51]) (fun i _ => by rw [r51]) (.inr ⟨row _ (by omega) (by omega) (by omega) (by omega) (by omega), c49 _ (by omega), row _ (by omega) (by omega) (by omega) (by omega) (by omega), row _ (by omega) (by omega) (by omega) (by omega) (by omega), by rw [r51]⟩)
    · rw [r51]
      exact rC_f hC (fun a h1 h2 => row a (by omega) (by omega) (by omega) (by omega) (by omega))
    · refine ⟨⟨n + 20, by omega, by rw [g3 0 8 (by omega) (by omega) (by omega)]; exact f1, g1⟩, fun i hi => ?_⟩
      have e29 : I2 29 i = I1 29 i := g3 29 i (by omega) (by omega) (by omega)
      have e56 : I1 56 i = I 56 i := f3 56 i (by omega) (by omega)
      rw [e29, f2 i, g2 i, e56]
      by_cases hq : n ≤ i ∧ i < n + 20
      · rw [if_pos hq, if_pos hq]
        exact fd_b _
      · rw [if_neg hq, if_neg hq]
        exact t3 i hi
    · obtain ⟨o1, o2, o3, o4, o5, o6, o7, o8, o9⟩ := hO
      unfold rO
      rw [c0 14 (by omega), c0 15 (by omega), c0 16 (by omega), c0 17 (by omega), c49 0 (by omega), c49 6 (by omega), c49 14 (by omega), c49 38 (by omega), row 48 (by omega) (by omega) (by omega) (by omega) (by omega), row 50 (by omega) (by omega) (by omega) (by omega) (by omega)]
      exact ⟨o1, o2, o3, o4, o5, o6, o7, o8, o9⟩
    · unfold rD rM
      rw [c0 6 (by omega), c49 46 (by omega), row 26 (by omega) (by omega) (by omega) (by omega) (by omega), row 27 (by omega) (by omega) (by omega) (by omega) (by omega), row 28 (by omega) (by omega) (by omega) (by omega) (by omega), row 71 (by omega) (by omega) (by omega) (by omega) (by omega)]
      exact hD
  · have nn : ¬ (nI n + 20 ≤ 400) := i_nle (a := n + 20) (b := 400) (by rw [← nI_add]; rfl) rfl (by omega) (by omega)
    refine ⟨(-1, I), (-1, I), ?_, ?_, rfl, h.1, h⟩
    · unfold h_X9_feed
      rw [t1, if_neg nn]
    · unfold h_X10_feed
      dsimp only
      rw [if_neg (by rw [t2]; exact nn)]
end sp55
