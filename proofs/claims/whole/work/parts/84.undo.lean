noncomputable section sp84
theorem ok_17 {S : v_S} {I : v_I} {J : v_J} {F : v_F} (h : R S I J F) : op_17 R S I J F := by
  unfold op_17
  simp only [s_X9_undo h.1 h.2.1, s_X10_undo h.1 h.2.1]
  have h0 := h
  obtain ⟨hS, hF, hC, hK, hT, hO, hD, hW, own, hN, hL, hP, hG⟩ := h
  obtain ⟨nu, nx, p1, p2, p3, p4, p5, p6, p7⟩ := id hP
  unfold h_X9_undo f_X4_takeBack
  rw [p_obS hS (a := 11) (kd := 4) rfl, p_bs, p5, (md16 p2).1, p_le]
  have hl16 : (nx + 15) % 16 < 16 := Nat.mod_lt _ (by omega)
  by_cases h0n : nu = 0
  · -- nothing
    subst h0n
    rw [if_pos (by rw [p3]; rfl), p_bs]
    dsimp only
    rw [if_pos rfl]
    obtain ⟨I1, I2, a1, a2, a3⟩ := R_ref3 (J' := J) h0
    have e32 : I1 49 32 = 0 := by
      have := c_ref3 S I F; rw [a1] at this; cases this
      rw [v_up_row _ 48 _ _ (by omega), v_up_row _ 0 _ _ (by omega), p4]; rfl
    refine ⟨(-3, I1), (-3, I2), by rw [a1, p_bs], ?_, rfl, hS, a3⟩
    show h_X10_undo I1 = _
    unfold h_X10_undo
    rw [if_pos e32, a2, p_bs]
  · obtain ⟨u, rfl⟩ : ∃ u, nu = u + 1 := ⟨nu - 1, by omega⟩
    have hidx : (nx + 16 - (u + 1) + u) % 16 = (nx + 15) % 16 := by omega
    obtain ⟨a1, ⟨m, w, s, b1, b2, b3, b4⟩, a2, a3⟩ := p7 u (by omega)
    rw [hidx] at a1 b1
    generalize hq : (nx + 15) % 16 = q at *
    have hmo : p_Mo S F m w s ∧ 72 ≤ m ∧ 72 ≤ w ∧ 72 ≤ s := by
      rcases p6 q hl16 with z | ⟨m', w', s', z1, z2, z3, z4, z5, z6⟩
      · rw [z] at b1; cases b1
      · rw [z1] at b1; cases b1
        have := z2.2.2.2.1; rw [this] at b2; cases b2
        have := z2.2.2.2.2; rw [this] at b3; cases b3
        exact ⟨z2, (hN _ (by omega)).1, (hN _ (by omega)).1, (hN _ (by omega)).1⟩
    obtain ⟨hm, l1, l2, l3⟩ := hmo
    rw [if_neg (by rw [p3]; exact fun e => absurd ((i_eqI (b := 0) rfl rfl (by omega) (by omega)).mp e) (by omega)), if_neg (nI_pos (by omega)), p_FS hF (a := 11) (i := 3) (b := 13) (by decide)]
    simp only [p_bs, p_le, p_ixS hS (kd := 25) (a := 13) (n := 16) rfl, p_in_nI hl16 (show 16 < 2 ^ 31 by omega), b1, p_nul, p_obS hS (a := 2) (kd := 3) rfl, s_X3_copyFrom hS hF (mo_now hS hF) hm]
    obtain ⟨I1, c1, c2, c3, c4⟩ := c_copy (I := I) (mo_now hS hF) hm (by omega) (by omega) (by omega) (by omega) (by omega) (by omega) (by omega)
    rw [c1]
    simp only [p_bs, p_FS hF (a := 11) (i := 2) (b := 12) (by decide), p_ixS hS (kd := 20) (a := 12) (n := 16) rfl, p_in_nI hl16 (show 16 < 2 ^ 31 by omega)]
    have I1a : ∀ a, a ≠ 2 → a ≠ 3 → a ≠ 4 → I1 a = I a := c3
    rw [v_up_row _ 11 _ _ (show (12 : Nat) ≠ 11 by omega), v_up_row _ 11 _ _ (show (12 : Nat) ≠ 11 by omega), I1a 12 (by omega) (by omega) (by omega), a1, w_ne _ _ _ _ (show (0 : Nat) ≠ 1 by omega), I1a 11 (by omega) (by omega) (by omega), p3, nI_pred]
    have hkne : ¬ I 63 (19 * u + 18) = -1 := by rcases a3 with e | e | e | e <;> rw [e] <;> decide
    rw [if_neg hkne, c_accept, p_bs]
    generalize hIc : v_up (v_up (v_up I1 11 1 (nI q)) 11 0 (nI u)) 0 14 0 = Ic
    have cr : ∀ a, a ≠ 0 → a ≠ 11 → a ≠ 2 → a ≠ 3 → a ≠ 4 → Ic a = I a := fun a q1 q2 q3 q4 q5 => by rw [← hIc, v_up_row _ 0 _ _ q1, v_up_row _ 11 _ _ q2, v_up_row _ 11 _ _ q2, I1a a q3 q4 q5]
    have c0 : ∀ j, j ≠ 14 → Ic 0 j = I 0 j := fun j hj => by rw [← hIc, w_ne _ _ _ _ hj, v_up_row _ 11 _ _ (by omega), v_up_row _ 11 _ _ (by omega), I1a 0 (by omega) (by omega) (by omega)]
    have c014 : Ic 0 14 = 0 := by rw [← hIc, w_at]
    have c110 : Ic 11 0 = nI u := by rw [← hIc, v_up_row _ 0 _ _ (by omega), w_at]
    have c111 : Ic 11 1 = nI q := by rw [← hIc, v_up_row _ 0 _ _ (by omega), w_ne _ _ _ _ (by omega), w_at]
    have cM : rM Ic 2 3 4 (fun i => I 63 (19 * u + i)) := by
      have e : ∀ a, a ≠ 0 → a ≠ 11 → Ic a = I1 a := fun a q1 q2 => by rw [← hIc, v_up_row _ 0 _ _ q1, v_up_row _ 11 _ _ q2, v_up_row _ 11 _ _ q2]
      exact rM_fr (e 2 (by omega) (by omega)) (e 3 (by omega) (by omega)) (e 4 (by omega) (by omega)) (c2 _ b4)
    -- the model
    have md : wp (h_X10_undo Ic) (fun r => r.1 = I 63 (19 * u + 18) ∧ (∀ i, i < 18 → r.2 51 i = I 63 (19 * u + i)) ∧ r.2 49 32 = nI u ∧ r.2 49 0 = 0 ∧ ∀ a j, ¬ (a = 51 ∧ j < 18) → ¬ (a = 49 ∧ (j = 32 ∨ j = 0)) → r.2 a j = Ic a j) := by
      unfold h_X10_undo
      have e32 : Ic 49 32 = nI (u + 1) := by rw [cr 49 (by omega) (by omega) (by omega) (by omega) (by omega)]; exact p4
      rw [if_neg (by rw [e32]; exact fun e => absurd ((i_eqI (b := 0) rfl rfl (by omega) (by omega)).mp e) (by omega)), e32, nI_pred, p_le, w_at, p_le]
      have m0 : (19 : Int32) * nI u = nI (19 * u) := by
        have := m19 (a := u) (b := 0)
        rw [show nI 0 = 0 from rfl, Int32.add_zero, Nat.add_zero] at this; exact this
      rw [m0]
      refine wp_seq (P := fun t : Int32 × v_I => (∀ z, z < 18 → t.2 51 z = I 63 (19 * u + z)) ∧ ∀ a j, ¬ (a = 51 ∧ j < 18) → t.2 a j = v_up Ic 49 32 (nI u) a j) ?_ fun t ht => ?_
      · refine wp_lp (fun i (t : Int32 × v_I) => t.1 = nI i ∧ (∀ z, z < i → t.2 51 z = I 63 (19 * u + z)) ∧ ∀ a j, ¬ (a = 51 ∧ j < 18) → t.2 a j = v_up Ic 49 32 (nI u) a j) 18 (by omega) ⟨rfl, fun z hz => absurd hz (Nat.not_lt_zero _), fun _ _ _ => rfl⟩ ?_
        rintro i ⟨c, I'⟩ hi ⟨u1, u2, u3⟩
        dsimp only at u1 u2 u3
        subst u1
        unfold h_X10_undo_B34
        dsimp only
        by_cases h18 : i = 18
        · rw [if_pos (show (18 : Int32) ≤ nI i from i_le (a := 18) rfl rfl (by omega) (by omega))]
          exact wp_some.mpr ⟨fun z hz => u2 z (by omega), u3⟩
        rw [if_neg (show ¬ (18 : Int32) ≤ nI i from i_nle (a := 18) rfl rfl (by omega) (by omega)), nI_add, p_in_nI (by omega) (by omega), p_bs, p_in_nI (by omega) (by omega), p_bs, p_le, p_le]
        refine wp_some.mpr ⟨by omega, (nI_succ i).symm, fun z hz => ?_, fun a j hn => ?_⟩
        · dsimp only
          by_cases e : z = i
          · subst e
            rw [w_at, u3 63 _ (by omega), v_up_row _ 49 _ _ (by omega), cr 63 (by omega) (by omega) (by omega) (by omega) (by omega)]
          · rw [w_ne _ _ _ _ e]; exact u2 z (by omega)
        · dsimp only
          by_cases e : a = 51
          · subst e; rw [w_ne _ _ _ _ (by omega)]; exact u3 51 j hn
          · rw [v_up_row _ 51 _ _ e]; exact u3 a j hn
      obtain ⟨t1, t2⟩ := ht
      rw [show (18 : Int32) = nI 18 from rfl, nI_add, p_in_nI (by omega) (by omega), p_bs, m_good, p_bs]
      refine wp_some.mpr ⟨?_, fun i hi => ?_, ?_, by dsimp only; rw [w_at], fun a j q1 q2 => ?_⟩
      · dsimp only
        rw [t2 63 _ (by omega), v_up_row _ 49 _ _ (by omega), cr 63 (by omega) (by omega) (by omega) (by omega) (by omega)]
      · dsimp only
        rw [v_up_row _ 49 _ _ (by omega), t1 i hi]
      · dsimp only
        rw [w_ne _ _ _ _ (by omega), t2 49 32 (by omega), w_at]
      · dsimp only
        by_cases e : a = 49
        · subst e; rw [w_ne _ _ _ _ (by omega), t2 49 j (by omega), w_ne _ _ _ _ (by omega)]
        · rw [v_up_row _ 49 _ _ e, t2 a j q1, v_up_row _ 49 _ _ e]
    obtain ⟨⟨x, I2⟩, d1, d2, d3, d4, d5, d6⟩ := md
    dsimp only at d2 d3 d4 d5 d6
    refine ⟨_, _, rfl, d1, d2.symm, hS, ?_⟩
    dsimp only
    have row : ∀ a, a ≠ 51 → a ≠ 49 → I2 a = Ic a := fun a q1 q2 => funext fun j => d6 a j (by omega) (by omega)
    have rowI : ∀ a, a ≠ 51 → a ≠ 49 → a ≠ 0 → a ≠ 11 → a ≠ 2 → a ≠ 3 → a ≠ 4 → I2 a = I a := fun a q1 q2 q3 q4 q5 q6 q7 => by rw [row a q1 q2, cr a q3 q4 q5 q6 q7]
    have r51 : ∀ j, 18 ≤ j → I2 51 j = I 51 j := fun j hj => by rw [d6 51 j (by omega) (by omega), cr 51 (by omega) (by omega) (by omega) (by omega) (by omega)]
    have r49 : ∀ j, j ≠ 32 → j ≠ 0 → I2 49 j = I 49 j := fun j q1 q2 => by rw [d6 49 j (by omega) (by omega), cr 49 (by omega) (by omega) (by omega) (by omega) (by omega)]
    have r0 : ∀ j, j ≠ 14 → I2 0 j = I 0 j := fun j hj => by rw [row 0 (by omega) (by omega), c0 j hj]
    have rr : ∀ a, (a = 1 ∨ (5 ≤ a ∧ a ≤ 8) ∨ a = 12 ∨ (26 ≤ a ∧ a ≤ 29) ∨ a = 48 ∨ a = 50 ∨ a = 52 ∨ a = 53 ∨ a = 55 ∨ a = 56 ∨ a = 63 ∨ a = 71 ∨ 72 ≤ a) → I2 a = I a := fun a ha => rowI a (by omega) (by omega) (by omega) (by omega) (by omega) (by omega) (by omega)
    have hb : ∀ a, 72 ≤ a → I2 a = I a := fun a ha => rr a (by omega)
    refine ⟨hS, hF, ?_, ?_, ?_, ?_, ?_, ?_, own, hN, ?_, ?_, rG_fr hN hb (rr 52 (by omega)) (rr 53 (by omega)) hG⟩
    · obtain ⟨_, e1, e2, e3, e4, e5, e6, e7, e8, e9, e10, e11⟩ := hC
      refine ⟨?_, ?_, fun z hz => ?_, fun z hz => ?_, ?_, ?_, ?_, ?_, fun z hz => ?_, fun z hz => ?_, ?_, ?_⟩
      · obtain ⟨y1, y2, y3, y4⟩ := rM_fr (row 2 (by omega) (by omega)) (row 3 (by omega) (by omega)) (row 4 (by omega) (by omega)) cM
        exact ⟨by rw [y1]; exact (d3 0 (by omega)).symm, by rw [y2]; exact (d3 17 (by omega)).symm, fun z hz => by rw [y3 z hz]; exact (d3 _ (by omega)).symm, fun z hz => by rw [y4 z hz]; exact (d3 _ (by omega)).symm⟩
      · rw [rr 1 (by omega), r51 _ (by omega)]; exact e1
      · rw [rr 5 (by omega), r51 _ (by omega)]; exact e2 z hz
      · rw [rr 6 (by omega), r51 _ (by omega)]; exact e3 z hz
      · rw [rr 1 (by omega), r51 _ (by omega)]; exact e4
      · rw [rr 1 (by omega), r51 _ (by omega)]; exact e5
      · rw [rr 1 (by omega), r51 _ (by omega)]; exact e6
      · rw [rr 1 (by omega), r51 _ (by omega)]; exact e7
      · rw [rr 7 (by omega), r51 _ (by omega)]; exact e8 z hz
      · rw [rr 8 (by omega), r51 _ (by omega)]; exact e9 z hz
      · rw [rr 1 (by omega), r51 _ (by omega)]; exact e10
      · rw [rr 1 (by omega), r51 _ (by omega)]; exact e11
    · obtain ⟨n, tl, k1, k2, k3, k4, k5, k6, k7, k8, k9⟩ := hK
      exact ⟨n, tl, k1, by rw [r51 _ (by omega)]; exact k2, kM_ext (fun i hi => d3 i hi) (a2 n k1 k2), fun z hz => by rw [r51 _ (by omega)]; exact k4 z hz, by rw [r51 _ (by omega)]; exact k5, fun z hz => by rw [r51 _ (by omega)]; exact k6 z hz, k7, by rw [r51 _ (by omega)]; exact k8, by rw [r51 _ (by omega)]; exact k9⟩
    · unfold rT; rw [r0 8 (by omega), r49 13 (by omega) (by omega), rr 29 (by omega), rr 56 (by omega)]; exact hT
    · obtain ⟨o1, o2, o3, o4, o5, o6, o7, o8, o9⟩ := hO
      unfold rO
      rw [rr 48 (by omega), rr 50 (by omega), r0 15 (by omega), r0 16 (by omega), r0 17 (by omega), r49 6 (by omega) (by omega), r49 14 (by omega) (by omega), r49 38 (by omega) (by omega), row 0 (by omega) (by omega), c014, d5]
      exact ⟨rfl, o2, o3, o4, o5, o6, o7, o8, o9⟩
    · unfold rD rM; rw [r0 6 (by omega), r49 46 (by omega) (by omega), rr 26 (by omega), rr 27 (by omega), rr 28 (by omega), rr 71 (by omega)]; exact hD
    · unfold rW; rw [rr 55 (by omega)]; exact hW
    · exact rL_tk (r51 _ (by omega)) (fun i hi => r51 i (by omega)) (rL_fr (fun a ha => hb a (hN a (by omega)).1) hL)
    · refine ⟨u, q, by omega, hl16, by rw [row 11 (by omega) (by omega)]; exact c110, d4, by rw [row 11 (by omega) (by omega)]; exact c111, p6, fun j hj => ?_⟩
      have hi2 : (q + 16 - u + j) % 16 = (nx + 16 - (u + 1) + j) % 16 := by omega
      rw [hi2, rr 12 (by omega), rr 63 (by omega), r51 49 (by omega)]
      obtain ⟨y1, ⟨m', w', s', z1, z2, z3, z4⟩, y2, y3⟩ := p7 j (by omega)
      refine ⟨y1, ⟨m', w', s', z1, z2, z3, ?_⟩, y2, y3⟩
      rcases p6 ((nx + 16 - (u + 1) + j) % 16) (Nat.mod_lt _ (by omega)) with z | ⟨m2, w2, s2, x1, x2, x3, x4, x5, x6⟩
      · rw [z] at z1; cases z1
      · rw [x1] at z1; cases z1
        have := x2.2.2.2.1; rw [this] at z2; cases z2
        have := x2.2.2.2.2; rw [this] at z3; cases z3
        exact rM_fr (hb _ (hN _ (by omega)).1) (hb _ (hN _ (by omega)).1) (hb _ (hN _ (by omega)).1) z4
end sp84
