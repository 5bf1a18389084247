noncomputable section sp87
/-- the IMAGE is laid: R -/
theorem R_img {S S' : v_S} {I I1 : v_I} {J : v_J} {F F' : v_F} {own own' : Nat → Nat} {j c m w s sh wa sm so la : Nat} (h : R S I J F) (hown : rN S own ∧ rL S I F own 9 (I 51) ∧ rP S I F own ∧ rG S I F own) (hj : j < 2)
    (hx : exC S S' F F' (fun a => a = 10 ∨ own a = 20 + j)) (h10 : ∀ q, q ≠ j → F' 10 q = F 10 q) (hN' : rN S' own') (ho : ∀ a, own a ≠ 0 → own' a = own a)
    (hc : F' 10 j = some c) (hch : p_Ch S' F' c m w s sh wa sm so la) (hoc : own' c = 20 + j ∧ own' m = 20 + j ∧ own' w = 20 + j ∧ own' s = 20 + j ∧ own' sh = 20 + j ∧ own' wa = 20 + j ∧ own' sm = 20 + j ∧ own' so = 20 + j ∧ own' la = 20 + j)
    (hrC : rC I1 c m w s sh wa sm so (I 51)) (hla : ∀ t, t < 6 → F' la t = F 9 t) (hI1 : ∀ a, a < S.length → own a ≠ 20 + j → I1 a = I a)
    {Im : v_I} (d2 : ∀ i, i < 5660 → Im 52 (5660 * j + i) = v_up I1 0 14 0 51 i) (d3 : ∀ a z, ¬ (a = 52 ∧ 5660 * j ≤ z ∧ z < 5660 * j + 5660) → Im a z = v_up I1 0 14 0 a z) : R S' (v_up (v_up Im 53 j 1) 49 0 0) J F' := by
  obtain ⟨hS, hF, hC, hK, hT, hO, hD, hW, _⟩ := h
  obtain ⟨hN, hL, hP, hG⟩ := hown
  have l71 : 71 < S.length := S_lt (hS 71 _ rfl)
  have hS' := exC_SS hx hS
  have hF' : p_FF F' := exC_FF hx hS (fun a q1 q2 q3 q4 e => by rcases e with e | e; exact q3 e; have := (hN a (by omega)).1; omega) hF
  have i72 : ∀ a, a < 72 → I1 a = I a := fun a ha => hI1 a (by omega) (fun e => by have := (hN a (by omega)).1; omega)
  generalize hI2 : v_up (v_up Im 53 j 1) 49 0 0 = I2
  have r2 : ∀ a, a ≠ 49 → a ≠ 53 → a ≠ 52 → a ≠ 0 → I2 a = I1 a := fun a q1 q2 q3 q4 => by rw [← hI2, v_up_row _ 49 _ _ q1, v_up_row _ 53 _ _ q2]; exact funext fun z => by rw [d3 a z (by omega), v_up_row _ 0 _ _ q4]
  have r49 : ∀ z, z ≠ 0 → I2 49 z = I 49 z := fun z q1 => by rw [← hI2, w_ne _ _ _ _ q1, v_up_row _ 53 _ _ (by omega), d3 49 z (by omega), v_up_row _ 0 _ _ (by omega), i72 49 (by omega)]
  have r0 : ∀ z, z ≠ 14 → I2 0 z = I 0 z := fun z hz => by rw [← hI2, v_up_row _ 49 _ _ (by omega), v_up_row _ 53 _ _ (by omega), d3 0 z (by omega), w_ne _ _ _ _ hz, i72 0 (by omega)]
  have rI : ∀ a, a ≠ 49 → a ≠ 53 → a ≠ 52 → a ≠ 0 → a < 72 → I2 a = I a := fun a q1 q2 q3 q4 q5 => by rw [r2 a q1 q2 q3 q4, i72 a q5]
  have hb : ∀ a, own a ≠ 0 → own a ≠ 20 + j → I2 a = I a := fun a q1 q2 => by
    have := hN a q1
    rw [r2 a (by omega) (by omega) (by omega) (by omega), hI1 a this.2 q2]
  have k52 : ∀ i, i < 5660 → I2 52 (5660 * j + i) = I 51 i := fun i hi => by rw [← hI2, v_up_row _ 49 _ _ (by omega), v_up_row _ 53 _ _ (by omega), d2 i hi, v_up_row _ 0 _ _ (by omega), i72 51 (by omega)]
  have k52' : ∀ q i, q ≠ j → q < 2 → i < 5660 → I2 52 (5660 * q + i) = I 52 (5660 * q + i) := fun q i q1 q2 hi => by
    rw [← hI2, v_up_row _ 49 _ _ (by omega), v_up_row _ 53 _ _ (by omega), d3 52 _ (by omega), v_up_row _ 0 _ _ (by omega), i72 52 (by omega)]
  have i51 : I2 51 = I 51 := rI 51 (by omega) (by omega) (by omega) (by omega) (by omega)
  refine ⟨hS', hF', ?_, by rw [i51]; exact hK, ?_, ?_, ?_, ?_, own', hN', ?_, ?_, ?_, ?_⟩
  · rw [i51]
    exact rC_f hC (fun a q1 q2 => rI a (by omega) (by omega) (by omega) (by omega) (by omega))
  · unfold rT; rw [r0 8 (by omega), r49 13 (by omega), rI 29 (by omega) (by omega) (by omega) (by omega) (by omega), rI 56 (by omega) (by omega) (by omega) (by omega) (by omega)]; exact hT
  · obtain ⟨o1, o2, o3, o4, o5, o6, o7, o8, o9⟩ := hO
    unfold rO
    rw [rI 48 (by omega) (by omega) (by omega) (by omega) (by omega), rI 50 (by omega) (by omega) (by omega) (by omega) (by omega), r0 15 (by omega), r0 16 (by omega), r0 17 (by omega), r49 6 (by omega), r49 14 (by omega), r49 38 (by omega)]
    refine ⟨?_, o2, o3, o4, o5, o6, o7, o8, o9⟩
    rw [← hI2, w_at, v_up_row _ 49 _ _ (by omega), v_up_row _ 53 _ _ (by omega), d3 0 14 (by omega), w_at]
  · unfold rD rM; rw [r0 6 (by omega), r49 46 (by omega), rI 26 (by omega) (by omega) (by omega) (by omega) (by omega), rI 27 (by omega) (by omega) (by omega) (by omega) (by omega), rI 28 (by omega) (by omega) (by omega) (by omega) (by omega), rI 71 (by omega) (by omega) (by omega) (by omega) (by omega)]; exact hD
  · unfold rW; rw [rI 55 (by omega) (by omega) (by omega) (by omega) (by omega)]; exact hW
  · exact exC_rL hx (fun a ha e => by rcases e with e | e; have := (hN a (by omega)).1; omega; omega) ho (fun a ha => hb a (by omega) (by omega)) (fun t _ => hx.2 9 t (by omega) (fun e => by rcases e with e | e; omega; have := (hN 9 (by omega)).1; omega)) (by rw [i51]) (fun t D ht hd => by rw [i51]; exact hd) hL
  · obtain ⟨n, nx, p1, p2, p3, p4, p5, p6, p7⟩ := hP
    have F13 : ∀ q, F' 13 q = F 13 q := fun q => hx.2 13 q (by omega) (fun e => by rcases e with e | e; omega; have := (hN 13 (by omega)).1; omega)
    refine ⟨n, nx, p1, p2, by rw [rI 11 (by omega) (by omega) (by omega) (by omega) (by omega)]; exact p3, by rw [r49 32 (by omega)]; exact p4, by rw [rI 11 (by omega) (by omega) (by omega) (by omega) (by omega)]; exact p5, fun q hq => ?_, fun i hi => ?_⟩
    · rw [F13]
      rcases p6 q hq with z | ⟨m', w', s', z1, z2, z3, z4, z5, z6⟩
      · exact .inl z
      · exact .inr ⟨m', w', s', z1, exC_Mo hx (fun e => by have := (hN m' (by omega)).1; omega) z2, z3, by rw [ho _ (by omega)]; exact z4, by rw [ho _ (by omega)]; exact z5, by rw [ho _ (by omega)]; exact z6⟩
    · rw [F13, rI 12 (by omega) (by omega) (by omega) (by omega) (by omega), rI 63 (by omega) (by omega) (by omega) (by omega) (by omega), i51]
      obtain ⟨a1, ⟨m', w', s', z1, z2, z3, z4⟩, a2, a3⟩ := p7 i hi
      rcases p6 ((nx + 16 - n + i) % 16) (Nat.mod_lt _ (by omega)) with z | ⟨m2, w2, s2, x1, x2, x3, x4, x5, x6⟩
      · rw [z] at z1; cases z1
      · rw [x1] at z1; cases z1
        have := x2.2.2.2.1; rw [this] at z2; cases z2
        have := x2.2.2.2.2; rw [this] at z3; cases z3
        have nm : ¬ (m' = 10 ∨ own m' = 20 + j) := fun e => by have := (hN m' (by omega)).1; omega
        exact ⟨a1, ⟨m', w', s', x1, by rw [hx.2 m' 2 (S_lt x2.1) nm]; exact x2.2.2.2.1, by rw [hx.2 m' 3 (S_lt x2.1) nm]; exact x2.2.2.2.2, rM_fr (hb _ (by omega) (by omega)) (hb _ (by omega) (by omega)) (hb _ (by omega) (by omega)) z4⟩, a2, a3⟩
  · intro q hq
    by_cases e : q = j
    · subst e
      right
      obtain ⟨o1, o2, o3, o4, o5, o6, o7, o8, o9⟩ := hoc
      have g : ∀ a, own' a = 20 + q → I2 a = I1 a := fun a ha => by have := (hN' a (by omega)).1; exact r2 a (by omega) (by omega) (by omega) (by omega)
      refine ⟨by rw [← hI2, v_up_row _ 49 _ _ (by omega), w_at], c, m, w, s, sh, wa, sm, so, la, hc, hch, o1, o2, o3, o4, o5, o6, o7, o8, o9, rC_ext k52 (rC_fr (g _ o1) (g _ o2) (g _ o3) (g _ o4) (g _ o5) (g _ o6) (g _ o7) (g _ o8) hrC), kK_ext k52 hK, ?_, ?_⟩
      · exact exC_rL hx (fun a ha e => by rcases e with e | e; have := (hN a (by omega)).1; omega; omega) ho (fun a ha => hb a (by omega) (by omega)) hla (k52 51 (by omega)) (fun t D ht hd => tk_ext ht k52 hd) hL
      · exact exC_lOK hx hla hG.2
    · have e53 : I2 53 q = I 53 q := by rw [← hI2, v_up_row _ 49 _ _ (by omega), w_ne _ _ _ _ e, d3 53 q (by omega), v_up_row _ 0 _ _ (by omega), i72 53 (by omega)]
      rw [e53, h10 q e]
      rcases hG.1 q hq with z | ⟨z, g⟩
      · exact .inl z
      · refine .inr ⟨z, ?_⟩
        obtain ⟨c', m', w', s', sh', wa', sm', so', la', h1, h2, o1, o2, o3, o4, o5, o6, o7, o8, o9, h3, h4, h5, h6⟩ := exC_rG1 hx (fun a ha e' => by rcases e' with e' | e'; have := (hN a (by omega)).1; omega; omega) (h10 q e) ho (fun a ha => hb a (by omega) (by omega)) g
        exact ⟨c', m', w', s', sh', wa', sm', so', la', h1, h2, o1, o2, o3, o4, o5, o6, o7, o8, o9, rC_ext (fun i hi => k52' q i e hq hi) h3, kK_ext (fun i hi => k52' q i e hq hi) h4, fun t n hn hkn ht => by
          obtain ⟨x, hx1, hx2⟩ := h5 t n hn ((k52' q 51 e hq (by omega)).symm.trans hkn) ht
          obtain ⟨D, ak, af, as, at', ai, ac, cn, m2, y1, y2⟩ := hx2
          exact ⟨x, hx1, D, ak, af, as, at', ai, ac, cn, m2, tk_ext (by omega) (fun i hi => k52' q i e hq hi) y1, y2⟩, h6⟩
  · exact exC_lOK hx (fun t _ => hx.2 9 t (by omega) (fun e => by rcases e with e | e; omega; have := (hN 9 (by omega)).1; omega)) hG.2
theorem ok_37 {S : v_S} {I : v_I} {J : v_J} {F : v_F} (h : R S I J F) : op_37 R S I J F := by
  intro p
  have h0 := h
  obtain ⟨hS, hF, hC, hK, hT, hO, hD, hW, own, hN, hL, hP, hG⟩ := h
  have l71 : 71 < S.length := S_lt (hS 71 _ rfl)
  have hup : ∀ x y, f_X9_isUpTo x y = h_X9_isUpTo x y := fun x y => s_X9_isUpTo x y
  unfold f_X9_image
  rw [hup]
  rcases upTo_cases p (q := 1) (m := 1) rfl (by omega) with ⟨j, hj, rfl, u1, u2⟩ | ⟨u1, u2, _⟩
  · rw [u1, p_bs, if_neg (by decide), p_obS hS (a := 0) (kd := 9) rfl, p_bs, p_FS hF (a := 0) (i := 1) (b := 10) (by decide), p_bs, p_ixS hS (kd := 26) (a := 10) (n := 2) rfl, p_in_nI (by omega) (by omega), p_bs, p_le]
    have md : ∀ (S' : v_S) (Ic : v_I) (F' : v_F), p_SS S' → p_FF F' → ∃ Im, f_X10_image S' Ic F' 49 (nI j) = some (0, v_up (v_up Im 53 j 1) 49 0 0) ∧ (∀ i, i < 5660 → Im 52 (5660 * j + i) = Ic 51 i) ∧ ∀ a z, ¬ (a = 52 ∧ 5660 * j ≤ z ∧ z < 5660 * j + 5660) → Im a z = Ic a z := by
      intro S' Ic F' q1 q2
      obtain ⟨⟨x, Im⟩, d1, d2, d3⟩ := m_img (I := Ic) (q := j) (by omega)
      refine ⟨Im, ?_, d2, d3⟩
      rw [s_X10_image q1 q2]
      unfold h_X10_image
      rw [u2, p_bs, if_neg (by decide), d1, p_bs, p_in_nI (by omega) (by omega), p_bs, p_le]
      dsimp only
      rw [m_good, p_bs, show vp_nar .boolean (1 : Int32) = 1 by decide]
    rcases hG.1 j (by omega) with ⟨g1, g2⟩ | ⟨g1, hg⟩
    · -- a new Chamber
      rw [g2]
      unfold p_nul
      dsimp only
      generalize hsl : S.length = sl at *
      rw [p_le]
      have l1 : (S ++ [(0, v_n 0)]).length = sl + 1 := by simp [hsl]
      have i0 : p_ob (S ++ [(0, v_n 0)]) 0 sl = some () := p_obA (kd := 0) (by rw [← hsl]; simp)
      generalize hS9 : S ++ [(0, v_n 0)] ++ [(3, v_n 3)] ++ [(20, 8)] ++ [(20, 8)] ++ [(20, 8)] ++ [(20, 8)] ++ [(20, 6)] ++ [(20, 6)] ++ [(24, 6)] = S9
      generalize hF9 : v_up (v_up (v_up (v_up (v_up (v_up (v_up (v_up F (sl + 1) 2 (some (sl + 2))) (sl + 1) 3 (some (sl + 3))) sl 1 (some (sl + 1))) sl 2 (some (sl + 4))) sl 3 (some (sl + 5))) sl 8 (some (sl + 6))) sl 9 (some (sl + 7))) sl 11 (some (sl + 8)) = F9
      have init : ∃ I9, f_X0_init (S ++ [(0, v_n 0)]) I F sl = some (S9, I9, F9) ∧ ∀ a, a < sl → I9 a = I a := by
        unfold f_X0_init f_X3_init
        have i1 : p_ob (S ++ [(0, v_n 0)] ++ [(3, v_n 3)]) 3 (sl + 1) = some () := p_obA (kd := 3) (by rw [← l1]; simp)
        have l2 : (S ++ [(0, v_n 0)] ++ [(3, v_n 3)]).length = sl + 2 := by simp [hsl]
        have l3 : (S ++ [(0, v_n 0)] ++ [(3, v_n 3)] ++ [(20, 8)]).length = sl + 3 := by simp [hsl]
        have l4 : (S ++ [(0, v_n 0)] ++ [(3, v_n 3)] ++ [(20, 8)] ++ [(20, 8)]).length = sl + 4 := by simp [hsl]
        have l5 : (S ++ [(0, v_n 0)] ++ [(3, v_n 3)] ++ [(20, 8)] ++ [(20, 8)] ++ [(20, 8)]).length = sl + 5 := by simp [hsl]
        have l6 : (S ++ [(0, v_n 0)] ++ [(3, v_n 3)] ++ [(20, 8)] ++ [(20, 8)] ++ [(20, 8)] ++ [(20, 8)]).length = sl + 6 := by simp [hsl]
        have l7 : (S ++ [(0, v_n 0)] ++ [(3, v_n 3)] ++ [(20, 8)] ++ [(20, 8)] ++ [(20, 8)] ++ [(20, 8)] ++ [(20, 6)]).length = sl + 7 := by simp [hsl]
        have l8 : (S ++ [(0, v_n 0)] ++ [(3, v_n 3)] ++ [(20, 8)] ++ [(20, 8)] ++ [(20, 8)] ++ [(20, 8)] ++ [(20, 6)] ++ [(20, 6)]).length = sl + 8 := by simp [hsl]
        have i2 : p_ob (S ++ [(0, v_n 0)] ++ [(3, v_n 3)] ++ [(20, 8)] ++ [(20, 8)]) 0 sl = some () := p_obA (kd := 0) (by rw [List.append_assoc, List.append_assoc, List.append_assoc, List.getElem?_append_right (by omega), hsl, Nat.sub_self]; rfl)
        simp only [i0, p_bs, p_le, l1, i1, l2, l3, i2, l4, l5, l6, l7, l8]
        refine ⟨_, by rw [← hS9, ← hF9], fun a ha => ?_⟩
        simp only [v_up_row _ sl _ _ (show a ≠ sl by omega), v_up_row _ (sl + 1) _ _ (show a ≠ sl + 1 by omega)]
      obtain ⟨I9, e9, i9⟩ := init
      rw [e9, p_bs]
      dsimp only
      have ex1 : ∀ (a : Nat) (q : Nat × Nat), S[a]? = some q → S9[a]? = some q := by
        intro a q hh
        have := S_lt hh
        rw [← hS9]
        simp only [List.append_assoc]
        rw [List.getElem?_append_left this]; exact hh
      have sx : ∀ i, S9[sl + i]? = ([(0, 13), (3, 4), (20, 8), (20, 8), (20, 8), (20, 8), (20, 6), (20, 6), (24, 6)] : List (Nat × Nat))[i]? := by
        intro i
        rw [← hS9]
        simp only [List.append_assoc]
        rw [List.getElem?_append_right (by omega), hsl, show sl + i - sl = i by omega]; rfl
      have s0 : S9[sl]? = some (0, 13) := sx 0
      have l9 : S9.length = sl + 9 := by rw [← hS9]; simp [hsl]
      have hS' : p_SS S9 := fun a q hh => ex1 _ _ (hS a q hh)
      have F9a : ∀ a z, a ≠ sl → a ≠ sl + 1 → F9 a z = F a z := fun a z q1 q2 => by
        rw [← hF9]
        simp only [w_row _ sl _ _ q1, w_row _ (sl + 1) _ _ q2]
      rw [p_obS hS' (a := 0) (kd := 9) rfl, p_bs, F9a 0 1 (by omega) (by omega), p_FS hF (a := 0) (i := 1) (b := 10) (by decide), p_bs, p_ixS hS' (kd := 26) (a := 10) (n := 2) rfl, p_in_nI (by omega) (by omega), p_bs, show p_oq S9 0 (some sl) = some () from p_obA (kd := 0) s0, p_bs, p_le]
      generalize hF2 : v_up F9 10 j (some sl) = F2
      have F2a : ∀ a z, a ≠ 10 → a ≠ sl → a ≠ sl + 1 → F2 a z = F a z := fun a z q1 q2 q3 => by rw [← hF2, w_row _ 10 _ _ q1, F9a a z q2 q3]
      have f_ : ∀ a z, a ≠ 10 → F2 a z = F9 a z := fun a z q => by rw [← hF2, w_row _ 10 _ _ q]
      have ch0 : p_Ch S9 F2 sl (sl + 1) (sl + 2) (sl + 3) (sl + 4) (sl + 5) (sl + 6) (sl + 7) (sl + 8) := by
        refine ⟨s0, ⟨sx 1, sx 2, sx 3, ?_, ?_⟩, sx 4, sx 5, sx 6, sx 7, sx 8, ?_, ?_, ?_, ?_, ?_, ?_, by omega, by omega, by omega, by omega, by omega, by omega, by omega⟩
        all_goals rw [f_ _ _ (by omega), ← hF9]
        all_goals simp [v_up]
      have hx2 : exC S S9 F F2 (fun a => a = 10) := ⟨ex1, fun a z q1 q2 => F2a a z q2 (by omega) (by omega)⟩
      have hF2' : p_FF F2 := exC_FF hx2 hS (fun a _ _ q _ e => q e) hF
      rw [p_FS hF2' (a := 0) (i := 0) (b := 1) (by decide), p_bs, p_obA (kd := 0) s0, p_bs]
      have lok : lOK S9 F2 9 := exC_lOK hx2 (fun t _ => F2a 9 t (by omega) (by omega) (by omega)) hG.2
      obtain ⟨I1, F1, b1, b2, b3, b4, b5⟩ := c_ch (I := I9) hS' hF2' ch0 (ch_1 hS' hF2') (fun a => 72 ≤ a) ⟨by omega, by omega, by omega, by omega, by omega, by omega, by omega, by omega, by omega⟩ (by omega) lok
      rw [b1, p_bs]
      dsimp only
      have hx : exC S S9 F F1 (fun a => a = 10 ∨ own a = 20 + j) := ⟨ex1, fun a z q1 q2 => by rw [b5 a z (by omega), F2a a z (fun e => q2 (.inl e)) (by omega) (by omega)]⟩
      have hF1 : p_FF F1 := exC_FF hx hS (fun a q1 q2 q3 q4 e => by rcases e with e | e; exact q3 e; have := (hN a (by omega)).1; omega) hF
      rw [s_X9_accept hS' hF1, c_accept, p_bs]
      obtain ⟨Im, d1, d2, d3⟩ := md S9 (v_up I1 0 14 0) F1 hS' hF1
      refine ⟨_, _, rfl, d1, rfl, hS', ?_⟩
      dsimp only
      have ch1 : p_Ch S9 F1 sl (sl + 1) (sl + 2) (sl + 3) (sl + 4) (sl + 5) (sl + 6) (sl + 7) (sl + 8) := by
        obtain ⟨q1, ⟨q2, q3, q4, q5, q6⟩, q7, q8, q9, q10, q11, f1, f2, f3, f8, f9, f11, d⟩ := ch0
        exact ⟨q1, ⟨q2, q3, q4, by rw [b5 _ _ (by omega)]; exact q5, by rw [b5 _ _ (by omega)]; exact q6⟩, q7, q8, q9, q10, q11, by rw [b5 _ _ (by omega)]; exact f1, by rw [b5 _ _ (by omega)]; exact f2, by rw [b5 _ _ (by omega)]; exact f3, by rw [b5 _ _ (by omega)]; exact f8, by rw [b5 _ _ (by omega)]; exact f9, by rw [b5 _ _ (by omega)]; exact f11, d⟩
      refine R_img (own' := fun a => if sl ≤ a ∧ a < sl + 9 then 20 + j else own a) h0 ⟨hN, hL, hP, hG⟩ (by omega) hx (fun q hq => ?_) (fun a ha => ?_) (fun a ha => ?_) (c := sl) ?_ ch1 ⟨if_pos (by omega), if_pos (by omega), if_pos (by omega), if_pos (by omega), if_pos (by omega), if_pos (by omega), if_pos (by omega), if_pos (by omega), if_pos (by omega)⟩ (b2 _ (rC_f hC (fun a q1 q2 => i9 a (by omega)))) (fun t ht => by rw [b4 t ht, F2a 9 t (by omega) (by omega) (by omega)]) (fun a q1 q2 => ?_) d2 d3
      · rw [b5 10 q (by omega), ← hF2, w_ne _ _ _ _ hq, F9a 10 q (by omega) (by omega)]
      · dsimp only at ha
        rw [l9]
        by_cases q : sl ≤ a ∧ a < sl + 9
        · omega
        · rw [if_neg q] at ha
          have := hN a ha
          omega
      · have := hN a ha
        exact if_neg (by omega)
      · rw [b5 10 j (by omega), ← hF2, w_at]
      · rw [hsl] at q1
        rw [b3 a (by omega) (by omega) (by omega) (by omega) (by omega) (by omega) (by omega) (by omega), i9 a q1]
    · obtain ⟨c, m, w, s, sh, wa, sm, so, la, h1, h2, o1, o2, o3, o4, o5, o6, o7, o8, o9, h3, h4, h5, h6⟩ := hg
      rw [h1]
      unfold p_nul
      dsimp only
      have L : ∀ a, own a = 20 + j → 72 ≤ a := fun a ha => (hN a (by omega)).1
      rw [p_FS hF (a := 0) (i := 0) (b := 1) (by decide), p_bs, p_obA (kd := 0) h2.1, p_bs]
      obtain ⟨I1, F1, b1, b2, b3, b4, b5⟩ := c_ch (I := I) hS hF h2 (ch_1 hS hF) (fun a => 72 ≤ a) ⟨L _ o1, L _ o2, L _ o3, L _ o4, L _ o5, L _ o6, L _ o7, L _ o8, L _ o9⟩ (by omega) hG.2
      rw [b1, p_bs]
      dsimp only
      have hx : exC S S F F1 (fun a => a = 10 ∨ own a = 20 + j) := ⟨fun _ _ hh => hh, fun a z q1 q2 => b5 a z (fun e => q2 (.inr (by rw [e]; exact o9)))⟩
      have hF1 : p_FF F1 := exC_FF hx hS (fun a q1 q2 q3 q4 e => by rcases e with e | e; exact q3 e; have := (hN a (by omega)).1; omega) hF
      rw [s_X9_accept hS hF1, c_accept, p_bs]
      obtain ⟨Im, d1, d2, d3⟩ := md S (v_up I1 0 14 0) F1 hS hF1
      refine ⟨_, _, rfl, d1, rfl, hS, ?_⟩
      dsimp only
      have lla := L _ o9
      obtain ⟨q1, ⟨q2, q3, q4, q5, q6⟩, q7, q8, q9, q10, q11, f1, f2, f3, f8, f9, f11, d⟩ := id h2
      have cla : c ≠ la := S_ne q1 q11 (by decide)
      have mla : m ≠ la := S_ne q2 q11 (by decide)
      have ch1 : p_Ch S F1 c m w s sh wa sm so la := ⟨q1, ⟨q2, q3, q4, by rw [b5 _ _ mla]; exact q5, by rw [b5 _ _ mla]; exact q6⟩, q7, q8, q9, q10, q11, by rw [b5 _ _ cla]; exact f1, by rw [b5 _ _ cla]; exact f2, by rw [b5 _ _ cla]; exact f3, by rw [b5 _ _ cla]; exact f8, by rw [b5 _ _ cla]; exact f9, by rw [b5 _ _ cla]; exact f11, d⟩
      refine R_img (own' := own) h0 ⟨hN, hL, hP, hG⟩ (by omega) hx (fun q hq => b5 10 q (by omega)) hN (fun _ _ => rfl) (c := c) (by rw [b5 10 j (by omega)]; exact h1) ch1 ⟨o1, o2, o3, o4, o5, o6, o7, o8, o9⟩ (b2 _ hC) b4 (fun a z1 z2 => b3 a (fun e => z2 (by rw [e]; exact o1)) (fun e => z2 (by rw [e]; exact o2)) (fun e => z2 (by rw [e]; exact o3)) (fun e => z2 (by rw [e]; exact o4)) (fun e => z2 (by rw [e]; exact o5)) (fun e => z2 (by rw [e]; exact o6)) (fun e => z2 (by rw [e]; exact o7)) (fun e => z2 (by rw [e]; exact o8))) d2 d3
  · rw [u1, p_bs, if_pos rfl, p_obS hS (a := 0) (kd := 9) rfl, p_bs, s_X9_refuse hS hF]
    obtain ⟨I1, I2, a1, a2, a3⟩ := R_ref1 (J' := J) h0
    refine ⟨(-1, S, I1, F), (-1, I2), by rw [a1, p_bs], ?_, rfl, hS, a3⟩
    show f_X10_image S I1 F 49 p = _
    rw [s_X10_image hS hF]
    unfold h_X10_image
    rw [u2, p_bs, if_pos rfl, a2, p_bs]
end sp87
