noncomputable section sp86
def exC (S S' : v_S) (F F' : v_F) (C : Nat → Prop) : Prop := (∀ (a : Nat) (q : Nat × Nat), S[a]? = some q → S'[a]? = some q) ∧ ∀ a j : Nat, a < S.length → ¬ C a → F' a j = F a j
theorem exC_Mo {S S' : v_S} {F F' : v_F} {C : Nat → Prop} {m w s : Nat} (e : exC S S' F F' C) (hm : ¬ C m) (h : p_Mo S F m w s) : p_Mo S' F' m w s := by
  obtain ⟨h1, h2, h3, h4, h5⟩ := h
  exact ⟨e.1 _ _ h1, e.1 _ _ h2, e.1 _ _ h3, by rw [e.2 m 2 (S_lt h1) hm]; exact h4, by rw [e.2 m 3 (S_lt h1) hm]; exact h5⟩
theorem exC_tx {S S' : v_S} {I I' : v_I} {F F' : v_F} {C : Nat → Prop} {x ak af as at' ai ac cn m : Nat} {D : List Cls} (e : exC S S' F F' C) (hx : ¬ C x) (e1 : I' x = I x) (e2 : I' ak = I ak) (e3 : I' af = I af) (e4 : I' as = I as) (e5 : I' at' = I at') (e6 : I' ai = I ai) (e7 : I' ac = I ac) (h : tx_D S I F x ak af as at' ai ac cn m D) : tx_D S' I' F' x ak af as at' ai ac cn m D := by
  obtain ⟨s1, s2, s3, s4, s5, s6, s7, f3, f4, f5, f6, f7, f8, h⟩ := tx_fr e1 e2 e3 e4 e5 e6 e7 h
  have l := S_lt s1
  exact ⟨e.1 _ _ s1, e.1 _ _ s2, e.1 _ _ s3, e.1 _ _ s4, e.1 _ _ s5, e.1 _ _ s6, e.1 _ _ s7, by rw [e.2 x 3 l hx]; exact f3, by rw [e.2 x 4 l hx]; exact f4, by rw [e.2 x 5 l hx]; exact f5, by rw [e.2 x 6 l hx]; exact f6, by rw [e.2 x 7 l hx]; exact f7, by rw [e.2 x 8 l hx]; exact f8, h⟩
theorem exC_rX {S S' : v_S} {I I' : v_I} {F F' : v_F} {C : Nat → Prop} {own own' : Nat → Nat} {x : Nat} {k k' : Nat → Int32} {t : Nat} (e : exC S S' F F' C) (hC : ∀ a, own a = 1 → ¬ C a) (ho : ∀ a, own a ≠ 0 → own' a = own a) (he : ∀ a, own a = 1 → I' a = I a) (hk : ∀ D, tk_D false k t D → tk_D false k' t D) (h : rX S I F own x k t) : rX S' I' F' own' x k' t := by
  obtain ⟨D, ak, af, as, at', ai, ac, cn, m, h1, h2, h3, o1, o2, o3, o4, o5, o6, o7⟩ := h
  have q : ∀ a, own a = 1 → own' a = 1 := fun a ha => by rw [ho a (by omega)]; exact ha
  refine ⟨D, ak, af, as, at', ai, ac, cn, m, hk D h1, exC_tx e (hC _ o1) (he _ o1) (he _ o2) (he _ o3) (he _ o4) (he _ o5) (he _ o6) (he _ o7) h2, ?_, q _ o1, q _ o2, q _ o3, q _ o4, q _ o5, q _ o6, q _ o7⟩
  rw [he _ o1]; exact h3
/-- the LAWS, at another row, kept otherwise -/
theorem exC_rL {S S' : v_S} {I I' : v_I} {F F' : v_F} {C : Nat → Prop} {own own' : Nat → Nat} {la la' : Nat} {k k' : Nat → Int32} (e : exC S S' F F' C) (hC : ∀ a, own a = 1 → ¬ C a) (ho : ∀ a, own a ≠ 0 → own' a = own a) (he : ∀ a, own a = 1 → I' a = I a) (hF : ∀ t, t < 6 → F' la' t = F la t) (h51 : k' 51 = k 51) (hk : ∀ t D, t < 6 → tk_D false k t D → tk_D false k' t D) (h : rL S I F own la k) : rL S' I' F' own' la' k' := fun t n hn hkn ht => by
  obtain ⟨x, hx, r⟩ := h t n hn (by rw [← h51]; exact hkn) ht
  exact ⟨x, by rw [hF t (by omega)]; exact hx, exC_rX e hC ho he (fun D => hk t D (by omega)) r⟩
theorem exC_lOK {S S' : v_S} {F F' : v_F} {C : Nat → Prop} {la la' : Nat} (e : exC S S' F F' C) (hF : ∀ t, t < 6 → F' la' t = F la t) (h : lOK S F la) : lOK S' F' la' := fun t ht => by
  rw [hF t ht]
  rcases h t ht with q | ⟨x, q1, q2⟩
  · exact .inl q
  · exact .inr ⟨x, q1, e.1 _ _ q2⟩
theorem exC_rG1 {S S' : v_S} {I I' : v_I} {F F' : v_F} {C : Nat → Prop} {own own' : Nat → Nat} {j : Nat} {k : Nat → Int32} (e : exC S S' F F' C) (hC : ∀ a, (own a = 1 ∨ own a = 20 + j) → ¬ C a) (hF10 : F' 10 j = F 10 j) (ho : ∀ a, own a ≠ 0 → own' a = own a) (he : ∀ a, (own a = 1 ∨ own a = 20 + j) → I' a = I a) (h : rG1 S I F own j k) : rG1 S' I' F' own' j k := by
  obtain ⟨c, m, w, s, sh, wa, sm, so, la, h1, h2, o1, o2, o3, o4, o5, o6, o7, o8, o9, h3, h4, h5, h6⟩ := h
  obtain ⟨p1, p2, p3, p4, p5, p6, p7, f1, f2, f3, f8, f9, f11, d⟩ := h2
  have q : ∀ a, own a = 20 + j → own' a = 20 + j := fun a ha => by rw [ho a (by omega)]; exact ha
  have lc := S_lt p1
  have cc := hC c (.inr o1)
  have hla : ∀ t, t < 6 → F' la t = F la t := fun t _ => e.2 la t (S_lt p7) (hC la (.inr o9))
  refine ⟨c, m, w, s, sh, wa, sm, so, la, by rw [hF10]; exact h1, ⟨e.1 _ _ p1, exC_Mo e (hC _ (.inr o2)) p2, e.1 _ _ p3, e.1 _ _ p4, e.1 _ _ p5, e.1 _ _ p6, e.1 _ _ p7, ?_, ?_, ?_, ?_, ?_, ?_, d⟩, q _ o1, q _ o2, q _ o3, q _ o4, q _ o5, q _ o6, q _ o7, q _ o8, q _ o9, rC_fr (he _ (.inr o1)) (he _ (.inr o2)) (he _ (.inr o3)) (he _ (.inr o4)) (he _ (.inr o5)) (he _ (.inr o6)) (he _ (.inr o7)) (he _ (.inr o8)) h3, h4, exC_rL e (fun a q => hC a (.inl q)) ho (fun a q => he a (.inl q)) hla rfl (fun _ _ _ h => h) h5, exC_lOK e hla h6⟩
  · rw [e.2 c 1 lc cc]; exact f1
  · rw [e.2 c 2 lc cc]; exact f2
  · rw [e.2 c 3 lc cc]; exact f3
  · rw [e.2 c 8 lc cc]; exact f8
  · rw [e.2 c 9 lc cc]; exact f9
  · rw [e.2 c 11 lc cc]; exact f11
theorem exC_FF {S S' : v_S} {F F' : v_F} {C : Nat → Prop} (e : exC S S' F F' C) (hS : p_SS S) (hC : ∀ a, a < 72 → a ≠ 13 → a ≠ 10 → a ≠ 9 → ¬ C a) (h : p_FF F) : p_FF F' := by
  have d : ∀ q ∈ p_FT, q.1 ≠ 13 ∧ q.1 ≠ 10 ∧ q.1 ≠ 9 ∧ q.1 < 72 := by decide
  have l : 71 < S.length := S_lt (hS 71 _ rfl)
  intro q hq
  obtain ⟨d1, d2, d3, d4⟩ := d q hq
  rw [e.2 q.1 q.2.1 (by omega) (hC _ d4 d1 d2 d3)]
  exact h q hq
theorem exC_SS {S S' : v_S} {F F' : v_F} {C : Nat → Prop} (e : exC S S' F F' C) (h : p_SS S) : p_SS S' := fun k q hq => e.1 _ _ (h k q hq)
theorem nI_j {p : Int32} {x : Int32} (e : h_X10_lies p 0 1 = some x) : True := trivial
theorem ok_38 {S : v_S} {I : v_I} {J : v_J} {F : v_F} (h : R S I J F) : op_38 R S I J F := by
  intro p
  have h0 := h
  obtain ⟨hS, hF, hC, hK, hT, hO, hD, hW, own, hN, hL, hP, hG⟩ := h
  have hup : ∀ x y, f_X9_isUpTo x y = h_X9_isUpTo x y := fun x y => s_X9_isUpTo x y
  unfold f_X9_back
  rw [hup]
  rcases upTo_cases p (q := 1) (m := 1) rfl (by omega) with ⟨j, hj, rfl, u1, u2⟩ | ⟨u1, u2, _⟩
  · rw [u1, p_bs, if_neg (by decide), p_obS hS (a := 0) (kd := 9) rfl, p_bs, p_FS hF (a := 0) (i := 1) (b := 10) (by decide), p_bs, p_ixS hS (kd := 26) (a := 10) (n := 2) rfl, p_in_nI (by omega) (by omega), p_bs, p_le]
    rcases hG.1 j (by omega) with ⟨g1, g2⟩ | ⟨g1, hg⟩
    · -- there is none
      rw [g2]
      unfold p_nul
      dsimp only
      rw [s_X9_refuse hS hF]
      obtain ⟨I1, I2, a1, a2, a3⟩ := R_ref2 (J' := J) h0
      refine ⟨(-2, I1, F), (-2, I2), by rw [a1, p_bs], ?_, rfl, hS, a3⟩
      show f_X10_back S I1 F 49 (nI j) = _
      rw [s_X10_back hS hF]
      unfold h_X10_back
      have e53 : I1 53 j = 0 := by
        have := c_ref2 S I F; rw [a1] at this; cases this
        rw [v_up_row _ 48 _ _ (by omega), v_up_row _ 0 _ _ (by omega)]; exact g1
      rw [u2, p_bs, if_neg (by decide), p_in_nI (by omega) (by omega), p_bs, if_pos e53, a2, p_bs]
    · obtain ⟨c, m, w, s, sh, wa, sm, so, la, h1, h2, o1, o2, o3, o4, o5, o6, o7, o8, o9, h3, h4, h5, h6⟩ := hg
      rw [h1]
      unfold p_nul
      dsimp only
      have L : ∀ a, own a = 20 + j → 72 ≤ a := fun a ha => (hN a (by omega)).1
      have nL : ∀ a, own a = 20 + j → ¬ a < 72 := fun a ha => by have := L a ha; omega
      obtain ⟨I1, F1, b1, b2, b3, b4, b5⟩ := c_ch (I := I) hS hF (ch_1 hS hF) h2 (fun a => a < 72) (by omega) ⟨nL _ o1, nL _ o2, nL _ o3, nL _ o4, nL _ o5, nL _ o6, nL _ o7, nL _ o8, nL _ o9⟩ h6
      have hx : exC S S F F1 (fun a => a = 9) := ⟨fun _ _ h => h, fun a j _ hn => b5 a j hn⟩
      have hF1 : p_FF F1 := exC_FF hx hS (fun a _ _ _ h9 => h9) hF
      rw [p_FS hF (a := 0) (i := 0) (b := 1) (by decide), p_bs, p_obS hS (a := 1) (kd := 0) rfl, p_bs, b1, p_bs]
      dsimp only
      rw [p_FS hF1 (a := 0) (i := 2) (b := 11) (by decide), p_bs, p_obS hS (a := 11) (kd := 4) rfl, p_bs, show f_X4_clear S I1 11 = h_X4_clear S I1 from s_X4_clear hS hF I1, c_clear, p_bs, s_X9_accept hS hF1, c_accept, p_bs]
      generalize hIc : v_up (v_up I1 11 0 0) 0 14 0 = Ic
      have cr : ∀ a, a ≠ 0 → a ≠ 11 → ¬ (1 ≤ a ∧ a ≤ 8) → Ic a = I a := fun a q1 q2 q3 => by rw [← hIc, v_up_row _ 0 _ _ q1, v_up_row _ 11 _ _ q2, b3 a (by omega) (by omega) (by omega) (by omega) (by omega) (by omega) (by omega) (by omega)]
      have cr1 : ∀ a, a ≠ 0 → a ≠ 11 → Ic a = I1 a := fun a q1 q2 => by rw [← hIc, v_up_row _ 0 _ _ q1, v_up_row _ 11 _ _ q2]
      have c0 : ∀ z, z ≠ 14 → Ic 0 z = I 0 z := fun z hz => by rw [← hIc, w_ne _ _ _ _ hz, v_up_row _ 11 _ _ (by omega), b3 0 (by omega) (by omega) (by omega) (by omega) (by omega) (by omega) (by omega) (by omega)]
      have c014 : Ic 0 14 = 0 := by rw [← hIc, w_at]
      have c110 : Ic 11 0 = 0 := by rw [← hIc, v_up_row _ 0 _ _ (by omega), w_at]
      have c111 : Ic 11 1 = I 11 1 := by rw [← hIc, v_up_row _ 0 _ _ (by omega), w_ne _ _ _ _ (by omega), b3 11 (by omega) (by omega) (by omega) (by omega) (by omega) (by omega) (by omega) (by omega)]
      -- the model
      obtain ⟨⟨x, Im⟩, d1, d2, d3⟩ := m_bck (I := Ic) (q := j) (by omega)
      dsimp only at d2 d3
      have md : f_X10_back S Ic F1 49 (nI j) = some (0, v_up (v_up Im 49 32 0) 49 0 0) := by
        rw [s_X10_back hS hF1]
        unfold h_X10_back
        rw [u2, p_bs, if_neg (by decide), p_in_nI (by omega) (by omega), p_bs, if_neg (by rw [cr 53 (by omega) (by omega) (by omega), g1]; decide), d1, p_bs]
        dsimp only
        rw [m_settled, p_bs]
      refine ⟨_, _, rfl, md, rfl, hS, ?_⟩
      dsimp only
      generalize hI2 : v_up (v_up Im 49 32 0) 49 0 0 = I2
      have r2 : ∀ a, a ≠ 49 → a ≠ 51 → I2 a = Ic a := fun a q1 q2 => by rw [← hI2, v_up_row _ 49 _ _ q1, v_up_row _ 49 _ _ q1]; exact funext fun z => d3 a z (by omega)
      have r51 : ∀ i, i < 5660 → I2 51 i = I 52 (5660 * j + i) := fun i hi => by rw [← hI2, v_up_row _ 49 _ _ (by omega), v_up_row _ 49 _ _ (by omega), d2 i hi, cr 52 (by omega) (by omega) (by omega)]
      have r49 : ∀ z, z ≠ 0 → z ≠ 32 → I2 49 z = I 49 z := fun z q1 q2 => by rw [← hI2, w_ne _ _ _ _ q1, w_ne _ _ _ _ q2, d3 49 z (by omega), cr 49 (by omega) (by omega) (by omega)]
      have rr : ∀ a, (a = 12 ∨ (26 ≤ a ∧ a ≤ 29) ∨ a = 48 ∨ a = 50 ∨ a = 52 ∨ a = 53 ∨ a = 55 ∨ a = 56 ∨ a = 63 ∨ a = 71 ∨ 72 ≤ a) → I2 a = I a := fun a ha => by rw [r2 a (by omega) (by omega), cr a (by omega) (by omega) (by omega)]
      have r0 : ∀ z, z ≠ 14 → I2 0 z = I 0 z := fun z hz => by rw [r2 0 (by omega) (by omega), c0 z hz]
      have hb : ∀ a, own a ≠ 0 → I2 a = I a := fun a ha => rr a (by have := (hN a ha).1; omega)
      refine ⟨hS, hF1, ?_, kK_ext r51 h4, ?_, ?_, ?_, ?_, own, hN, ?_, ?_, ?_, ?_⟩
      · refine rC_ext r51 (rC_fr ?_ ?_ ?_ ?_ ?_ ?_ ?_ ?_ (b2 _ h3)) <;> rw [r2 _ (by omega) (by omega), cr1 _ (by omega) (by omega)]
      · unfold rT; rw [r0 8 (by omega), r49 13 (by omega) (by omega), rr 29 (by omega), rr 56 (by omega)]; exact hT
      · obtain ⟨o1, o2, o3, o4, o5, o6, o7, o8, o9⟩ := hO
        unfold rO
        rw [rr 48 (by omega), rr 50 (by omega), r0 15 (by omega), r0 16 (by omega), r0 17 (by omega), r49 6 (by omega) (by omega), r49 14 (by omega) (by omega), r49 38 (by omega) (by omega), r2 0 (by omega) (by omega), c014]
        exact ⟨by rw [← hI2, w_at], o2, o3, o4, o5, o6, o7, o8, o9⟩
      · unfold rD rM; rw [r0 6 (by omega), r49 46 (by omega) (by omega), rr 26 (by omega), rr 27 (by omega), rr 28 (by omega), rr 71 (by omega)]; exact hD
      · unfold rW; rw [rr 55 (by omega)]; exact hW
      · exact exC_rL hx (fun a ha e => by have := (hN a (by omega)).1; omega) (fun _ _ => rfl) (fun a ha => hb a (by omega)) b4 (r51 _ (by omega)) (fun t D ht hd => tk_ext ht r51 hd) h5
      · obtain ⟨n, nx, p1, p2, p3, p4, p5, p6, p7⟩ := hP
        refine ⟨0, nx, by omega, p2, by rw [r2 11 (by omega) (by omega)]; exact c110, by rw [← hI2, w_ne _ _ _ _ (by omega), w_at]; rfl, by rw [r2 11 (by omega) (by omega), c111]; exact p5, fun q hq => ?_, fun j hj => absurd hj (Nat.not_lt_zero _)⟩
        rw [b5 13 q (by omega)]
        rcases p6 q hq with z | ⟨m', w', s', z1, z2, z3, z4, z5, z6⟩
        · exact .inl z
        · exact .inr ⟨m', w', s', z1, exC_Mo hx (by have := (hN m' (by omega)).1; omega) z2, z3, z4, z5, z6⟩
      · intro i hi
        rw [rr 52 (by omega), rr 53 (by omega), b5 10 i (by omega)]
        rcases hG.1 i hi with q | ⟨q, g⟩
        · exact .inl q
        · exact .inr ⟨q, exC_rG1 hx (fun a ha e => by have := (hN a (by omega)).1; omega) (b5 10 i (by omega)) (fun _ _ => rfl) (fun a ha => hb a (by omega)) g⟩
      · exact exC_lOK hx b4 h6
  · rw [u1, p_bs, if_pos rfl, p_obS hS (a := 0) (kd := 9) rfl, p_bs, s_X9_refuse hS hF]
    obtain ⟨I1, I2, a1, a2, a3⟩ := R_ref1 (J' := J) h0
    refine ⟨(-1, I1, F), (-1, I2), by rw [a1, p_bs], ?_, rfl, hS, a3⟩
    show f_X10_back S I1 F 49 p = _
    rw [s_X10_back hS hF]
    unfold h_X10_back
    rw [u2, p_bs, if_pos rfl, a2, p_bs]
end sp86
