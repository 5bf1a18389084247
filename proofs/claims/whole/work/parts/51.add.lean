noncomputable section sp51
theorem p_inA {m c k : Nat} {x : Int32} (hx : x = nI c) (h : c + k < m) (hm : m < 2 ^ 31) : p_in m (x + nI k) = some (c + k) := by
  subst hx
  rw [nI_add]
  exact p_in_nI h hm
theorem b_clr (n o : Nat) (hn : n < 8) (ho : o < 256) : nI o &&& ((1 <<< (nI n &&& 31)) ^^^ -1) = nI (o &&& (255 - 2 ^ n)) := by
  have key : ∀ n, n < 8 → ∀ o, o < 256 → nI o &&& ((1 <<< (nI n &&& 31)) ^^^ -1) = nI (o &&& (255 - 2 ^ n)) := by decide +kernel
  exact key n hn o ho
theorem b_set (n o : Nat) (hn : n < 8) (ho : o < 256) : nI o ||| (1 <<< (nI n &&& 31)) = nI (o ||| 2 ^ n) := by
  have key : ∀ n, n < 8 → ∀ o, o < 256 → nI o ||| (1 <<< (nI n &&& 31)) = nI (o ||| 2 ^ n) := by decide +kernel
  exact key n hn o ho
theorem b_bit (n o : Nat) (hn : n < 8) (ho : o < 256) : (nI o >>> (nI n &&& 31)) &&& 1 = nI (o / 2 ^ n % 2) := by
  have key : ∀ n, n < 8 → ∀ o, o < 256 → (nI o >>> (nI n &&& 31)) &&& 1 = nI (o / 2 ^ n % 2) := by decide +kernel
  exact key n hn o ho
theorem b_wat (k w s : Nat) (hk : k < 8) (hw : w < 256) (hs : s < 2) : (nI w &&& ((1 <<< (nI k &&& 31)) ^^^ -1)) ||| (nI s <<< (nI k &&& 31)) = nI ((w &&& (255 - 2 ^ k)) ||| (s * 2 ^ k)) := by
  have key : ∀ k, k < 8 → ∀ w, w < 256 → ∀ s, s < 2 → (nI w &&& ((1 <<< (nI k &&& 31)) ^^^ -1)) ||| (nI s <<< (nI k &&& 31)) = nI ((w &&& (255 - 2 ^ k)) ||| (s * 2 ^ k)) := by decide +kernel
  exact key k hk w hw s hs
theorem two_le {n : Nat} (h : n ≤ 8) : 2 ^ n ≤ 256 := by
  have : 2 ^ n ≤ 2 ^ 8 := Nat.pow_le_pow_right (by omega) h
  omega
/-- one more comes -/
def sp_add (k : Nat → Int32) (n : Nat) (w s t : Int32) : Nat → Int32 := fun i => if i = 49 then nI (n + 1) else if i = 26 + n then t else if i = 18 + n then s else if i = 9 + n then 0 else if i = 1 + n then w else if i = 0 then k 0 &&& ((1 <<< (nI n &&& 31)) ^^^ -1) else k i
theorem c_add (S : v_S) (I : v_I) (F : v_F) (p1 p2 p3 : Int32) {n : Nat} (hn : n < 8) (e : I 1 0 = nI n) : h_X0_add S I F p1 p2 p3 = some (nI n, v_up (v_up (v_up (v_up (v_up (v_up I 1 0 (nI (n + 1))) 3 n p1) 2 0 (I 2 0 &&& ((1 <<< (nI n &&& 31)) ^^^ -1))) 4 n 0) 5 n p2) 6 n p3) := by
  have i8 : p_in 8 (nI n) = some n := p_in_nI hn (by omega)
  have r0 : ∀ (I : v_I) (z : Int32), h_X3_shutOne_J13 2 3 4 S F I (nI n) z = some (z, v_up (v_up I 2 0 (I 2 0 &&& ((1 <<< (nI n &&& 31)) ^^^ -1))) 4 n 0) := fun I z => by
    unfold h_X3_shutOne_J13
    rw [p_le, if_neg (nI_pos (by omega)), if_neg (show ¬ (8 : Int32) ≤ nI n from i_nle (a := 8) rfl rfl (by omega) (by omega)), i8, p_bs, p_le]
  have r1 : ∀ I : v_I, wp (h_X3_shutOne S I F 2 3 4 (nI n)) (fun r => r.2 = v_up (v_up I 2 0 (I 2 0 &&& ((1 <<< (nI n &&& 31)) ^^^ -1))) 4 n 0) := fun I => by
    unfold h_X3_shutOne h_X3_isOpen
    rw [wp_bind, wp_ite]
    simp only [wp_some, i10, if_false, if_true, r0]
    exact ⟨fun _ => trivial, fun _ => trivial⟩
  unfold h_X0_add
  rw [p_le, e, if_pos (show nI n < 8 from i_lt (b := 8) rfl rfl hn (by omega)), p_le, i8, p_bs, p_le]
  obtain ⟨r, er, hr⟩ := r1 (v_up (v_up I 1 0 (nI n + 1)) 3 n p1)
  rw [er, p_bs, hr, p_bs, p_le, p_bs, p_le, nI_1]
  simp [v_up]
theorem m_adds (I : v_I) (p1 p2 p3 : Int32) {n : Nat} (hn : n < 8) (e : I 51 49 = nI n) : h_X10_adds I p1 p2 p3 = some (nI n, v_up (v_up (v_up (v_up (v_up (v_up I 51 0 (I 51 0 &&& ((1 <<< (nI n &&& 31)) ^^^ -1))) 51 (1 + n) p1) 51 (9 + n) 0) 51 (18 + n) p2) 51 (26 + n) p3) 51 49 (nI (n + 1))) := by
  have e1 : p_in 5660 (1 + nI n) = some (1 + n) := p_inA (c := 1) rfl (by omega) (by omega)
  have e9 : p_in 5660 (9 + nI n) = some (9 + n) := p_inA (c := 9) rfl (by omega) (by omega)
  have e18 : p_in 5660 (18 + nI n) = some (18 + n) := p_inA (c := 18) rfl (by omega) (by omega)
  have e26 : p_in 5660 (26 + nI n) = some (26 + n) := p_inA (c := 26) rfl (by omega) (by omega)
  unfold h_X10_adds h_X10_many
  rw [p_bs, e]
  simp only [p_le, e1, e9, e18, e26, p_bs]
  have f : v_up (v_up (v_up (v_up (v_up I 51 0 (I 51 0 &&& ((1 <<< (nI n &&& 31)) ^^^ -1))) 51 (1 + n) p1) 51 (9 + n) 0) 51 (18 + n) p2) 51 (26 + n) p3 51 49 = nI n := by
    simp only [v_up]
    rw [if_neg (by omega), if_neg (by omega), if_neg (by omega), if_neg (by omega), if_neg (by omega), e]
  rw [f, nI_1]
theorem add_51 (I : v_I) (p1 p2 p3 : Int32) (n : Nat) (hn : n < 8) : (v_up (v_up (v_up (v_up (v_up (v_up I 51 0 (I 51 0 &&& ((1 <<< (nI n &&& 31)) ^^^ -1))) 51 (1 + n) p1) 51 (9 + n) 0) 51 (18 + n) p2) 51 (26 + n) p3) 51 49 (nI (n + 1))) 51 = sp_add (I 51) n p1 p2 p3 := by
  funext i
  simp only [v_up, sp_add]
  simp

theorem sa_1 (k : Nat → Int32) {n h : Nat} (w s t : Int32) (hn : n < 8) (hh : h < 8) : sp_add k n w s t (1 + h) = if h = n then w else k (1 + h) := by
  unfold sp_add
  by_cases e : h = n
  · subst e
    rw [if_pos rfl]
    simp only [show ¬ 1 + h = 49 by omega, if_false, show ¬ 1 + h = 26 + h by omega, show ¬ 1 + h = 18 + h by omega, show ¬ 1 + h = 9 + h by omega, if_true]
  · rw [if_neg e, if_neg (by omega), if_neg (by omega), if_neg (by omega), if_neg (by omega), if_neg (by omega), if_neg (by omega)]
theorem sa_9 (k : Nat → Int32) {n h : Nat} (w s t : Int32) (hn : n < 8) (hh : h < 8) : sp_add k n w s t (9 + h) = if h = n then 0 else k (9 + h) := by
  unfold sp_add
  by_cases e : h = n
  · subst e
    rw [if_pos rfl]
    simp only [show ¬ 9 + h = 49 by omega, if_false, show ¬ 9 + h = 26 + h by omega, show ¬ 9 + h = 18 + h by omega, if_true]
  · rw [if_neg e, if_neg (by omega), if_neg (by omega), if_neg (by omega), if_neg (by omega), if_neg (by omega), if_neg (by omega)]
theorem sa_18 (k : Nat → Int32) {n h : Nat} (w s t : Int32) (hn : n < 8) (hh : h < 8) : sp_add k n w s t (18 + h) = if h = n then s else k (18 + h) := by
  unfold sp_add
  by_cases e : h = n
  · subst e
    rw [if_pos rfl]
    simp only [show ¬ 18 + h = 49 by omega, if_false, show ¬ 18 + h = 26 + h by omega, if_true]
  · rw [if_neg e, if_neg (by omega), if_neg (by omega), if_neg (by omega), if_neg (by omega), if_neg (by omega), if_neg (by omega)]
theorem sa_26 (k : Nat → Int32) {n h : Nat} (w s t : Int32) (hn : n < 8) (hh : h < 8) : sp_add k n w s t (26 + h) = if h = n then t else k (26 + h) := by
  unfold sp_add
  by_cases e : h = n
  · subst e
    rw [if_pos rfl]
    simp only [show ¬ 26 + h = 49 by omega, if_false, if_true]
  · rw [if_neg e, if_neg (by omega), if_neg (by omega), if_neg (by omega), if_neg (by omega), if_neg (by omega), if_neg (by omega)]
theorem sa_k (k : Nat → Int32) {n i : Nat} (w s t : Int32) (hn : n < 8) (hi : i = 17 ∨ (34 ≤ i ∧ i ≠ 49)) : sp_add k n w s t i = k i := by
  unfold sp_add
  rw [if_neg (by omega), if_neg (by omega), if_neg (by omega), if_neg (by omega), if_neg (by omega), if_neg (by omega)]
theorem sa_0 (k : Nat → Int32) {n : Nat} (w s t : Int32) : sp_add k n w s t 0 = k 0 &&& ((1 <<< (nI n &&& 31)) ^^^ -1) := by
  unfold sp_add
  rw [if_neg (by omega), if_neg (by omega), if_neg (by omega), if_neg (by omega), if_neg (by omega), if_pos rfl]
theorem sa_49 (k : Nat → Int32) {n : Nat} (w s t : Int32) : sp_add k n w s t 49 = nI (n + 1) := by
  unfold sp_add
  rw [if_pos rfl]
theorem add_rC {I : v_I} {k : Nat → Int32} (p1 p2 p3 : Int32) {n : Nat} (hn : n < 8) (hC : rC I 1 2 3 4 5 6 7 8 k) : rC (v_up (v_up (v_up (v_up (v_up (v_up I 1 0 (nI (n + 1))) 3 n p1) 2 0 (I 2 0 &&& ((1 <<< (nI n &&& 31)) ^^^ -1))) 4 n 0) 5 n p2) 6 n p3) 1 2 3 4 5 6 7 8 (sp_add k n p1 p2 p3) := by
  obtain ⟨⟨m1, m2, m3, m4⟩, c1, c2, c3, c4, c5, c6, c7, c8, c9, c10, c11⟩ := hC
  refine ⟨⟨?_, ?_, ?_, ?_⟩, ?_, ?_, ?_, ?_, ?_, ?_, ?_, ?_, ?_, ?_, ?_⟩
  · rw [sa_0]; simp [v_up, m1]
  · rw [sa_k _ _ _ _ hn (by omega)]; simp [v_up, m2]
  · intro h h8; rw [sa_1 _ _ _ _ hn h8]; simp [v_up, m3 h h8]
  · intro h h8; rw [sa_9 _ _ _ _ hn h8]; simp [v_up, m4 h h8]
  · rw [sa_49]; simp [v_up]
  · intro h h8; rw [sa_18 _ _ _ _ hn h8]; simp [v_up, c2 h h8]
  · intro h h8; rw [sa_26 _ _ _ _ hn h8]; simp [v_up, c3 h h8]
  · rw [sa_k _ _ _ _ hn (by omega)]; simp [v_up, c4]
  · rw [sa_k _ _ _ _ hn (by omega)]; simp [v_up, c5]
  · rw [sa_k _ _ _ _ hn (by omega)]; simp [v_up, c6]
  · rw [sa_k _ _ _ _ hn (by omega)]; simp [v_up, c7]
  · intro i hi; rw [sa_k _ _ _ _ hn (by omega)]; simp [v_up, c8 i hi]
  · intro i hi; rw [sa_k _ _ _ _ hn (by omega)]; simp [v_up, c9 i hi]
  · rw [sa_k _ _ _ _ hn (by omega)]; simp [v_up, c10]
  · rw [sa_k _ _ _ _ hn (by omega)]; simp [v_up, c11]
theorem add_kK {k : Nat → Int32} (p1 p2 : Int32) {n t : Nat} (hn : n < 8) (ek : k 49 = nI n) (hK : kK k) (ht : t < 2 ^ n) (hp : 0 ≤ p1) : kK (sp_add k n p1 p2 (nI t)) := by
  obtain ⟨n', tl, k1, k2, k3, k4, k5, k6, k7, k8, k9⟩ := hK
  have : n' = n := (nI_eq (by omega) (by omega)).mp (k2.symm.trans ek)
  subst this
  have p2 : 2 ^ n' ≤ 2 ^ (n' + 1) := Nat.pow_le_pow_right (by omega) (by omega)
  have p8 := two_le (n := n') (by omega)
  refine ⟨n' + 1, tl, by omega, sa_49 _ _ _ _, ⟨?_, ?_, ?_⟩, ?_, ?_, ?_, k7, ?_, ?_⟩
  · obtain ⟨o, ho, eo⟩ := k3.1
    refine ⟨o &&& (255 - 2 ^ n'), ?_, ?_⟩
    · exact Nat.lt_of_le_of_lt Nat.and_le_left (by omega)
    · rw [sa_0, eo, b_clr n' o hn (by omega)]
  · rw [sa_k _ _ _ _ hn (by omega)]; exact k3.2.1
  · intro h h8
    rw [sa_1 _ _ _ _ hn h8]
    by_cases e : h = n'
    · rw [if_pos e]; exact hp
    · rw [if_neg e]; exact k3.2.2 h h8
  · intro h h8
    rw [sa_26 _ _ _ _ hn h8]
    by_cases e : h = n'
    · exact ⟨t, by omega, by rw [if_pos e]⟩
    · obtain ⟨w, hw, ew⟩ := k4 h h8
      exact ⟨w, by omega, by rw [if_neg e]; exact ew⟩
  · rw [sa_k _ _ _ _ hn (by omega)]; exact k5
  · intro i hi
    rw [sa_k _ _ _ _ hn (by omega)]; exact k6 i hi
  · rw [sa_k _ _ _ _ hn (by omega)]; exact k8
  · rw [sa_k _ _ _ _ hn (by omega)]; exact k9
theorem bindref (o : Option (Int32 × v_I)) : (o.bind fun r => some (r.1, r.2)) = o := by cases o <;> rfl
theorem ok_0 {S : v_S} {I : v_I} {J : v_J} {F : v_F} (h : R S I J F) : op_0 R S I J F := by
  intro a b
  have hC := h.2.2.1
  have hK := h.2.2.2.1
  have hO := h.2.2.2.2.2.1
  have hC0 := hC
  have hK0 := hK
  obtain ⟨⟨m1, m2, m3, m4⟩, c1, c2, c3, c4, c5, c6, c7, c8, c9, c10, c11⟩ := hC
  obtain ⟨n, tl, k1, k2, k3, k4, k5, k6, k7, k8, k9⟩ := hK
  obtain ⟨o1, o2, o3, o4, o5, o6, o7, o8, o9⟩ := hO
  simp only [s_X9_hedgehog h.1 h.2.1, s_X10_hedgehog h.1 h.2.1]
  have bad : h_X9_hedgehog S I F a b = h_X9_refuse S I F (-1) → (∀ I', h_X10_hedgehog I' a b = h_X10_refuses I' (-1)) → ∃ (r : Int32 × v_I) (q : Int32 × v_I), h_X9_hedgehog S I F a b = some r ∧ h_X10_hedgehog r.2 a b = some q ∧ r.1 = q.1 ∧ p_SS S ∧ R S q.2 J F := by
    intro ec em
    obtain ⟨I1, I2, e1, e2, hR⟩ := R_ref1 (J' := J) h
    exact ⟨(-1, I1), (-1, I2), ec.trans e1, (em I1).trans e2, rfl, h.1, hR⟩
  have nine : ∀ p, h_X10_lies p 0 9 = some 1 → h_X10_isNine p = some 1 := fun p e => by
    unfold h_X10_isNine
    have e2 : p_bl 1 = some () := by decide
    simp only [e, p_bs, e2]
  have nine0 : ∀ p, h_X10_lies p 0 9 = some 0 → h_X10_isNine p = some 0 := fun p e => by
    unfold h_X10_isNine
    have e2 : p_bl 0 = some () := by decide
    simp only [e, p_bs, e2]
  rcases upTo_cases a (q := 9) (m := 9) rfl (by omega) with ⟨wa, hwa, ea, u1, u2⟩ | ⟨u1, u2, u3⟩
  · rcases upTo_cases b (q := 9) (m := 9) rfl (by omega) with ⟨sb, hsb, eb, v1, v2⟩ | ⟨v1, v2, v3⟩
    · by_cases hn : n < 8
      · have tc : h_X9_hedgehog S I F a b = some (nI n, v_up (v_up (v_up (v_up (v_up (v_up (v_up (v_up I 11 0 0) 1 0 (nI (n + 1))) 3 n a) 2 0 (I 2 0 &&& ((1 <<< (nI n &&& 31)) ^^^ -1))) 4 n 0) 5 n b) 6 n 0) 0 14 0) := by
          unfold h_X9_hedgehog
          simp only [u1, v1, p_bs, i10, if_false]
          rw [if_pos (i_lt (c1.trans k2) (show (8 : Int32) = nI 8 from rfl) hn (by omega)), c_clear, p_bs, c_add S _ F a b 0 hn (by simp [v_up, c1, k2])]
          simp only [p_bs, c_accept]
          simp [v_up]
        have tm : ∀ I' : v_I, I' 51 49 = nI n → h_X10_hedgehog I' a b = some (nI n, v_up (v_up (v_up (v_up (v_up (v_up (v_up (v_up I' 51 0 (I' 51 0 &&& ((1 <<< (nI n &&& 31)) ^^^ -1))) 51 (1 + n) a) 51 (9 + n) 0) 51 (18 + n) b) 51 (26 + n) 0) 51 49 (nI (n + 1))) 49 32 0) 49 0 0) := fun I' e => by
          unfold h_X10_hedgehog h_X10_many
          simp only [nine a u2, nine b v2, p_bs, i10, if_false, e]
          rw [if_neg (show ¬ nI n = 8 from fun q => absurd ((i_eqI (b := 8) rfl rfl (by omega) (by omega)).mp q) (by omega)), m_adds I' a b 0 hn e]
          simp only [p_bs, m_settled]
        refine ⟨_, _, tc, tm _ (by simp [v_up, k2]), rfl, h.1, ?_⟩
        have a51 := add_51 (v_up (v_up (v_up (v_up (v_up (v_up (v_up (v_up I 11 0 0) 1 0 (nI (n + 1))) 3 n a) 2 0 (I 2 0 &&& ((1 <<< (nI n &&& 31)) ^^^ -1))) 4 n 0) 5 n b) 6 n 0) 0 14 0) a b 0 n hn
        have b51 : (v_up (v_up (v_up (v_up (v_up (v_up (v_up (v_up I 11 0 0) 1 0 (nI (n + 1))) 3 n a) 2 0 (I 2 0 &&& ((1 <<< (nI n &&& 31)) ^^^ -1))) 4 n 0) 5 n b) 6 n 0) 0 14 0) 51 = I 51 := by
          funext j; simp [v_up]
        rw [b51] at a51
        dsimp only
        generalize hX : (v_up (v_up (v_up (v_up (v_up (v_up (v_up (v_up I 11 0 0) 1 0 (nI (n + 1))) 3 n a) 2 0 (I 2 0 &&& ((1 <<< (nI n &&& 31)) ^^^ -1))) 4 n 0) 5 n b) 6 n 0) 0 14 0) = X at a51 b51 ⊢
        have f51 : (v_up (v_up (v_up (v_up (v_up (v_up (v_up (v_up X 51 0 (X 51 0 &&& ((1 <<< (nI n &&& 31)) ^^^ -1))) 51 (1 + n) a) 51 (9 + n) 0) 51 (18 + n) b) 51 (26 + n) 0) 51 49 (nI (n + 1))) 49 32 0) 49 0 0) 51 = sp_add (I 51) n a b 0 := by
          rw [v_up_row _ _ _ _ (by omega), v_up_row _ _ _ _ (by omega), b51]; exact a51
        have fX : fk I X := by rw [← hX]; exact fk_up (fk_up (fk_up (fk_up (fk_up (fk_up (fk_up (fk_up (fk_refl I) (by omega)) (by omega)) (by omega)) (by omega)) (by omega)) (by omega)) (by omega)) (by omega)
        have cX : rC X 1 2 3 4 5 6 7 8 (sp_add (I 51) n a b 0) := by
          have z := add_rC (I := v_up I 11 0 0) (k := I 51) a b 0 hn (rC_fr (v_up_row _ _ _ _ (by omega)) (v_up_row _ _ _ _ (by omega)) (v_up_row _ _ _ _ (by omega)) (v_up_row _ _ _ _ (by omega)) (v_up_row _ _ _ _ (by omega)) (v_up_row _ _ _ _ (by omega)) (v_up_row _ _ _ _ (by omega)) (v_up_row _ _ _ _ (by omega)) hC0)
          rw [← hX]
          exact rC_fr (v_up_row _ _ _ _ (by omega)) (v_up_row _ _ _ _ (by omega)) (v_up_row _ _ _ _ (by omega)) (v_up_row _ _ _ _ (by omega)) (v_up_row _ _ _ _ (by omega)) (v_up_row _ _ _ _ (by omega)) (v_up_row _ _ _ _ (by omega)) (v_up_row _ _ _ _ (by omega)) z
        refine R_K h (fk_up (fk_up (fk_up (fk_up (fk_up (fk_up (fk_up (fk_up (fX) (by omega)) (by omega)) (by omega)) (by omega)) (by omega)) (by omega)) (by omega)) (by omega)) ?_ ?_ ?_ ?_ (.inl ⟨?_, by simp [v_up]⟩)
        · rw [f51]
          refine rC_fr ?_ ?_ ?_ ?_ ?_ ?_ ?_ ?_ cX <;> (funext j; simp [v_up])
        · rw [f51]; exact add_kK (t := 0) a b hn k2 hK0 (Nat.two_pow_pos n) (by rw [ea]; exact nI_le (a := 0) (by omega) (by omega))
        · rw [← hX]; simp [rO, v_up, *]
        · rw [f51]; exact sa_k _ _ _ _ hn (by omega)
        · rw [← hX]; simp [v_up]
      · obtain ⟨I1, I2, e1, e2, hR⟩ := R_ref5 (J' := J) h
        have hn8 : n = 8 := by omega
        refine ⟨(-5, I1), (-5, I2), ?_, ?_, rfl, h.1, hR⟩
        · unfold h_X9_hedgehog
          simp only [u1, v1, p_bs, i10, if_false]
          rw [if_neg (i_nlt (c1.trans k2) (show (8 : Int32) = nI 8 from rfl) (by omega) (by omega)), bindref, e1]
        · have e3 : I1 51 49 = nI n := by
            rw [c_ref5] at e1
            cases e1
            simp [v_up, k2]
          unfold h_X10_hedgehog h_X10_many
          simp only [nine a u2, nine b v2, p_bs, i10, if_false, e3]
          rw [if_pos (by rw [hn8]; rfl), bindref, e2]
    · refine bad ?_ (fun I' => ?_)
      · unfold h_X9_hedgehog h_X9_hedgehog_J20
        simp only [u1, v1, p_bs, i10, if_false, if_true, bindref]
      · unfold h_X10_hedgehog h_X10_hedgehog_J14
        simp only [nine a u2, nine0 b v2, p_bs, i10, if_false, if_true, bindref]
  · refine bad ?_ (fun I' => ?_)
    · unfold h_X9_hedgehog h_X9_hedgehog_J20
      simp only [u1, p_bs, if_true, bindref]
    · unfold h_X10_hedgehog h_X10_hedgehog_J14
      simp only [nine0 a u2, p_bs, if_true, bindref]
end sp51
