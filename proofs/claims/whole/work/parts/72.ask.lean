noncomputable section sp72
theorem qop {S : v_S} {I : v_I} {J : v_J} {F : v_F} (h : R S I J F) {cl : Option (Int32 × v_I × v_J)} {md : v_I → Option (Int32 × v_I)} (hw : wp cl (fun r => fr I r.2.1 ∧ wp (md r.2.1) (fun q => r.1 = q.1 ∧ fr r.2.1 q.2))) :
    ∃ (r : Int32 × v_I × v_J) (q : Int32 × v_I), cl = some r ∧ md r.2.1 = some q ∧ r.1 = q.1 ∧ p_SS S ∧ R S q.2 r.2.2 F := by
  obtain ⟨r, e1, f1, q, e2, e3, f2⟩ := hw
  exact ⟨r, q, e1, e2, e3, h.1, R_fr (fr_trans f1 f2) h⟩
theorem qbad {I I' : v_I} {J : v_J} {md : v_I → Option (Int32 × v_I)} (h : md I = some (-1, I)) : wp (some ((-1 : Int32), I, J)) (fun r => fr I r.2.1 ∧ wp (md r.2.1) (fun q => r.1 = q.1 ∧ fr r.2.1 q.2)) := wp_some.mpr ⟨fr_refl I, ⟨_, h, rfl, fr_refl I⟩⟩
theorem fc_51 {I I' : v_I} (h : fc I I') : I' 51 = I 51 := h 51 (by omega) (by omega) (by omega) (by omega) (by omega) (by omega)
theorem and_all (x : Int32) : x &&& ((0 : Int32) ^^^ -1) = x := by rw [Int32.zero_xor, Int32.and_neg_one]
theorem ok_18 {S : v_S} {I : v_I} {J : v_J} {F : v_F} (h : R S I J F) : op_18 R S I J F := by
  intro a
  simp only [s_X9_later h.1 h.2.1, s_X10_later h.1 h.2.1]
  obtain ⟨n, lw, L, hX⟩ := R_cX h
  obtain ⟨o, ho, e0⟩ := id hX.2.2.2.2.1.1
  refine qop (md := fun I => h_X10_later I a) h ?_
  unfold h_X9_later
  rcases upTo_cases a (q := 60) (m := 60) rfl (by omega) with ⟨N, hN, rfl, u1, u2⟩ | ⟨u1, u2, _⟩
  · rw [u1, p_bs, if_neg (by decide), show I 2 0 = nI o by rw [hX.2.2.2.2.2.2.1.1, e0]]
    refine wp_seq (c_behind J hX ho hN) fun r hr => ?_
    obtain ⟨r1, r2⟩ := hr
    refine wp_some.mpr ⟨fc_fr r2, ?_⟩
    dsimp only
    unfold h_X10_later
    rw [u2, p_bs, if_neg (by decide)]
    refine wp_seq (m_all (hd := 0) (mX_51 (fc_51 r2) (cX_mX hX)) 0 0 ho (by rw [show nI 0 = 0 from rfl, and_all, and_all, Int32.or_zero, e0]) (by omega)) fun q hq => ?_
    obtain ⟨q1, q2⟩ := hq
    rw [p_in_nI (by omega) (by omega), p_bs]
    exact wp_some.mpr ⟨by dsimp only; rw [r1, q2 N hN], fs_fr q1⟩
  · rw [u1, p_bs, if_pos rfl]
    refine wp_some.mpr ⟨fr_refl I, ?_⟩
    unfold h_X10_later
    rw [u2, p_bs, if_pos rfl]
    exact wp_some.mpr ⟨rfl, fr_refl I⟩
theorem R_many {S : v_S} {I : v_I} {J : v_J} {F : v_F} (h : R S I J F) {n : Nat} {lw : Option Nat} {L : Option (List Cls)} (hX : cX S I F n lw L (I 51)) : I 1 0 = nI n := by
  rw [h.2.2.1.2.1]; exact hX.2.2.2.1
theorem ok_19 {S : v_S} {I : v_I} {J : v_J} {F : v_F} (h : R S I J F) : op_19 R S I J F := by
  intro a
  simp only [s_X9_opens h.1 h.2.1, s_X10_opens h.1 h.2.1]
  obtain ⟨n, lw, L, hX⟩ := R_cX h
  obtain ⟨o, ho, e0⟩ := id hX.2.2.2.2.1.1
  refine qop (md := fun I => h_X10_opens I a) h ?_
  unfold h_X9_opens
  rcases one_cases a (n := n) hX.2.2.1 with ⟨k, hk, rfl, u1, u2⟩ | ⟨u1, u2, _⟩
  · rw [u1 S I (R_many h hX), p_bs, if_neg (by decide), show I 2 0 = nI o by rw [hX.2.2.2.2.2.2.1.1, e0]]
    refine wp_seq (c_first (hd := 0) J hX (nI o) _ ho (by rw [show nI 0 = 0 from rfl, and_all]) (by omega)) fun r hr => ?_
    obtain ⟨r1, r2⟩ := hr
    refine wp_some.mpr ⟨fc_fr r2, ?_⟩
    dsimp only
    unfold h_X10_opens
    rw [u2 _ (by rw [fc_51 r2]; exact hX.2.2.2.1), p_bs, if_neg (by decide)]
    refine wp_seq (m_first (mX_51 (fc_51 r2) (cX_mX hX)) 0 _ ho (by rw [Int32.or_zero, e0])) fun q hq => ?_
    obtain ⟨q1, q2⟩ := hq
    exact wp_some.mpr ⟨isF_eq r1 q1, fs_fr q2⟩
  · rw [u1 S I (R_many h hX), p_bs, if_pos rfl]
    refine wp_some.mpr ⟨fr_refl I, ?_⟩
    unfold h_X10_opens
    rw [u2 I hX.2.2.2.1, p_bs, if_pos rfl]
    exact wp_some.mpr ⟨rfl, fr_refl I⟩
theorem ok_20 {S : v_S} {I : v_I} {J : v_J} {F : v_F} (h : R S I J F) : op_20 R S I J F := by
  unfold op_20
  simp only [s_X9_together h.1 h.2.1, s_X10_together h.1 h.2.1]
  obtain ⟨n, lw, L, hX⟩ := R_cX h
  obtain ⟨o, ho, e0⟩ := id hX.2.2.2.2.1.1
  refine qop (md := fun I => h_X10_together I) h ?_
  unfold h_X9_together h_X0_everyone
  rw [p_bs, R_many h hX, show I 2 0 = nI o by rw [hX.2.2.2.2.2.2.1.1, e0]]
  refine wp_seq (c_first (hd := 0) J hX (nI o) _ ho (by rw [show nI 0 = 0 from rfl, and_all]) (by omega)) fun r hr => ?_
  obtain ⟨r1, r2⟩ := hr
  refine wp_some.mpr ⟨fc_fr r2, ?_⟩
  dsimp only
  unfold h_X10_together h_X10_everybody h_X10_many
  rw [p_bs, p_bs, fc_51 r2, hX.2.2.2.1]
  refine wp_seq (m_first (mX_51 (fc_51 r2) (cX_mX hX)) 0 _ ho (by rw [Int32.or_zero, e0])) fun q hq => ?_
  obtain ⟨q1, q2⟩ := hq
  exact wp_some.mpr ⟨isF_eq r1 q1, fs_fr q2⟩
/-- both look for the first return -/
theorem ret_eq {K : Nat → Int32} (S : v_S) (F : v_F) {I I' : v_I} (h : ∀ i, i ≤ 60 → I 22 i = K i) (h' : ∀ i, i ≤ 60 → I' 65 i = K i) : ∃ c, v_loop (h_X1_firstReturn_B2 S I F) FU 1 = some c ∧ v_loop (h_X10_again_B9 I') FU 1 = some c := by
  have e : h_X1_firstReturn_B2 S I F = h_X10_again_B9 I' ∨ True := .inr trivial
  have body : ∀ i, 1 ≤ i → i ≤ 61 → h_X1_firstReturn_B2 S I F (nI i) = h_X10_again_B9 I' (nI i) ∧ wp (h_X10_again_B9 I' (nI i)) (fun x => match x with | .inl t => i < 61 ∧ t = nI (i + 1) | .inr _ => True) := by
    intro i h1 h2
    unfold h_X1_firstReturn_B2 h_X10_again_B9
    by_cases h60 : 60 < i
    · rw [if_pos (show (60 : Int32) < nI i from i_lt (a := 60) rfl rfl h60 (by omega)), if_pos (show (60 : Int32) < nI i from i_lt (a := 60) rfl rfl h60 (by omega))]
      exact ⟨rfl, wp_some.mpr trivial⟩
    · rw [if_neg (show ¬ (60 : Int32) < nI i from i_nlt (a := 60) rfl rfl (by omega) (by omega)), if_neg (show ¬ (60 : Int32) < nI i from i_nlt (a := 60) rfl rfl (by omega) (by omega)), p_in_nI (by omega) (by omega), p_bs, p_bs]
      by_cases hq : K i = K 0
      · rw [if_pos (by rw [h i (by omega), h 0 (by omega)]; exact hq), if_pos (by rw [h' i (by omega), h' 0 (by omega)]; exact hq)]
        exact ⟨rfl, wp_some.mpr trivial⟩
      · rw [if_neg (by rw [h i (by omega), h 0 (by omega)]; exact hq), if_neg (by rw [h' i (by omega), h' 0 (by omega)]; exact hq), p_le]
        exact ⟨rfl, wp_some.mpr ⟨by omega, (nI_succ i).symm⟩⟩
  have key : ∀ (d i m : Nat), d + i = 61 → 1 ≤ i → d < m → ∃ c, v_loop (h_X1_firstReturn_B2 S I F) m (nI i) = some c ∧ v_loop (h_X10_again_B9 I') m (nI i) = some c := by
    intro d
    induction d with
    | zero =>
      intro i m hd hi hm
      obtain ⟨m, rfl⟩ : ∃ k, m = k + 1 := ⟨m - 1, by omega⟩
      obtain ⟨b1, x, b2, b3⟩ := body i hi (by omega)
      cases x with
      | inl t => exact absurd b3.1 (by omega)
      | inr c => exact ⟨c, by simp only [v_loop, b1, b2], by simp only [v_loop, b2]⟩
    | succ d ih =>
      intro i m hd hi hm
      obtain ⟨m, rfl⟩ : ∃ k, m = k + 1 := ⟨m - 1, by omega⟩
      obtain ⟨b1, x, b2, b3⟩ := body i hi (by omega)
      cases x with
      | inl t =>
        obtain ⟨_, rfl⟩ := b3
        obtain ⟨c, c1, c2⟩ := ih (i + 1) m (by omega) (by omega) (by omega)
        exact ⟨c, by simp only [v_loop, b1, b2]; exact c1, by simp only [v_loop, b2]; exact c2⟩
      | inr c => exact ⟨c, by simp only [v_loop, b1, b2], by simp only [v_loop, b2]⟩
  exact key 60 1 FU (by omega) (by omega) (by rw [FU_eq]; omega)
theorem m_now {I : v_I} {n : Nat} {L : Option (List Cls)} {k : Nat → Int32} (h : mX I n L k) : wp (h_X10_laysAllMinutes I 0 0 0) (fun r => fs I r ∧ ∀ i, i ≤ 60 → r 65 i = it L n 0 k i 0) := by
  obtain ⟨o, ho, e0⟩ := id h.2.2.2.1.1
  have := m_all (hd := 0) h 0 0 ho (by rw [show nI 0 = 0 from rfl, and_all, and_all, Int32.or_zero, e0]) (by omega)
  rw [kup_same e0] at this
  exact this
theorem ok_21 {S : v_S} {I : v_I} {J : v_J} {F : v_F} (h : R S I J F) : op_21 R S I J F := by
  unfold op_21
  simp only [s_X9_again h.1 h.2.1, s_X10_again h.1 h.2.1]
  obtain ⟨n, lw, L, hX⟩ := R_cX h
  refine qop (md := fun I => h_X10_again I) h ?_
  unfold h_X9_again h_X1_firstReturn
  refine wp_seq (c_follow J hX) fun r hr => ?_
  obtain ⟨r1, r2⟩ := hr
  obtain ⟨q, eq, q1, q2⟩ := m_now (mX_51 (fc_51 r2) (cX_mX hX))
  obtain ⟨c, c1, c2⟩ := ret_eq S F r1 q2
  rw [c1, p_bs]
  have md : h_X10_again r.1 = some (if c.1 = 0 then c.2 else -1, q) := by
    unfold h_X10_again
    rw [eq, p_bs, c2, p_bs]
    split <;> rfl
  have fin : wp (some ((if c.1 = 0 then c.2 else -1), r.1, r.2)) (fun r => fr I r.2.1 ∧ wp (h_X10_again r.2.1) (fun q => r.1 = q.1 ∧ fr r.2.1 q.2)) := wp_some.mpr ⟨fc_fr r2, _, md, rfl, fs_fr q1⟩
  by_cases e : c.1 = 0
  · rw [if_pos e] at fin ⊢; exact fin
  · rw [if_neg e] at fin ⊢; exact fin
theorem set_off (k o : Nat) (hk : k < 8) (ho : o < 256) : (nI o ||| ((1 : Int32) <<< (nI k &&& 31))) &&& (((1 : Int32) <<< (nI k &&& 31)) ^^^ -1) = nI o &&& (((1 : Int32) <<< (nI k &&& 31)) ^^^ -1) := by
  rw [b_set k o hk ho, b_clr k o hk ho]
  have : o ||| 2 ^ k < 256 := Nat.or_lt_two_pow (n := 8) ho (Nat.pow_lt_pow_right (by omega) hk)
  rw [b_clr k _ hk this]
  have d : ∀ k : Nat, k < 8 → ∀ o : Nat, o < 256 → (o ||| 2 ^ k) &&& (255 - 2 ^ k) = o &&& (255 - 2 ^ k) := by decide +kernel
  rw [d k hk o ho]
theorem ok_24 {S : v_S} {I : v_I} {J : v_J} {F : v_F} (h : R S I J F) : op_24 R S I J F := by
  intro a
  simp only [s_X9_spread h.1 h.2.1, s_X10_spread h.1 h.2.1]
  obtain ⟨n, lw, L, hX⟩ := R_cX h
  obtain ⟨o, ho, e0⟩ := id hX.2.2.2.2.1.1
  have hn := hX.2.2.1
  refine qop (md := fun I => h_X10_spread I a) h ?_
  unfold h_X9_spread
  rcases one_cases a (n := n) hn with ⟨k, hk, rfl, u1, u2⟩ | ⟨u1, u2, _⟩
  · have l1 : o ||| 2 ^ k < 256 := Nat.or_lt_two_pow (n := 8) ho (Nat.pow_lt_pow_right (by omega) (by omega))
    have l2 : o &&& (255 - 2 ^ k) < 256 := Nat.lt_of_le_of_lt Nat.and_le_left ho
    rw [u1 S I (R_many h hX), p_bs, if_neg (by decide), show I 2 0 = nI o by rw [hX.2.2.2.2.2.2.1.1, e0], p_le, set_off k o (by omega) ho, b_set k o (by omega) ho, b_clr k o (by omega) ho]
    refine wp_seq (c_behind (N := 60) J hX l1 (by omega)) fun r hr => ?_
    obtain ⟨r1, r2⟩ := hr
    refine wp_seq (c_behind (N := 60) r.2.2 (fc_cX r2 hX) l2 (by omega)) fun r' hr' => ?_
    obtain ⟨r1', r2'⟩ := hr'
    have r3 := fc_trans r2 r2'
    refine wp_some.mpr ⟨fc_fr r3, ?_⟩
    dsimp only
    unfold h_X10_spread h_X10_openLast
    rw [u2 _ (by rw [fc_51 r3]; exact hX.2.2.2.1), p_bs, if_neg (by decide)]
    have hm := mX_51 (fc_51 r3) (cX_mX hX)
    refine wp_seq (P := fun t => t.1 = it L n 0 (kup (I 51) 0 (nI (o ||| 2 ^ k))) 60 0 ∧ fs r'.2.1 t.2) ?_ fun t ht => ?_
    · refine wp_seq (m_all (hd := 0) hm _ 0 l1 (by rw [show nI 0 = 0 from rfl, and_all, and_all, e0, b_set k o (by omega) ho]) (by omega)) fun q hq => ?_
      exact wp_some.mpr ⟨hq.2 60 (by omega), hq.1⟩
    obtain ⟨t1, t2⟩ := ht
    refine wp_seq (P := fun t' => t'.1 = it L n 0 (kup (I 51) 0 (nI (o &&& (255 - 2 ^ k)))) 60 0 ∧ fs r'.2.1 t'.2) ?_ fun t' ht' => ?_
    · refine wp_seq (m_all (hd := 0) (mX_51 (fs_51 t2) hm) 0 _ l2 (by rw [show nI 0 = 0 from rfl, and_all, Int32.or_zero, e0, b_clr k o (by omega) ho]) (by omega)) fun q hq => ?_
      exact wp_some.mpr ⟨hq.2 60 (by omega), fs_trans t2 hq.1⟩
    obtain ⟨t1', t2'⟩ := ht'
    exact wp_some.mpr ⟨by dsimp only; rw [r1, r1', t1, t1'], fs_fr t2'⟩
  · rw [u1 S I (R_many h hX), p_bs, if_pos rfl]
    refine wp_some.mpr ⟨fr_refl I, ?_⟩
    unfold h_X10_spread
    rw [u2 I hX.2.2.2.1, p_bs, if_pos rfl]
    exact wp_some.mpr ⟨rfl, fr_refl I⟩
end sp72
