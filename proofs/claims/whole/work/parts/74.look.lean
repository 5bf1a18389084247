noncomputable section sp74
/-- who can be it, by what was seen -/
def lk (E : Int32) (K : Nat → Int32) (k : Nat → Int32) : Nat → Int32
  | 0 => E
  | i + 1 => lk E K k i &&& (if k (35 + 2 * i) = 1 then K (k (34 + 2 * i)).toNatClampNeg else K (k (34 + 2 * i)).toNatClampNeg ^^^ -1)
theorem lk_E {E : Int32} {K k : Nat → Int32} : ∀ i, lk E K k i &&& E = lk E K k i
  | 0 => Int32.and_self
  | i + 1 => by
    show (lk E K k i &&& _) &&& E = _
    rw [Int32.and_assoc, Int32.and_comm _ E, ← Int32.and_assoc, lk_E i]; rfl
theorem lk_nI {e : Nat} {K k : Nat → Int32} (he : e < 256) (hK : ∀ j, ∃ u : Nat, u < 256 ∧ K j = nI u) : ∀ i, ∃ t : Nat, t < 256 ∧ lk (nI e) K k i = nI t
  | 0 => ⟨e, he, rfl⟩
  | i + 1 => by
    obtain ⟨t, ht, e1⟩ := lk_nI he hK i
    obtain ⟨u, hu, e2⟩ := hK (k (34 + 2 * i)).toNatClampNeg
    unfold lk
    rw [e1, e2]
    split
    · exact ⟨_, (nI_and ht hu).2, (nI_and ht hu).1⟩
    · exact ⟨_, Nat.lt_of_le_of_lt Nat.and_le_left ht, nI_not ht hu⟩
theorem c_like {S : v_S} {I : v_I} {F : v_F} {k K : Nat → Int32} {sm : Nat} (hsm : sm ≤ 6) (h1 : I 1 7 = nI sm) (h2 : ∀ i, i < 6 → ∃ q : Nat, q ≤ 60 ∧ k (34 + 2 * i) = nI q) (h3 : ∀ i, i < 6 → I 7 i = k (34 + 2 * i)) (h4 : ∀ i, i < 6 → I 8 i = k (35 + 2 * i)) (hK : ∀ i, i ≤ 60 → I 22 i = K i) {E : Int32} (hE : h_X0_everyone S I = some E) :
    h_X1_likeSeen S I F = some (lk E K k sm) := by
  unfold h_X1_likeSeen
  rw [hE, p_bs]
  have := v_loop_FU (body := h_X1_likeSeen_B7 S I F) (fun i => (lk E K k i, nI i)) (lk E K k sm, nI sm) sm (by omega) ?_ ?_
  · rw [show (E, (0 : Int32)) = (fun i => (lk E K k i, nI i)) 0 from rfl, this, p_bs]
  · intro i hi
    obtain ⟨q, hq, eq⟩ := h2 i (by omega)
    unfold h_X1_likeSeen_B7 h_X1_likeSeen_J7_52 h_X1_likeSeen_J7_74
    dsimp only
    rw [if_neg (by rw [h1]; exact nI_ge hi (by omega)), if_neg (show ¬ (6 : Int32) ≤ nI i from i_nle (a := 6) rfl rfl (by omega) (by omega)), p_in_nI (by omega) (by omega), p_bs, p_le, h3 i (by omega), eq, if_neg (nI_pos (by omega)), if_neg (show ¬ (60 : Int32) < nI q from i_nlt (a := 60) rfl rfl (by omega) (by omega)), p_in_nI (by omega) (by omega), p_bs, p_bs, hK q hq, h4 i (by omega)]
    have e : lk E K k (i + 1) = lk E K k i &&& (if k (35 + 2 * i) = 1 then K q else K q ^^^ -1) := by
      show lk E K k i &&& _ = _
      rw [eq, nI_clamp (by omega)]
    rw [e, nI_succ]
    by_cases c : k (35 + 2 * i) = 1
    · rw [if_pos c, if_pos c]; rfl
    · rw [if_neg c, if_neg c]; rfl
  · unfold h_X1_likeSeen_B7
    dsimp only
    rw [if_pos (by rw [h1]; exact nI_le (Nat.le_refl _) (by omega))]
theorem m_like {I : v_I} {k K : Nat → Int32} {sm : Nat} (hsm : sm ≤ 6) (h51 : I 51 = k) (h1 : k 50 = nI sm) (h2 : ∀ i, i < 6 → ∃ q : Nat, q ≤ 60 ∧ k (34 + 2 * i) = nI q) (hK : ∀ i, i ≤ 60 → I 65 i = K i) {E : Int32} (hE : h_X10_everybody I = some E) :
    v_loop (h_X10_canBe_B14 I) FU (E, 0) = some (lk E K k sm, nI sm) := by
  refine v_loop_FU (body := h_X10_canBe_B14 I) (fun i => (lk E K k i, nI i)) (lk E K k sm, nI sm) sm (by omega) ?_ ?_
  · intro i hi
    obtain ⟨q, hq, eq⟩ := h2 i (by omega)
    unfold h_X10_canBe_B14 h_X10_asSeen
    dsimp only
    have m2 : (2 : Int32) * nI i = nI (2 * i) := by
      have : ∀ i : Nat, i < 6 → (2 : Int32) * nI i = nI (2 * i) := by decide
      exact this i (by omega)
    have a34 : (34 : Int32) + nI (2 * i) = nI (34 + 2 * i) := nI_add 34 (2 * i)
    rw [if_neg (by rw [h51, h1]; exact nI_ge hi (by omega)), m2, a34, p_in_nI (by omega) (by omega), p_bs, h51, eq, p_in_nI (by omega) (by omega), p_bs, p_le, ← nI_succ, p_in_nI (by omega) (by omega), p_bs, hK q hq, show 34 + 2 * i + 1 = 35 + 2 * i by omega]
    have e : lk E K k (i + 1) = lk E K k i &&& (if k (35 + 2 * i) = 1 then K q else K q ^^^ -1) := by
      show lk E K k i &&& _ = _
      rw [eq, nI_clamp (by omega)]
    rw [e, nI_succ]
    by_cases c : k (35 + 2 * i) = 1
    · rw [if_pos c, if_pos c]; rfl
    · rw [if_neg c, if_neg c, hE]
      simp only [p_bs, p_le]
      rw [← Int32.and_assoc, lk_E i]
  · unfold h_X10_canBe_B14
    dsimp only
    rw [if_pos (by rw [h51, h1]; exact nI_le (Nat.le_refl _) (by omega))]
/-- what both have, all minutes laid -/
theorem can_eq {S : v_S} {I : v_I} {J : v_J} {F : v_F} (h : R S I J F) : ∃ (I1 : v_I) (J1 : v_J) (I2 : v_I) (t : Nat) (K : Nat → Int32), t < 256 ∧ h_X1_follow S I J F = some (I1, J1) ∧ fc I I1 ∧ h_X1_likeSeen S I1 F = some (nI t) ∧ h_X10_canBe I1 = some (nI t, I2) ∧ fs I1 I2 ∧ (∀ i, i ≤ 60 → I1 22 i = K i) ∧ (∀ i, i ≤ 60 → I2 65 i = K i) ∧ (∀ j, ∃ u : Nat, u < 256 ∧ K j = nI u) := by
  obtain ⟨n, lw, L, hX⟩ := R_cX h
  have hn := hX.2.2.1
  obtain ⟨⟨I1, J1⟩, e1, r1, r2⟩ := c_follow J hX
  dsimp only at r1 r2
  obtain ⟨I2, e2, q1, q2⟩ := m_now (mX_51 (fc_51 r2) (cX_mX hX))
  have hKB : ∀ j, ∃ u : Nat, u < 256 ∧ it L n 0 (I 51) j 0 = nI u := fun j => (it_B hn hX.2.2.2.2.1 j).1
  obtain ⟨⟨m1, m2, m3, m4⟩, c1, c2, c3, c4, c5, c6, c7, c8, c9, c10, c11⟩ := id h.2.2.1
  obtain ⟨n', tl, k1, k2, k3, k4, ⟨sm, hsm, k5⟩, k6, k7, k8, k9⟩ := id h.2.2.2.1
  have I1r : ∀ a, a < 14 → I1 a = I a := fun a ha => r2 a (by omega) (by omega) (by omega) (by omega) (by omega) (by omega)
  have ev : h_X0_everyone S I1 = some (nI (2 ^ n - 1)) := by
    unfold h_X0_everyone; rw [I1r 1 (by omega), R_many h hX, ev_n hn]
  have i51 : I2 51 = I 51 := (fs_51 q1).trans (fc_51 r2)
  have ev2 : h_X10_everybody I2 = some (nI (2 ^ n - 1)) := by
    unfold h_X10_everybody h_X10_many; rw [p_bs, i51, hX.2.2.2.1, ev_n hn]
  have like := c_like (S := S) (F := F) (I := I1) (k := I 51) hsm (by rw [I1r 1 (by omega), c7]; exact k5) k6 (fun i hi => by rw [I1r 7 (by omega)]; exact c8 i hi) (fun i hi => by rw [I1r 8 (by omega)]; exact c9 i hi) r1 ev
  have can := m_like hsm i51 k5 k6 q2 ev2
  obtain ⟨t, ht, et⟩ := lk_nI (k := I 51) (ev_lt hn) hKB sm
  refine ⟨I1, J1, I2, t, fun j => it L n 0 (I 51) j 0, ht, e1, r2, by rw [like, et], ?_, q1, r1, q2, hKB⟩
  unfold h_X10_canBe
  rw [e2, p_bs, ev2, p_bs, can, p_bs, et]
theorem ok_31 {S : v_S} {I : v_I} {J : v_J} {F : v_F} (h : R S I J F) : op_31 R S I J F := by
  unfold op_31
  simp only [s_X9_canBe h.1 h.2.1, s_X10_canBe h.1 h.2.1]
  obtain ⟨I1, J1, I2, t, K, ht, e1, f1, e2, e3, f2, _⟩ := can_eq h
  refine qop (md := fun I => h_X10_canBe I) h ?_
  unfold h_X9_canBe
  rw [e1, p_bs, e2, p_bs]
  exact wp_some.mpr ⟨fc_fr f1, _, e3, rfl, fs_fr f2⟩
/-! when to look -/
def lg (t : Nat) (K : Nat → Int32) (i : Nat) : Nat := max (pc (t &&& (K i).toNatClampNeg)) (pc (t &&& ((K i).toNatClampNeg ^^^ 255)))
theorem lg_le (t : Nat) (K : Nat → Int32) (i : Nat) : lg t K i ≤ 8 := Nat.max_le.mpr ⟨pc_le _, pc_le _⟩
def bs (g : Nat → Nat) : Nat → Nat
  | 0 => 0
  | i + 1 => if g (i + 1) < g (bs g i) then i + 1 else bs g i
theorem bs_le (g : Nat → Nat) : ∀ i, bs g i ≤ i
  | 0 => Nat.le_refl _
  | i + 1 => by
    unfold bs
    split
    · exact Nat.le_refl _
    · exact Nat.le_succ_of_le (bs_le g i)
theorem p_max_nI {a b : Nat} (ha : a ≤ 8) (hb : b ≤ 8) : p_max (nI a) (nI b) = nI (max a b) := by
  unfold p_max
  by_cases h : a < b
  · rw [if_pos (nI_lt h (by omega)), Nat.max_eq_right (by omega)]
  · rw [if_neg (nI_nlt (by omega) (by omega)), Nat.max_eq_left (by omega)]
theorem c_left {S : v_S} {I : v_I} {F : v_F} {t : Nat} {K : Nat → Int32} (ht : t < 256) (hK : ∀ i, i ≤ 60 → I 22 i = K i) (hB : ∀ j, ∃ u : Nat, u < 256 ∧ K j = nI u) {i : Nat} (hi : i ≤ 60) : h_X1_leftAt S I F (nI t) (nI i) = some (nI (lg t K i)) := by
  obtain ⟨u, hu, e⟩ := hB i
  unfold h_X1_leftAt lg
  have l2 : t &&& (u ^^^ 255) < 256 := Nat.lt_of_le_of_lt Nat.and_le_left ht
  rw [if_neg (nI_pos (by omega)), if_pos (show nI i ≤ (60 : Int32) from i_le (b := 60) rfl rfl hi (by omega)), p_in_nI (by omega) (by omega)]
  simp only [p_bs]
  rw [hK i hi, e, (nI_and ht hu).1, nI_not ht hu, b_bc (nI_and ht hu).2, p_bs, b_bc l2, p_bs, p_max_nI (pc_le _) (pc_le _), nI_clamp (by omega)]
theorem c_best {S : v_S} {I : v_I} {F : v_F} {t : Nat} {K : Nat → Int32} (ht : t < 256) (hK : ∀ i, i ≤ 60 → I 22 i = K i) (hB : ∀ j, ∃ u : Nat, u < 256 ∧ K j = nI u) : h_X1_bestLook S I F (nI t) = some (nI (bs (lg t K) 60)) := by
  unfold h_X1_bestLook
  have := v_loop_FU (body := h_X1_bestLook_B4 S I F (nI t)) (fun i => (nI (bs (lg t K) i), nI (i + 1))) (nI (bs (lg t K) 60), nI 61) 60 (by omega) ?_ ?_
  · rw [show ((0 : Int32), (1 : Int32)) = (fun i => (nI (bs (lg t K) i), nI (i + 1))) 0 from rfl, this, p_bs]
  · intro i hi
    have b := bs_le (lg t K) i
    unfold h_X1_bestLook_B4 h_X1_bestLook_J4_27
    dsimp only
    rw [if_neg (show ¬ (60 : Int32) < nI (i + 1) from i_nlt (a := 60) rfl rfl (by omega) (by omega)), c_left ht hK hB (by omega), p_bs, c_left ht hK hB (by omega), p_bs]
    have e : bs (lg t K) (i + 1) = if lg t K (i + 1) < lg t K (bs (lg t K) i) then i + 1 else bs (lg t K) i := rfl
    have l1 := lg_le t K (i + 1)
    have l2 := lg_le t K (bs (lg t K) i)
    rw [e]
    by_cases c : lg t K (i + 1) < lg t K (bs (lg t K) i)
    · rw [if_neg (nI_ge c (by omega)), if_pos c, p_le, ← nI_succ]
    · rw [if_pos (nI_le (by omega) (by omega)), if_neg c, p_le, ← nI_succ]
  · unfold h_X1_bestLook_B4
    dsimp only
    rw [if_pos (show (60 : Int32) < nI (60 + 1) by decide)]
theorem m_look {I : v_I} {w : Int32} {t : Nat} {K : Nat → Int32} (ht : t < 256) (h0 : t ≠ 0) (hK : ∀ i, i ≤ 60 → I 65 i = K i) (hB : ∀ j, ∃ u : Nat, u < 256 ∧ K j = nI u) : v_loop (h_X10_look_B23 I w (nI t)) FU (-1, 1000000, 0) = some (nI (bs (lg t K) 60), nI (lg t K (bs (lg t K) 60)), nI 61) := by
  have t0 : ¬ nI t = 0 := fun q => h0 ((i_eqI (b := 0) rfl rfl (by omega) (by omega)).mp q)
  refine v_loop_FU (body := h_X10_look_B23 I w (nI t)) (fun i => if i = 0 then (-1, 1000000, 0) else (nI (bs (lg t K) (i - 1)), nI (lg t K (bs (lg t K) (i - 1))), nI i)) _ 61 (by omega) ?_ ?_
  · intro i hi
    obtain ⟨u, hu, e⟩ := hB i
    have l2 : t &&& (u ^^^ 255) < 256 := Nat.lt_of_le_of_lt Nat.and_le_left ht
    have l1 := lg_le t K i
    have gr : ∀ a b : Nat, a ≤ 8 → b ≤ 8 → h_X10_greater (nI a) (nI b) = some (nI (max a b)) := by
      intro a b ha hb
      unfold h_X10_greater
      by_cases c : a ≤ b
      · rw [if_pos (nI_le c (by omega)), Nat.max_eq_right c]
      · rw [if_neg (nI_ge (by omega) (by omega)), Nat.max_eq_left (by omega)]
    have body : ∀ x y : Int32, h_X10_look_B23 I w (nI t) (x, y, nI i) = if nI (lg t K i) < y then some (.inl (nI i, nI (lg t K i), nI (i + 1))) else some (.inl (x, y, nI (i + 1))) := by
      intro x y
      unfold h_X10_look_B23 h_X10_look_J23_82
      dsimp only
      rw [if_neg (show ¬ (60 : Int32) < nI i from i_nlt (a := 60) rfl rfl (by omega) (by omega)), if_neg t0, p_in_nI (by omega) (by omega)]
      simp only [p_bs]
      rw [hK i (by omega), e, (nI_and ht hu).1, nI_not ht hu, b_ones (nI_and ht hu).2, p_bs, b_ones l2, p_bs, gr _ _ (pc_le _) (pc_le _), p_bs, p_le, p_le, ← nI_succ]
      have : lg t K i = max (pc (t &&& u)) (pc (t &&& (u ^^^ 255))) := by unfold lg; rw [e, nI_clamp (by omega)]
      rw [this]
    by_cases hi0 : i = 0
    · subst hi0
      rw [if_pos rfl, if_neg (by omega)]
      have := body (-1) 1000000
      rw [show nI 0 = 0 from rfl] at this
      rw [this, if_pos (show nI (lg t K 0) < (1000000 : Int32) from i_lt (b := 1000000) rfl rfl (by omega) (by omega))]
      rfl
    · rw [if_neg hi0, if_neg (by omega), body]
      obtain ⟨j, rfl⟩ : ∃ j, i = j + 1 := ⟨i - 1, by omega⟩
      have e : bs (lg t K) (j + 1) = if lg t K (j + 1) < lg t K (bs (lg t K) j) then j + 1 else bs (lg t K) j := rfl
      have l3 := lg_le t K (bs (lg t K) j)
      rw [show j + 1 - 1 = j by omega, show j + 1 + 1 - 1 = j + 1 by omega, e]
      by_cases c : lg t K (j + 1) < lg t K (bs (lg t K) j)
      · rw [if_pos (nI_lt c (by omega)), if_pos c]
      · rw [if_neg (nI_nlt (by omega) (by omega)), if_neg c]
  · rw [if_neg (by omega)]
    unfold h_X10_look_B23
    dsimp only
    rw [if_pos (show (60 : Int32) < nI 61 by decide)]
theorem ok_32 {S : v_S} {I : v_I} {J : v_J} {F : v_F} (h : R S I J F) : op_32 R S I J F := by
  intro a
  simp only [s_X9_look h.1 h.2.1, s_X10_look h.1 h.2.1]
  refine qop (md := fun I => h_X10_look I a) h ?_
  unfold h_X9_look
  rcases upTo_cases a (q := 1) (m := 1) rfl (by omega) with ⟨N, hN, rfl, u1, u2⟩ | ⟨u1, u2, _⟩
  · obtain ⟨I1, J1, I2, t, K, ht, e1, f1, e2, e3, f2, k1, k2, k3⟩ := can_eq h
    rw [u1, p_bs, if_neg (by decide), e1, p_bs, e2, p_bs]
    have md : ∀ (x : Int32), h_X10_look_J88 I2 (nI N) (if t = 0 then -1 else nI (bs (lg t K) 60)) (if t = 0 then 1000000 else nI (lg t K (bs (lg t K) 60))) = some (x, I2) → h_X10_look I1 (nI N) = some (x, I2) := by
      intro x hx
      unfold h_X10_look
      rw [bit_of u2 (.inr rfl), p_bs, if_neg (by decide), e3, p_bs]
      dsimp only
      by_cases t0 : t = 0
      · rw [if_pos t0, if_pos t0] at hx
        have : v_loop (h_X10_look_B23 I2 (nI N) (nI t)) FU (-1, 1000000, 0) = some (-1, 1000000, 0) := by
          refine v_loop_FU (body := h_X10_look_B23 I2 (nI N) (nI t)) (fun _ => (-1, 1000000, 0)) _ 0 (by omega) (fun i hi => absurd hi (Nat.not_lt_zero _)) ?_
          unfold h_X10_look_B23
          dsimp only
          rw [if_neg (by decide), if_pos (by rw [t0]; rfl)]
        rw [this, p_bs]; exact hx
      · rw [if_neg t0, if_neg t0] at hx
        rw [m_look ht t0 k2 k3, p_bs]; exact hx
    by_cases t0 : t = 0
    · rw [if_pos (by rw [t0]; rfl)]
      refine wp_some.mpr ⟨fc_fr f1, _, md (-1) ?_, rfl, fs_fr f2⟩
      unfold h_X10_look_J88
      rw [if_pos t0, if_pos rfl]
    · rw [if_neg (show ¬ nI t = 0 from fun q => t0 ((i_eqI (b := 0) rfl rfl (by omega) (by omega)).mp q)), c_best ht k1 k3, p_bs]
      have bl := bs_le (lg t K) 60
      by_cases n0 : nI N = 0
      · rw [if_pos n0]
        refine wp_some.mpr ⟨fc_fr f1, _, md (nI (bs (lg t K) 60)) ?_, rfl, fs_fr f2⟩
        unfold h_X10_look_J88
        rw [if_neg t0, if_neg (nI_ne _ (by omega)), if_pos n0]
      · rw [if_neg n0, c_left ht k1 k3 bl, p_bs]
        refine wp_some.mpr ⟨fc_fr f1, _, md (nI (lg t K (bs (lg t K) 60))) ?_, rfl, fs_fr f2⟩
        unfold h_X10_look_J88
        rw [if_neg t0, if_neg t0, if_neg (nI_ne _ (by omega)), if_neg n0]
  · rw [u1, p_bs, if_pos rfl]
    refine wp_some.mpr ⟨fr_refl I, ?_⟩
    unfold h_X10_look
    rw [bit_of u2 (.inl rfl), p_bs, if_pos rfl]
    exact wp_some.mpr ⟨rfl, fr_refl I⟩
end sp74
