noncomputable section sp77
theorem cX_fr1 {S : v_S} {I I' : v_I} {F : v_F} {n : Nat} {lw : Option Nat} {L : Option (List Cls)} {k : Nat → Int32} (e : ∀ a, ((1 ≤ a ∧ a ≤ 6) ∨ 72 ≤ a) → I' a = I a) (h : cX S I F n lw L k) : cX S I' F n lw L k := by
  obtain ⟨h1, h2, h3, h4, h5, h6, h7, h8, h9⟩ := h
  refine ⟨h1, h2, h3, h4, h5, ?_, rM_fr (e 2 (by omega)) (e 3 (by omega)) (e 4 (by omega)) h7, rLw_fr (fun a ha => e a (by omega)) h8, ?_⟩
  · unfold rS; rw [e 1 (by omega), e 5 (by omega), e 6 (by omega)]; exact h6
  · rw [← h9]; unfold h_X0_lawInForce h_X0_lawAt; rw [e 1 (by omega)]
theorem mB_drawn : mB 26 27 28 := by unfold mB; omega
theorem nz_n {n : Nat} (h : 0 < n) (hn : n ≤ 8) : p_nz32 (nI n) = some () := by
  unfold p_nz32
  rw [if_neg (show ¬ nI n = 0 from fun q => absurd ((i_eqI (b := 0) rfl rfl (by omega) (by omega)).mp q) (by omega))]
theorem c_hold {S : v_S} {I : v_I} {F : v_F} (J : v_J) {n a N : Nat} {lw : Option Nat} {L : Option (List Cls)} {k : Nat → Int32} (h : cX S I F n lw L k) (hn0 : 0 < n) (ha : a ≤ 1000000) (hN : N ≤ 60) (hM : rM I 26 27 28 k) :
    wp (h_X1_holdCouncils S I J F 26 27 28 (nI a) (nI N)) (fun r => (∃ i, stp L n (nI a) k N i ∧ (∀ j, j < i → ¬ stp L n (nI a) k N j) ∧ rM r.1 26 27 28 (cs L n (nI a) k i).2) ∧ ∀ b, b ≠ 16 → b ≠ 21 → b ≠ 26 → b ≠ 27 → b ≠ 28 → r.1 b = I b) := by
  obtain ⟨h1, h2, hn, h4, h5, h6, h7, h8, h9⟩ := id h
  unfold h_X1_holdCouncils
  have e10 : I 1 0 = nI n := by rw [h6.1, h4]
  rw [if_pos (by rw [e10]; exact i_le (a := 1) rfl rfl (by omega) (by omega)), h9, p_bs]
  refine wp_seq (P := fun q : Int32 × Int32 × v_I × v_J => (∃ i, stp L n (nI a) k N i ∧ (∀ j, j < i → ¬ stp L n (nI a) k N j) ∧ rM q.2.2.1 26 27 28 (cs L n (nI a) k i).2) ∧ ∀ b, b ≠ 16 → b ≠ 21 → b ≠ 26 → b ≠ 27 → b ≠ 28 → q.2.2.1 b = I b) ?_ fun q hq => wp_some.mpr hq
  refine wp_lp (fun i (t : Int32 × Int32 × v_I × v_J) => t.1 = (cs L n (nI a) k i).1 ∧ t.2.1 = nI i ∧ rM t.2.2.1 26 27 28 (cs L n (nI a) k i).2 ∧ (∀ b, b ≠ 16 → b ≠ 21 → b ≠ 26 → b ≠ 27 → b ≠ 28 → t.2.2.1 b = I b) ∧ ∀ j, j < i → ¬ stp L n (nI a) k N j) N (by omega) ⟨rfl, rfl, hM, fun _ _ _ _ _ _ => rfl, fun j hj => absurd hj (Nat.not_lt_zero _)⟩ ?_
  rintro i ⟨s, c, I', J'⟩ hi ⟨u1, u2, u3, u4, u5⟩
  dsimp only at u1 u2 u3 u4 u5
  subst u2
  unfold h_X1_holdCouncils_B21
  dsimp only
  by_cases hNi : N ≤ i
  · rw [if_pos (nI_le hNi (by omega))]
    exact wp_some.mpr ⟨⟨i, .inl hNi, u5, u3⟩, u4⟩
  rw [if_neg (nI_ge (by omega) (by omega))]
  by_cases h999 : 999 ≤ (cs L n (nI a) k i).2 17
  · rw [if_pos (by rw [u3.2.1]; exact h999)]
    exact wp_some.mpr ⟨⟨i, .inr h999, u5, u3⟩, u4⟩
  rw [if_neg (by rw [u3.2.1]; exact h999)]
  obtain ⟨⟨b, hb, eb⟩, hB', hg⟩ := cs_ok (L := L) (k := k) hn hn0 ha h5 i
  obtain ⟨b1, hb1, e1⟩ := nd_ok hb
  obtain ⟨c, hc, ec⟩ := rm_ok (show b1 < 2 ^ 31 by omega) hn0 (show n < 2 ^ 31 by omega)
  have hcs : cs L n (nI a) k (i + 1) = (nd (nd (nd (cs L n (nI a) k i).1)), mn L n 0 (act (nI n) (cs L n (nI a) k i).1 (cs L n (nI a) k i).2)) := rfl
  have hrm : rm (nd (cs L n (nI a) k i).1) (nI n) = nI c := by rw [eb, e1]; exact ec
  have ac := act_ok (n := n) (s := (cs L n (nI a) k i).1) (show c < 8 by omega) hrm hB'
  rw [u1]
  generalize hs : (cs L n (nI a) k i).1 = s' at *
  generalize hkk : (cs L n (nI a) k i).2 = kk at *
  have d1 : ∀ x, h_X1_nextDraw x = some (nd x) := fun x => rfl
  rw [d1, p_bs, show I' 1 0 = nI n by rw [u4 1 (by omega) (by omega) (by omega) (by omega) (by omega), e10], nz_n hn0 hn, p_bs, p_le, d1, p_bs, p_le, d1, p_bs]
  rw [show nd s' - nd s' / nI n * nI n = nI c from hrm]
  have j135 : ∀ I1 : v_I, rM I1 26 27 28 (act (nI n) s' kk) → (∀ b, b ≠ 26 → b ≠ 27 → b ≠ 28 → I1 b = I' b) → wp (h_X1_holdCouncils_J21_135 26 27 28 S F (nI N) lw I1 J' (nd (nd (nd s'))) (nI i)) (v_K (fun (t : Int32 × Int32 × v_I × v_J) => i < N ∧ t.1 = (cs L n (nI a) k (i + 1)).1 ∧ t.2.1 = nI (i + 1) ∧ rM t.2.2.1 26 27 28 (cs L n (nI a) k (i + 1)).2 ∧ (∀ b, b ≠ 16 → b ≠ 21 → b ≠ 26 → b ≠ 27 → b ≠ 28 → t.2.2.1 b = I b) ∧ ∀ j, j < i + 1 → ¬ stp L n (nI a) k N j) (fun q : Int32 × Int32 × v_I × v_J => (∃ i, stp L n (nI a) k N i ∧ (∀ j, j < i → ¬ stp L n (nI a) k N j) ∧ rM q.2.2.1 26 27 28 (cs L n (nI a) k i).2) ∧ ∀ b, b ≠ 16 → b ≠ 21 → b ≠ 26 → b ≠ 27 → b ≠ 28 → q.2.2.1 b = I b)) := by
    intro I1 hM1 hI1
    unfold h_X1_holdCouncils_J21_135
    have ge : ∀ z, 18 ≤ z → act (nI n) s' kk z = k z := fun z hz => by rw [ac.2 z hz, hg z hz]
    have hS1 : rS I1 (act (nI n) s' kk) := by
      have r : ∀ b, b ≠ 16 → b ≠ 21 → b ≠ 26 → b ≠ 27 → b ≠ 28 → I1 b = I b := fun b a1 a2 a3 a4 a5 => by rw [hI1 b a3 a4 a5, u4 b a1 a2 a3 a4 a5]
      unfold rS
      rw [r 1 (by omega) (by omega) (by omega) (by omega) (by omega), r 5 (by omega) (by omega) (by omega) (by omega) (by omega), r 6 (by omega) (by omega) (by omega) (by omega) (by omega)]
      obtain ⟨s1, s2, s3, s4, s5⟩ := h6
      exact ⟨by rw [ge _ (by omega)]; exact s1, fun z hz => by rw [ge _ (by omega)]; exact s2 z hz, fun z hz => by rw [ge _ (by omega)]; exact s3 z hz, by rw [ge _ (by omega)]; exact s4, by rw [ge _ (by omega)]; exact s5⟩
    have hL1 : rLw S I1 F lw (act (nI n) s' kk) L := rLw_k (fun z hz => ge z (by omega)) (rLw_fr (fun b hb => by rw [hI1 b (by omega) (by omega) (by omega), u4 b (by omega) (by omega) (by omega) (by omega) (by omega)]) h8)
    refine wp_seq (c_min (hd := 0) J' mB_drawn hS1 hM1 ac.1 hL1 hn (by rw [ge _ (by omega)]; exact h4) (by omega)) fun r hr => ?_
    obtain ⟨r1, r2, -, -⟩ := hr
    rw [p_le]
    refine wp_some.mpr ⟨by omega, ?_, (nI_succ i).symm, ?_, fun b a1 a2 a3 a4 a5 => ?_, fun j hj => ?_⟩
    · rw [hcs]
    · rw [hcs]; exact r1
    · dsimp only
      rw [r2 b a1 a2 a3 a4 a5, hI1 b a3 a4 a5, u4 b a1 a2 a3 a4 a5]
    · by_cases ej : j = i
      · rw [ej]
        intro q
        rcases q with q | q
        · exact hNi q
        · rw [hkk] at q; exact h999 q
      · exact u5 j (by omega)
  obtain ⟨⟨x1, I1, a1, a2, a3⟩, ⟨I2, b1', b2', b3'⟩, hw⟩ := c_act (S := S) (F := F) mB_drawn u3 (show c < 8 by omega)
  obtain ⟨x3, I3, c1, c2, c3⟩ := hw (rm (nd (nd s')) 10)
  have hact : act (nI n) s' kk = if rm (nd (nd (nd s'))) 4 = 0 then kup (kup kk 0 (kk 0 &&& (((1 : Int32) <<< (nI c &&& 31)) ^^^ -1))) (9 + c) 0 else if rm (nd (nd (nd s'))) 4 = 1 then kup kk 0 (kk 0 ||| ((1 : Int32) <<< (nI c &&& 31))) else if rm (nd (nd (nd s'))) 4 = 2 then kup kk (1 + c) (rm (nd (nd s')) 10) else kk := by
    unfold act
    rw [hrm, nI_clamp (by omega)]
  show wp (if rm (nd (nd (nd s'))) 4 = 0 then _ else if rm (nd (nd (nd s'))) 4 = 1 then _ else if rm (nd (nd (nd s'))) 4 = 2 then _ else _) _
  by_cases g0 : rm (nd (nd (nd s'))) 4 = 0
  · rw [if_pos g0] at hact ⊢
    rw [a1, p_bs]
    exact j135 I1 (by rw [hact]; exact a2) a3
  rw [if_neg g0] at hact ⊢
  by_cases g1 : rm (nd (nd (nd s'))) 4 = 1
  · rw [if_pos g1] at hact ⊢
    rw [b1', p_bs]
    exact j135 I2 (by rw [hact]; exact b2') b3'
  rw [if_neg g1] at hact ⊢
  by_cases g2 : rm (nd (nd (nd s'))) 4 = 2
  · rw [if_pos g2] at hact ⊢
    rw [show nd (nd s') - nd (nd s') / 10 * 10 = rm (nd (nd s')) 10 from rfl, c1, p_bs]
    exact j135 I3 (by rw [hact]; exact c2) c3
  rw [if_neg g2] at hact ⊢
  exact j135 I' (by rw [hact]; exact u3) (fun _ _ _ _ => rfl)
theorem m_draws {I : v_I} {s p : Int32} (hs : I 49 47 = s) (hp : p_nz32 p = some ()) : h_X10_draws I p = some (rm (nd s) p, v_up I 49 47 (nd s)) := by
  unfold h_X10_draws
  rw [p_le, hs, hp, p_bs, Int64.mul_comm, w_at]
  rfl
theorem m_dact {I : v_I} {n c : Nat} {s : Int32} (hn : n ≤ 8) (hn0 : 0 < n) (ek : I 51 49 = nI n) (hs : I 49 47 = s) (hc : c < 8) (hrm : rm (nd s) (nI n) = nI c) : wp (h_X10_drawnAct I) (fun I1 => I1 51 = act (nI n) s (I 51) ∧ I1 49 47 = nd (nd (nd s)) ∧ ∀ a j, a ≠ 51 → ¬ (a = 49 ∧ j = 47) → I1 a j = I a j) := by
  unfold h_X10_drawnAct h_X10_many
  rw [p_bs, ek, m_draws hs (nz_n hn0 hn), p_bs]
  dsimp only
  rw [m_draws (s := nd s) (by rw [w_at]) (show p_nz32 10 = some () from rfl), p_bs]
  dsimp only
  rw [m_draws (s := nd (nd s)) (by rw [w_at]) (show p_nz32 4 = some () from rfl), p_bs]
  dsimp only
  have hw : ∀ (x y z : Int32), v_up (v_up (v_up I 49 47 x) 49 47 y) 49 47 z = v_up I 49 47 z := by
    intro x y z
    funext a j
    unfold v_up
    by_cases e : a = 49 ∧ j = 47
    · rw [if_pos e, if_pos e]
    · rw [if_neg e, if_neg e, if_neg e, if_neg e]
  rw [hw, hrm]
  have r51 : v_up I 49 47 (nd (nd (nd s))) 51 = I 51 := v_up_row _ 49 _ _ (by omega)
  have hact : act (nI n) s (I 51) = if rm (nd (nd (nd s))) 4 = 0 then kup (kup (I 51) 0 (I 51 0 &&& (((1 : Int32) <<< (nI c &&& 31)) ^^^ -1))) (9 + c) 0 else if rm (nd (nd (nd s))) 4 = 1 then kup (I 51) 0 (I 51 0 ||| ((1 : Int32) <<< (nI c &&& 31))) else if rm (nd (nd (nd s))) 4 = 2 then kup (I 51) (1 + c) (rm (nd (nd s)) 10) else I 51 := by
    unfold act
    rw [hrm, nI_clamp (by omega)]
  have fr : ∀ (j' : Nat) (x : Int32), (v_up (v_up I 49 47 (nd (nd (nd s)))) 51 j' x) 49 47 = nd (nd (nd s)) ∧ ∀ a j, a ≠ 51 → ¬ (a = 49 ∧ j = 47) → (v_up (v_up I 49 47 (nd (nd (nd s)))) 51 j' x) a j = I a j := by
    intro j' x
    refine ⟨by rw [v_up_row _ 51 _ _ (by omega), w_at], fun a j h1 h2 => ?_⟩
    rw [v_up_row _ 51 _ _ h1]
    unfold v_up
    rw [if_neg h2]
  by_cases g0 : rm (nd (nd (nd s))) 4 = 0
  · rw [if_pos g0] at hact ⊢
    unfold h_X10_touches
    rw [p_le, show (9 : Int32) + nI c = nI 9 + nI c from rfl, p_inA (c := 9) (k := c) rfl (by omega) (by omega), p_bs, p_le, p_bs, r51]
    refine wp_some.mpr ⟨by rw [v_up_k, v_up_k, r51, hact], by rw [v_up_row _ 51 _ _ (by omega)]; exact (fr 0 _).1, fun a j h1 h2 => ?_⟩
    rw [v_up_row _ 51 _ _ h1]; exact (fr 0 _).2 a j h1 h2
  rw [if_neg g0] at hact ⊢
  by_cases g1 : rm (nd (nd (nd s))) 4 = 1
  · rw [if_pos g1] at hact ⊢
    rw [p_le, r51]
    exact wp_some.mpr ⟨by rw [v_up_k, r51, hact], (fr 0 _).1, (fr 0 _).2⟩
  rw [if_neg g1] at hact ⊢
  by_cases g2 : rm (nd (nd (nd s))) 4 = 2
  · rw [if_pos g2] at hact ⊢
    rw [show (1 : Int32) + nI c = nI 1 + nI c from rfl, p_inA (c := 1) (k := c) rfl (by omega) (by omega), p_bs, p_le]
    exact wp_some.mpr ⟨by rw [v_up_k, r51, hact], (fr _ _).1, (fr _ _).2⟩
  rw [if_neg g2] at hact ⊢
  refine wp_some.mpr ⟨by rw [r51, hact], by rw [w_at], fun a j h1 h2 => ?_⟩
  unfold v_up
  rw [if_neg h2]
theorem m_hold {I : v_I} {n a N : Nat} {L : Option (List Cls)} {k : Nat → Int32} (h : mX I n L k) (hn0 : 0 < n) (ha : a ≤ 1000000) (hN : N ≤ 60) (hs : I 49 47 = nI a) :
    wp (v_loop (h_X10_councils_B60 (nI N)) FU (0, I)) (fun q => (∃ i, stp L n (nI a) k N i ∧ (∀ j, j < i → ¬ stp L n (nI a) k N j) ∧ q.2 51 = (cs L n (nI a) k i).2) ∧ ∀ b j, b ≠ 51 → b ≠ 61 → b ≠ 62 → ¬ (b = 49 ∧ ((22 ≤ j ∧ j ≤ 25) ∨ j = 47)) → q.2 b j = I b j) := by
  obtain ⟨h1, hn, h4, h5, h6⟩ := h
  refine wp_lp (fun i (t : Int32 × v_I) => t.1 = nI i ∧ t.2 51 = (cs L n (nI a) k i).2 ∧ t.2 49 47 = (cs L n (nI a) k i).1 ∧ (∀ b j, b ≠ 51 → b ≠ 61 → b ≠ 62 → ¬ (b = 49 ∧ ((22 ≤ j ∧ j ≤ 25) ∨ j = 47)) → t.2 b j = I b j) ∧ ∀ j, j < i → ¬ stp L n (nI a) k N j) N (by omega) ⟨rfl, h1, hs, fun _ _ _ _ _ _ => rfl, fun j hj => absurd hj (Nat.not_lt_zero _)⟩ ?_
  rintro i ⟨c, I'⟩ hi ⟨u1, u2, u3, u4, u5⟩
  dsimp only at u1 u2 u3 u4 u5
  subst u1
  unfold h_X10_councils_B60
  dsimp only
  by_cases hNi : N ≤ i
  · rw [if_pos (nI_le hNi (by omega))]
    exact wp_some.mpr ⟨⟨i, .inl hNi, u5, u2⟩, u4⟩
  rw [if_neg (nI_ge (by omega) (by omega))]
  by_cases h999 : 999 ≤ (cs L n (nI a) k i).2 17
  · rw [if_pos (by rw [u2]; exact h999)]
    exact wp_some.mpr ⟨⟨i, .inr h999, u5, u2⟩, u4⟩
  rw [if_neg (by rw [u2]; exact h999)]
  obtain ⟨⟨b, hb, eb⟩, hB', hg⟩ := cs_ok (L := L) (k := k) hn hn0 ha h5 i
  obtain ⟨b1, hb1, e1⟩ := nd_ok hb
  obtain ⟨c, hc, ec⟩ := rm_ok (show b1 < 2 ^ 31 by omega) hn0 (show n < 2 ^ 31 by omega)
  have hrm : rm (nd (cs L n (nI a) k i).1) (nI n) = nI c := by rw [eb, e1]; exact ec
  have ac := act_ok (n := n) (s := (cs L n (nI a) k i).1) (show c < 8 by omega) hrm hB'
  have ge : ∀ z, 18 ≤ z → act (nI n) (cs L n (nI a) k i).1 (cs L n (nI a) k i).2 z = k z := fun z hz => by rw [ac.2 z hz, hg z hz]
  refine wp_seq (m_dact hn hn0 (by rw [u2, hg _ (by omega)]; exact h4) u3 (show c < 8 by omega) hrm) fun I1 hI1 => ?_
  obtain ⟨v1, v2, v3⟩ := hI1
  rw [u2] at v1
  have hL1 : mLw (I1 51) L := by
    rw [v1]
    rcases h6 with ⟨q1, q2⟩ | ⟨D, f, q1, q2, q3, q4⟩
    · exact .inl ⟨q1, by rw [ge _ (by omega)]; exact q2⟩
    · exact .inr ⟨D, f, q1, q2, by rw [ge _ (by omega)]; exact q3, tk_fr (fun z hz => ge z (by omega)) q4⟩
  refine wp_seq (m_min (hd := 0) hL1 (by rw [v1]; exact ac.1) hn (by rw [v1, ge _ (by omega)]; exact h4) (by omega)) fun r hr => ?_
  obtain ⟨-, r2, r3⟩ := hr
  rw [p_le]
  refine wp_some.mpr ⟨by omega, (nI_succ i).symm, ?_, ?_, fun b j c1 c2 c3 c4 => ?_, fun j hj => ?_⟩
  · dsimp only
    rw [r2, v1]; rfl
  · dsimp only
    rw [r3 49 47 (by omega) (by omega) (by omega) (by omega), v2]; rfl
  · dsimp only
    rw [r3 b j c1 c2 c3 (by omega), v3 b j c1 (by omega)]; exact u4 b j c1 c2 c3 c4
  · by_cases ej : j = i
    · rw [ej]
      intro q
      rcases q with q | q
      · exact hNi q
      · exact h999 q
    · exact u5 j (by omega)
theorem stp_eq {P : Nat → Prop} {i j : Nat} (hi : P i) (ni : ∀ z, z < i → ¬ P z) (hj : P j) (nj : ∀ z, z < j → ¬ P z) : i = j := by
  rcases Nat.lt_trichotomy i j with q | q | q
  · exact absurd hi (nj i q)
  · exact q
  · exact absurd hj (ni j q)
theorem ok_35 {S : v_S} {I : v_I} {J : v_J} {F : v_F} (h : R S I J F) : op_35 R S I J F := by
  intro p w
  simp only [s_X9_councils h.1 h.2.1, s_X10_councils h.1 h.2.1]
  obtain ⟨n, lw, L, hX⟩ := R_cX h
  obtain ⟨h1, h2, hn, h4, h5, h6, h7, h8, h9⟩ := id hX
  have bad1 : h_X9_councils S I J F p w = h_X9_councils_J22 S F I J → (∀ I' : v_I, h_X10_councils I' p w = h_X10_councils_J20 I') → ∃ (r : Int32 × v_I × v_J) (q : Int32 × v_I), h_X9_councils S I J F p w = some r ∧ h_X10_councils r.2.1 p w = some q ∧ r.1 = q.1 ∧ p_SS S ∧ R S q.2 r.2.2 F := by
    intro e1 e2
    obtain ⟨I1, I2, a1, a2, a3⟩ := R_ref1 (J' := J) h
    refine ⟨(-1, I1, J), (-1, I2), ?_, ?_, rfl, h.1, a3⟩
    · rw [e1]; unfold h_X9_councils_J22; rw [a1, p_bs]
    · rw [e2]; unfold h_X10_councils_J20; rw [a2, p_bs]
  have lw60 : h_X10_lies w 1 60 = some (if 1 ≤ w ∧ w ≤ 60 then 1 else 0) := b_lies w 1 60
  rcases upTo_cases p (q := 1000000) (m := 1000000) rfl (by omega) with ⟨a, ha, rfl, u1, u2⟩ | ⟨u1, u2, _⟩
  · by_cases hw : 1 ≤ w ∧ w ≤ 60
    · rw [if_pos hw] at lw60
      obtain ⟨N, hN, rfl⟩ := i_le_of (n := 60) rfl (by omega) (Int32.le_trans (by decide) hw.1) hw.2
      by_cases hn0 : n = 0
      · subst hn0
        obtain ⟨I1, I2, a1, a2, a3⟩ := R_ref3 (J' := J) h
        have e51 : I1 51 = I 51 := by
          have : I1 = v_up (v_up I 0 14 (-3)) 48 2 (I 48 2 + 1) := by
            have := c_ref3 S I F
            rw [a1] at this; cases this; rfl
          rw [this, v_up_row _ 48 _ _ (by omega), v_up_row _ 0 _ _ (by omega)]
        refine ⟨(-3, I1, J), (-3, I2), ?_, ?_, rfl, h.1, a3⟩
        · unfold h_X9_councils
          rw [u1, p_bs, if_neg (by decide), if_neg (fun q => absurd q (Int32.not_lt.mpr hw.1)), if_pos hw.2, if_pos (by rw [R_many h hX]; rfl), a1, p_bs]
        · show h_X10_councils I1 (nI a) (nI N) = _
          unfold h_X10_councils h_X10_many
          rw [u2, p_bs, if_neg (by decide), lw60, p_bs, if_neg (by decide), p_bs, if_pos (by rw [e51, h4]; rfl), a2, p_bs]
      · have n0 : 0 < n := by omega
        obtain ⟨I1, b1, b2, b3, b4⟩ := c_copy (I := I) (p_MoC h1 h2 26 27 28 rfl rfl rfl (by decide) (by decide)) (mo_now h1 h2) (by omega) (by omega) (by omega) (by omega) (by omega) (by omega) (by omega)
        have hX1 : cX S (v_up I1 0 6 (I1 1 0)) F n lw L (I 51) := cX_fr1 (fun z hz => by rw [v_up_row _ 0 _ _ (by omega), b3 z (by omega) (by omega) (by omega)]) hX
        have hM1 : rM (v_up I1 0 6 (I1 1 0)) 26 27 28 (I 51) := rM_fr (v_up_row I1 0 6 (I1 1 0) (by omega)) (v_up_row I1 0 6 (I1 1 0) (by omega)) (v_up_row I1 0 6 (I1 1 0) (by omega)) (b2 _ h7)
        obtain ⟨⟨I2, J2⟩, c1, ⟨i, si, ni, c2⟩, c3⟩ := c_hold J hX1 n0 ha hN hM1
        dsimp only at c2 c3
        have cl : h_X9_councils S I J F (nI a) (nI N) = some ((cs L n (nI a) (I 51) i).2 0, v_up I2 0 14 0, J2) := by
          unfold h_X9_councils
          rw [u1, p_bs, if_neg (by decide), if_neg (fun q => absurd q (Int32.not_lt.mpr hw.1)), if_pos hw.2, if_neg (by rw [R_many h hX]; exact fun q => hn0 ((i_eqI (b := 0) rfl rfl (by omega) (by omega)).mp q)), b1, p_bs, p_le, c1, p_bs]
          dsimp only
          rw [c_accept, p_bs, c2.1]
        have hC : ∀ z, z ≠ 16 → z ≠ 21 → z ≠ 26 → z ≠ 27 → z ≠ 28 → z ≠ 0 → v_up I2 0 14 0 z = I z := by
          intro z q1 q2 q3 q4 q5 q6
          rw [v_up_row _ 0 _ _ q6, c3 z q1 q2 q3 q4 q5, v_up_row _ 0 _ _ q6, b3 z q3 q4 q5]
        have hC0 : ∀ j, j ≠ 14 → v_up I2 0 14 0 0 j = if j = 6 then nI n else I 0 j := by
          intro j hj
          rw [w_ne _ _ _ _ hj, c3 0 (by omega) (by omega) (by omega) (by omega) (by omega)]
          by_cases e6 : j = 6
          · rw [if_pos e6, e6, w_at, b3 1 (by omega) (by omega) (by omega), R_many h hX]
          · rw [if_neg e6, w_ne _ _ _ _ e6, b3 0 (by omega) (by omega) (by omega)]
        generalize hI3 : v_up I2 0 14 0 = I3 at cl hC hC0
        have i51 : I3 51 = I 51 := hC 51 (by omega) (by omega) (by omega) (by omega) (by omega) (by omega)
        have m3 : rM I3 26 27 28 (cs L n (nI a) (I 51) i).2 := by
          rw [← hI3]
          exact rM_fr (v_up_row I2 0 14 0 (by omega)) (v_up_row I2 0 14 0 (by omega)) (v_up_row I2 0 14 0 (by omega)) c2
        -- the model
        have md : wp (h_X10_councils I3 (nI a) (nI N)) (fun q => q.1 = (cs L n (nI a) (I 51) i).2 0 ∧ q.2 49 46 = nI n ∧ q.2 49 0 = 0 ∧ (∀ z, z < 18 → q.2 71 z = (cs L n (nI a) (I 51) i).2 z) ∧ ∀ b j, b ≠ 54 → b ≠ 61 → b ≠ 62 → b ≠ 71 → ¬ (b = 49 ∧ (j = 0 ∨ (22 ≤ j ∧ j ≤ 25) ∨ j = 46 ∨ j = 47)) → q.2 b j = I3 b j) := by
          unfold h_X10_councils h_X10_many
          rw [u2, p_bs, if_neg (by decide), lw60, p_bs, if_neg (by decide), p_bs, if_neg (by rw [i51, h4]; exact fun q => hn0 ((i_eqI (b := 0) rfl rfl (by omega) (by omega)).mp q)), p_le, p_bs, p_le]
          rw [v_up_row _ 49 _ _ (show (51 : Nat) ≠ 49 by omega), i51, h4]
          refine wp_seq (m_aside (I := v_up (v_up I3 49 47 (nI a)) 49 46 (nI n)) (q := 0) (by omega)) fun I4 hI4 => ?_
          obtain ⟨d1, d2⟩ := hI4
          have k51 : I4 51 = I 51 := by
            funext j
            rw [d2 51 j (by omega), v_up_row _ 49 _ _ (by omega), v_up_row _ 49 _ _ (by omega), i51]
          refine wp_seq (m_hold (n := n) (L := L) (k := I 51) (a := a) (N := N) ⟨k51, hn, h4, h5, rLw_m h8⟩ n0 ha hN (by rw [d2 49 47 (by omega), w_ne _ _ _ _ (by omega), w_at])) fun q hq => ?_
          obtain ⟨⟨i', si', ni', q51⟩, qf⟩ := hq
          have : i' = i := stp_eq si' ni' si ni
          subst this
          unfold h_X10_councils_J94
          rw [p_le]
          have cp : wp (v_loop (h_X10_councils_B104 (q.2 51 0)) FU (0, q.2)) (fun t => (∀ z, z < 18 → t.2 71 z = q.2 51 z) ∧ ∀ b, b ≠ 71 → t.2 b = q.2 b) := by
            refine wp_lp (fun i (t : Int32 × v_I) => t.1 = nI i ∧ (∀ z, z < i → t.2 71 z = q.2 51 z) ∧ ∀ b, b ≠ 71 → t.2 b = q.2 b) 18 (by omega) ⟨rfl, fun z hz => absurd hz (Nat.not_lt_zero _), fun _ _ => rfl⟩ ?_
            rintro j ⟨c, I'⟩ hj ⟨g1, g2, g3⟩
            dsimp only at g1 g2 g3
            subst g1
            unfold h_X10_councils_B104
            dsimp only
            by_cases h18 : j = 18
            · rw [if_pos (show (18 : Int32) ≤ nI j from i_le (a := 18) rfl rfl (by omega) (by omega))]
              exact wp_some.mpr ⟨fun z hz => g2 z (by omega), g3⟩
            rw [if_neg (show ¬ (18 : Int32) ≤ nI j from i_nle (a := 18) rfl rfl (by omega) (by omega)), p_in_nI (by omega) (by omega), p_bs, p_in_nI (by omega) (by omega), p_bs, p_le, p_le]
            refine wp_some.mpr ⟨by omega, (nI_succ j).symm, fun z hz => ?_, fun b hb => ?_⟩
            · dsimp only
              by_cases e : z = j
              · subst e; rw [w_at, g3 51 (by omega)]
              · rw [w_ne _ _ _ _ e]; exact g2 z (by omega)
            · dsimp only
              rw [v_up_row _ 71 _ _ hb]; exact g3 b hb
          refine wp_seq cp fun t ht => ?_
          obtain ⟨t1, t2⟩ := ht
          refine wp_seq (m_back (I := t.2) (q := 0) (by omega)) fun I5 hI5 => ?_
          obtain ⟨f1, f2⟩ := hI5
          rw [m_good, p_bs]
          refine wp_some.mpr ⟨by dsimp only; rw [q51], ?_, by dsimp only; rw [w_at], fun z hz => ?_, fun b j x1 x2 x3 x4 x5 => ?_⟩
          · dsimp only
            rw [w_ne _ _ _ _ (by omega), f2 49 46 (by omega), t2 49 (by omega), qf 49 46 (by omega) (by omega) (by omega) (by omega), d2 49 46 (by omega), w_at]
          · dsimp only
            rw [v_up_row _ 49 _ _ (by omega), f2 71 z (by omega), t1 z hz, q51]
          · dsimp only
            by_cases e51 : b = 51
            · subst e51
              rw [v_up_row _ 49 _ _ (by omega)]
              by_cases hj : j < 18
              · rw [f1 j hj, t2 54 (by omega), qf 54 _ (by omega) (by omega) (by omega) (by omega), d1 j hj, v_up_row _ 49 _ _ (by omega), v_up_row _ 49 _ _ (by omega)]
              · rw [f2 51 j (by omega), t2 51 (by omega), q51, (cs_ok (L := L) (k := I 51) hn n0 ha h5 i').2.2 j (by omega), i51]
            · have r1 : v_up I5 49 0 0 b j = I5 b j := by
                by_cases e : b = 49
                · subst e; rw [w_ne _ _ _ _ (by omega)]
                · rw [v_up_row _ 49 _ _ e]
              rw [r1, f2 b j (by omega), t2 b x4, qf b j e51 x2 x3 (by omega), d2 b j (by omega)]
              by_cases e : b = 49
              · subst e; rw [w_ne _ _ _ _ (by omega), w_ne _ _ _ _ (by omega)]
              · rw [v_up_row _ 49 _ _ e, v_up_row _ 49 _ _ e]
        obtain ⟨⟨x, I4⟩, e1, e2, e3, e4, e5, e6⟩ := md
        dsimp only at e2 e3 e4 e5 e6
        refine ⟨_, _, cl, e1, e2.symm, h.1, ?_⟩
        dsimp only
        have row : ∀ b, b ≠ 0 → b ≠ 16 → b ≠ 21 → b ≠ 26 → b ≠ 27 → b ≠ 28 → b ≠ 54 → b ≠ 61 → b ≠ 62 → b ≠ 71 → b ≠ 49 → I4 b = I b := fun b z0 z1 z2 z3 z4 z5 z6 z7 z8 z9 z10 => funext fun j => by rw [e6 b j z6 z7 z8 z9 (by omega), hC b z1 z2 z3 z4 z5 z0]
        have r0 : ∀ j, j ≠ 14 → I4 0 j = if j = 6 then nI n else I 0 j := fun j hj => by rw [e6 0 j (by omega) (by omega) (by omega) (by omega) (by omega), hC0 j hj]
        have r014 : I4 0 14 = 0 := by rw [e6 0 14 (by omega) (by omega) (by omega) (by omega) (by omega), ← hI3, w_at]
        have r49 : ∀ j, j ≠ 0 → ¬ (22 ≤ j ∧ j ≤ 25) → j ≠ 46 → j ≠ 47 → I4 49 j = I 49 j := fun j y1 y2 y3 y4 => by rw [e6 49 j (by omega) (by omega) (by omega) (by omega) (by omega), hC 49 (by omega) (by omega) (by omega) (by omega) (by omega) (by omega)]
        have rw' := row
        refine R_mk h (fun b hb => row b (by omega) (by omega) (by omega) (by omega) (by omega) (by omega) (by omega) (by omega) (by omega) (by omega) (by omega)) ?_ ?_ ?_ ?_ ?_ (row 55 (by omega) (by omega) (by omega) (by omega) (by omega) (by omega) (by omega) (by omega) (by omega) (by omega) (by omega)) (row 52 (by omega) (by omega) (by omega) (by omega) (by omega) (by omega) (by omega) (by omega) (by omega) (by omega) (by omega)) (row 53 (by omega) (by omega) (by omega) (by omega) (by omega) (by omega) (by omega) (by omega) (by omega) (by omega) (by omega)) ?_ ?_ (.inr ⟨row 11 (by omega) (by omega) (by omega) (by omega) (by omega) (by omega) (by omega) (by omega) (by omega) (by omega) (by omega), r49 32 (by omega) (by omega) (by omega) (by omega), row 12 (by omega) (by omega) (by omega) (by omega) (by omega) (by omega) (by omega) (by omega) (by omega) (by omega) (by omega), row 63 (by omega) (by omega) (by omega) (by omega) (by omega) (by omega) (by omega) (by omega) (by omega) (by omega) (by omega), ?_⟩)
        · rw [row 51 (by omega) (by omega) (by omega) (by omega) (by omega) (by omega) (by omega) (by omega) (by omega) (by omega) (by omega)]
          exact rC_f h.2.2.1 (fun b y1 y2 => row b (by omega) (by omega) (by omega) (by omega) (by omega) (by omega) (by omega) (by omega) (by omega) (by omega) (by omega))
        · rw [row 51 (by omega) (by omega) (by omega) (by omega) (by omega) (by omega) (by omega) (by omega) (by omega) (by omega) (by omega)]
          exact h.2.2.2.1
        · have hT := h.2.2.2.2.1
          unfold rT
          rw [r0 8 (by omega), if_neg (by omega), r49 13 (by omega) (by omega) (by omega) (by omega), row 29 (by omega) (by omega) (by omega) (by omega) (by omega) (by omega) (by omega) (by omega) (by omega) (by omega) (by omega), row 56 (by omega) (by omega) (by omega) (by omega) (by omega) (by omega) (by omega) (by omega) (by omega) (by omega) (by omega)]
          exact hT
        · obtain ⟨o1, o2, o3, o4, o5, o6, o7, o8, o9⟩ := h.2.2.2.2.2.1
          have r48 := row 48 (by omega) (by omega) (by omega) (by omega) (by omega) (by omega) (by omega) (by omega) (by omega) (by omega) (by omega)
          have r50 := row 50 (by omega) (by omega) (by omega) (by omega) (by omega) (by omega) (by omega) (by omega) (by omega) (by omega) (by omega)
          unfold rO
          rw [r014, e4, r48, r50, r0 15 (by omega), if_neg (by omega), r0 16 (by omega), if_neg (by omega), r0 17 (by omega), if_neg (by omega), r49 6 (by omega) (by omega) (by omega) (by omega), r49 14 (by omega) (by omega) (by omega) (by omega), r49 38 (by omega) (by omega) (by omega) (by omega)]
          exact ⟨rfl, o2, o3, o4, o5, o6, o7, o8, o9⟩
        · refine ⟨⟨n, hn, by rw [r0 6 (by omega), if_pos rfl], .inr ⟨n0, e3⟩⟩, ?_⟩
          have g : ∀ b, b = 26 ∨ b = 27 ∨ b = 28 → I4 b = I3 b := fun b hb => funext fun j => e6 b j (by omega) (by omega) (by omega) (by omega) (by omega)
          obtain ⟨x1, x2, x3, x4⟩ := rM_fr (g 26 (by omega)) (g 27 (by omega)) (g 28 (by omega)) m3
          exact ⟨by rw [x1, e5 0 (by omega)], by rw [x2, e5 17 (by omega)], fun z hz => by rw [x3 z hz, e5 _ (by omega)], fun z hz => by rw [x4 z hz, e5 _ (by omega)]⟩
        · rw [row 51 (by omega) (by omega) (by omega) (by omega) (by omega) (by omega) (by omega) (by omega) (by omega) (by omega) (by omega)]
        · intro z hz
          rw [row 51 (by omega) (by omega) (by omega) (by omega) (by omega) (by omega) (by omega) (by omega) (by omega) (by omega) (by omega)]
        · rw [row 51 (by omega) (by omega) (by omega) (by omega) (by omega) (by omega) (by omega) (by omega) (by omega) (by omega) (by omega)]
    · rw [if_neg hw] at lw60
      refine bad1 ?_ ?_
      · unfold h_X9_councils
        rw [u1, p_bs, if_neg (by decide)]
        by_cases g : w < 1
        · rw [if_pos g]
        · rw [if_neg g, if_neg (fun q => hw ⟨Int32.not_lt.mp g, q⟩)]
      · intro I'
        unfold h_X10_councils
        rw [u2, p_bs, if_neg (by decide), lw60, p_bs, if_pos rfl]
  · refine bad1 ?_ ?_
    · unfold h_X9_councils
      rw [u1, p_bs, if_pos rfl]
    · intro I'
      unfold h_X10_councils
      rw [u2, p_bs, if_pos rfl]
end sp77
