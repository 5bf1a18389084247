noncomputable section sp98p
/-! the model goes along a CLAUSE of ORDERS -/
/-- all that it goes by -/
def Bo (I : v_I) (c v : Nat → Int32) (N n : Nat) (dn lt : Int32) : Prop :=
  N ≤ 400 ∧ (∀ p, p < N → c p = I 51 (60 + 2400 + p)) ∧ cz c N ∧ (∀ p, p < N → v p = I 51 (2860 + 2400 + p)) ∧ n ≤ 8 ∧ I 51 49 = nI n ∧ kB (I 51) ∧ I 49 27 = dn ∧ I 49 28 = lt
theorem Bo_up {I : v_I} {c v : Nat → Int32} {N n : Nat} {dn lt : Int32} (B : Bo I c v N n dn lt) {j : Nat} (hj : j ≠ 27 ∧ j ≠ 28) (x : Int32) : Bo (v_up I 49 j x) c v N n dn lt := by
  unfold Bo
  rw [w_row _ _ _ _ (show (51 : Nat) ≠ 49 by decide), w_ne _ _ _ _ (fun e => hj.1 e.symm), w_ne _ _ _ _ (fun e => hj.2 e.symm)]
  exact B
theorem m_oneK {I : v_I} {n k : Nat} (hn : n ≤ 8) (h : I 51 49 = nI n) (hk : k < 8) : h_X10_isOne I (nI k) = some (if k < n then 1 else 0) := by
  rcases one_cases (nI k) hn with ⟨c, hc, e, _, u2⟩ | ⟨_, u2, u3⟩
  · have : k = c := (nI_eq (by omega) (by omega)).mp e
    rw [u2 I h, if_pos (by omega)]
  · rw [u2 I h, if_neg (fun e => u3 k e rfl)]
theorem Bo_Ev {I : v_I} {c v : Nat → Int32} {N n : Nat} {dn lt : Int32} (B : Bo I c v N n dn lt) (h23 : I 49 23 = nI (2400 + N)) (h25 : I 49 25 = 1) : Ev I c v true (ov n (I 51) dn lt) 2400 N := by
  obtain ⟨b1, b2, b3, b4, b5, b6, b7, b8, b9⟩ := B
  obtain ⟨o, ho, e0⟩ := id b7.1
  refine ⟨b1, by omega, h23, h25, b2, b3, b4, (fun e => by cases e), fun _ q b => ⟨fun x hx => ?_, fun x k hx hk => ?_⟩⟩
  · unfold h_X10_orderValue
    rcases hx with rfl | rfl | rfl | rfl
    · rw [if_neg (by decide), if_neg (by decide), if_pos rfl, gs_row _ _ _ (by decide), e0, b_ones ho, p_bs, ← pcI_nI ho, ← e0]; rfl
    · rw [if_neg (by decide), if_neg (by decide), if_neg (by decide), if_pos rfl, gs_row _ _ _ (by decide)]; rfl
    · rw [if_neg (by decide), if_neg (by decide), if_neg (by decide), if_neg (by decide), if_pos rfl, gs_ne _ _ _ (by omega), b8]; rfl
    · rw [if_neg (by decide), if_neg (by decide), if_neg (by decide), if_neg (by decide), if_neg (by decide), if_pos rfl, gs_ne _ _ _ (by omega), b9]; rfl
  · have h49 : gs I q b 51 49 = nI n := by rw [gs_row _ _ _ (by decide)]; exact b6
    unfold h_X10_orderValue
    rcases hx with rfl | rfl | rfl
    · rw [if_pos rfl, m_oneK b5 h49 hk, p_bs, show wi_one 13 + k = 12 + k from rfl, ov_12 n _ _ _ hk]
      by_cases z : k < n
      · rw [if_pos z, if_neg (by decide), if_pos z, show (1 : Int32) = nI 1 from rfl, nI_add, p_in_nI (by omega) (by decide), p_bs, gs_row _ _ _ (by decide)]
      · rw [if_neg z, if_pos rfl, if_neg z]
    · rw [if_neg (by decide), if_pos rfl, m_oneK b5 h49 hk, p_bs, show wi_one 14 + k = 20 + k from rfl, ov_20 n _ _ _ hk]
      by_cases z : k < n
      · rw [if_pos z, if_neg (by decide), if_pos z, show (9 : Int32) = nI 9 from rfl, nI_add, p_in_nI (by omega) (by decide), p_bs, gs_row _ _ _ (by decide)]
      · rw [if_neg z, if_pos rfl, if_neg z]
    · rw [if_neg (by decide), if_neg (by decide), if_neg (by decide), if_neg (by decide), if_neg (by decide), if_neg (by decide), if_pos rfl, m_oneK b5 h49 hk, p_bs, show wi_one 19 + k = 28 + k from rfl, ov_28 n _ _ _ hk]
      by_cases z : k < n
      · rw [if_pos z, if_neg (by decide), if_pos z, m_isOpen (by rw [gs_row _ _ _ (by decide)]; exact b7) hk, p_bs, gs_row _ _ _ (by decide)]
        cases bt (I 51 0) k
        · rfl
        · rfl
      · rw [if_neg z, if_pos rfl, if_neg z]
theorem gs_cm (X : v_I) (q : Nat) (b : Int32) {j : Nat} (h : j ≠ 22 ∧ j ≠ 24) (x : Int32) : v_up (gs X q b) 49 j x = gs (v_up X 49 j x) q b := by
  funext a i
  unfold gs v_up
  by_cases h1 : a = 49 ∧ i = j
  · rw [if_pos h1, if_neg (by omega), if_neg (by omega), if_pos h1]
  · rw [if_neg h1]
    by_cases h2 : a = 49 ∧ i = 24
    · rw [if_pos h2, if_pos h2]
    · rw [if_neg h2, if_neg h2]
      by_cases h3 : a = 49 ∧ i = 22
      · rw [if_pos h3, if_pos h3]
      · rw [if_neg h3, if_neg h3, if_neg h1]
theorem gs_at (X : v_I) (q : Nat) : v_up X 49 22 (nI q) = gs X q (X 49 24) := by
  unfold gs
  exact (up_id (w_ne _ _ _ _ (by decide))).symm
/-- one of its SUMS -/
theorem m_b76 {X : v_I} {c v : Nat → Int32} {N : Nat} {vals : Nat → Int32} (E : Ev X c v true vals 2400 N) {k z0 : Nat} (hk : k < 2) (hz : k < z0 ∧ z0 ≤ 2) {live : Int32} (hl : live = 0 ∨ live = 1) {p nn : Nat} {u : Nat × Nat × Den} (hs : sp_sum c v true 8 (p + k) nn = .inr u) (b : Int32) (J : v_J) :
    ∃ val, h_X10_goesAlong_B76 live (nI z0) (nI k, gs X (2400 + p) b, J) = some (.inl (nI (k + 1), gs (v_up X 49 42 (if X 49 42 = 0 then 0 else if nb live 0 (u.2.2 vals) = 0 then 1 else 0)) (2400 + u.1) (nb live 0 (u.2.2 vals)), v_up J 70 k val)) ∧ (live = 1 → ∀ x, u.2.2 vals = some x → val = x) := by
  have e97 : h_X10_goesAlong_B76 live (nI z0) (nI k, gs X (2400 + p) b, J) = h_X10_goesAlong_J76_97 live (nI z0) (gs X (2400 + (p + k)) b) J (nI k) := by
    unfold h_X10_goesAlong_B76
    dsimp only
    rw [if_neg (nI_ge hz.1 (by omega))]
    by_cases q : k = 0
    · subst q
      rw [if_pos (by decide), Nat.add_zero]
    · have : k = 1 := by omega
      subst this
      rw [if_neg (by decide), p_le, gs_inc]
      rfl
  rw [e97]
  unfold h_X10_goesAlong_J76_97 h_X10_goesAlong_J76_133 h_X10_goesAlong_J76_134
  rw [p_le, gs_br]
  obtain ⟨r, r1, r2, _, r3⟩ := okE_sum E 8 GNN (by rw [GN_eq]; omega) (p + k) nn u hs live 0 hl (.inl rfl)
  dsimp only at r1
  rw [r1, p_bs, p_in_nI hk (by decide), p_bs, p_le, r2, gs_24, gs_ne _ _ _ (by omega)]
  refine ⟨r.1, ?_, fun h1 x hx => r3 h1 rfl x hx⟩
  simp only [p_le, gs_cm _ _ _ (show (42 : Nat) ≠ 22 ∧ (42 : Nat) ≠ 24 by decide), show p_bl 0 = some () from rfl, show p_bl 1 = some () from rfl, p_bs, ← nI_succ]
  by_cases h1 : X 49 42 = 0
  · rw [if_pos h1, if_pos h1]
  · rw [if_neg h1, if_neg h1]
    by_cases h2 : nb live 0 (u.2.2 vals) = 0
    · rw [if_pos h2, if_pos h2]
    · rw [if_neg h2, if_neg h2]
theorem m_b76x {live : Int32} {z0 k : Nat} (h : z0 ≤ k) (hk : k < 10) (I : v_I) (J : v_J) : h_X10_goesAlong_B76 live (nI z0) (nI k, I, J) = some (.inr (nI k, I, J)) := by
  unfold h_X10_goesAlong_B76
  dsimp only
  rw [if_pos (nI_le h (by omega))]
def fgo (I I' : v_I) : Prop := ∀ a j, ¬ (a = 49 ∧ ((22 ≤ j ∧ j ≤ 25) ∨ (40 ≤ j ∧ j ≤ 43))) → I' a j = I a j
theorem fgo_gs {I X : v_I} (h : fgo I X) (q : Nat) (b : Int32) : fgo I (gs X q b) := fun a j n => by rw [gs_ne _ _ _ (by omega)]; exact h a j n
theorem fgo_up {I X : v_I} (h : fgo I X) {j : Nat} (hj : (22 ≤ j ∧ j ≤ 25) ∨ (40 ≤ j ∧ j ≤ 43)) (x : Int32) : fgo I (v_up X 49 j x) := fun a i n => by rw [v_up_ne _ _ (by omega)]; exact h a i n
/-- how often; its TEST -/
theorem m_tail {X : v_I} {c v : Nat → Int32} {N n : Nat} {dn lt : Int32} (B : Bo X c v N n dn lt) (h23 : X 49 23 = nI (2400 + N)) (h25 : X 49 25 = 1) {live : Int32} (hl : live = 0 ∨ live = 1) {p nn : Nat} {kd : Int32} {a b : Option Den} {r : Nat × Nat × Cls} (ht : sp_times c v p nn kd a b = .inr r) (hp : p ≤ N) (br : Int32) (J : v_J) :
    ∃ X' bb, ((h_X10_passes0 (v_up (gs X (2400 + p) br) 49 40 1) (25 : Int32)).bind fun r_39 => if r_39.1 = (0 : Int32) then h_X10_goesAlong_J184 r_39.2 J live else (p_in 5660 ((2860 : Int32) + (r_39.2 49 22))).bind fun j_60 => p_let (v_up r_39.2 49 40 (r_39.2 51 j_60)) fun I_61 => p_let (v_up I_61 49 22 ((I_61 49 22) + (1 : Int32))) fun I_63 => h_X10_goesAlong_J184 I_63 J live) = some (gs X' (2400 + (r.1 + 1)) bb, J)
      ∧ X' 49 40 = r.2.2.2.2.2.2 ∧ (∀ j, j ≠ 40 → j ≠ 43 → X' 49 j = X 49 j) ∧ (∀ a, a ≠ 49 → X' a = X a) ∧ (live = 1 → X' 49 43 = if d_holds (ov n (X 51) dn lt) r.2.2.2.2.2.1 = true then 1 else 0) ∧ r.1 ≤ N := by
  -- its TEST
  have T : ∀ (Y : v_I) (p' : Nat) (t : Int32), Bo Y c v N n dn lt → Y 49 23 = nI (2400 + N) → Y 49 25 = 1 → Y 51 = X 51 → p' ≤ N → ∀ br', sp_if c v true p' nn kd a b t = .inr r → ∃ z bb, h_X10_goesAlong_J184 (gs Y (2400 + p') br') J live = some (gs (v_up Y 49 43 z) (2400 + (r.1 + 1)) bb, J) ∧ (live = 1 → z = if d_holds (ov n (X 51) dn lt) r.2.2.2.2.2.1 = true then 1 else 0) ∧ r.1 ≤ N ∧ r.2.2.2.2.2.2 = t := by
    intro Y p' t BY y23 y25 y51 hp' br' hif
    have E := Bo_Ev BY y23 y25
    rw [y51] at E
    have hN := BY.1
    have fin : ∀ (q : Nat) (bb z : Int32), (z = 0 ∨ z = 1) → h_X10_goesAlong_J211 (gs Y (2400 + q) bb) J z = some (gs (v_up Y 49 43 (if z = 0 then 0 else if bb = 0 then 1 else 0)) (2400 + (q + 1)) bb, J) := by
      intro q bb z hz
      have hbl : p_bl z = some () := by unfold p_bl; rw [if_pos hz]
      unfold h_X10_goesAlong_J211 h_X10_goesAlong_J233 h_X10_goesAlong_J234
      rw [hbl, p_bs, p_le, w_at]
      simp only [gs_cm _ _ _ (show (43 : Nat) ≠ 22 ∧ (43 : Nat) ≠ 24 by decide), gs_24, show p_bl 0 = some () from rfl, show p_bl 1 = some () from rfl, p_bs, p_le, gs_inc, up_up]
      by_cases h1 : z = 0
      · rw [if_pos h1, if_pos h1]; rfl
      · rw [if_neg h1, if_neg h1]
        by_cases h2 : bb = 0
        · rw [if_pos h2, if_pos h2]; rfl
        · rw [if_neg h2, if_neg h2]; rfl
    unfold h_X10_goesAlong_J184 h_X10_goesAlong_J206
    rw [p_le, gs_br, ev_pass E _ (by omega), p_bs]
    unfold sp_if at hif
    by_cases q : c p' = 4
    · rw [if_pos q] at hif ⊢
      dsimp only
      rw [if_neg (by decide)]
      cases h2 : sp_test c v true 8 (p' + 1) nn with
      | inl e => rw [h2] at hif; cases hif
      | inr u =>
        rw [h2] at hif
        cases hif
        obtain ⟨s, s1, s2, s3, s4⟩ := okE_test E GN_eq 8 GNN (by omega) (by rw [GN_eq]; omega) (p' + 1) nn u h2 live 0 hl (.inl rfl)
        dsimp only at s1
        rw [s1, p_bs, s2]
        have mu := mo_test (v := v) (o := true) BY.2.2.1 8 _ _ _ h2
        have both : (if s.1 = (0 : Int32) then h_X10_goesAlong_J211 (gs Y (2400 + u.1) (nb live 0 (u.2.2 (ov n (X 51) dn lt)))) J 0 else h_X10_goesAlong_J211 (gs Y (2400 + u.1) (nb live 0 (u.2.2 (ov n (X 51) dn lt)))) J 1) = some (gs (v_up Y 49 43 (if s.1 = 0 then 0 else if nb live 0 (u.2.2 (ov n (X 51) dn lt)) = 0 then 1 else 0)) (2400 + (u.1 + 1)) (nb live 0 (u.2.2 (ov n (X 51) dn lt))), J) := by
          by_cases s0 : s.1 = 0
          · rw [if_pos s0, fin _ _ 0 (.inl rfl), if_pos rfl, if_pos s0]
          · rw [if_neg s0, fin _ _ 1 (.inr rfl), if_neg (by decide), if_neg s0]
        refine ⟨_, _, both, fun h1 => ?_, mu.2, rfl⟩
        subst h1
        show _ = if decide (u.2.2 (ov n (X 51) dn lt) = some 1) = true then 1 else 0
        cases hv : u.2.2 (ov n (X 51) dn lt) with
        | none =>
          rw [nb_n, if_neg (show ¬ (1 : Int32) = 0 by decide), if_neg (show ¬ decide ((none : Option Int64) = some 1) = true by decide)]
          split <;> rfl
        | some x =>
          rw [nb_s]
          rcases s4 rfl rfl x hv with ⟨e1, e2⟩ | ⟨e1, e2⟩
          · rw [e1, e2, if_pos rfl]; rfl
          · rw [e1, e2, if_neg (by decide), if_pos rfl]; rfl
    · rw [if_neg q] at hif ⊢
      cases hif
      dsimp only
      rw [if_pos rfl, fin _ _ 1 (.inr rfl)]
      refine ⟨_, _, rfl, fun _ => ?_, hp', rfl⟩
      rw [if_neg (by decide), if_pos rfl]; rfl
  have hN := B.1
  have B1 := Bo_up B (j := 40) (by decide) 1
  have y23 : v_up X 49 40 1 49 23 = nI (2400 + N) := by rw [w_ne _ _ _ _ (by decide)]; exact h23
  have y25 : v_up X 49 40 1 49 25 = 1 := by rw [w_ne _ _ _ _ (by decide)]; exact h25
  have y51 : v_up X 49 40 1 51 = X 51 := w_row _ _ _ _ (by decide)
  rw [gs_cm _ _ _ (by decide), ev_pass (Bo_Ev B1 y23 y25) _ (by omega), p_bs]
  unfold sp_times at ht
  by_cases q : c p = 25
  · rw [if_pos q] at ht ⊢
    have hlt := cz_lt' B.2.2.1 q (by decide)
    by_cases q2 : c (p + 1) = 50 ∧ 1 ≤ v (p + 1) ∧ v (p + 1) ≤ 20
    · rw [if_pos q2] at ht
      have hlt' := cz_lt' B.2.2.1 q2.1 (by decide)
      dsimp only
      rw [if_neg (by decide), gs_22, show (2860 : Int32) = nI 2860 from rfl, nI_add, p_in_nI (by omega) (by decide), p_bs, p_le, p_le, gs_row _ _ _ (by decide), y51, show 2860 + (2400 + (p + 1)) = 2860 + 2400 + (p + 1) by omega, ← B.2.2.2.1 (p + 1) hlt', gs_cm _ _ _ (by decide), gs_inc, up_up]
      obtain ⟨z, bb, a1, a2, a3, a4⟩ := T (v_up X 49 40 (v (p + 1))) (p + 2) (v (p + 1)) (Bo_up B (by decide) _) (by rw [w_ne _ _ _ _ (by decide)]; exact h23) (by rw [w_ne _ _ _ _ (by decide)]; exact h25) (w_row _ _ _ _ (by decide)) (by omega) br ht
      refine ⟨_, bb, a1, ?_, fun j j1 j2 => ?_, fun a ha => ?_, fun h1 => ?_, a3⟩
      · rw [w_ne _ _ _ _ (by decide), w_at, a4]
      · rw [w_ne _ _ _ _ j2, w_ne _ _ _ _ j1]
      · rw [w_row _ _ _ _ ha, w_row _ _ _ _ ha]
      · rw [w_at]; exact a2 h1
    · rw [if_neg q2] at ht; cases ht
  · rw [if_neg q] at ht ⊢
    dsimp only
    rw [if_pos rfl]
    obtain ⟨z, bb, a1, a2, a3, a4⟩ := T (v_up X 49 40 1) p 1 B1 y23 y25 y51 hp br ht
    refine ⟨_, bb, a1, ?_, fun j j1 j2 => ?_, fun a ha => ?_, fun h1 => ?_, a3⟩
    · rw [w_ne _ _ _ _ (by decide), w_at, a4]
    · rw [w_ne _ _ _ _ j2, w_ne _ _ _ _ j1]
    · rw [w_row _ _ _ _ ha, w_row _ _ _ _ ha]
    · rw [w_at]; exact a2 h1
end sp98p
