noncomputable section sp98q
theorem times_eq {c v : Nat → Int32} {p n : Nat} {k : Int32} {a b : Option Den} {r : Nat × Nat × Cls} (h : sp_times c v p n k a b = .inr r) : r.2.2.1 = k ∧ r.2.2.2.1 = a ∧ r.2.2.2.2.1 = b := by
  have I : ∀ p t, sp_if c v true p n k a b t = .inr r → r.2.2.1 = k ∧ r.2.2.2.1 = a ∧ r.2.2.2.2.1 = b := by
    intro p t h
    unfold sp_if at h
    split at h
    · cases h2 : sp_test c v true 8 (p + 1) n with
      | inl e => rw [h2] at h; cases h
      | inr u => rw [h2] at h; cases h; exact ⟨rfl, rfl, rfl⟩
    · cases h; exact ⟨rfl, rfl, rfl⟩
  unfold sp_times at h
  split at h
  · split at h
    · exact I _ _ h
    · cases h
  · exact I _ _ h
def isJ (o : Option Int64) : Bool := match o with
  | none => false
  | some _ => true
theorem nb_isJ (o : Option Int64) : nb 1 0 o = 0 ↔ isJ o = true := by
  cases o with
  | none => rw [nb_n]; exact ⟨fun e => absurd e (by decide), fun e => by cases e⟩
  | some x => rw [nb_s]; exact ⟨fun _ => rfl, fun _ => rfl⟩
/-- a CLAUSE is gone along -/
theorem m_go {I : v_I} (J : v_J) {c v : Nat → Int32} {N n : Nat} {dn lt : Int32} (B : Bo I c v N n dn lt) {p nn : Nat} {r : Nat × Nat × Cls} (h39 : I 49 39 = nI (2400 + p)) (hcl : sp_ord1 c v p nn = .inr r) {live : Int32} (hl : live = 0 ∨ live = 1) :
    ∃ I' J', h_X10_goesAlong I J (nI (2400 + N)) live = some (I', J') ∧ fgo I I' ∧ I' 49 22 = nI (2400 + (r.1 + 1)) ∧ I' 49 40 = r.2.2.2.2.2.2 ∧ r.1 ≤ N ∧ p < N ∧ I' 49 41 = c p
      ∧ (live = 1 → I' 49 43 = (if d_holds (ov n (I 51) dn lt) r.2.2.2.2.2.1 = true then 1 else 0) ∧ I' 49 42 = (if isJ (sm (ov n (I 51) dn lt) r.2.2.2.1) = true ∧ isJ (sm (ov n (I 51) dn lt) r.2.2.2.2.1) = true then 1 else 0)
        ∧ (∀ d x, r.2.2.2.1 = some d → d (ov n (I 51) dn lt) = some x → J' 70 0 = x) ∧ (∀ d x, r.2.2.2.2.1 = some d → d (ov n (I 51) dn lt) = some x → J' 70 1 = x))
      ∧ ((c p = 22 ∧ r.2.2.1 = 2) ∨ (c p = 20 ∧ r.2.2.1 = 0) ∨ (c p = 21 ∧ r.2.2.1 = 1) ∨ (c p = 24 ∧ r.2.2.1 = 3)) := by
  have hN := B.1
  let X : v_I := v_up (v_up (v_up (v_up I 49 25 1) 49 23 (nI (2400 + N))) 49 41 (c p)) 49 42 1
  have BX : Bo X c v N n dn lt := Bo_up (Bo_up (Bo_up (Bo_up B (by decide) _) (by decide) _) (by decide) _) (by decide) _
  have fX : fgo I X := fgo_up (fgo_up (fgo_up (fgo_up (fun _ _ _ => rfl) (by omega) _) (by omega) _) (by omega) _) (by omega) _
  have x51 : X 51 = I 51 := by
    show v_up _ _ _ _ 51 = _
    rw [w_row _ _ _ _ (by decide), w_row _ _ _ _ (by decide), w_row _ _ _ _ (by decide), w_row _ _ _ _ (by decide)]
  have x23 : X 49 23 = nI (2400 + N) := by
    show v_up _ _ _ _ 49 23 = _
    rw [w_ne _ _ _ _ (by decide), w_ne _ _ _ _ (by decide), w_at]
  have x25 : X 49 25 = 1 := by
    show v_up _ _ _ _ 49 25 = _
    rw [w_ne _ _ _ _ (by decide), w_ne _ _ _ _ (by decide), w_ne _ _ _ _ (by decide), w_at]
  have x41 : X 49 41 = c p := by
    show v_up _ _ _ _ 49 41 = _
    rw [w_ne _ _ _ _ (by decide), w_at]
  have x42 : X 49 42 = 1 := w_at _ _ _ _
  have hcp : c p ≠ 0 := by
    intro q
    unfold sp_ord1 at hcl
    rw [q, if_neg (by decide), if_neg (by decide), if_neg (by decide)] at hcl
    cases hcl
  have hlt : p < N := cz_lt B.2.2.1 hcp
  have e0 : ∃ b0, h_X10_goesAlong I J (nI (2400 + N)) live = if c p = (24 : Int32) then h_X10_goesAlong_J72 (gs X (2400 + (p + 1)) b0) J live (nI 0) else if c p = (22 : Int32) then h_X10_goesAlong_J72 (gs X (2400 + (p + 1)) b0) J live (nI 2) else h_X10_goesAlong_J72 (gs X (2400 + (p + 1)) b0) J live (nI 1) := by
    let Y : v_I := v_up (v_up I 49 25 1) 49 23 (nI (2400 + N))
    have BY : Bo Y c v N n dn lt := Bo_up (Bo_up B (by decide) _) (by decide) _
    have EY := Bo_Ev BY (w_at _ _ _ _) (by show v_up _ _ _ _ 49 25 = _; rw [w_ne _ _ _ _ (by decide), w_at])
    refine ⟨Y 49 24, ?_⟩
    unfold h_X10_goesAlong
    rw [p_le, p_le, p_le]
    rw [show v_up (v_up I 49 25 1) 49 23 (nI (2400 + N)) 49 39 = nI (2400 + p) by rw [w_ne _ _ _ _ (by decide), w_ne _ _ _ _ (by decide)]; exact h39, gs_at]
    show (h_X10_codeAt (gs Y (2400 + p) (Y 49 24)) (gs Y (2400 + p) (Y 49 24) 49 22)).bind _ = _
    rw [gs_22, ev_code EY _ _ (by omega), p_bs, p_le, p_le, p_le]
    rw [gs_cm _ _ _ (by decide), gs_inc, gs_cm _ _ _ (by decide)]
    have e41 : gs X (2400 + (p + 1)) (Y 49 24) 49 41 = c p := by rw [gs_ne _ _ _ (by omega)]; exact x41
    show (if gs X (2400 + (p + 1)) (Y 49 24) 49 41 = 24 then _ else if gs X (2400 + (p + 1)) (Y 49 24) 49 41 = 22 then _ else _) = _
    rw [e41]
    rfl
  obtain ⟨b0, e0⟩ := e0
  rw [e0]
  generalize X = X at BX fX x51 x23 x25 x41 x42
  have E := Bo_Ev BX x23 x25
  rw [x51] at E
  obtain ⟨mfu, hFU⟩ : ∃ k, FU = k + 3 := ⟨FU - 3, by rw [FU_eq]⟩
  -- from behind the SUMS on
  have fin : ∀ (Y : v_I) (q nn' : Nat) (kd : Int32) (a b : Option Den) (br : Int32) (J' : v_J), Bo Y c v N n dn lt → Y 49 23 = nI (2400 + N) → Y 49 25 = 1 → Y 51 = I 51 → Y 49 41 = c p → fgo I Y → q ≤ N → sp_times c v q nn' kd a b = .inr r → ∃ I', ((h_X10_passes0 (v_up (gs Y (2400 + q) br) 49 40 1) (25 : Int32)).bind fun r_39 => if r_39.1 = (0 : Int32) then h_X10_goesAlong_J184 r_39.2 J' live else (p_in 5660 ((2860 : Int32) + (r_39.2 49 22))).bind fun j_60 => p_let (v_up r_39.2 49 40 (r_39.2 51 j_60)) fun I_61 => p_let (v_up I_61 49 22 ((I_61 49 22) + (1 : Int32))) fun I_63 => h_X10_goesAlong_J184 I_63 J' live) = some (I', J')
      ∧ fgo I I' ∧ I' 49 22 = nI (2400 + (r.1 + 1)) ∧ I' 49 40 = r.2.2.2.2.2.2 ∧ r.1 ≤ N ∧ I' 49 41 = c p ∧ (live = 1 → I' 49 43 = (if d_holds (ov n (I 51) dn lt) r.2.2.2.2.2.1 = true then 1 else 0)) ∧ I' 49 42 = Y 49 42 := by
    intro Y q nn' kd a b br J' BY y23 y25 y51 y41 fY hq ht
    obtain ⟨X', bb, t1, t2, t3, t4, t5, t6⟩ := m_tail BY y23 y25 hl ht hq br J'
    refine ⟨_, t1, fgo_gs (fun a j g => ?_) _ _, gs_22 _ _ _, by rw [gs_ne _ _ _ (by omega)]; exact t2, t6, by rw [gs_ne _ _ _ (by omega), t3 41 (by omega) (by omega)]; exact y41, fun h1 => ?_, by rw [gs_ne _ _ _ (by omega), t3 42 (by omega) (by omega)]⟩
    · by_cases h49 : a = 49
      · subst h49; rw [t3 j (by omega) (by omega)]; exact fY 49 j g
      · rw [t4 a h49]; exact fY a j g
    · rw [gs_ne _ _ _ (by omega), t5 h1, y51]
  unfold sp_ord1 at hcl
  unfold h_X10_goesAlong_J72
  by_cases c22 : c p = 22
  · rw [if_pos c22] at hcl
    rw [if_neg (by rw [c22]; decide), if_pos c22]
    cases hs : sp_sum c v true 8 (p + 1) nn with
    | inl e => rw [hs] at hcl; cases hcl
    | inr u =>
      rw [hs] at hcl
      dsimp only at hcl
      split at hcl
      · rename_i hto
        cases hs2 : sp_sum c v true 8 (u.1 + 1) u.2.1 with
        | inl e => rw [hs2] at hcl; cases hcl
        | inr u2 =>
          rw [hs2] at hcl
          dsimp only at hcl
          have mu2 := mo_sum (v := v) (o := true) B.2.2.1 8 _ _ _ hs2
          obtain ⟨v1, a1, a2⟩ := m_b76 E (k := 0) (z0 := 2) (by omega) (by omega) hl (p := p + 1) hs b0 J
          rw [x42, if_neg (show ¬ (1 : Int32) = 0 by decide)] at a1
          generalize hz1 : (if nb live 0 (u.2.2 (ov n (I 51) dn lt)) = 0 then (1 : Int32) else 0) = z1 at a1
          have BX1 := Bo_up BX (j := 42) (by decide) z1
          have E1 := Bo_Ev BX1 (by rw [w_ne _ _ _ _ (by decide)]; exact x23) (by rw [w_ne _ _ _ _ (by decide)]; exact x25)
          rw [w_row _ _ _ _ (show (51 : Nat) ≠ 49 by decide), x51] at E1
          obtain ⟨v2, b1, b2⟩ := m_b76 E1 (k := 1) (z0 := 2) (by omega) (by omega) hl (p := u.1) hs2 (nb live 0 (u.2.2 (ov n (I 51) dn lt))) (v_up J 70 0 v1)
          rw [w_at, up_up] at b1
          generalize hz2 : (if z1 = 0 then (0 : Int32) else if nb live 0 (u2.2.2 (ov n (I 51) dn lt)) = 0 then 1 else 0) = z2 at b1
          have L : v_loop (h_X10_goesAlong_B76 live (nI 2)) FU ((0 : Int32), gs X (2400 + (p + 1)) b0, J) = some (nI 2, gs (v_up X 49 42 z2) (2400 + u2.1) (nb live 0 (u2.2.2 (ov n (I 51) dn lt))), v_up (v_up J 70 0 v1) 70 1 v2) := by
            rw [show nI 0 = (0 : Int32) from rfl] at a1
            rw [hFU]
            simp only [v_loop, a1, b1, m_b76x (show 2 ≤ 1 + 1 by omega) (by omega)]
          rw [L, p_bs, p_le]
          obtain ⟨I', f1, f2, f3, f4, f5, f6, f7, f8⟩ := fin (v_up X 49 42 z2) u2.1 u2.2.1 2 (some u.2.2) (some u2.2.2) (nb live 0 (u2.2.2 (ov n (I 51) dn lt))) (v_up (v_up J 70 0 v1) 70 1 v2) (Bo_up BX (by decide) _) (by rw [w_ne _ _ _ _ (by decide)]; exact x23) (by rw [w_ne _ _ _ _ (by decide)]; exact x25) (by rw [w_row _ _ _ _ (by decide)]; exact x51) (by rw [w_ne _ _ _ _ (by decide)]; exact x41) (fgo_up fX (by omega) _) mu2.2 hcl
          obtain ⟨t1, t2, t3⟩ := times_eq hcl
          refine ⟨I', _, f1, f2, f3, f4, f5, hlt, f6, fun h1 => ⟨f7 h1, ?_, fun d x hd hx => ?_, fun d x hd hx => ?_⟩, .inl ⟨c22, t1⟩⟩
          · subst h1
            rw [f8, w_at, ← hz2, ← hz1, t2, t3]
            show _ = if isJ (u.2.2 (ov n (I 51) dn lt)) = true ∧ isJ (u2.2.2 (ov n (I 51) dn lt)) = true then 1 else 0
            have n1 := nb_isJ (u.2.2 (ov n (I 51) dn lt))
            have n2 := nb_isJ (u2.2.2 (ov n (I 51) dn lt))
            by_cases g1 : isJ (u.2.2 (ov n (I 51) dn lt)) = true
            · rw [if_pos (n1.mpr g1), if_neg (show ¬ (1 : Int32) = 0 by decide)]
              by_cases g2 : isJ (u2.2.2 (ov n (I 51) dn lt)) = true
              · rw [if_pos (n2.mpr g2), if_pos ⟨g1, g2⟩]
              · rw [if_neg (fun e => g2 (n2.mp e)), if_neg (fun e => g2 e.2)]
            · rw [if_neg (fun e => g1 (n1.mp e)), if_pos rfl, if_neg (fun e => g1 e.1)]
          · rw [t2] at hd
            cases hd
            rw [w_ne _ _ _ _ (by decide), w_at]
            exact a2 h1 x hx
          · rw [t3] at hd
            cases hd
            rw [w_at]
            exact b2 h1 x hx
      · cases hcl
  · rw [if_neg c22] at hcl
    by_cases c12 : c p = 20 ∨ c p = 21
    · rw [if_pos c12] at hcl
      rw [if_neg (by rcases c12 with e | e <;> rw [e] <;> decide), if_neg c22]
      cases hs : sp_sum c v true 8 (p + 1) nn with
      | inl e => rw [hs] at hcl; cases hcl
      | inr u =>
        rw [hs] at hcl
        dsimp only at hcl
        have mu := mo_sum (v := v) (o := true) B.2.2.1 8 _ _ _ hs
        obtain ⟨v1, a1, a2⟩ := m_b76 E (k := 0) (z0 := 1) (by omega) (by omega) hl (p := p + 1) hs b0 J
        rw [x42, if_neg (show ¬ (1 : Int32) = 0 by decide)] at a1
        generalize hz1 : (if nb live 0 (u.2.2 (ov n (I 51) dn lt)) = 0 then (1 : Int32) else 0) = z1 at a1
        have L : v_loop (h_X10_goesAlong_B76 live (nI 1)) FU ((0 : Int32), gs X (2400 + (p + 1)) b0, J) = some (nI 1, gs (v_up X 49 42 z1) (2400 + u.1) (nb live 0 (u.2.2 (ov n (I 51) dn lt))), v_up J 70 0 v1) := by
          rw [show nI 0 = (0 : Int32) from rfl] at a1
          rw [hFU]
          simp only [v_loop, a1, m_b76x (show 1 ≤ 0 + 1 by omega) (by omega)]
        rw [L, p_bs, p_le]
        obtain ⟨I', f1, f2, f3, f4, f5, f6, f7, f8⟩ := fin (v_up X 49 42 z1) u.1 u.2.1 (c p - 20) (some u.2.2) none (nb live 0 (u.2.2 (ov n (I 51) dn lt))) (v_up J 70 0 v1) (Bo_up BX (by decide) _) (by rw [w_ne _ _ _ _ (by decide)]; exact x23) (by rw [w_ne _ _ _ _ (by decide)]; exact x25) (by rw [w_row _ _ _ _ (by decide)]; exact x51) (by rw [w_ne _ _ _ _ (by decide)]; exact x41) (fgo_up fX (by omega) _) mu.2 hcl
        obtain ⟨t1, t2, t3⟩ := times_eq hcl
        refine ⟨I', _, f1, f2, f3, f4, f5, hlt, f6, fun h1 => ⟨f7 h1, ?_, fun d x hd hx => ?_, fun d x hd hx => ?_⟩, ?_⟩
        · subst h1
          rw [f8, w_at, ← hz1, t2, t3]
          show _ = if isJ (u.2.2 (ov n (I 51) dn lt)) = true ∧ isJ (some 0) = true then 1 else 0
          have n1 := nb_isJ (u.2.2 (ov n (I 51) dn lt))
          by_cases g1 : isJ (u.2.2 (ov n (I 51) dn lt)) = true
          · rw [if_pos (n1.mpr g1), if_pos ⟨g1, rfl⟩]
          · rw [if_neg (fun e => g1 (n1.mp e)), if_neg (fun e => g1 e.1)]
        · rw [t2] at hd
          cases hd
          rw [w_at]
          exact a2 h1 x hx
        · rw [t3] at hd
          cases hd
        · rcases c12 with e | e
          · exact .inr (.inl ⟨e, by rw [t1, e]; decide⟩)
          · exact .inr (.inr (.inl ⟨e, by rw [t1, e]; decide⟩))
    · rw [if_neg c12] at hcl
      by_cases c24 : c p = 24
      · rw [if_pos c24] at hcl
        rw [if_pos c24]
        have L : v_loop (h_X10_goesAlong_B76 live (nI 0)) FU ((0 : Int32), gs X (2400 + (p + 1)) b0, J) = some (nI 0, gs X (2400 + (p + 1)) b0, J) := by
          have := m_b76x (live := live) (show 0 ≤ 0 by omega) (by omega) (gs X (2400 + (p + 1)) b0) J
          rw [show nI 0 = (0 : Int32) from rfl] at this
          rw [hFU]
          simp only [v_loop, show nI 0 = (0 : Int32) from rfl, this]
        rw [L, p_bs, p_le]
        obtain ⟨I', f1, f2, f3, f4, f5, f6, f7, f8⟩ := fin X (p + 1) nn 3 none none b0 J BX x23 x25 x51 x41 fX (by omega) hcl
        obtain ⟨t1, t2, t3⟩ := times_eq hcl
        refine ⟨I', _, f1, f2, f3, f4, f5, hlt, f6, fun h1 => ⟨f7 h1, ?_, fun d x hd hx => ?_, fun d x hd hx => ?_⟩, .inr (.inr (.inr ⟨c24, t1⟩))⟩
        · rw [f8, x42, t2, t3]; rfl
        · rw [t2] at hd; cases hd
        · rw [t3] at hd; cases hd
      · rw [if_neg c24] at hcl; cases hcl
end sp98q
