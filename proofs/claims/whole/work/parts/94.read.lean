noncomputable section sp94
theorem mr_leaf50 {I : v_I} {c v : Nat → Int32} {pl : Nat → Nat} {o : Bool} {z : Nat} (M : Mr I c v pl o z) {p : Nat} (hp : p ≤ z) : h_X10_leaf (ms I p 50 (-1)) = some (ms I p 51 (nI (pl p))) := by
  unfold h_X10_leaf h_X10_leaf_J13
  rw [ms_20, if_pos (by decide), mr_faults M hp, p_bs, p_le, ms_i20, ms_fineX _ _ _ (mr_pl M hp), p_bs, if_pos rfl]
theorem mr_leaf (I : v_I) (p : Nat) {n : Nat} (hn : n < 50) : h_X10_leaf (ms I p n (-1)) = some (ms I (p + 1) (n + 1) (-1)) := by
  unfold h_X10_leaf h_X10_leaf_J13
  rw [ms_20, if_neg (show ¬ nI n = 50 from fun q => absurd ((i_eqI (b := 50) rfl rfl (by omega) (by omega)).mp q) (by omega)), p_le, ← nI_succ, ms_u20, ms_fine, p_bs, if_neg (by decide), p_le, ms_i19]
theorem mr_j111 {I : v_I} {c v : Nat → Int32} {pl : Nat → Nat} {o : Bool} {z : Nat} (M : Mr I c v pl o z) (rc : Nat → Int32 → v_I → Option v_I) {p : Nat} (hp : p < z) {n : Nat} (hn : n ≤ 50) (x : Int32) : h_X10_readPart_J111 rc (ms I p n (-1)) x = some (if n = 50 then ms I p 51 (nI (pl p)) else if o = true ∧ (x = 13 ∨ x = 14 ∨ x = 19) then (if c (p + 1) = 50 ∧ 0 ≤ v (p + 1) ∧ v (p + 1) ≤ 7 then ms I (p + 2) (n + 1) (-1) else ms I (p + 1) (n + 1) (nI (pl (p + 1)))) else ms I (p + 1) (n + 1) (-1)) := by
  obtain ⟨q1, q2, q3, q4, q5, q6, q7, q8⟩ := id M
  unfold h_X10_readPart_J111 h_X10_readPart_J140
  by_cases h50 : n = 50
  · subst h50
    rw [if_pos rfl, mr_leaf50 M (by omega), p_bs]
    have k := mr_numX I p 51 (mr_pl M (p := p) (by omega)) 0 7
    rw [k, p_bs]
    split
    · rfl
    · split
      · rfl
      · split
        · rfl
        · split <;> rfl
  · rw [if_neg h50, mr_leaf _ _ (by omega), p_bs, ms_ne _ _ _ _ (by omega), q6, mr_num M (by omega), p_bs]
    cases o with
    | false => rw [if_pos (by decide), if_neg (by simp)]
    | true =>
      rw [if_neg (by decide)]
      by_cases h1 : x = 13
      · have k : (true = true ∧ (x = 13 ∨ x = 14 ∨ x = 19)) := ⟨rfl, .inl h1⟩
        rw [if_pos h1, if_pos k]
      · rw [if_neg h1]
        by_cases h2 : x = 14
        · have k : (true = true ∧ (x = 13 ∨ x = 14 ∨ x = 19)) := ⟨rfl, .inr (.inl h2)⟩
          rw [if_pos h2, if_pos k]
        · rw [if_neg h2]
          by_cases h3 : x = 19
          · have k : (true = true ∧ (x = 13 ∨ x = 14 ∨ x = 19)) := ⟨rfl, .inr (.inr h3)⟩
            rw [if_pos h3, if_pos k]
          · rw [if_neg h3, if_neg (by simp [h1, h2, h3])]
theorem mr_part {I : v_I} {c v : Nat → Int32} {pl : Nat → Nat} {o : Bool} {z : Nat} (M : Mr I c v pl o z) (rc : Nat → Int32 → v_I → Option v_I) (dp : Int32) {sub : Option (Nat → Nat → PR)} (hm : moS z sub) (hs : sbM I pl z dp (rc 3 (dp + 1)) sub) : okM I pl z (fun J => h_X10_readPart rc J dp) (sp_part c v o sub) := by
  obtain ⟨q1, q2, q3, q4, q5, q6, q7, q8⟩ := id M
  have c91 : (100 : Int32) + 91 = 191 := by decide
  have c93 : (100 : Int32) + 93 = 193 := by decide
  refine ⟨fun p n b h => ?_, fun p n hp hn => ?_⟩
  · dsimp only
    unfold h_X10_readPart
    rw [ms_fineX _ _ _ h, p_bs, if_pos rfl]
  · dsimp only
    unfold h_X10_readPart
    simp only [h_X10_sign, p_bs, c91]
    rw [ms_fine, p_bs, if_neg (by decide), ms_19, mr_in q1 hp, p_bs, p_le, ms_row _ _ _ _ (show (58 : Nat) ≠ 49 by decide), q2 p hp]
    unfold sp_part
    by_cases h1 : c p = 191
    · rw [if_pos h1, if_pos h1]
      have hlt := cz_lt' q4 h1 (by decide)
      refine mr_brk M (J := fun J => h_X10_readPart_J37 rc J dp) hs hm (fun p n => ?_) (fun p n b h => ?_) hlt hn
      · unfold h_X10_readPart_J37
        simp only [h_X10_sign, p_bs, c93]
        rw [ms_fine, p_bs, if_neg (by decide), p_le, ms_i19]
      · unfold h_X10_readPart_J37
        rw [ms_fineX _ _ _ h, p_bs, if_pos rfl]
    · rw [if_neg h1, if_neg h1]
      have key : (if c p = 50 then (some p).bind fun j_23 => if ms I p n (-1) 59 j_23 ≤ 1000 then h_X10_readPart_J111 rc (ms I p n (-1)) (c p) else h_X10_readPart_J95 rc (ms I p n (-1)) (c p) else h_X10_readPart_J95 rc (ms I p n (-1)) (c p)) = if (c p = 50 ∧ v p ≤ 1000) ∨ ((if o then (13 : Int32) else 8) ≤ c p ∧ c p ≤ (if o then 19 else 16)) then h_X10_readPart_J111 rc (ms I p n (-1)) (c p) else some (ms I p n (nI (pl p))) := by
        have j150 : h_X10_readPart_J150 rc (ms I p n (-1)) = some (ms I p n (nI (pl p))) := by
          unfold h_X10_readPart_J150
          rw [mr_faults M hp, p_bs]
        have j95 : h_X10_readPart_J95 rc (ms I p n (-1)) (c p) = if ((if o then (13 : Int32) else 8) ≤ c p ∧ c p ≤ (if o then 19 else 16)) then h_X10_readPart_J111 rc (ms I p n (-1)) (c p) else some (ms I p n (nI (pl p))) := by
          unfold h_X10_readPart_J95
          rw [ms_ne _ _ _ _ (by omega), ms_ne _ _ _ _ (by omega), q7, q8, j150]
          generalize (if o then (13 : Int32) else 8) = lo
          generalize (if o then (19 : Int32) else 16) = hi
          by_cases a : c p < lo
          · rw [if_pos a, if_neg (fun q => absurd a (Int32.not_lt.mpr q.1))]
          · rw [if_neg a]
            by_cases b : hi < c p
            · rw [if_pos b, if_neg (fun q => absurd b (Int32.not_lt.mpr q.2))]
            · rw [if_neg b, if_pos ⟨Int32.not_lt.mp a, Int32.not_lt.mp b⟩]
        rw [j95, p_bs, ms_row _ _ _ _ (show (59 : Nat) ≠ 49 by decide), q3 p hp]
        by_cases a : c p = 50
        · rw [if_pos a]
          by_cases b : v p ≤ 1000
          · rw [if_pos b, if_pos (.inl ⟨a, b⟩)]
          · rw [if_neg b]
            by_cases q : ((if o then (13 : Int32) else 8) ≤ c p ∧ c p ≤ (if o then 19 else 16))
            · rw [if_pos q, if_pos (Or.inr q)]
            · rw [if_neg q, if_neg (not_or.mpr ⟨fun w => b w.2, q⟩)]
        · rw [if_neg a]
          by_cases q : ((if o then (13 : Int32) else 8) ≤ c p ∧ c p ≤ (if o then 19 else 16))
          · rw [if_pos q, if_pos (Or.inr q)]
          · rw [if_neg q, if_neg (not_or.mpr ⟨fun w => a w.1, q⟩)]
      rw [key]
      unfold sp_leaf
      by_cases a : c p = 50 ∧ v p ≤ 1000
      · have hlt := cz_lt' q4 a.1 (by decide)
        rw [if_pos (Or.inl a), if_pos a, mr_j111 M rc hlt hn]
        by_cases b : n = 50
        · rw [if_pos b, if_pos b]
          refine ⟨fun e h => ?_, (fun u h => by cases h)⟩
          cases h
          exact ⟨hp, p, 51, rfl⟩
        · rw [if_neg b, if_neg b, if_neg (by rw [a.1]; simp)]
          refine ⟨(fun u h => by cases h), fun e h => ?_⟩
          cases h
          exact ⟨by dsimp only; omega, rfl⟩
      · by_cases a' : ((if o then (13 : Int32) else 8) ≤ c p ∧ c p ≤ (if o then 19 else 16))
        · have hlt : p < z := cz_lt q4 (by
            intro e
            have := a'.1
            rw [e] at this
            cases o <;> exact absurd this (by decide))
          rw [if_pos (Or.inr a'), if_neg a, if_pos a', mr_j111 M rc hlt hn]
          by_cases b : n = 50
          · rw [if_pos b, if_pos b]
            refine ⟨fun e h => ?_, (fun u h => by cases h)⟩
            cases h
            exact ⟨hp, p, 51, rfl⟩
          · rw [if_neg b, if_neg b]
            by_cases d : o = true ∧ (c p = 13 ∨ c p = 14 ∨ c p = 19)
            · rw [if_pos d, if_pos d]
              by_cases e : c (p + 1) = 50 ∧ 0 ≤ v (p + 1) ∧ v (p + 1) ≤ 7
              · rw [if_pos e, if_pos e]
                refine ⟨(fun u h => by cases h), fun e h => ?_⟩
                cases h
                exact ⟨by dsimp only; omega, rfl⟩
              · rw [if_neg e, if_neg e]
                refine ⟨fun e h => ?_, (fun u h => by cases h)⟩
                cases h
                exact ⟨hlt, p + 1, n + 1, rfl⟩
            · rw [if_neg d, if_neg d]
              refine ⟨(fun u h => by cases h), fun e h => ?_⟩
              cases h
              exact ⟨by dsimp only; omega, rfl⟩
        · rw [if_neg (not_or.mpr ⟨a, a'⟩), if_neg a, if_neg a']
          refine ⟨fun e h => ?_, (fun u h => by cases h)⟩
          cases h
          exact ⟨hp, p, n, rfl⟩
theorem nots_le {c : Nat → Int32} {z : Nat} (hc : cz c z) : ∀ (f p : Nat) (t : Bool), p ≤ z → (sp_nots c f p t).1 ≤ z
  | 0, _, _, h => h
  | f + 1, p, t, h => by
    unfold sp_nots
    by_cases q : c p = 7
    · rw [if_pos q]
      exact nots_le hc f (p + 1) (!t) (cz_lt' hc q (by decide))
    · rw [if_neg q]; exact h
theorem mr_nots {I : v_I} {c v : Nat → Int32} {pl : Nat → Nat} {o : Bool} {z : Nat} (M : Mr I c v pl o z) (rc : Nat → Int32 → v_I → Option v_I) (dp : Int32) (n : Nat) : ∀ (f p m : Nat) (t : Bool), p ≤ z → 400 ≤ f + p → f + 2 ≤ m → v_loop (h_X10_readPlain_B2 rc dp) m (1, ms I p n (-1)) = some (0, ms I (sp_nots c f p t).1 n (-1)) := by
  obtain ⟨q1, q2, q3, q4, q5, q6, q7, q8⟩ := id M
  have zero : ∀ J m, v_loop (h_X10_readPlain_B2 rc dp) (m + 1) (0, J) = some (0, J) := by
    intro J m
    have : h_X10_readPlain_B2 rc dp (0, J) = some (.inr (0, J)) := by
      unfold h_X10_readPlain_B2; dsimp only; rw [if_pos rfl]
    simp only [v_loop, this]
  have step : ∀ p m, p ≤ z → v_loop (h_X10_readPlain_B2 rc dp) (m + 1) (1, ms I p n (-1)) = v_loop (h_X10_readPlain_B2 rc dp) m (if c p = 7 then (1, ms I (p + 1) n (-1)) else (0, ms I p n (-1))) := by
    intro p m hp
    have : h_X10_readPlain_B2 rc dp (1, ms I p n (-1)) = some (.inl (if c p = 7 then (1, ms I (p + 1) n (-1)) else (0, ms I p n (-1)))) := by
      unfold h_X10_readPlain_B2; dsimp only; rw [if_neg (by decide), mr_takes M hp, p_bs]
    simp only [v_loop, this]
  intro f
  induction f with
  | zero =>
    intro p m t hp hf hm
    obtain ⟨m, rfl⟩ : ∃ k, m = k + 2 := ⟨m - 2, by omega⟩
    rw [step p (m + 1) hp, if_neg (by rw [q4 p (by omega)]; decide), zero]
    rfl
  | succ f ih =>
    intro p m t hp hf hm
    obtain ⟨m, rfl⟩ : ∃ k, m = k + 2 := ⟨m - 2, by omega⟩
    rw [step p (m + 1) hp]
    unfold sp_nots
    by_cases q : c p = 7
    · have := cz_lt' q4 q (by decide)
      rw [if_pos q, if_pos q]
      exact ih (p + 1) (m + 1) (!t) (by omega) (by omega) (by omega)
    · rw [if_neg q, if_neg q, zero]
theorem mr_plain {I : v_I} {c v : Nat → Int32} {pl : Nat → Nat} {o : Bool} {z : Nat} (M : Mr I c v pl o z) (rc : Nat → Int32 → v_I → Option v_I) (dp : Int32) {sm : Nat → Nat → PR} {sub : Option (Nat → Nat → PR)} (hmm : mo z sm) (hm : moS z sub) (hsm : okM I pl z (rc 3 dp) sm) (hs : sbM I pl z dp (rc 0 (dp + 1)) sub) : okM I pl z (fun J => h_X10_readPlain rc J dp) (sp_plain c sm sub) := by
  obtain ⟨q1, q2, q3, q4, q5, q6, q7, q8⟩ := id M
  have c40 : (100 : Int32) + 40 = 140 := by decide
  have c41 : (100 : Int32) + 41 = 141 := by decide
  have c60 : (100 : Int32) + 60 = 160 := by decide
  have c61 : (100 : Int32) + 61 = 161 := by decide
  have c62 : (100 : Int32) + 62 = 162 := by decide
  refine ⟨fun p n b h => ?_, fun p n hp hn => ?_⟩
  · have e1 : v_loop (h_X10_readPlain_B2 rc dp) FU (1, ms I p n b) = some (0, ms I p n b) := by
      obtain ⟨m, hF⟩ : ∃ k, FU = k + 2 := ⟨FU - 2, by rw [FU_eq]⟩
      have a1 : h_X10_readPlain_B2 rc dp (1, ms I p n b) = some (.inl (0, ms I p n b)) := by
        unfold h_X10_readPlain_B2; dsimp only; rw [if_neg (by decide), mr_takesX _ _ _ h, p_bs]
      have a2 : h_X10_readPlain_B2 rc dp (0, ms I p n b) = some (.inr (0, ms I p n b)) := by
        unfold h_X10_readPlain_B2; dsimp only; rw [if_pos rfl]
      rw [hF]
      simp only [v_loop, a1, a2]
    dsimp only
    unfold h_X10_readPlain
    rw [e1, p_bs]; dsimp only; rw [ms_fineX _ _ _ h, p_bs, if_pos rfl]
  · dsimp only
    unfold sp_plain
    have hp' := nots_le q4 400 p false hp
    have e1 := mr_nots M rc dp n 400 p FU false hp (by omega) (by rw [FU_eq]; omega)
    generalize sp_nots c 400 p false = w at hp' e1 ⊢
    obtain ⟨p', t⟩ := w
    dsimp only at hp' e1 ⊢
    have key : (∀ e, sp_pos c sm sub p' n = .inl e → e ≤ z ∧ ∃ p'' n', h_X10_readPlain rc (ms I p n (-1)) dp = some (ms I p'' n' (nI (pl e)))) ∧ (∀ r, sp_pos c sm sub p' n = .inr r → r.2.1 ≤ 50 ∧ h_X10_readPlain rc (ms I p n (-1)) dp = some (ms I r.1 r.2.1 (-1))) := by
      unfold h_X10_readPlain
      rw [e1, p_bs]
      dsimp only
      rw [ms_fine, p_bs, if_neg (by decide), ms_19, mr_in q1 hp', p_bs, p_le]
      simp only [h_X10_sign, p_bs, c40, c60, c61, c62]
      rw [ms_row _ _ _ _ (show (58 : Nat) ≠ 49 by decide), q2 p' hp']
      unfold sp_pos
      by_cases h1 : c p' = 140
      · rw [if_pos h1, if_pos h1]
        have hlt := cz_lt' q4 h1 (by decide)
        refine mr_brk M (J := fun J => h_X10_readPlain_J53 rc J dp) hs hm (fun p n => ?_) (fun p n b h => ?_) hlt hn
        · unfold h_X10_readPlain_J53
          simp only [h_X10_sign, p_bs, c41]
          rw [ms_fine, p_bs, if_neg (by decide), p_le, ms_i19]
        · unfold h_X10_readPlain_J53
          rw [ms_fineX _ _ _ h, p_bs, if_pos rfl]
      · rw [if_neg h1, if_neg h1]
        unfold sp_comp
        obtain ⟨i1, i2⟩ := hsm.2 p' n hp' hn
        cases h2 : sm p' n with
        | inl e =>
          obtain ⟨he, u, w, e2⟩ := i1 e h2
          refine ⟨fun e' h => ?_, (fun r h => by cases h)⟩
          cases h
          refine ⟨he, u, w, ?_⟩
          have hb := mr_pl M he
          rw [e2, p_bs, mr_takesX _ _ _ hb, p_bs]
          dsimp only
          rw [if_pos rfl, mr_takesX _ _ _ hb, p_bs]
          dsimp only
          rw [if_pos rfl, mr_mustX _ _ _ hb, p_bs]
          unfold h_X10_readPlain_J128
          rw [hsm.1 _ _ _ hb, p_bs]
        | inr r =>
          obtain ⟨hn', e2⟩ := i2 r h2
          have mr := hmm _ _ _ h2
          dsimp only
          rw [e2, p_bs, mr_takes M mr.2, p_bs]
          have fin : ∀ g : Den → Den → Den, op_cmp (c r.1) = some g → (∀ e, (match op_cmp (c r.1) with
    | none => (.inl r.1 : PR)
    | some g => match sm (r.1 + 1) r.2.1 with
      | .inl e => .inl e
      | .inr q => .inr (q.1, q.2.1, g r.2.2 q.2.2)) = .inl e → e ≤ z ∧ ∃ p'' n', h_X10_readPlain_J128 rc (ms I (r.1 + 1) r.2.1 (-1)) dp = some (ms I p'' n' (nI (pl e)))) ∧ (∀ u, (match op_cmp (c r.1) with
    | none => (.inl r.1 : PR)
    | some g => match sm (r.1 + 1) r.2.1 with
      | .inl e => .inl e
      | .inr q => .inr (q.1, q.2.1, g r.2.2 q.2.2)) = .inr u → u.2.1 ≤ 50 ∧ h_X10_readPlain_J128 rc (ms I (r.1 + 1) r.2.1 (-1)) dp = some (ms I u.1 u.2.1 (-1))) := by
            intro g hg
            have hlt : r.1 < z := cz_lt q4 (fun q => by rw [q] at hg; cases hg)
            unfold h_X10_readPlain_J128
            rw [hg]
            dsimp only
            obtain ⟨k1, k2⟩ := hsm.2 (r.1 + 1) r.2.1 (by omega) hn'
            cases h3 : sm (r.1 + 1) r.2.1 with
            | inl e =>
              obtain ⟨he, u, w, e3⟩ := k1 e h3
              refine ⟨fun e' h => ?_, (fun r h => by cases h)⟩
              cases h
              exact ⟨he, u, w, by rw [e3, p_bs]⟩
            | inr y =>
              obtain ⟨hn'', e3⟩ := k2 y h3
              refine ⟨(fun e' h => by cases h), fun u h => ?_⟩
              cases h
              exact ⟨hn'', by rw [e3, p_bs]⟩
          by_cases a1 : c r.1 = 160
          · rw [if_pos a1]
            dsimp only
            rw [if_neg (by decide)]
            exact fin (d_join 6) (by rw [a1]; rfl)
          · rw [if_neg a1]
            dsimp only
            rw [if_pos rfl, mr_takes M mr.2, p_bs]
            by_cases a2 : c r.1 = 162
            · rw [if_pos a2]
              dsimp only
              rw [if_neg (by decide)]
              exact fin (d_join 7) (by rw [a2]; rfl)
            · rw [if_neg a2]
              dsimp only
              rw [if_pos rfl, mr_must M mr.2, p_bs]
              by_cases a3 : c r.1 = 161
              · rw [if_pos a3]
                exact fin (d_join 8) (by rw [a3]; rfl)
              · rw [if_neg a3]
                have h0 : op_cmp (c r.1) = none := by unfold op_cmp; rw [if_neg a1, if_neg a2, if_neg a3]
                rw [h0]
                refine ⟨fun e' h => ?_, (fun r h => by cases h)⟩
                cases h
                refine ⟨mr.2, r.1, r.2.1, ?_⟩
                unfold h_X10_readPlain_J128
                rw [hsm.1 _ _ _ (mr_pl M mr.2), p_bs]
    cases h3 : sp_pos c sm sub p' n with
    | inl e =>
      refine ⟨fun e' h => ?_, (fun r h => by cases h)⟩
      cases h
      exact key.1 e h3
    | inr r =>
      refine ⟨(fun e' h => by cases h), fun u h => ?_⟩
      cases h
      exact key.2 r h3
theorem dp_8 {r : Nat} (h : r ≤ 8) : nI (8 - r) = 8 ↔ r = 0 := by
  have := i_eqI (x := nI (8 - r)) (y := 8) (b := 8) rfl rfl (by omega) (by omega)
  rw [this]; omega
theorem dp_s {r : Nat} (h : r + 1 ≤ 8) : nI (8 - (r + 1)) + 1 = nI (8 - r) := by
  rw [← nI_succ]; congr 1; omega
theorem mr_sum {I : v_I} {c v : Nat → Int32} {pl : Nat → Nat} {o : Bool} {z : Nat} (M : Mr I c v pl o z) : ∀ r, r ≤ 8 → ∀ N, 3 * r + 3 ≤ N → okM I pl z (gh_X10_readTest N 3 (nI (8 - r))) (sp_sum c v o r)
  | 0, hr, N, hN => by
    obtain ⟨k, rfl⟩ : ∃ k, N = k + 3 := ⟨N - 3, by omega⟩
    exact mr_sum1 M (mo_term M.2.2.2.1 moS_none) (gh_X10_readTest (k + 2)) _ (mr_term1 M (mo_part M.2.2.2.1 moS_none) (gh_X10_readTest (k + 1)) _ (mr_part M (gh_X10_readTest k) _ moS_none (.inl ⟨rfl, rfl⟩)))
  | r + 1, hr, N, hN => by
    obtain ⟨k, rfl⟩ : ∃ k, N = k + 3 := ⟨N - 3, by omega⟩
    have ih := mr_sum M r (by omega) k (by omega)
    have hm := moS_some (mo_sum (v := v) (o := o) M.2.2.2.1 r)
    exact mr_sum1 M (mo_term M.2.2.2.1 hm) (gh_X10_readTest (k + 2)) _ (mr_term1 M (mo_part M.2.2.2.1 hm) (gh_X10_readTest (k + 1)) _ (mr_part M (gh_X10_readTest k) _ hm (.inr ⟨_, rfl, fun q => absurd ((dp_8 hr).mp q) (by omega), by rw [dp_s hr]; exact ih⟩)))
theorem mr_test {I : v_I} {c v : Nat → Int32} {pl : Nat → Nat} {o : Bool} {z : Nat} (M : Mr I c v pl o z) : ∀ r, r ≤ 8 → ∀ N, 3 * r + 6 ≤ N → okM I pl z (gh_X10_readTest N 0 (nI (8 - r))) (sp_test c v o r)
  | 0, hr, N, hN => by
    obtain ⟨k, rfl⟩ : ∃ k, N = k + 3 := ⟨N - 3, by omega⟩
    have hs := mo_sum (v := v) (o := o) M.2.2.2.1 0
    exact mr_test1 M (mo_both M.2.2.2.1 hs moS_none) (gh_X10_readTest (k + 2)) _ (mr_both1 M (mo_plain M.2.2.2.1 hs moS_none) (gh_X10_readTest (k + 1)) _ (mr_plain M (gh_X10_readTest k) _ hs moS_none (mr_sum M 0 hr k (by omega)) (.inl ⟨rfl, rfl⟩)))
  | r + 1, hr, N, hN => by
    obtain ⟨k, rfl⟩ : ∃ k, N = k + 3 := ⟨N - 3, by omega⟩
    have ih := mr_test M r (by omega) k (by omega)
    have hs := mo_sum (v := v) (o := o) M.2.2.2.1 (r + 1)
    have hm := moS_some (mo_test (v := v) (o := o) M.2.2.2.1 r)
    exact mr_test1 M (mo_both M.2.2.2.1 hs hm) (gh_X10_readTest (k + 2)) _ (mr_both1 M (mo_plain M.2.2.2.1 hs hm) (gh_X10_readTest (k + 1)) _ (mr_plain M (gh_X10_readTest k) _ hs hm (mr_sum M (r + 1) hr k (by omega)) (.inr ⟨_, rfl, fun q => absurd ((dp_8 hr).mp q) (by omega), by rw [dp_s hr]; exact ih⟩)))
end sp94
