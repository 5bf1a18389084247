noncomputable section sp95
/-! the model reads CLAUSES, a TEXT -/
def okK (I : v_I) (pl : Nat → Nat) (z : Nat) (f : v_I → Option v_I) (p n : Nat) (x : CR) : Prop :=
    (∀ e, x = .inl e → e ≤ z ∧ ∃ p' n', f (ms I p n (-1)) = some (ms I p' n' (nI (pl e)))) ∧ (∀ r, x = .inr r → r.2.1 ≤ 50 ∧ r.1 ≤ z ∧ f (ms I p n (-1)) = some (ms I r.1 r.2.1 (-1)))
theorem mr_if {I : v_I} {c v : Nat → Int32} {pl : Nat → Nat} {o : Bool} {z : Nat} (M : Mr I c v pl o z) {f : v_I → Option v_I} (hf : ∀ J, f J = (h_X10_takes0 J 4).bind fun r => if r.1 = 0 then some r.2 else (gh_X10_readTest GNN 0 0 r.2).bind fun s => some s) {p n : Nat} (hp : p ≤ z) (hn : n ≤ 50) (k : Int32) (a b : Option Den) (t : Int32) : okK I pl z f p n (sp_if c v o p n k a b t) := by
  unfold okK sp_if
  rw [hf, mr_takes M hp, p_bs]
  by_cases h : c p = 4
  · rw [if_pos h, if_pos h]
    have hlt := cz_lt' M.2.2.2.1 h (by decide)
    dsimp only
    rw [if_neg (by decide)]
    have T := mr_test M 8 (by omega) GNN (by rw [GN_eq]; omega)
    have mT := mo_test (v := v) (o := o) M.2.2.2.1 8
    obtain ⟨i1, i2⟩ := T.2 (p + 1) n hlt hn
    cases h2 : sp_test c v o 8 (p + 1) n with
    | inl e =>
      obtain ⟨he, u, w, e2⟩ := i1 e h2
      refine ⟨fun e' h => ?_, (fun r h => by cases h)⟩
      cases h
      exact ⟨he, u, w, by rw [show (0 : Int32) = nI (8 - 8) from rfl, e2, p_bs]⟩
    | inr r =>
      obtain ⟨hn', e2⟩ := i2 r h2
      refine ⟨(fun e' h => by cases h), fun u h => ?_⟩
      cases h
      exact ⟨hn', (mT _ _ _ h2).2, by rw [show (0 : Int32) = nI (8 - 8) from rfl, e2, p_bs]⟩
  · rw [if_neg h, if_neg h]
    dsimp only
    rw [if_pos rfl]
    refine ⟨(fun e' h => by cases h), fun u h => ?_⟩
    cases h
    exact ⟨hn, hp, rfl⟩
theorem mr_ifX (I : v_I) (p n : Nat) {b : Int32} (h : b ≠ -1) {f : v_I → Option v_I} (hf : ∀ J, f J = (h_X10_takes0 J 4).bind fun r => if r.1 = 0 then some r.2 else (gh_X10_readTest GNN 0 0 r.2).bind fun s => some s) : f (ms I p n b) = some (ms I p n b) := by
  rw [hf, mr_takesX _ _ _ h, p_bs]; dsimp only; rw [if_pos rfl]
theorem mr_sumK {I : v_I} {c v : Nat → Int32} {pl : Nat → Nat} {o : Bool} {z : Nat} (M : Mr I c v pl o z) {f g : v_I → Option v_I} (hf : ∀ J, f J = (gh_X10_readTest GNN 3 0 J).bind g) (hg : ∀ p n b, b ≠ -1 → g (ms I p n b) = some (ms I p n b)) {p n : Nat} (hp : p ≤ z) (hn : n ≤ 50) {x : Nat × Nat × Den → CR} (hx : ∀ r, sp_sum c v o 8 p n = .inr r → r.2.1 ≤ 50 → r.1 ≤ z → okK I pl z g r.1 r.2.1 (x r)) :
    okK I pl z f p n (match sp_sum c v o 8 p n with | .inl e => .inl e | .inr r => x r) := by
  have T := mr_sum M 8 (by omega) GNN (by rw [GN_eq]; omega)
  have mT := mo_sum (v := v) (o := o) M.2.2.2.1 8
  obtain ⟨i1, i2⟩ := T.2 p n hp hn
  unfold okK
  rw [hf]
  cases h2 : sp_sum c v o 8 p n with
  | inl e =>
    obtain ⟨he, u, w, e2⟩ := i1 e h2
    refine ⟨fun e' h => ?_, (fun r h => by cases h)⟩
    cases h
    exact ⟨he, u, w, by rw [show (0 : Int32) = nI (8 - 8) from rfl, e2, p_bs, hg _ _ _ (mr_pl M he)]⟩
  | inr r =>
    obtain ⟨hn', e2⟩ := i2 r h2
    rw [show (0 : Int32) = nI (8 - 8) from rfl, e2, p_bs]
    exact hx r h2 hn' (mT _ _ _ h2).2
theorem mr_law1 {I : v_I} {c v : Nat → Int32} {pl : Nat → Nat} {z : Nat} (M : Mr I c v pl false z) {p n : Nat} (hp : p ≤ z) (hn : n ≤ 50) : okK I pl z h_X10_readClause p n (sp_law1 c v p n) := by
  have j29 : ∀ J, h_X10_readClause_J29 J = (h_X10_takes0 J 4).bind fun r => if r.1 = 0 then some r.2 else (gh_X10_readTest GNN 0 0 r.2).bind fun s => some s := fun J => rfl
  have j16 : ∀ J, h_X10_readClause_J16 J = (gh_X10_readTest GNN 3 0 J).bind h_X10_readClause_J29 := fun J => rfl
  have jX := fun p n b h => mr_ifX I p n (b := b) h j29
  unfold sp_law1
  by_cases h12 : c p = 1 ∨ c p = 2
  · have hlt : p < z := cz_lt M.2.2.2.1 (fun q => by rw [q] at h12; exact absurd h12 (by decide))
    rw [if_pos h12]
    have e : h_X10_readClause (ms I p n (-1)) = h_X10_readClause_J16 (ms I (p + 1) n (-1)) := by
      unfold h_X10_readClause
      rw [mr_takes M hp, p_bs]
      by_cases h1 : c p = 1
      · rw [if_pos h1]; dsimp only; rw [if_neg (by decide)]
      · rw [if_neg h1]; dsimp only
        rw [if_pos rfl, mr_takes M hp, p_bs, if_pos (h12.resolve_left h1)]; dsimp only; rw [if_neg (by decide)]
    have := mr_sumK M j16 jX (p := p + 1) hlt hn (x := fun r => sp_if c v false r.1 r.2.1 (c p - 1) (some r.2.2) none 1) (fun r hr h1 h2 => mr_if M j29 h2 h1 _ _ _ _)
    unfold okK at this ⊢
    rw [e]
    exact this
  · rw [if_neg h12]
    have h1 : c p ≠ 1 := fun q => h12 (.inl q)
    have h2 : c p ≠ 2 := fun q => h12 (.inr q)
    have e : h_X10_readClause (ms I p n (-1)) = h_X10_readClause_J29 (if c p = 3 then ms I (p + 1) n (-1) else ms I p n (nI (pl p))) := by
      unfold h_X10_readClause
      rw [mr_takes M hp, p_bs, if_neg h1]; dsimp only
      rw [if_pos rfl, mr_takes M hp, p_bs, if_neg h2]; dsimp only
      rw [if_pos rfl, mr_must M hp, p_bs]
    by_cases h3 : c p = 3
    · rw [if_pos h3] at e ⊢
      have hlt := cz_lt' M.2.2.2.1 h3 (by decide)
      have := mr_if M j29 (p := p + 1) hlt hn 2 none none 1
      unfold okK at this ⊢
      rw [e]
      exact this
    · rw [if_neg h3] at e ⊢
      refine ⟨fun e' h => ?_, (fun r h => by cases h)⟩
      cases h
      exact ⟨hp, p, n, by rw [e, jX _ _ _ (mr_pl M hp)]⟩
theorem mr_times {I : v_I} {c v : Nat → Int32} {pl : Nat → Nat} {z : Nat} (M : Mr I c v pl true z) {p n : Nat} (hp : p ≤ z) (hn : n ≤ 50) (k : Int32) (a b : Option Den) : okK I pl z h_X10_readOrder_J60 p n (sp_times c v p n k a b) := by
  have j76 : ∀ J, h_X10_readOrder_J76 J = (h_X10_takes0 J 4).bind fun r => if r.1 = 0 then some r.2 else (gh_X10_readTest GNN 0 0 r.2).bind fun s => some s := fun J => rfl
  have jX := fun p n b h => mr_ifX I p n (b := b) h j76
  unfold sp_times
  have e : h_X10_readOrder_J60 (ms I p n (-1)) = if c p = 25 then (h_X10_mustNumber (ms I (p + 1) n (-1)) 1 20).bind h_X10_readOrder_J76 else h_X10_readOrder_J76 (ms I p n (-1)) := by
    unfold h_X10_readOrder_J60
    rw [mr_takes M hp, p_bs]
    by_cases h : c p = 25
    · rw [if_pos h, if_pos h]; dsimp only; rw [if_neg (by decide)]
    · rw [if_neg h, if_neg h]; dsimp only; rw [if_pos rfl]
  by_cases h : c p = 25
  · have hlt := cz_lt' M.2.2.2.1 h (by decide)
    rw [if_pos h, mr_num M hlt, p_bs] at e
    rw [if_pos h]
    by_cases h1 : c (p + 1) = 50 ∧ 1 ≤ v (p + 1) ∧ v (p + 1) ≤ 20
    · have hlt' := cz_lt' M.2.2.2.1 h1.1 (by decide)
      rw [if_pos h1] at e ⊢
      have := mr_if M j76 (p := p + 2) (by omega) hn k a b (v (p + 1))
      unfold okK at this ⊢
      rw [e]
      exact this
    · rw [if_neg h1] at e ⊢
      refine ⟨fun e' h => ?_, (fun r h => by cases h)⟩
      cases h
      exact ⟨hlt, p + 1, n, by rw [e, jX _ _ _ (mr_pl M hlt)]⟩
  · rw [if_neg h] at e ⊢
    have := mr_if M j76 hp hn k a b 1
    unfold okK at this ⊢
    rw [e]
    exact this
theorem mr_timesX (I : v_I) (p n : Nat) {b : Int32} (h : b ≠ -1) : h_X10_readOrder_J60 (ms I p n b) = some (ms I p n b) := by
  unfold h_X10_readOrder_J60
  rw [mr_takesX _ _ _ h, p_bs]; dsimp only; rw [if_pos rfl]
  exact mr_ifX I p n h (fun J => rfl)
theorem mr_ord1 {I : v_I} {c v : Nat → Int32} {pl : Nat → Nat} {z : Nat} (M : Mr I c v pl true z) {p n : Nat} (hp : p ≤ z) (hn : n ≤ 50) : okK I pl z h_X10_readOrder p n (sp_ord1 c v p n) := by
  have j46 : ∀ J, h_X10_readOrder_J46 J = (gh_X10_readTest GNN 3 0 J).bind h_X10_readOrder_J60 := fun J => rfl
  have jX := fun p n b h => mr_timesX I p n (b := b) h
  unfold sp_ord1
  by_cases h22 : c p = 22
  · have hlt := cz_lt' M.2.2.2.1 h22 (by decide)
    rw [if_pos h22]
    have T := mr_sum M 8 (by omega) GNN (by rw [GN_eq]; omega)
    let g : v_I → Option v_I := fun J => (h_X10_must J 23).bind fun r => (gh_X10_readTest GNN 3 0 r).bind h_X10_readOrder_J60
    have e : h_X10_readOrder (ms I p n (-1)) = (gh_X10_readTest GNN 3 0 (ms I (p + 1) n (-1))).bind g := by
      unfold h_X10_readOrder
      rw [mr_takes M hp, p_bs, if_pos h22]; dsimp only; rw [if_neg (by decide)]
    have gX : ∀ p n b, b ≠ -1 → g (ms I p n b) = some (ms I p n b) := by
      intro p n b h
      show (h_X10_must (ms I p n b) 23).bind _ = _
      rw [mr_mustX _ _ _ h, p_bs, show (0 : Int32) = nI (8 - 8) from rfl, T.1 _ _ _ h, p_bs, jX _ _ _ h]
    have := mr_sumK M (f := fun J => (gh_X10_readTest GNN 3 0 J).bind g) (fun J => rfl) gX (p := p + 1) hlt hn (x := fun r => if c r.1 = 23 then (match sp_sum c v true 8 (r.1 + 1) r.2.1 with
        | .inl e => .inl e
        | .inr q => sp_times c v q.1 q.2.1 2 (some r.2.2) (some q.2.2))
      else .inl r.1) (fun r hr h1 h2 => by
        have eg : g (ms I r.1 r.2.1 (-1)) = (gh_X10_readTest GNN 3 0 (if c r.1 = 23 then ms I (r.1 + 1) r.2.1 (-1) else ms I r.1 r.2.1 (nI (pl r.1)))).bind h_X10_readOrder_J60 := by
          show (h_X10_must (ms I r.1 r.2.1 (-1)) 23).bind _ = _
          rw [mr_must M h2, p_bs]
        by_cases q : c r.1 = 23
        · rw [if_pos q] at eg ⊢
          have hlt' := cz_lt' M.2.2.2.1 q (by decide)
          have := mr_sumK M (f := fun J => (gh_X10_readTest GNN 3 0 J).bind h_X10_readOrder_J60) (fun J => rfl) jX (p := r.1 + 1) hlt' h1 (x := fun q => sp_times c v q.1 q.2.1 2 (some r.2.2) (some q.2.2)) (fun q _ a b => mr_times M b a _ _ _)
          unfold okK at this ⊢
          rw [eg]
          exact this
        · rw [if_neg q] at eg ⊢
          refine ⟨fun e' h => ?_, (fun r h => by cases h)⟩
          cases h
          refine ⟨h2, r.1, r.2.1, ?_⟩
          rw [eg, show (0 : Int32) = nI (8 - 8) from rfl, T.1 _ _ _ (mr_pl M h2), p_bs, jX _ _ _ (mr_pl M h2)])
    unfold okK at this ⊢
    rw [e]
    exact this
  · rw [if_neg h22]
    by_cases h12 : c p = 20 ∨ c p = 21
    · have hlt : p < z := cz_lt M.2.2.2.1 (fun q => by rw [q] at h12; exact absurd h12 (by decide))
      rw [if_pos h12]
      have e : h_X10_readOrder (ms I p n (-1)) = h_X10_readOrder_J46 (ms I (p + 1) n (-1)) := by
        unfold h_X10_readOrder
        rw [mr_takes M hp, p_bs, if_neg h22]; dsimp only
        rw [if_pos rfl, mr_takes M hp, p_bs]
        by_cases h1 : c p = 20
        · rw [if_pos h1]; dsimp only; rw [if_neg (by decide)]
        · rw [if_neg h1]; dsimp only
          rw [if_pos rfl, mr_takes M hp, p_bs, if_pos (h12.resolve_left h1)]; dsimp only; rw [if_neg (by decide)]
      have := mr_sumK M j46 jX (p := p + 1) hlt hn (x := fun r => sp_times c v r.1 r.2.1 (c p - 20) (some r.2.2) none) (fun r hr h1 h2 => mr_times M h2 h1 _ _ _)
      unfold okK at this ⊢
      rw [e]
      exact this
    · rw [if_neg h12]
      have h1 : c p ≠ 20 := fun q => h12 (.inl q)
      have h2 : c p ≠ 21 := fun q => h12 (.inr q)
      have e : h_X10_readOrder (ms I p n (-1)) = h_X10_readOrder_J60 (if c p = 24 then ms I (p + 1) n (-1) else ms I p n (nI (pl p))) := by
        unfold h_X10_readOrder
        rw [mr_takes M hp, p_bs, if_neg h22]; dsimp only
        rw [if_pos rfl, mr_takes M hp, p_bs, if_neg h1]; dsimp only
        rw [if_pos rfl, mr_takes M hp, p_bs, if_neg h2]; dsimp only
        rw [if_pos rfl, mr_must M hp, p_bs]
      by_cases h3 : c p = 24
      · rw [if_pos h3] at e ⊢
        have hlt := cz_lt' M.2.2.2.1 h3 (by decide)
        have := mr_times M (p := p + 1) hlt hn 3 none none
        unfold okK at this ⊢
        rw [e]
        exact this
      · rw [if_neg h3] at e ⊢
        refine ⟨fun e' h => ?_, (fun r h => by cases h)⟩
        cases h
        exact ⟨hp, p, n, by rw [e, jX _ _ _ (mr_pl M hp)]⟩
theorem mr_bs {α : Type} (o : Option α) : (o.bind fun r => some r) = o := by cases o <;> rfl
theorem mr_one {I : v_I} {c v : Nat → Int32} {pl : Nat → Nat} {o : Bool} {z : Nat} (M : Mr I c v pl o z) {p n : Nat} (hp : p ≤ z) (hn : n ≤ 50) : okK I pl z h_X10_readOne p n (sp_cls c v o p n) := by
  have e0 : ms I p n (-1) 49 10 = bI o := (ms_ne _ _ _ _ (by omega)).trans M.2.2.2.2.2.1
  cases o with
  | false =>
    have := mr_law1 M hp hn
    unfold okK at this ⊢
    unfold h_X10_readOne
    rw [if_pos (by rw [e0]; rfl)]
    rw [mr_bs]
    exact this
  | true =>
    have := mr_ord1 M hp hn
    unfold okK at this ⊢
    unfold h_X10_readOne
    rw [if_neg (by rw [e0]; decide)]
    rw [mr_bs]
    exact this
theorem mr_cll {I : v_I} {c v : Nat → Int32} {pl : Nat → Nat} {o : Bool} {z : Nat} (M : Mr I c v pl o z) : ∀ (f i p n m : Nat) (D : List Cls), i + f = 12 → p ≤ z → n ≤ 50 → f + 3 ≤ m →
    (∀ e, sp_cll c v o z f p n D = .inl e → e ≤ z ∧ ∃ k p' n' b, v_loop h_X10_reads_B34 m (nI i, ms I p n (-1)) = some (k, ms I p' n' b) ∧ (b = nI (pl e) ∨ (b = -1 ∧ p' = e ∧ e < z))) ∧ (∀ D', sp_cll c v o z f p n D = .inr D' → ∃ k n', v_loop h_X10_reads_B34 m (nI i, ms I p n (-1)) = some (k, ms I z n' (-1))) := by
  have c59 : (100 : Int32) + 59 = 159 := by decide
  have stop : ∀ i p n m, p ≤ z → c p ≠ 159 → v_loop h_X10_reads_B34 (m + 1) (nI i, ms I p n (-1)) = some (nI i, ms I p n (-1)) := by
    intro i p n m hp h
    have : h_X10_reads_B34 (nI i, ms I p n (-1)) = some (.inr (nI i, ms I p n (-1))) := by
      unfold h_X10_reads_B34
      simp only [h_X10_sign, p_bs, c59]
      rw [mr_takes M hp, p_bs, if_neg h]; dsimp only; rw [if_pos rfl]
    simp only [v_loop, this]
  have stopX : ∀ k p n b m, b ≠ -1 → v_loop h_X10_reads_B34 (m + 1) (k, ms I p n b) = some (k, ms I p n b) := by
    intro k p n b m h
    have : h_X10_reads_B34 (k, ms I p n b) = some (.inr (k, ms I p n b)) := by
      unfold h_X10_reads_B34
      simp only [h_X10_sign, p_bs, c59]
      rw [mr_takesX _ _ _ h, p_bs]; dsimp only; rw [if_pos rfl]
    simp only [v_loop, this]
  intro f
  induction f with
  | zero =>
    intro i p n m D hi hp hn hm
    obtain ⟨m, rfl⟩ : ∃ k, m = k + 2 := ⟨m - 2, by omega⟩
    unfold sp_cll
    by_cases h : c p = 159
    · rw [if_pos h]
      have hlt := cz_lt' M.2.2.2.1 h (by decide)
      refine ⟨fun e h' => ?_, (fun r h => by cases h)⟩
      cases h'
      refine ⟨hlt, nI i + 1, p + 1, n, _, ?_, .inl rfl⟩
      have : h_X10_reads_B34 (nI i, ms I p n (-1)) = some (.inl (nI i + 1, ms I (p + 1) n (nI (pl (p + 1))))) := by
        unfold h_X10_reads_B34 h_X10_reads_J34_56 h_X10_reads_J34_67
        simp only [h_X10_sign, p_bs, c59]
        rw [mr_takes M hp, p_bs, if_pos h]; dsimp only
        rw [if_neg (by decide), if_pos (show nI i = 12 by rw [show i = 12 by omega]; rfl), mr_faults M hlt, p_bs, ms_fineX _ _ _ (mr_pl M hlt), p_bs, if_pos rfl]
        rfl
      have e2 : v_loop h_X10_reads_B34 (m + 2) (nI i, ms I p n (-1)) = v_loop h_X10_reads_B34 (m + 1) (nI i + 1, ms I (p + 1) n (nI (pl (p + 1)))) := by
        rw [show m + 2 = (m + 1) + 1 from rfl]
        simp only [v_loop, this]
      rw [e2, stopX _ _ _ _ _ (mr_pl M hlt)]
    · rw [if_neg h]
      by_cases h2 : p < z
      · rw [if_pos h2]
        refine ⟨fun e h' => ?_, (fun r h => by cases h)⟩
        cases h'
        exact ⟨hp, nI i, p, n, -1, stop i p n _ hp h, .inr ⟨rfl, rfl, h2⟩⟩
      · rw [if_neg h2]
        refine ⟨(fun r h => by cases h), fun D' h' => ?_⟩
        have : p = z := by omega
        subst this
        exact ⟨nI i, n, stop i p n _ hp h⟩
  | succ f ih =>
    intro i p n m D hi hp hn hm
    obtain ⟨m, rfl⟩ : ∃ k, m = k + 2 := ⟨m - 2, by omega⟩
    unfold sp_cll
    by_cases h : c p = 159
    · rw [if_pos h]
      have hlt := cz_lt' M.2.2.2.1 h (by decide)
      have K := mr_one M (p := p + 1) hlt hn
      have e1 : h_X10_reads_B34 (nI i, ms I p n (-1)) = (h_X10_readOne (ms I (p + 1) n (-1))).bind fun r => some (.inl (nI (i + 1), r)) := by
        unfold h_X10_reads_B34 h_X10_reads_J34_56 h_X10_reads_J34_67
        simp only [h_X10_sign, p_bs, c59]
        rw [mr_takes M hp, p_bs, if_pos h]; dsimp only
        rw [if_neg (by decide), if_neg (show ¬ nI i = 12 from fun q => absurd ((i_eqI (b := 12) rfl rfl (by omega) (by omega)).mp q) (by omega)), ms_fine, p_bs, if_neg (by decide), nI_succ]
        rfl
      cases h2 : sp_cls c v o (p + 1) n with
      | inl e =>
        obtain ⟨he, u, w, e2⟩ := K.1 e h2
        refine ⟨fun e' h => ?_, (fun r h => by cases h)⟩
        cases h
        refine ⟨he, nI (i + 1), u, w, _, ?_, .inl rfl⟩
        rw [e2, p_bs] at e1
        have e3 : v_loop h_X10_reads_B34 (m + 2) (nI i, ms I p n (-1)) = v_loop h_X10_reads_B34 (m + 1) (nI (i + 1), ms I u w (nI (pl e))) := by
          rw [show m + 2 = (m + 1) + 1 from rfl]
          simp only [v_loop, e1]
        rw [e3, stopX _ _ _ _ _ (mr_pl M he)]
      | inr r =>
        obtain ⟨hn', hz', e2⟩ := K.2 r h2
        rw [e2, p_bs] at e1
        have e3 : v_loop h_X10_reads_B34 (m + 2) (nI i, ms I p n (-1)) = v_loop h_X10_reads_B34 (m + 1) (nI (i + 1), ms I r.1 r.2.1 (-1)) := by
          rw [show m + 2 = (m + 1) + 1 from rfl]
          simp only [v_loop, e1]
        rw [e3]
        exact ih (i + 1) r.1 r.2.1 (m + 1) _ (by omega) hz' hn' (by omega)
    · rw [if_neg h]
      by_cases h2 : p < z
      · rw [if_pos h2]
        refine ⟨fun e h' => ?_, (fun r h => by cases h)⟩
        cases h'
        exact ⟨hp, nI i, p, n, -1, stop i p n _ hp h, .inr ⟨rfl, rfl, h2⟩⟩
      · rw [if_neg h2]
        refine ⟨(fun r h => by cases h), fun D' h' => ?_⟩
        have : p = z := by omega
        subst this
        exact ⟨nI i, n, stop i p n _ hp h⟩
theorem mr_reads {I r1 : v_I} {c v : Nat → Int32} {pl : Nat → Nat} {o : Bool} {z : Nat} (h1 : h_X10_splits I (I 49 13) = some r1) (M : Mr (v_up r1 49 13 0) c v pl o z) (h18 : r1 49 18 = nI z) :
    (∀ e, sp_text c v o z = .inl e → e ≤ z ∧ ∃ p n, h_X10_reads I = some (0, v_up (ms (v_up r1 49 13 0) p n (nI (pl e))) 49 14 (nI (pl e)))) ∧ (∀ D, sp_text c v o z = .inr D → ∃ n, h_X10_reads I = some (1, v_up (ms (v_up r1 49 13 0) z n (-1)) 49 14 (-1))) := by
  have hz := M.1
  have h18' : (v_up r1 49 13 0) 49 18 = nI z := by rw [w_ne _ _ _ _ (by decide)]; exact h18
  have j95 : ∀ (J : v_I) (p n : Nat) (b : Int32), h_X10_reads_J95 (ms J p n b) = some (if b = -1 then 1 else 0, v_up (ms J p n b) 49 14 b) := by
    intro J p n b
    unfold h_X10_reads_J95 h_X10_fine
    rw [ms_21, p_le, w_ne _ _ _ _ (by decide), ms_21]
    by_cases h : b = -1
    · rw [if_pos h, if_pos h]; rfl
    · rw [if_neg h, if_neg h]; rfl
  have e0 : h_X10_reads I = (h_X10_readOne (ms (v_up r1 49 13 0) 0 0 (-1))).bind fun r_11 =>
      (v_loop h_X10_reads_B34 FU ((1 : Int32), r_11)).bind fun q_28 =>
      (h_X10_fine q_28.2).bind fun r_30 =>
      if r_30 = (0 : Int32) then h_X10_reads_J95 q_28.2
      else if (q_28.2 49 18) ≤ (q_28.2 49 19) then h_X10_reads_J95 q_28.2
      else (h_X10_faults q_28.2).bind fun r_39 => h_X10_reads_J95 r_39 := by
    unfold h_X10_reads
    rw [h1, p_bs]
    rfl
  rw [e0]
  generalize v_up r1 49 13 0 = I1 at M h18'
  have c59 : (100 : Int32) + 59 = 159 := by decide
  have bad : ∀ e p n k, e ≤ z → v_loop h_X10_reads_B34 FU ((1 : Int32), ms I1 p n (nI (pl e))) = some (k, ms I1 p n (nI (pl e))) → True := fun _ _ _ _ _ _ => True.intro
  have K := mr_one M (p := 0) (Nat.zero_le _) (Nat.zero_le 50)
  have finX : ∀ (k : Int32) p n e, e ≤ z → ((some (k, ms I1 p n (nI (pl e)))).bind fun q_28 =>
      (h_X10_fine q_28.2).bind fun r_30 =>
      if r_30 = (0 : Int32) then h_X10_reads_J95 q_28.2
      else if (q_28.2 49 18) ≤ (q_28.2 49 19) then h_X10_reads_J95 q_28.2
      else (h_X10_faults q_28.2).bind fun r_39 => h_X10_reads_J95 r_39) = some (0, v_up (ms I1 p n (nI (pl e))) 49 14 (nI (pl e))) := by
    intro k p n e he
    rw [p_bs]; dsimp only
    rw [ms_fineX _ _ _ (mr_pl M he), p_bs, if_pos rfl, j95, if_neg (mr_pl M he)]
  unfold sp_text
  cases h2 : sp_cls c v o 0 0 with
  | inl e =>
    obtain ⟨he, u, w, e2⟩ := K.1 e h2
    refine ⟨fun e' h => ?_, (fun r h => by cases h)⟩
    cases h
    refine ⟨he, u, w, ?_⟩
    have : h_X10_reads_B34 (1, ms I1 u w (nI (pl e))) = some (.inr (1, ms I1 u w (nI (pl e)))) := by
      unfold h_X10_reads_B34
      simp only [h_X10_sign, p_bs, c59]
      rw [mr_takesX _ _ _ (mr_pl M he), p_bs]; dsimp only; rw [if_pos rfl]
    have e3 : v_loop h_X10_reads_B34 FU (1, ms I1 u w (nI (pl e))) = some (1, ms I1 u w (nI (pl e))) := by
      obtain ⟨m, hF⟩ : ∃ k, FU = k + 1 := ⟨FU - 1, by rw [FU_eq]⟩
      rw [hF]
      simp only [v_loop, this]
    rw [e2, p_bs, e3]
    exact finX _ _ _ _ he
  | inr r =>
    obtain ⟨hn', hz', e2⟩ := K.2 r h2
    obtain ⟨k1, k2⟩ := mr_cll M 11 1 r.1 r.2.1 FU [r.2.2] rfl hz' hn' (by rw [FU_eq]; omega)
    dsimp only
    rw [e2, p_bs]
    refine ⟨fun e h => ?_, fun D h => ?_⟩
    · obtain ⟨he, k, p', n', b, e3, e4⟩ := k1 e h
      rw [show nI 1 = (1 : Int32) from rfl] at e3
      rw [e3]
      refine ⟨he, p', n', ?_⟩
      rcases e4 with rfl | ⟨rfl, rfl, hlt⟩
      · exact finX _ _ _ _ he
      · rw [p_bs]; dsimp only
        rw [ms_fine, p_bs, if_neg (by decide), if_neg (by rw [ms_19, ms_ne _ _ _ _ (by omega), h18']; exact nI_ge (by omega) (by omega)), mr_faults M he, p_bs, j95, if_neg (mr_pl M he)]
    · obtain ⟨k, n', e3⟩ := k2 D h
      rw [show nI 1 = (1 : Int32) from rfl] at e3
      rw [e3]
      refine ⟨n', ?_⟩
      rw [p_bs]; dsimp only
      rw [ms_fine, p_bs, if_neg (by decide), if_pos (by rw [ms_19, ms_ne _ _ _ _ (by omega), h18']; exact nI_le (by omega) (by omega)), j95, if_pos rfl]
end sp95
