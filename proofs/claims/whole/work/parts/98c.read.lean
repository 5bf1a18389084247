noncomputable section sp98c
variable {c v : Nat → Int32} {pl : Nat → Nat} {o : Bool} {z : Nat} {S : v_S} {F : v_F}
theorem c_comp {dp h : Nat} {sm : Nat → Nat → PR} (hS : p_SS S) (hF : p_FF F) (rc : Nat → Int32 → v_S → v_I → v_F → Option (Int32 × v_I)) (hm : mo z sm) (hh : 1 ≤ h) (hi : okC c v pl o z dp h (fun I => rc 4 0 S I F) sm) : okC c v pl o z dp (h + 1) (fun I => h_X6_readComparison rc S I F) (sp_comp c sm) := by
  intro I p n s B D hp hn hsp
  obtain ⟨i1, i2⟩ := hi I p n s B D hp hn hsp
  dsimp only at i1 i2 ⊢
  unfold sp_comp
  cases h2 : sm p n with
  | inl e =>
    obtain ⟨he, J, e1, e2, e3⟩ := i1 e h2
    refine ⟨fun e' h => ?_, (fun r h => by cases h)⟩
    cases h
    refine ⟨he, J, ?_, e2, e3⟩
    unfold h_X6_readComparison
    rw [e1, p_bs]; dsimp only
    rw [if_pos rfl]
  | inr r =>
    obtain ⟨hn', J, s', e1, e2, e3, e4, e5, e6, e7⟩ := i2 r h2
    have hr := hm _ _ _ h2
    have BJ := Cb_f e2 B
    have T := BJ.2.2.1 r.1 hr.2
    rw [← e3.2.1] at T
    dsimp only
    have fin : ∀ (k : Nat) (kk : Int32), kk = nI k → 6 ≤ k ∧ k ≤ 13 → r.1 < z → Rok pl z (h_X6_readComparison_J60 rc S F J kk) I p dp s (h + 1) (match sm (r.1 + 1) r.2.1 with
      | .inl e => .inl e
      | .inr q => .inr (q.1, q.2.1, d_join kk r.2.2 q.2.2)) := by
      intro k kk hkk hk hlt
      obtain ⟨k1, k2⟩ := c_join (a := s) (H := h + 1) hS hF hm hi hh (Nat.le_refl _) hk hkk BJ e3 hlt hn' (by omega) e4 (Sg_mono e6 (by omega))
      unfold h_X6_readComparison_J60
      rw [c_next BJ e3 hlt, p_bs]
      cases h3 : sm (r.1 + 1) r.2.1 with
      | inl e =>
        obtain ⟨he, K, x, I', a1, a2, a3, a4⟩ := k1 e h3
        refine ⟨fun e' h => ?_, (fun r h => by cases h)⟩
        cases h
        obtain ⟨s2, m1, m2, m3⟩ := a4.2
        refine ⟨he, I', ?_, Cf_trans e2 a3 e4, a4.1, s2, by omega, m2, m3⟩
        rw [a1, p_bs]; dsimp only
        rw [a2, p_bs]; rfl
      | inr q =>
        obtain ⟨hq, K, x, I', s2, a1, a2, a3, a4, a5, a6, a7, a8⟩ := k2 q h3
        refine ⟨(fun e h => by cases h), fun u h => ?_⟩
        cases h
        refine ⟨hq, I', s2, ?_, Cf_trans e2 a3 e4, a4, by omega, by dsimp only; omega, a7, fun w => ⟨(e7 (a8 w).1).1, st_join (e7 (a8 w).1).2 (a8 w).2⟩⟩
        rw [a1, p_bs]; dsimp only
        rw [a2, p_bs]; rfl
    unfold h_X6_readComparison h_X6_readComparison_J39
    rw [e1, p_bs]; dsimp only
    rw [if_neg (by decide)]
    by_cases a1 : c r.1 = 160
    · have hlt := cz_lt' BJ.2.2.2.1 a1 (by decide)
      rw [if_pos ((tk_60 T).mpr a1), if_neg (by decide), show op_cmp (c r.1) = some (d_join 6) by rw [a1]; rfl]
      exact fin 6 6 rfl (by omega) hlt
    · rw [if_neg (fun q => a1 ((tk_60 T).mp q))]
      by_cases a2 : c r.1 = 162
      · have hlt := cz_lt' BJ.2.2.2.1 a2 (by decide)
        rw [if_pos ((tk_62 T).mpr a2), if_neg (by decide), show op_cmp (c r.1) = some (d_join 7) by rw [a2]; rfl]
        exact fin 7 7 rfl (by omega) hlt
      · rw [if_neg (fun q => a2 ((tk_62 T).mp q)), if_pos rfl]
        by_cases a3 : c r.1 = 161
        · have hlt := cz_lt' BJ.2.2.2.1 a3 (by decide)
          rw [if_pos ((tk_61 T).mpr a3), show op_cmp (c r.1) = some (d_join 8) by rw [a3]; rfl]
          exact fin 8 8 rfl (by omega) hlt
        · rw [if_neg (fun q => a3 ((tk_61 T).mp q)), show op_cmp (c r.1) = none by unfold op_cmp; rw [if_neg a1, if_neg a2, if_neg a3]]
          obtain ⟨L, l1, l2, l3⟩ := c_flt (S := S) (F := F) BJ e3 hr.2 (by have := B.1; omega)
          refine ⟨fun e h => ?_, (fun r h => by cases h)⟩
          cases h
          obtain ⟨s2, m1, m2, m3⟩ := l3.2
          refine ⟨hr.2, L, ?_, Cf_trans e2 l2 e4, l3.1, s2, by omega, m2, m3⟩
          rw [l1, p_bs]; rfl
theorem nots_par (c : Nat → Int32) : ∀ (f p : Nat) (t : Bool), (sp_nots c f p t).2 ≠ t → p < (sp_nots c f p t).1
  | 0, p, t, h => absurd rfl h
  | f + 1, p, t, h => by
    unfold sp_nots at h ⊢
    by_cases q : c p = 7
    · rw [if_pos q]
      exact mo_nots c f (p + 1) (!t)
    · rw [if_neg q] at h
      exact absurd rfl h
theorem c_nots {dp n s : Nat} (rc : Nat → Int32 → v_S → v_I → v_F → Option (Int32 × v_I)) : ∀ (f i m : Nat) (t : Bool) (I : v_I) (p : Nat), i + f = 400 → f + 2 ≤ m → Cb I c v pl o z → Cd I p n dp s → p ≤ z →
    ∃ k I', v_loop (h_X6_readPlain_B4 rc S F) m (bI t, nI i, I) = some (bI (sp_nots c f p t).2, k, I') ∧ Cf s I I' ∧ Cd I' (sp_nots c f p t).1 n dp s ∧ I' 37 = I 37 ∧ I' 31 = I 31 := by
  intro f
  induction f with
  | zero =>
    intro i m t I p hi hm B D hp
    obtain ⟨m, rfl⟩ : ∃ k, m = k + 1 := ⟨m - 1, by omega⟩
    have : i = 400 := by omega
    subst this
    refine ⟨nI 400, I, ?_, Cf_refl _ _, D, rfl, rfl⟩
    have : h_X6_readPlain_B4 rc S F (bI t, nI 400, I) = some (.inr (bI t, nI 400, I)) := by
      unfold h_X6_readPlain_B4
      dsimp only
      rw [if_pos (by decide)]
    simp only [v_loop, this]
    rfl
  | succ f ih =>
    intro i m t I p hi hm B D hp
    obtain ⟨m, rfl⟩ : ∃ k, m = k + 1 := ⟨m - 1, by omega⟩
    have e0 : h_X6_readPlain_B4 rc S F (bI t, nI i, I) = if c p = 7 then some (.inl (bI (!t), nI (i + 1), nxt I p)) else some (.inr (bI t, nI i, I)) := by
      unfold h_X6_readPlain_B4 h_X6_readPlain_J4_30
      dsimp only
      rw [if_neg (lt400 (by omega)), c_take B D (tk_not (B.2.2.1 p hp)) (by decide), p_bs]
      by_cases q : c p = 7
      · rw [if_pos q, if_pos q]
        dsimp only
        rw [if_neg (by decide), p_le, p_le, ← nI_succ]
        cases t
        · rw [if_pos (by rfl)]; rfl
        · rw [if_neg (by decide)]; rfl
      · rw [if_neg q, if_neg q]
        dsimp only
        rw [if_pos rfl]
    unfold sp_nots
    by_cases q : c p = 7
    · rw [if_pos q] at e0 ⊢
      have hlt := cz_lt' B.2.2.2.1 q (by decide)
      have fN := Cf_next s I p
      obtain ⟨k, I', a1, a2, a3, a4, a5⟩ := ih (i + 1) m (!t) (nxt I p) (p + 1) (by omega) (by omega) (Cb_f fN B) (Cd_next D) (by omega)
      refine ⟨k, I', ?_, Cf_trans fN a2 (Nat.le_refl _), a3, by rw [a4, nxt_row _ _ (by decide)], by rw [a5, nxt_row _ _ (by decide)]⟩
      simp only [v_loop, e0]
      exact a1
    · rw [if_neg q] at e0 ⊢
      refine ⟨nI i, I, ?_, Cf_refl _ _, D, rfl, rfl⟩
      simp only [v_loop, e0]
theorem c_plain {dp h : Nat} {sm : Nat → Nat → PR} {sub : Option (Nat → Nat → PR)} (hS : p_SS S) (hF : p_FF F) (rc : Nat → Int32 → v_S → v_I → v_F → Option (Int32 × v_I)) (hh : 1 ≤ h) (hm : mo z (sp_pos c sm sub)) (hcm : okC c v pl o z dp h (fun I => rc 3 0 S I F) (sp_comp c sm))
    (hbr : ∀ I p n s, Cb I c v pl o z → Cd I p n dp s → p < z → n ≤ 50 → s ≤ p + 35 → Rok pl z (rc 7 1 S I F) I p dp s h (sp_brk c 141 sub p n)) : okC c v pl o z dp h (fun I => h_X6_readPlain rc S I F) (sp_plain c sm sub) := by
  intro I p n s B D hp hn hsp
  have hz := B.1
  obtain ⟨k, A, l1, l2, l3, l4, l5⟩ := c_nots (S := S) (F := F) rc 400 0 FU false I p (by omega) (by rw [FU_eq]; omega) B D hp
  rw [show bI false = (0 : Int32) from rfl, show nI 0 = (0 : Int32) from rfl] at l1
  unfold sp_plain
  have hp' := nots_le B.2.2.2.1 400 p false hp
  have hmo := mo_nots c 400 p false
  have hpar := nots_par c 400 p false
  generalize sp_nots c 400 p false = w at hp' hmo hpar l1 l3 ⊢
  obtain ⟨p', t⟩ := w
  dsimp only at hp' hmo hpar l1 l3 ⊢
  have BA := Cb_f l2 B
  have K : Rok pl z (if A 30 5 = 40 then rc 7 1 S A F else rc 3 0 S A F) A p' dp s h (sp_pos c sm sub p' n) := by
    unfold sp_pos
    have T := BA.2.2.1 p' hp'
    by_cases q : c p' = 140
    · rw [if_pos q, if_pos (by rw [l3.2.1]; exact (tk_40 T).mpr q)]
      exact hbr A p' n s BA l3 (cz_lt' B.2.2.2.1 q (by decide)) hn (by omega)
    · rw [if_neg q, if_neg (by rw [l3.2.1]; exact fun w => q ((tk_40 T).mp w))]
      exact hcm A p' n s BA l3 hp' hn (by omega)
  have e0 : h_X6_readPlain rc S I F = (if A 30 5 = 40 then rc 7 1 S A F else rc 3 0 S A F).bind fun r => h_X6_readPlain_J58 rc S F r.2 (bI t) r.1 := by
    unfold h_X6_readPlain h_X6_readPlain_J37
    rw [l1, p_bs]
    dsimp only
    by_cases q : A 30 5 = 40
    · rw [if_pos q, if_pos q]
    · rw [if_neg q, if_neg q]
  rw [e0]
  generalize (if A 30 5 = 40 then rc 7 1 S A F else rc 3 0 S A F) = fo at K
  unfold h_X6_readPlain_J58
  cases h3 : sp_pos c sm sub p' n with
  | inl e =>
    obtain ⟨he, J, b1, b2, b3⟩ := K.1 e h3
    refine ⟨fun e' h => ?_, (fun r h => by cases h)⟩
    cases h
    refine ⟨he, J, ?_, Cf_trans l2 b2 (Nat.le_refl _), b3⟩
    rw [b1, p_bs]; dsimp only
    rw [if_pos rfl]; rfl
  | inr r =>
    obtain ⟨hn', J, s', b1, b2, b3, b4, b5, b6, b7⟩ := K.2 r h3
    have hr := hm _ _ _ h3
    refine ⟨(fun e h => by cases h), fun u h => ?_⟩
    cases h
    rw [b1, p_bs]; dsimp only
    rw [if_neg (by decide)]
    cases t with
    | false =>
      rw [if_pos (by rfl)]
      refine ⟨hn', J, s', rfl, Cf_trans l2 b2 (Nat.le_refl _), b3, b4, by omega, ?_, fun w => ?_⟩
      · simpa using b6
      · have := b7 w
        rw [l5] at this
        simpa using this
    | true =>
      have := hpar (by decide)
      rw [if_neg (by decide)]
      have c1 := cr_step (S := S) (F := F) hS hF b3.2.2.2.2.1 (by omega) 3 0
      rw [show nI 3 = (3 : Int32) from rfl, show nI 0 = (0 : Int32) from rfl] at c1
      rw [c1, p_bs]
      have pkk := pk_ok 0 (by omega) 3 (by omega)
      refine ⟨hn', ast J s' 3 0, s' + 1, rfl, Cf_trans (Cf_trans l2 b2 (Nat.le_refl _)) (Cf_step J s' 3 0) b4, Cd_step b3 3 0, by omega, by omega, ?_, fun w => ?_⟩
      · have : Sg (ast J s' 3 0 37) s (s' + 1) h (d_not r.2.2) := Sg_not (Sg_cg b6 (fun i h1 h2 => st_lt _ _ _ _ h2)) hh b4 (by rw [st_at]; exact pkk.1)
        simpa using this
      · rw [st_2] at w
        have := b7 w
        rw [l5] at this
        refine ⟨this.1, ?_⟩
        have q := st_not this.2
        simpa using q
theorem c_sum (hS : p_SS S) (hF : p_FF F) (hc : cz c z) : ∀ r, r ≤ 8 → ∀ N, 4 * r + 4 ≤ N → okC c v pl o z (8 - r) (3 + 2 * r) (fun I => gh_X6_readTest N 4 0 S I F) (sp_sum c v o r)
  | 0, hr, N, hN => by
    obtain ⟨k, rfl⟩ : ∃ k, N = k + 4 := ⟨N - 4, by omega⟩
    exact okC_mono (c_sum1 (h := 2) hS hF (gh_X6_readTest (k + 3)) (mo_term hc moS_none) (by omega) (c_term1 (h := 1) hS hF (gh_X6_readTest (k + 2)) (mo_part hc moS_none) (by omega) (cr_part hS hF (gh_X6_readTest (k + 1)) (by omega) (fun I p n s B D hp hn hs => c_brk (t := 4) (gh_X6_readTest k) moS_none (.inl ⟨rfl, rfl, rfl⟩) (.inl ⟨rfl, rfl⟩) B D hp hn hs)))) (by omega)
  | r + 1, hr, N, hN => by
    obtain ⟨k, rfl⟩ : ∃ k, N = k + 4 := ⟨N - 4, by omega⟩
    have ih := c_sum hS hF hc r (by omega) k (by omega)
    have hm := moS_some (mo_sum (v := v) (o := o) hc r)
    exact okC_mono (c_sum1 (h := 3 + 2 * r + 1) hS hF (gh_X6_readTest (k + 3)) (mo_term hc hm) (by omega) (c_term1 (h := 3 + 2 * r) hS hF (gh_X6_readTest (k + 2)) (mo_part hc hm) (by omega) (cr_part hS hF (gh_X6_readTest (k + 1)) (by omega) (fun I p n s B D hp hn hs => c_brk (t := 4) (gh_X6_readTest k) hm (.inl ⟨rfl, rfl, rfl⟩) (.inr ⟨_, rfl, by omega, by rw [show 8 - (r + 1) + 1 = 8 - r by omega]; exact ih⟩) B D hp hn hs)))) (by omega)
theorem c_test (hS : p_SS S) (hF : p_FF F) (hc : cz c z) : ∀ r, r ≤ 8 → ∀ N, 4 * r + 8 ≤ N → okC c v pl o z (8 - r) (4 + 2 * r) (fun I => gh_X6_readTest N 0 0 S I F) (sp_test c v o r)
  | 0, hr, N, hN => by
    obtain ⟨k, rfl⟩ : ∃ k, N = k + 4 := ⟨N - 4, by omega⟩
    have hs := mo_sum (v := v) (o := o) hc 0
    have sm : okC c v pl o z (8 - 0) 3 (fun I => gh_X6_readTest k 4 0 S I F) (sp_sum c v o 0) := c_sum hS hF hc 0 hr k (by omega)
    exact okC_mono (c_test1 (h := 4) hS hF (gh_X6_readTest (k + 3)) (mo_both hc hs moS_none) (by omega) (c_both1 (h := 4) hS hF (gh_X6_readTest (k + 2)) (mo_plain hc hs moS_none) (by omega) (c_plain (h := 4) hS hF (gh_X6_readTest (k + 1)) (by omega) (mo_pos hc hs moS_none) (c_comp (h := 3) hS hF (gh_X6_readTest k) hs (by omega) sm) (fun I p n s B D hp hn hs => c_brk (t := 0) (gh_X6_readTest k) moS_none (.inr ⟨rfl, rfl, rfl⟩) (.inl ⟨rfl, rfl⟩) B D hp hn hs)))) (by omega)
  | r + 1, hr, N, hN => by
    obtain ⟨k, rfl⟩ : ∃ k, N = k + 4 := ⟨N - 4, by omega⟩
    have ih := c_test hS hF hc r (by omega) k (by omega)
    have hs := mo_sum (v := v) (o := o) hc (r + 1)
    have hm := moS_some (mo_test (v := v) (o := o) hc r)
    have sm := c_sum (v := v) (pl := pl) (o := o) hS hF hc (r + 1) hr k (by omega)
    have H : 3 + 2 * (r + 1) + 1 = 4 + 2 * (r + 1) := by omega
    exact okC_mono (c_test1 (h := 3 + 2 * (r + 1) + 1) hS hF (gh_X6_readTest (k + 3)) (mo_both hc hs hm) (by omega) (c_both1 (h := 3 + 2 * (r + 1) + 1) hS hF (gh_X6_readTest (k + 2)) (mo_plain hc hs hm) (by omega) (c_plain (h := 3 + 2 * (r + 1) + 1) hS hF (gh_X6_readTest (k + 1)) (by omega) (mo_pos hc hs hm) (c_comp (h := 3 + 2 * (r + 1)) hS hF (gh_X6_readTest k) hs (by omega) sm) (fun I p n s B D hp hn hs => Rok_mono (c_brk (t := 0) (h := 4 + 2 * r) (gh_X6_readTest k) hm (.inr ⟨rfl, rfl, rfl⟩) (.inr ⟨_, rfl, by omega, by rw [show 8 - (r + 1) + 1 = 8 - r by omega]; exact ih⟩) B D hp hn hs) (by omega))))) (by omega)
end sp98c
