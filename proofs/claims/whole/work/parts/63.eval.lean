noncomputable section sp63
theorem okE_leaf {I : v_I} {c v : Nat → Int32} {o : Bool} {vals : Nat → Int32} {B N : Nat} (E : Ev I c v o vals B N) (rc : Nat → Int32 → v_I → Option (Int64 × v_I)) {p n : Nat} {r : Nat × Nat × Den} (h91 : c p ≠ 191) (h : sp_leaf c v o p n = .inr r) : okE tyL (· = ·) I B vals (fun l J => h_X10_partOf rc J l) p r.1 r.2.2 := by
  intro live b hl hb
  obtain ⟨h1, h2, h3, h4, h5, h6, h7, h8, h9⟩ := id E
  have c91 : (100 : Int32) + 91 = 191 := by decide
  have hm := mo_leaf h6 _ _ _ h
  have hp : p < N := by omega
  have j100 : ∀ (q : Nat) (y2 y3 : Int32) (x : Int32), (y2 = 50 → q = p + 1 ∧ x = v p) → (y2 ≠ 50 → o = false → ∃ j, j < 9 ∧ y2 = nI (8 + j) ∧ x = I 61 j) → (y2 ≠ 50 → o = true → ∀ b, h_X10_orderValue (gs I (B + q) b) y2 y3 = some x) →
      wp (h_X10_partOf_J100 rc (gs I (B + q) b) live y2 y3) (fun r' => r'.2 = gs I (B + q) (nb live b (some x.toInt64)) ∧ tyL r'.1 ∧ (live = 1 → b = 0 → ∀ z, some x.toInt64 = some z → r'.1 = z)) := by
    intro q y2 y3 x q50 qlaw qord
    unfold h_X10_partOf_J100
    rw [nb_s, gs_24]
    rcases hl with rfl | rfl
    · rw [if_pos rfl]
      exact wp_some.mpr ⟨rfl, trivial, fun q => absurd q (by decide)⟩
    · rw [if_neg (by decide)]
      rcases hb with rfl | rfl
      · rw [if_pos rfl, gs_22]
        by_cases e50 : y2 = 50
        · obtain ⟨e1, e2⟩ := q50 e50
          subst e1
          rw [if_pos e50, show (2860 : Int32) + nI (B + (p + 1)) - 1 = nI 2860 + nI (B + p) by
            rw [← Nat.add_assoc B, nI_succ, ← Int32.add_assoc, Int32.sub_eq_add_neg, Int32.add_assoc _ 1, show (1 : Int32) + -1 = 0 by decide, Int32.add_zero]; rfl,
            p_inA (c := 2860) (k := B + p) rfl (by omega) (by omega), p_bs, gs_row _ _ _ (by omega)]
          refine wp_some.mpr ⟨rfl, trivial, fun _ _ z hz => ?_⟩
          cases hz
          rw [e2, h7 p hp, Nat.add_assoc]
        · rw [if_neg e50]
          rw [gs_ne _ _ _ (by omega), h4]
          cases o with
          | false =>
            obtain ⟨j, hj, e1, e2⟩ := qlaw e50 rfl
            rw [if_pos (by decide), e1, show nI (8 + j) - 8 = nI j by
              rw [Nat.add_comm, show nI (j + 8) = nI j + nI 8 from (nI_add j 8).symm, Int32.sub_eq_add_neg, Int32.add_assoc, show nI 8 + -8 = 0 by decide, Int32.add_zero], p_in_nI hj (by omega), p_bs, gs_row _ _ _ (by omega)]
            refine wp_some.mpr ⟨rfl, trivial, fun _ _ z hz => ?_⟩
            cases hz
            rw [e2]
          | true =>
            rw [if_neg (by decide), qord e50 rfl 0, p_bs]
            refine wp_some.mpr ⟨rfl, trivial, fun _ _ z hz => ?_⟩
            cases hz; rfl
      · rw [if_neg (by decide)]
        exact wp_some.mpr ⟨rfl, trivial, fun _ q => absurd q (by decide)⟩
  show wp (h_X10_partOf rc (gs I (B + p) b) live) _
  unfold h_X10_partOf
  simp only [h_X10_sign, p_bs, c91]
  rw [ev_pass E _ (by omega), p_bs, if_neg h91]
  dsimp only
  rw [if_pos rfl, gs_22, ev_code E _ _ (by omega), p_bs, p_le, ← nI_succ, gs_go, gs_ne _ _ _ (by omega), h4]
  unfold sp_leaf at h
  by_cases q : c p = 50 ∧ v p ≤ 1000
  · rw [if_pos q] at h
    by_cases q1 : n = 50
    · rw [if_pos q1] at h; cases h
    rw [if_neg q1] at h
    cases h
    have fin := j100 (p + 1) (c p) 0 (v p) (fun _ => ⟨rfl, rfl⟩) (fun q2 => absurd q.1 q2) (fun q2 => absurd q.1 q2)
    cases o with
    | false => rw [if_pos (by decide)]; exact fin
    | true =>
      rw [if_neg (by decide), if_neg (by rw [q.1]; decide), if_neg (by rw [q.1]; decide), if_neg (by rw [q.1]; decide)]
      exact fin
  · rw [if_neg q] at h
    by_cases q0 : (if o then (13 : Int32) else 8) ≤ c p ∧ c p ≤ (if o then 19 else 16)
    · rw [if_pos q0] at h
      by_cases q1 : n = 50
      · rw [if_pos q1] at h; cases h
      rw [if_neg q1] at h
      cases o with
      | false =>
        rw [if_neg (fun e => absurd e.1 (by decide))] at h
        cases h
        rw [if_pos (by decide)]
        simp only [if_false, Bool.false_eq_true] at q0
        obtain ⟨k, hk, ek⟩ := i_le_of (n := 16) rfl (by omega) (Int32.le_trans (by decide) q0.1) q0.2
        have hk8 : 8 ≤ k := by
          have := q0.1
          rw [ek] at this
          exact (i_leI (a := 8) rfl rfl (by omega) (by omega)).mp this
        obtain ⟨j, rfl⟩ : ∃ j, k = 8 + j := ⟨k - 8, by omega⟩
        have := j100 (p + 1) (c p) 0 (vals (wi_law (c p))) (fun e => by
          rw [ek] at e
          exact absurd ((i_eqI (b := 50) rfl rfl (by omega) (by omega)).mp e) (by omega)) (fun _ _ => ⟨j, by omega, ek, by rw [ek, h8 rfl j (by omega)]⟩) (fun _ e => by cases e)
        exact this
      | true =>
        simp only [if_true] at q0
        rw [if_neg (by decide)]
        obtain ⟨k, hk, ek⟩ := i_le_of (n := 19) rfl (by omega) (Int32.le_trans (by decide) q0.1) q0.2
        have hk8 : 13 ≤ k := by
          have := q0.1
          rw [ek] at this
          exact (i_leI (a := 13) rfl rfl (by omega) (by omega)).mp this
        have n50 : c p ≠ 50 := fun e => by
          rw [ek] at e
          exact absurd ((i_eqI (b := 50) rfl rfl (by omega) (by omega)).mp e) (by omega)
        by_cases q2 : c p = 13 ∨ c p = 14 ∨ c p = 19
        · rw [if_pos ⟨rfl, q2⟩] at h
          by_cases q3 : c (p + 1) = 50 ∧ 0 ≤ v (p + 1) ∧ v (p + 1) ≤ 7
          · rw [if_pos q3] at h
            cases h
            have hp1 : p + 1 < N := cz_lt' h6 q3.1 (by decide)
            obtain ⟨kk, hkk, ekk⟩ := i_le_of (n := 7) rfl (by omega) q3.2.1 q3.2.2
            have j76 : wp (h_X10_partOf_J76 rc (gs I (B + p + 1) b) live (c p)) (fun r' => r'.2 = gs I (B + (p + 2)) (nb live b (d_word (wi_one (c p) + (v (p + 1)).toNatClampNeg) vals)) ∧ tyL r'.1 ∧ (live = 1 → b = 0 → ∀ z, d_word (wi_one (c p) + (v (p + 1)).toNatClampNeg) vals = some z → r'.1 = z)) := by
              unfold h_X10_partOf_J76
              rw [gs_22, show (2860 : Int32) = nI 2860 from rfl, p_inA (c := 2860) (k := B + p + 1) rfl (by omega) (by omega), p_bs, p_le, p_le, ← nI_succ, gs_go, gs_row _ _ _ (by omega)]
              have hv := h7 (p + 1) hp1
              rw [show 2860 + (B + p + 1) = 2860 + B + (p + 1) by omega, ← hv, ekk]
              rw [nI_clamp (by omega)]
              have := j100 (p + 2) (c p) (nI kk) (vals (wi_one (c p) + kk)) (fun e => absurd e n50) (fun _ e => by cases e) (fun _ _ b => (h9 rfl (B + (p + 2)) b).2 (c p) kk q2 (by omega))
              exact this
            rcases q2 with e | e | e
            · rw [if_pos e]; exact j76
            · rw [if_neg (by rw [e]; decide), if_pos e]; exact j76
            · rw [if_neg (by rw [e]; decide), if_neg (by rw [e]; decide), if_pos e]; exact j76
          · rw [if_neg q3] at h; cases h
        · rw [if_neg (fun e => q2 e.2)] at h
          cases h
          rw [if_neg (fun e => q2 (.inl e)), if_neg (fun e => q2 (.inr (.inl e))), if_neg (fun e => q2 (.inr (.inr e)))]
          have hx : c p = 15 ∨ c p = 16 ∨ c p = 17 ∨ c p = 18 := by
            have l1 : ∀ j : Nat, k = j → c p = nI j := fun j e => by rw [ek, e]
            rcases (show k = 13 ∨ k = 14 ∨ k = 15 ∨ k = 16 ∨ k = 17 ∨ k = 18 ∨ k = 19 by omega) with e | e | e | e | e | e | e
            · exact absurd (.inl (l1 _ e)) q2
            · exact absurd (.inr (.inl (l1 _ e))) q2
            · exact .inl (l1 _ e)
            · exact .inr (.inl (l1 _ e))
            · exact .inr (.inr (.inl (l1 _ e)))
            · exact .inr (.inr (.inr (l1 _ e)))
            · exact absurd (.inr (.inr (l1 _ e))) q2
          have := j100 (p + 1) (c p) 0 (vals (wi_ord (c p))) (fun e => absurd e n50) (fun _ e => by cases e) (fun _ _ b => (h9 rfl (B + (p + 1)) b).1 (c p) hx)
          exact this
    · rw [if_neg q0] at h; cases h
/-- a PART -/
theorem okE_part {I : v_I} {c v : Nat → Int32} {o : Bool} {vals : Nat → Int32} {B N : Nat} (E : Ev I c v o vals B N) (rc : Nat → Int32 → v_I → Option (Int64 × v_I)) {sub : Option (Nat → Nat → PR)} (hms : moS N sub)
    (hs : ∀ g p n r, sub = some g → g p n = .inr r → okE tyL (· = ·) I B vals (rc 0) p r.1 r.2.2) {p n : Nat} {r : Nat × Nat × Den} (h : sp_part c v o sub p n = .inr r) : okE tyL (· = ·) I B vals (fun l J => h_X10_partOf rc J l) p r.1 r.2.2 := by
  obtain ⟨h1, h2, h3, h4, h5, h6, h7, h8, h9⟩ := id E
  have hm := mo_part h6 hms _ _ _ h
  unfold sp_part at h
  by_cases q : c p = 191
  · rw [if_pos q] at h
    unfold sp_brk at h
    cases sub with
    | none => cases h
    | some g =>
      dsimp only at h
      cases hq : g (p + 1) n with
      | inl e => rw [hq] at h; cases h
      | inr u =>
        rw [hq] at h
        dsimp only at h
        by_cases q2 : c u.1 = 193
        · rw [if_pos q2] at h
          cases h
          intro live b hl hb
          have c91 : (100 : Int32) + 91 = 191 := by decide
          show wp (h_X10_partOf rc (gs I (B + p) b) live) _
          unfold h_X10_partOf
          simp only [h_X10_sign, p_bs, c91]
          rw [ev_pass E _ (by omega), p_bs, if_pos q]
          dsimp only
          rw [if_neg (by decide)]
          refine wp_seq (hs g (p + 1) n u rfl hq live b hl hb) fun r' hr => ?_
          obtain ⟨r1, -, r3⟩ := hr
          rw [r1, p_le, gs_inc]
          exact wp_some.mpr ⟨rfl, trivial, r3⟩
        · rw [if_neg q2] at h; cases h
  · rw [if_neg q] at h
    exact okE_leaf E rc q h
/-- a chain of SUMS, of TESTS: its first, then the others -/
theorem okE_chn {α : Type} {ty : α → Prop} {rel : α → Int64 → Prop} {I : v_I} {B : Nat} {vals : Nat → Int32} {c : Nat → Int32} {op : Int32 → Option (Den → Den → Den)} {item : Nat → Nat → PR} {N : Nat} {body : Int32 → α × v_I → Option ((α × v_I) ⊕ (α × v_I))} {f : Int32 → v_I → Option (α × v_I)}
    (hc : cz c N) (hN : N ≤ 400) (hop : op 0 = none) (hi : mo N item) (hf : ∀ p n r, item p n = .inr r → okE ty rel I B vals f p r.1 r.2.2)
    (hend : ∀ live a p b, p ≤ N → op (c p) = none → body live (a, gs I (B + p) b) = some (.inr (a, gs I (B + p) b)))
    (hstep : ∀ live b0, (live = 0 ∨ live = 1) → (b0 = 0 ∨ b0 = 1) → ∀ a p n d g r, p < N → op (c p) = some g → item (p + 1) n = .inr r → ty a → (live = 1 → b0 = 0 → ∀ x, d vals = some x → rel a x) →
      wp (body live (a, gs I (B + p) (nb live b0 (d vals)))) (fun y => ∃ a', y = .inl (a', gs I (B + r.1) (nb live b0 (g d r.2.2 vals))) ∧ ty a' ∧ (live = 1 → b0 = 0 → ∀ x, g d r.2.2 vals = some x → rel a' x)))
    {p n : Nat} {r : Nat × Nat × Den} (h : sp_chn c op item p n = .inr r) : okE ty rel I B vals (fun l J => (f l J).bind fun r => v_loop (body l) FU (r.1, r.2)) p r.1 r.2.2 := by
  intro live b hl hb
  unfold sp_chn at h
  cases hq : item p n with
  | inl e => rw [hq] at h; cases h
  | inr u =>
    rw [hq] at h
    dsimp only at h
    have hm := hi _ _ _ hq
    refine wp_seq (hf p n u hq live b hl hb) fun r' hr => ?_
    obtain ⟨r1, r2, r3⟩ := hr
    rw [r1]
    exact ev_chl hc hN hop hi (hend live) (hstep live b hl hb) 400 u.1 u.2.1 u.2.2 r'.1 FU r h hm.2 (by omega) (by rw [FU_eq]; omega) r2 r3
theorem bind_pair {α : Type} (o : Option (α × v_I)) : (o.bind fun q => some (q.1, q.2)) = o := by cases o <;> rfl
theorem okE_sum {I : v_I} {c v : Nat → Int32} {o : Bool} {vals : Nat → Int32} {B N : Nat} (E : Ev I c v o vals B N) : ∀ (dp m : Nat), 3 * dp + 3 ≤ m → ∀ p n r, sp_sum c v o dp p n = .inr r → okE tyL (· = ·) I B vals (fun l J => gh_X10_sumOf m 0 l J) p r.1 r.2.2 := by
  obtain ⟨h1, h2, h3, h4, h5, h6, h7, h8, h9⟩ := id E
  have main : ∀ (sub : Option (Nat → Nat → PR)) (m : Nat), moS N sub → (∀ g p n r, sub = some g → g p n = .inr r → okE tyL (· = ·) I B vals (gh_X10_sumOf m 0) p r.1 r.2.2) → ∀ p n r, sp_chn c op_sum (sp_term c v o sub) p n = .inr r → okE tyL (· = ·) I B vals (fun l J => gh_X10_sumOf (m + 3) 0 l J) p r.1 r.2.2 := by
    intro sub m hms hs
    have part : ∀ p n r, sp_part c v o sub p n = .inr r → okE tyL (· = ·) I B vals (gh_X10_sumOf (m + 1) 2) p r.1 r.2.2 := fun p n r h => okE_part E (gh_X10_sumOf m) hms hs h
    have term : ∀ p n r, sp_term c v o sub p n = .inr r → okE tyL (· = ·) I B vals (gh_X10_sumOf (m + 2) 1) p r.1 r.2.2 := by
      intro p n r h
      have e : (fun l J => (gh_X10_sumOf (m + 1) 2 l J).bind fun r => v_loop (h_X10_termOf_B6 (gh_X10_sumOf (m + 1)) l) FU (r.1, r.2)) = gh_X10_sumOf (m + 2) 1 := by
        funext l J
        show _ = h_X10_termOf (gh_X10_sumOf (m + 1)) J l
        unfold h_X10_termOf
        congr 1
        funext r
        exact (bind_pair _).symm
      rw [← e]
      refine okE_chn h6 h1 (by decide) (mo_part h6 hms) part (fun live a p b hp ho => ?_) (fun live b0 hl hb a p n d g r hp hg hi _ ha => ev_trmstep E hl hb hp hg (part _ _ _ hi) ha) h
      unfold h_X10_termOf_B6
      dsimp only
      rw [gs_22, ev_code E _ _ (by omega), p_bs]
      simp only [h_X10_sign, p_bs]
      unfold op_trm at ho
      by_cases e1 : c p = 142
      · rw [if_pos e1] at ho; cases ho
      by_cases e2 : c p = 147
      · rw [if_neg e1, if_pos e2] at ho; cases ho
      by_cases e3 : c p = 137
      · rw [if_neg e1, if_neg e2, if_pos e3] at ho; cases ho
      rw [if_neg (show ¬ c p = 100 + 42 from e1), if_neg (show ¬ c p = 100 + 47 from e2), if_neg (show ¬ c p = 100 + 37 from e3)]
    intro p n r h
    have e : (fun l J => (gh_X10_sumOf (m + 2) 1 l J).bind fun r => v_loop (h_X10_sumOf_B6 (gh_X10_sumOf (m + 2)) l) FU (r.1, r.2)) = fun l J => gh_X10_sumOf (m + 3) 0 l J := by
      funext l J
      show _ = h_X10_sumOf (gh_X10_sumOf (m + 2)) J l
      unfold h_X10_sumOf
      congr 1
      funext r
      exact (bind_pair _).symm
    rw [← e]
    refine okE_chn h6 h1 (by decide) (mo_term h6 hms) term (fun live a p b hp ho => ?_) (fun live b0 hl hb a p n d g r hp hg hi _ ha => ev_sumstep E hl hb hp hg (term _ _ _ hi) ha) h
    unfold h_X10_sumOf_B6
    dsimp only
    rw [gs_22, ev_code E _ _ (by omega), p_bs]
    simp only [h_X10_sign, p_bs]
    unfold op_sum at ho
    by_cases e1 : c p = 143
    · rw [if_pos e1] at ho; cases ho
    by_cases e2 : c p = 145
    · rw [if_neg e1, if_pos e2] at ho; cases ho
    rw [if_neg (show ¬ c p = 100 + 43 from e1), if_neg (show ¬ c p = 100 + 45 from e2)]
  intro dp
  induction dp with
  | zero =>
    intro m hm p n r h
    obtain ⟨m, rfl⟩ : ∃ k, m = k + 3 := ⟨m - 3, by omega⟩
    exact main none m moS_none (fun g p n r e => by cases e) p n r h
  | succ dp ih =>
    intro m hm p n r h
    obtain ⟨m, rfl⟩ : ∃ k, m = k + 3 := ⟨m - 3, by omega⟩
    exact main (some (sp_sum c v o dp)) m (moS_some (mo_sum h6 dp)) (fun g p n r e h => by cases e; exact ih m (by omega) p n r h) p n r h
end sp63
