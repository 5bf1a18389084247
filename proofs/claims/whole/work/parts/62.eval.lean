noncomputable section sp62
def okE {α : Type} (ty : α → Prop) (rel : α → Int64 → Prop) (I : v_I) (B : Nat) (vals : Nat → Int32) (f : Int32 → v_I → Option (α × v_I)) (p q : Nat) (d : Den) : Prop :=
  ∀ live b, (live = 0 ∨ live = 1) → (b = 0 ∨ b = 1) → wp (f live (gs I (B + p) b)) (fun r => r.2 = gs I (B + q) (nb live b (d vals)) ∧ ty r.1 ∧ (live = 1 → b = 0 → ∀ x, d vals = some x → rel r.1 x))
theorem ev_chl {α : Type} {ty : α → Prop} {rel : α → Int64 → Prop} {I : v_I} {B : Nat} {vals : Nat → Int32} {c : Nat → Int32} {op : Int32 → Option (Den → Den → Den)} {item : Nat → Nat → PR} {N : Nat} {body : α × v_I → Option ((α × v_I) ⊕ (α × v_I))} {live b0 : Int32}
    (hc : cz c N) (hN : N ≤ 400) (hop : op 0 = none) (hi : mo N item)
    (hend : ∀ a p b, p ≤ N → op (c p) = none → body (a, gs I (B + p) b) = some (.inr (a, gs I (B + p) b)))
    (hstep : ∀ a p n d g r, p < N → op (c p) = some g → item (p + 1) n = .inr r → ty a → (live = 1 → b0 = 0 → ∀ x, d vals = some x → rel a x) →
      wp (body (a, gs I (B + p) (nb live b0 (d vals)))) (fun y => ∃ a', y = .inl (a', gs I (B + r.1) (nb live b0 (g d r.2.2 vals))) ∧ ty a' ∧ (live = 1 → b0 = 0 → ∀ x, g d r.2.2 vals = some x → rel a' x))) :
    ∀ (f p n : Nat) (d : Den) (a : α) (m : Nat) (r : Nat × Nat × Den), sp_chl c op item f p n d = .inr r → p ≤ N → 400 ≤ f + p → f < m → ty a → (live = 1 → b0 = 0 → ∀ x, d vals = some x → rel a x) →
      wp (v_loop body m (a, gs I (B + p) (nb live b0 (d vals)))) (fun s => s.2 = gs I (B + r.1) (nb live b0 (r.2.2 vals)) ∧ ty s.1 ∧ (live = 1 → b0 = 0 → ∀ x, r.2.2 vals = some x → rel s.1 x)) := by
  intro f
  induction f with
  | zero =>
    intro p n d a m r h hp hf hm ha hr
    obtain ⟨m, rfl⟩ : ∃ k, m = k + 1 := ⟨m - 1, by omega⟩
    unfold sp_chl at h
    cases h
    have e := hend a p (nb live b0 (d vals)) hp (by rw [hc p (by omega)]; exact hop)
    simp only [v_loop, e]
    exact wp_some.mpr ⟨rfl, ha, hr⟩
  | succ f ih =>
    intro p n d a m r h hp hf hm ha hr
    obtain ⟨m, rfl⟩ : ∃ k, m = k + 1 := ⟨m - 1, by omega⟩
    unfold sp_chl at h
    cases ho : op (c p) with
    | none =>
      rw [ho] at h
      cases h
      have e := hend a p (nb live b0 (d vals)) hp ho
      simp only [v_loop, e]
      exact wp_some.mpr ⟨rfl, ha, hr⟩
    | some g =>
      rw [ho] at h
      dsimp only at h
      have hlt : p < N := cz_lt hc (fun e => by rw [e, hop] at ho; cases ho)
      cases hq : item (p + 1) n with
      | inl e => rw [hq] at h; cases h
      | inr u =>
        rw [hq] at h
        dsimp only at h
        obtain ⟨y, ey, a', rfl, t1, t2⟩ := hstep a p n d g u hlt ho hq ha hr
        have := hi _ _ _ hq
        simp only [v_loop, ey]
        exact ih _ _ _ _ _ _ h this.2 (by omega) (by omega) t1 t2
theorem ev_fin {live b0 : Int32} {D E : Option Int64} {a w : Int64} (J : Int64 → Int64 → Option Int64) (hl : live = 0 ∨ live = 1) (hb : b0 = 0 ∨ b0 = 1) (hD : live = 1 → b0 = 0 → ∀ x, D = some x → a = x) (hE : live = 1 → nb live b0 D = 0 → ∀ y, E = some y → w = y) :
    nb live (nb live (nb live b0 D) E) (J a w) = nb live b0 (D.bind fun x => E.bind fun y => J x y) := by
  rcases hl with rfl | rfl
  · simp only [nb_0]
  · rcases hb with rfl | rfl
    · cases D with
      | none => simp only [Option.bind_none, nb_n, nb_1]
      | some x =>
        have e1 := hD rfl rfl x rfl
        rw [nb_s, p_bs]
        cases E with
        | none => simp only [Option.bind_none, nb_n, nb_1]
        | some y =>
          have e2 := hE rfl (by rw [nb_s]) y rfl
          rw [nb_s, p_bs, e1, e2]
    · simp only [nb_1]
theorem ev_val {live b0 : Int32} {D E : Option Int64} {a w : Int64} (J : Int64 → Int64 → Option Int64) (hD : live = 1 → b0 = 0 → ∀ x, D = some x → a = x) (hE : live = 1 → nb live b0 D = 0 → ∀ y, E = some y → w = y) (hl : live = 1) (hb : b0 = 0) {x : Int64} (h : (D.bind fun x => E.bind fun y => J x y) = some x) : J a w = some x := by
  cases D with
  | none => cases h
  | some u =>
    rw [p_bs] at h
    cases E with
    | none => cases h
    | some y =>
      rw [p_bs] at h
      rw [hD hl hb u rfl, hE hl (by rw [nb_s]; exact hb) y rfl]
      exact h
theorem jn_9 (a b : Int64) : jn 9 a b = jn_lim (a + b) := by simp [jn]
theorem jn_10 (a b : Int64) : jn 10 a b = jn_lim (a - b) := by simp [jn]
theorem jn_11 (a b : Int64) : jn 11 a b = jn_lim (a * b) := by simp [jn]
theorem jn_12 (a b : Int64) : jn 12 a b = (if b = 0 then none else jn_lim (a / b)) := by simp [jn]
theorem jn_13 (a b : Int64) : jn 13 a b = (if b = 0 then none else jn_lim (a - a / b * b)) := by simp [jn]
theorem jn_lim_s {z x : Int64} (h : jn_lim z = some x) : z = x := by
  unfold jn_lim at h
  split at h
  · cases h
  · cases h; rfl
def tyL (_ : Int64) : Prop := True
/-- a SUM's chain goes one on -/
theorem ev_sumstep {I : v_I} {c v : Nat → Int32} {o : Bool} {vals : Nat → Int32} {B N : Nat} (E : Ev I c v o vals B N) {rc : Nat → Int32 → v_I → Option (Int64 × v_I)} {live b0 : Int32} (hl : live = 0 ∨ live = 1) (hb : b0 = 0 ∨ b0 = 1) {a : Int64} {p : Nat} {d e : Den} {g : Den → Den → Den} {q : Nat} (hp : p < N) (hg : op_sum (c p) = some g)
    (hit : okE tyL (· = ·) I B vals (rc 1) (p + 1) q e) (ha : live = 1 → b0 = 0 → ∀ x, d vals = some x → a = x) :
    wp (h_X10_sumOf_B6 rc live (a, gs I (B + p) (nb live b0 (d vals)))) (fun y => ∃ a', y = .inl (a', gs I (B + q) (nb live b0 (g d e vals))) ∧ tyL a' ∧ (live = 1 → b0 = 0 → ∀ x, g d e vals = some x → a' = x)) := by
  have hN := E.1
  have c43 : (100 : Int32) + 43 = 143 := by decide
  have c45 : (100 : Int32) + 45 = 145 := by decide
  have j95 : ∀ (s : Int32) (z w : Int64) (b2 : Int32), (b2 = nb live (nb live b0 (d vals)) (e vals)) → (live = 1 → nb live b0 (d vals) = 0 → ∀ y, e vals = some y → w = y) → jn s a w = jn_lim z → g = d_join s →
      wp (h_X10_sumOf_J6_95 rc live (gs I (B + q) b2) z) (fun y => ∃ a', y = .inl (a', gs I (B + q) (nb live b0 (g d e vals))) ∧ tyL a' ∧ (live = 1 → b0 = 0 → ∀ x, g d e vals = some x → a' = x)) := by
    intro s z w b2 hb2 hw hj hgs
    subst hgs
    unfold h_X10_sumOf_J6_95
    rw [m_bounded _ _ _ _ _ hl (by rw [hb2]; exact nb_bit (nb_bit hb)), p_bs]
    have f1 := ev_fin (jn s) hl hb ha hw
    rw [hb2, ← hj, f1]
    refine wp_some.mpr ⟨_, rfl, trivial, fun q1 q2 x hx => ?_⟩
    have f2 := ev_val (jn s) ha hw q1 q2 hx
    rw [hj] at f2
    have : nb live b0 ((d vals).bind fun x => (e vals).bind fun y => jn s x y) = 0 := by
      rw [show ((d vals).bind fun x => (e vals).bind fun y => jn s x y) = some x from hx, nb_s]; exact q2
    rw [if_pos this]
    exact jn_lim_s f2
  have j59 : ∀ (s z0 : Int32), (g = d_join s) → (∀ u w : Int64, jn s u w = jn_lim (if z0 = 0 then u - w else u + w)) → wp (h_X10_sumOf_J6_59 rc live (gs I (B + p) (nb live b0 (d vals))) a z0) (fun y => ∃ a', y = .inl (a', gs I (B + q) (nb live b0 (g d e vals))) ∧ tyL a' ∧ (live = 1 → b0 = 0 → ∀ x, g d e vals = some x → a' = x)) := by
    intro s z0 hs hz
    unfold h_X10_sumOf_J6_59
    rw [p_le, gs_inc]
    refine wp_seq (hit live (nb live b0 (d vals)) hl (nb_bit hb)) fun r hr => ?_
    obtain ⟨r1, -, r3⟩ := hr
    by_cases h0 : z0 = 0
    · rw [if_pos h0, r1]
      exact j95 s _ r.1 _ rfl r3 (by rw [hz, if_pos h0]) hs
    · rw [if_neg h0, r1]
      exact j95 s _ r.1 _ rfl r3 (by rw [hz, if_neg h0]) hs
  unfold h_X10_sumOf_B6
  dsimp only
  rw [gs_22, ev_code E _ _ (by omega), p_bs]
  simp only [h_X10_sign, p_bs, c43, c45]
  unfold op_sum at hg
  by_cases h1 : c p = 143
  · rw [if_pos h1] at hg ⊢
    cases hg
    unfold h_X10_sumOf_J6_38
    rw [gs_22, ev_code E _ _ (by omega), p_bs]
    simp only [h_X10_sign, p_bs, c43]
    rw [if_pos h1]
    exact j59 9 1 rfl (fun u w => by rw [jn_9, if_neg (by decide)])
  · rw [if_neg h1] at hg ⊢
    by_cases h2 : c p = 145
    · rw [if_pos h2] at hg ⊢
      cases hg
      unfold h_X10_sumOf_J6_38
      rw [gs_22, ev_code E _ _ (by omega), p_bs]
      simp only [h_X10_sign, p_bs, c43]
      rw [if_neg h1]
      exact j59 10 0 rfl (fun u w => by rw [jn_10, if_pos rfl])
    · rw [if_neg h2] at hg; cases hg
theorem ev_trmstep {I : v_I} {c v : Nat → Int32} {o : Bool} {vals : Nat → Int32} {B N : Nat} (E : Ev I c v o vals B N) {rc : Nat → Int32 → v_I → Option (Int64 × v_I)} {live b0 : Int32} (hl : live = 0 ∨ live = 1) (hb : b0 = 0 ∨ b0 = 1) {a : Int64} {p : Nat} {d e : Den} {g : Den → Den → Den} {q : Nat} (hp : p < N) (hg : op_trm (c p) = some g)
    (hit : okE tyL (· = ·) I B vals (rc 2) (p + 1) q e) (ha : live = 1 → b0 = 0 → ∀ x, d vals = some x → a = x) :
    wp (h_X10_termOf_B6 rc live (a, gs I (B + p) (nb live b0 (d vals)))) (fun y => ∃ a', y = .inl (a', gs I (B + q) (nb live b0 (g d e vals))) ∧ tyL a' ∧ (live = 1 → b0 = 0 → ∀ x, g d e vals = some x → a' = x)) := by
  have hN := E.1
  have c42 : (100 : Int32) + 42 = 142 := by decide
  have c47 : (100 : Int32) + 47 = 147 := by decide
  have c37 : (100 : Int32) + 37 = 137 := by decide
  have j160 : ∀ (s : Int32) (z w : Int64) (b2 : Int32), (nb live b2 (jn_lim z) = nb live (nb live (nb live b0 (d vals)) (e vals)) (jn s a w)) → (b2 = 0 ∨ b2 = 1) → (live = 1 → nb live b0 (d vals) = 0 → ∀ y, e vals = some y → w = y) → (∀ x, jn s a w = some x → jn_lim z = some x) → g = d_join s →
      wp (h_X10_termOf_J6_160 rc live (gs I (B + q) b2) z) (fun y => ∃ a', y = .inl (a', gs I (B + q) (nb live b0 (g d e vals))) ∧ tyL a' ∧ (live = 1 → b0 = 0 → ∀ x, g d e vals = some x → a' = x)) := by
    intro s z w b2 hb2 hbit hw hj hgs
    subst hgs
    unfold h_X10_termOf_J6_160
    rw [m_bounded _ _ _ _ _ hl hbit, p_bs]
    have f1 := ev_fin (jn s) hl hb ha hw
    rw [hb2, f1]
    refine wp_some.mpr ⟨_, rfl, trivial, fun q1 q2 x hx => ?_⟩
    have f2 := hj x (ev_val (jn s) ha hw q1 q2 hx)
    have : nb live b0 ((d vals).bind fun x => (e vals).bind fun y => jn s x y) = 0 := by
      rw [show ((d vals).bind fun x => (e vals).bind fun y => jn s x y) = some x from hx, nb_s]; exact q2
    rw [if_pos this]
    exact jn_lim_s f2
  have nz : ∀ z : Int64, z ≠ 0 → p_nz64 z = some () := fun z hz => by unfold p_nz64; rw [if_neg hz]
  have j54 : ∀ s, (g = d_join s) → (s = 11 ∧ c p = 142 ∨ s = 12 ∧ c p = 147 ∨ s = 13 ∧ c p = 137) → wp (h_X10_termOf_J6_54 rc live (gs I (B + p) (nb live b0 (d vals))) a) (fun y => ∃ a', y = .inl (a', gs I (B + q) (nb live b0 (g d e vals))) ∧ tyL a' ∧ (live = 1 → b0 = 0 → ∀ x, g d e vals = some x → a' = x)) := by
    intro s hs hcs
    unfold h_X10_termOf_J6_54
    rw [gs_22, ev_code E _ _ (by omega), p_bs, p_le, ← nI_succ, gs_go]
    refine wp_seq (hit live (nb live b0 (d vals)) hl (nb_bit hb)) fun r hr => ?_
    obtain ⟨r1, -, r3⟩ := hr
    simp only [h_X10_sign, p_bs, c42]
    rw [r1]
    generalize hB2 : nb live (nb live b0 (d vals)) (e vals) = b2
    have hbit : b2 = 0 ∨ b2 = 1 := by rw [← hB2]; exact nb_bit (nb_bit hb)
    have j121 : ∀ (w : Int64) (b3 : Int32), (b3 = 0 ∨ b3 = 1) → (c p ≠ 142 → w ≠ 0) → (∀ z, (s = 11 → z = a * w) → (s = 12 → z = a / w) → (s = 13 → z = a - a / w * w) → nb live b3 (jn_lim z) = nb live b2 (jn s a r.1) ∧ ∀ x, jn s a r.1 = some x → jn_lim z = some x) →
        wp (h_X10_termOf_J6_121 rc live (gs I (B + q) b3) a (c p) w) (fun y => ∃ a', y = .inl (a', gs I (B + q) (nb live b0 (g d e vals))) ∧ tyL a' ∧ (live = 1 → b0 = 0 → ∀ x, g d e vals = some x → a' = x)) := by
      intro w b3 hb3 hw hz
      unfold h_X10_termOf_J6_121
      simp only [h_X10_sign, p_bs, c42, c47]
      rcases hcs with ⟨h1, h2⟩ | ⟨h1, h2⟩ | ⟨h1, h2⟩
      · rw [if_pos h2]
        have := hz (a * w) (fun _ => rfl) (fun q => by rw [h1] at q; exact absurd q (by decide)) (fun q => by rw [h1] at q; exact absurd q (by decide))
        exact j160 s _ r.1 _ (by rw [hB2]; exact this.1) hb3 r3 this.2 hs
      · rw [if_neg (by rw [h2]; decide), if_pos h2, nz w (hw (by rw [h2]; decide)), p_bs]
        have := hz (a / w) (fun q => by rw [h1] at q; exact absurd q (by decide)) (fun _ => rfl) (fun q => by rw [h1] at q; exact absurd q (by decide))
        exact j160 s _ r.1 _ (by rw [hB2]; exact this.1) hb3 r3 this.2 hs
      · rw [if_neg (by rw [h2]; decide), if_neg (by rw [h2]; decide), nz w (hw (by rw [h2]; decide)), p_bs]
        have := hz (a - a / w * w) (fun q => by rw [h1] at q; exact absurd q (by decide)) (fun q => by rw [h1] at q; exact absurd q (by decide)) (fun _ => rfl)
        exact j160 s _ r.1 _ (by rw [hB2]; exact this.1) hb3 r3 this.2 hs
    rcases hcs with ⟨h1, h2⟩ | hcs2
    · rw [if_pos h2]
      refine j121 r.1 b2 hbit (fun q => absurd h2 q) (fun z z1 _ _ => ?_)
      rw [h1, jn_11, z1 h1]
      exact ⟨rfl, fun x h => h⟩
    · have hne : c p ≠ 142 := by rcases hcs2 with ⟨_, h2⟩ | ⟨_, h2⟩ <;> rw [h2] <;> decide
      rw [if_neg hne]
      simp only [cmp_eq]
      by_cases hr0 : r.1 = 0
      · rw [if_pos hr0]
        have jno : jn s a r.1 = none := by
          rcases hcs2 with ⟨h1, _⟩ | ⟨h1, _⟩
          · rw [h1, jn_12, if_pos hr0]
          · rw [h1, jn_13, if_pos hr0]
        have go : ∀ b3, b3 = nb live b2 none → wp (h_X10_termOf_J6_115 rc live (gs I (B + q) b2) a (c p) b3) (fun y => ∃ a', y = .inl (a', gs I (B + q) (nb live b0 (g d e vals))) ∧ tyL a' ∧ (live = 1 → b0 = 0 → ∀ x, g d e vals = some x → a' = x)) := by
          intro b3 hb3
          have hb3' : b3 = 0 ∨ b3 = 1 := by rw [hb3]; exact nb_bit hbit
          unfold h_X10_termOf_J6_115
          rw [show p_bl b3 = some () by rcases hb3' with rfl | rfl <;> rfl, p_bs, p_le, gs_br]
          refine j121 1 b3 hb3' (fun _ => by decide) (fun z _ _ _ => ?_)
          rw [jno, hb3]
          refine ⟨?_, fun x h => by cases h⟩
          rcases hl with rfl | rfl
          · simp only [nb_0]
          · rcases hbit with rfl | rfl
            · rw [nb_n, nb_1]
            · rw [nb_1, nb_1]
        rw [gs_24]
        unfold h_X10_termOf_J6_110
        rcases hbit with rfl | rfl
        · rw [if_pos rfl]
          rcases hl with rfl | rfl
          · rw [if_pos rfl]; exact go 0 rfl
          · rw [if_neg (by decide)]; exact go 1 rfl
        · rw [if_neg (by decide)]; exact go 1 (by rw [nb_1])
      · rw [if_neg hr0]
        refine j121 r.1 b2 hbit (fun _ => hr0) (fun z _ z2 z3 => ?_)
        rcases hcs2 with ⟨h1, _⟩ | ⟨h1, _⟩
        · rw [h1, jn_12, if_neg hr0, z2 h1]
          exact ⟨rfl, fun x h => h⟩
        · rw [h1, jn_13, if_neg hr0, z3 h1]
          exact ⟨rfl, fun x h => h⟩
  unfold h_X10_termOf_B6
  dsimp only
  rw [gs_22, ev_code E _ _ (by omega), p_bs]
  simp only [h_X10_sign, p_bs, c42, c47, c37]
  unfold op_trm at hg
  by_cases h1 : c p = 142
  · rw [if_pos h1] at hg ⊢
    cases hg
    exact j54 11 rfl (.inl ⟨rfl, h1⟩)
  · rw [if_neg h1] at hg ⊢
    by_cases h2 : c p = 147
    · rw [if_pos h2] at hg ⊢
      cases hg
      exact j54 12 rfl (.inr (.inl ⟨rfl, h2⟩))
    · rw [if_neg h2] at hg ⊢
      by_cases h3 : c p = 137
      · rw [if_pos h3] at hg ⊢
        cases hg
        exact j54 13 rfl (.inr (.inr ⟨rfl, h3⟩))
      · rw [if_neg h3] at hg; cases hg
end sp62
