noncomputable section sp64
def tyB (a : Int32) : Prop := a = 0 ∨ a = 1
def reB (a : Int32) (x : Int64) : Prop := (x = 0 ∧ a = 0) ∨ (x = 1 ∧ a = 1)
theorem tyB_bl {a : Int32} (h : tyB a) : p_bl a = some () := by rcases h with rfl | rfl <;> rfl
theorem ev_orstep {I : v_I} {c v : Nat → Int32} {o : Bool} {vals : Nat → Int32} {B N : Nat} (E : Ev I c v o vals B N) {rc : Nat → Int32 → v_I → Option (Int32 × v_I)} {live b0 : Int32} (hl : live = 0 ∨ live = 1) (hb : b0 = 0 ∨ b0 = 1) {a : Int32} {p : Nat} {d e : Den} {g : Den → Den → Den} {q : Nat} (hp : p < N) (hg : op_or (c p) = some g)
    (hit : okE tyB reB I B vals (rc 1) (p + 1) q e) (hty : tyB a) (ha : live = 1 → b0 = 0 → ∀ x, d vals = some x → reB a x) :
    wp (h_X10_testOf_B6 rc live (a, gs I (B + p) (nb live b0 (d vals)))) (fun y => ∃ a', y = .inl (a', gs I (B + q) (nb live b0 (g d e vals))) ∧ tyB a' ∧ (live = 1 → b0 = 0 → ∀ x, g d e vals = some x → reB a' x)) := by
  have hN := E.1
  unfold op_or at hg
  have h5 : c p = 5 := by
    by_cases h5 : c p = 5
    · exact h5
    · rw [if_neg h5] at hg; cases hg
  rw [if_pos h5] at hg
  cases hg
  have hdo : d_or d e vals = (d vals).bind fun x => if x = 1 then some x else e vals := rfl
  have j28 : ∀ z0, (z0 = 0 ∨ z0 = 1) → (z0 = 1 → live = 1 ∧ a = 0) → (live = 1 → a = 0 → z0 = 1) → wp (h_X10_testOf_J6_28 rc live (gs I (B + (p + 1)) (nb live b0 (d vals))) a z0) (fun y => ∃ a', y = .inl (a', gs I (B + q) (nb live b0 (d_or d e vals))) ∧ tyB a' ∧ (live = 1 → b0 = 0 → ∀ x, d_or d e vals = some x → reB a' x)) := by
    intro z0 hz hz1 hz2
    unfold h_X10_testOf_J6_28 h_X10_testOf_J6_40 h_X10_testOf_J6_45
    refine wp_seq (hit z0 _ hz (nb_bit hb)) fun r hr => ?_
    obtain ⟨r1, r2, r3⟩ := hr
    have st : nb z0 (nb live b0 (d vals)) (e vals) = nb live b0 (d_or d e vals) := by
      rw [hdo]
      rcases hl with rfl | rfl
      · rw [nb_0, nb_0]
        rcases hz with rfl | rfl
        · rw [nb_0]
        · exact absurd (hz1 rfl).1 (by decide)
      · rcases hb with rfl | rfl
        · cases hd : d vals with
          | none => rw [Option.bind_none, nb_n, nb_1]
          | some x =>
            rw [nb_s, p_bs]
            rcases ha rfl rfl x hd with ⟨rfl, e0⟩ | ⟨rfl, e0⟩
            · rw [hz2 rfl e0, if_neg (by decide)]
            · have : z0 = 0 := by
                rcases hz with h | h
                · exact h
                · exact absurd ((hz1 h).2.symm.trans e0) (by decide)
              rw [this, nb_0, if_pos rfl, nb_s]
        · simp only [nb_1]
    rw [r1, st]
    by_cases ha0 : a = 0
    · rw [if_pos ha0]
      have key : live = 1 → b0 = 0 → ∀ x, d_or d e vals = some x → reB r.1 x := by
        intro q1 q2 x hx
        rw [hdo] at hx
        cases hd : d vals with
        | none => rw [hd] at hx; cases hx
        | some u =>
          rw [hd, p_bs] at hx
          rcases ha q1 q2 u hd with ⟨rfl, e0⟩ | ⟨rfl, e0⟩
          · rw [if_neg (by decide)] at hx
            exact r3 (hz2 q1 ha0) (by rw [hd, nb_s]; exact q2) x hx
          · exact absurd (ha0.symm.trans e0) (by decide)
      by_cases hr0 : r.1 = 0
      · rw [if_pos hr0]
        exact wp_some.mpr ⟨0, rfl, .inl rfl, fun q1 q2 x hx => hr0 ▸ key q1 q2 x hx⟩
      · rw [if_neg hr0]
        have hr1 : r.1 = 1 := r2.resolve_left hr0
        exact wp_some.mpr ⟨1, rfl, .inr rfl, fun q1 q2 x hx => hr1 ▸ key q1 q2 x hx⟩
    · rw [if_neg ha0]
      refine wp_some.mpr ⟨1, rfl, .inr rfl, fun q1 q2 x hx => ?_⟩
      rw [hdo] at hx
      cases hd : d vals with
      | none => rw [hd] at hx; cases hx
      | some u =>
        rw [hd, p_bs] at hx
        rcases ha q1 q2 u hd with ⟨rfl, e0⟩ | ⟨rfl, e0⟩
        · exact absurd e0 ha0
        · rw [if_pos rfl] at hx
          cases hx
          exact .inr ⟨rfl, rfl⟩
  unfold h_X10_testOf_B6 h_X10_testOf_J6_27
  dsimp only
  rw [ev_pass E _ (by omega), p_bs, if_pos h5]
  dsimp only
  rw [if_neg (by decide)]
  rcases hl with rfl | rfl
  · rw [if_pos rfl]
    exact j28 0 (.inl rfl) (fun q => absurd q (by decide)) (fun q => absurd q (by decide))
  · rw [if_neg (by decide)]
    by_cases ha0 : a = 0
    · rw [if_pos ha0]
      exact j28 1 (.inr rfl) (fun _ => ⟨rfl, ha0⟩) (fun _ _ => rfl)
    · rw [if_neg ha0]
      exact j28 0 (.inl rfl) (fun q => absurd q (by decide)) (fun _ q => absurd q ha0)
theorem ev_andstep {I : v_I} {c v : Nat → Int32} {o : Bool} {vals : Nat → Int32} {B N : Nat} (E : Ev I c v o vals B N) {rc : Nat → Int32 → v_I → Option (Int32 × v_I)} {live b0 : Int32} (hl : live = 0 ∨ live = 1) (hb : b0 = 0 ∨ b0 = 1) {a : Int32} {p : Nat} {d e : Den} {g : Den → Den → Den} {q : Nat} (hp : p < N) (hg : op_and (c p) = some g)
    (hit : okE tyB reB I B vals (rc 2) (p + 1) q e) (hty : tyB a) (ha : live = 1 → b0 = 0 → ∀ x, d vals = some x → reB a x) :
    wp (h_X10_bothOf_B6 rc live (a, gs I (B + p) (nb live b0 (d vals)))) (fun y => ∃ a', y = .inl (a', gs I (B + q) (nb live b0 (g d e vals))) ∧ tyB a' ∧ (live = 1 → b0 = 0 → ∀ x, g d e vals = some x → reB a' x)) := by
  have hN := E.1
  unfold op_and at hg
  have h5 : c p = 6 := by
    by_cases h5 : c p = 6
    · exact h5
    · rw [if_neg h5] at hg; cases hg
  rw [if_pos h5] at hg
  cases hg
  have hdo : d_and d e vals = (d vals).bind fun x => if x = 0 then some x else e vals := rfl
  have j29 : ∀ z0, (z0 = 0 ∨ z0 = 1) → (z0 = 1 → live = 1 ∧ a ≠ 0) → (live = 1 → a ≠ 0 → z0 = 1) → wp (h_X10_bothOf_J6_29 rc live (gs I (B + (p + 1)) (nb live b0 (d vals))) a z0) (fun y => ∃ a', y = .inl (a', gs I (B + q) (nb live b0 (d_and d e vals))) ∧ tyB a' ∧ (live = 1 → b0 = 0 → ∀ x, d_and d e vals = some x → reB a' x)) := by
    intro z0 hz hz1 hz2
    unfold h_X10_bothOf_J6_29 h_X10_bothOf_J6_45 h_X10_bothOf_J6_46
    refine wp_seq (hit z0 _ hz (nb_bit hb)) fun r hr => ?_
    obtain ⟨r1, r2, r3⟩ := hr
    have st : nb z0 (nb live b0 (d vals)) (e vals) = nb live b0 (d_and d e vals) := by
      rw [hdo]
      rcases hl with rfl | rfl
      · rw [nb_0, nb_0]
        rcases hz with rfl | rfl
        · rw [nb_0]
        · exact absurd (hz1 rfl).1 (by decide)
      · rcases hb with rfl | rfl
        · cases hd : d vals with
          | none => rw [Option.bind_none, nb_n, nb_1]
          | some x =>
            rw [nb_s, p_bs]
            rcases ha rfl rfl x hd with ⟨rfl, e0⟩ | ⟨rfl, e0⟩
            · have : z0 = 0 := by
                rcases hz with h | h
                · exact h
                · exact absurd e0 (hz1 h).2
              rw [this, nb_0, if_pos rfl, nb_s]
            · rw [hz2 rfl (by rw [e0]; decide), if_neg (by decide)]
        · simp only [nb_1]
    rw [r1, st]
    by_cases ha0 : a = 0
    · rw [if_pos ha0]
      refine wp_some.mpr ⟨0, rfl, .inl rfl, fun q1 q2 x hx => ?_⟩
      rw [hdo] at hx
      cases hd : d vals with
      | none => rw [hd] at hx; cases hx
      | some u =>
        rw [hd, p_bs] at hx
        rcases ha q1 q2 u hd with ⟨rfl, e0⟩ | ⟨rfl, e0⟩
        · rw [if_pos rfl] at hx
          cases hx
          exact .inl ⟨rfl, rfl⟩
        · exact absurd (ha0.symm.trans e0) (by decide)
    · rw [if_neg ha0]
      have key : live = 1 → b0 = 0 → ∀ x, d_and d e vals = some x → reB r.1 x := by
        intro q1 q2 x hx
        rw [hdo] at hx
        cases hd : d vals with
        | none => rw [hd] at hx; cases hx
        | some u =>
          rw [hd, p_bs] at hx
          rcases ha q1 q2 u hd with ⟨rfl, e0⟩ | ⟨rfl, e0⟩
          · exact absurd e0 ha0
          · rw [if_neg (by decide)] at hx
            exact r3 (hz2 q1 ha0) (by rw [hd, nb_s]; exact q2) x hx
      by_cases hr0 : r.1 = 0
      · rw [if_pos hr0]
        exact wp_some.mpr ⟨0, rfl, .inl rfl, fun q1 q2 x hx => hr0 ▸ key q1 q2 x hx⟩
      · rw [if_neg hr0]
        have hr1 : r.1 = 1 := r2.resolve_left hr0
        exact wp_some.mpr ⟨1, rfl, .inr rfl, fun q1 q2 x hx => hr1 ▸ key q1 q2 x hx⟩
  unfold h_X10_bothOf_B6 h_X10_bothOf_J6_28
  dsimp only
  rw [ev_pass E _ (by omega), p_bs, if_pos h5]
  dsimp only
  rw [if_neg (by decide)]
  rcases hl with rfl | rfl
  · rw [if_pos rfl]
    exact j29 0 (.inl rfl) (fun q => absurd q (by decide)) (fun q => absurd q (by decide))
  · rw [if_neg (by decide)]
    by_cases ha0 : a = 0
    · rw [if_pos ha0]
      exact j29 0 (.inl rfl) (fun q => absurd q (by decide)) (fun _ q => absurd ha0 q)
    · rw [if_neg ha0]
      exact j29 1 (.inr rfl) (fun _ => ⟨rfl, ha0⟩) (fun _ _ => rfl)
def bI (b : Bool) : Int32 := if b = true then 1 else 0
theorem bI_ty (b : Bool) : tyB (bI b) := by cases b; exact .inl rfl; exact .inr rfl
theorem ev_nots {I : v_I} {c v : Nat → Int32} {o : Bool} {vals : Nat → Int32} {B N : Nat} (E : Ev I c v o vals B N) (rc : Nat → Int32 → v_I → Option (Int32 × v_I)) (live b : Int32) : ∀ (f p m : Nat) (t : Bool), p ≤ N → 400 ≤ f + p → f < m → v_loop (h_X10_plainOf_B2 rc live) m (bI t, gs I (B + p) b) = some (bI (sp_nots c f p t).2, gs I (B + (sp_nots c f p t).1) b) := by
  obtain ⟨h1, h2, h3, h4, h5, h6, h7, h8, h9⟩ := id E
  have stop : ∀ p t, p ≤ N → c p ≠ 7 → h_X10_plainOf_B2 rc live (bI t, gs I (B + p) b) = some (.inr (bI t, gs I (B + p) b)) := by
    intro p t hp hc
    unfold h_X10_plainOf_B2
    dsimp only
    rw [ev_pass E _ (by omega), p_bs, if_neg hc]
    dsimp only
    rw [if_pos rfl]
  intro f
  induction f with
  | zero =>
    intro p m t hp hf hm
    obtain ⟨m, rfl⟩ : ∃ k, m = k + 1 := ⟨m - 1, by omega⟩
    simp only [v_loop, stop p t hp (by rw [h6 p (by omega)]; decide), sp_nots]
  | succ f ih =>
    intro p m t hp hf hm
    obtain ⟨m, rfl⟩ : ∃ k, m = k + 1 := ⟨m - 1, by omega⟩
    unfold sp_nots
    by_cases hc : c p = 7
    · have hlt := cz_lt' h6 hc (by decide)
      rw [if_pos hc]
      have e : h_X10_plainOf_B2 rc live (bI t, gs I (B + p) b) = some (.inl (bI (!t), gs I (B + (p + 1)) b)) := by
        unfold h_X10_plainOf_B2 h_X10_plainOf_J2_20
        dsimp only
        rw [ev_pass E _ (by omega), p_bs, if_pos hc]
        dsimp only
        rw [if_neg (by decide)]
        cases t
        · rw [if_pos (by decide)]; rfl
        · rw [if_neg (by decide)]; rfl
      simp only [v_loop, e]
      exact ih (p + 1) m (!t) (by omega) (by omega) (by omega)
    · rw [if_neg hc]
      simp only [v_loop, stop p t hp hc]
theorem jn_6 (a b : Int64) : jn 6 a b = some (if a < b then 1 else 0) := by simp [jn]
theorem jn_7 (a b : Int64) : jn 7 a b = some (if b < a then 1 else 0) := by simp [jn]
theorem jn_8 (a b : Int64) : jn 8 a b = some (if a = b then 1 else 0) := by simp [jn]
theorem okE_pos {I : v_I} {c v : Nat → Int32} {o : Bool} {vals : Nat → Int32} {B N : Nat} (E : Ev I c v o vals B N) (rc : Nat → Int32 → v_I → Option (Int32 × v_I)) {sm : Nat → Nat → PR} {sub : Option (Nat → Nat → PR)} (hmm : mo N sm) (hms : moS N sub)
    (hsm : ∀ p n r, sm p n = .inr r → okE tyL (· = ·) I B vals (gh_X10_sumOf GNN 0) p r.1 r.2.2)
    (hs : ∀ g p n r, sub = some g → g p n = .inr r → okE tyB reB I B vals (rc 0) p r.1 r.2.2) {p n : Nat} {r : Nat × Nat × Den} (h : sp_pos c sm sub p n = .inr r) : okE tyB reB I B vals (fun l J => h_X10_positiveOf rc J l) p r.1 r.2.2 := by
  obtain ⟨h1, h2, h3, h4, h5, h6, h7, h8, h9⟩ := id E
  have hm := mo_pos h6 hmm hms _ _ _ h
  have c40 : (100 : Int32) + 40 = 140 := by decide
  have c60 : (100 : Int32) + 60 = 160 := by decide
  have c62 : (100 : Int32) + 62 = 162 := by decide
  unfold sp_pos at h
  intro live b hl hb
  show wp (h_X10_positiveOf rc (gs I (B + p) b) live) _
  unfold h_X10_positiveOf
  simp only [h_X10_sign, p_bs, c40, c60, c62]
  rw [ev_pass E _ (by omega), p_bs]
  by_cases q : c p = 140
  · rw [if_pos q] at h ⊢
    dsimp only
    rw [if_neg (by decide)]
    unfold sp_brk at h
    cases sub with
    | none => cases h
    | some g =>
      dsimp only at h
      cases hq : g (p + 1) n with
      | inl e => rw [hq] at h; cases h
      | inr u =>
        rw [hq] at h
        dsimp only at h
        by_cases q2 : c u.1 = 141
        · rw [if_pos q2] at h
          cases h
          refine wp_seq (hs g (p + 1) n u rfl hq live b hl hb) fun r' hr => ?_
          obtain ⟨r1, r2, r3⟩ := hr
          rw [r1, p_le, gs_inc, tyB_bl r2, p_bs]
          exact wp_some.mpr ⟨rfl, r2, r3⟩
        · rw [if_neg q2] at h; cases h
  · rw [if_neg q] at h ⊢
    dsimp only
    rw [if_pos rfl]
    unfold sp_comp at h
    cases hq : sm p n with
    | inl e => rw [hq] at h; cases h
    | inr u =>
      rw [hq] at h
      dsimp only at h
      cases ho : op_cmp (c u.1) with
      | none => rw [ho] at h; cases h
      | some g =>
        rw [ho] at h
        dsimp only at h
        cases hw : sm (u.1 + 1) u.2.1 with
        | inl e => rw [hw] at h; cases h
        | inr w =>
          rw [hw] at h
          cases h
          dsimp only
          have m1 := hmm _ _ _ hq
          have m2 := hmm _ _ _ hw
          refine wp_seq (hsm _ _ _ hq live b hl hb) fun r' hr => ?_
          obtain ⟨r1, -, r3⟩ := hr
          rw [r1, gs_22, ev_code E _ _ (by omega), p_bs, p_le, ← nI_succ, gs_go]
          refine wp_seq (hsm _ _ _ hw live _ hl (nb_bit hb)) fun r'' hr' => ?_
          obtain ⟨s1, -, s3⟩ := hr'
          rw [s1]
          have fin : ∀ s, g = d_join s → (s = 6 ∨ s = 7 ∨ s = 8) → nb live (nb live b (u.2.2 vals)) (w.2.2 vals) = nb live b (g u.2.2 w.2.2 vals) ∧ (live = 1 → b = 0 → ∀ x, g u.2.2 w.2.2 vals = some x → jn s r'.1 r''.1 = some x) := by
            intro s hs6 h6
            subst hs6
            have js : ∀ x y, ∃ z, jn s x y = some z := by
              intro x y
              rcases h6 with rfl | rfl | rfl
              · exact ⟨_, jn_6 x y⟩
              · exact ⟨_, jn_7 x y⟩
              · exact ⟨_, jn_8 x y⟩
            refine ⟨?_, fun q1 q2 x hx => ev_val (jn s) r3 s3 q1 q2 hx⟩
            have f := ev_fin (jn s) hl hb r3 s3
            obtain ⟨z, hz⟩ := js r'.1 r''.1
            rw [hz, nb_s] at f
            exact f
          have ge : ∀ x y : Int64, (0 ≤ lg_cmp x y) ↔ ¬ x < y := fun x y => by
            rw [← b_neg x y]; exact ⟨fun a b => absurd b (Int32.not_lt.mpr a), fun a => Int32.not_lt.mp a⟩
          have le : ∀ x y : Int64, (lg_cmp x y ≤ 0) ↔ ¬ y < x := fun x y => by
            rw [← b_pos x y]; exact ⟨fun a b => absurd b (Int32.not_lt.mpr a), fun a => Int32.not_lt.mp a⟩
          simp only [ge, le, cmp_eq]
          have zero : ∀ s, g = d_join s → (s = 6 ∨ s = 7 ∨ s = 8) → (live = 1 → nb live (nb live b (u.2.2 vals)) (w.2.2 vals) = 0 → jn s r'.1 r''.1 = some 0) → wp (some ((0 : Int32), gs I (B + w.1) (nb live (nb live b (u.2.2 vals)) (w.2.2 vals)))) (fun r => r.2 = gs I (B + w.1) (nb live b (g u.2.2 w.2.2 vals)) ∧ tyB r.1 ∧ (live = 1 → b = 0 → ∀ x, g u.2.2 w.2.2 vals = some x → reB r.1 x)) := by
            intro s hs hs6 hz
            obtain ⟨f1, f2⟩ := fin s hs hs6
            refine wp_some.mpr ⟨by rw [f1], .inl rfl, fun q1 q2 x hx => .inl ⟨?_, rfl⟩⟩
            have := hz q1 (by rw [f1, hx, nb_s]; exact q2)
            rw [f2 q1 q2 x hx] at this
            cases this; rfl
          have one : ∀ s, g = d_join s → (s = 6 ∨ s = 7 ∨ s = 8) → jn s r'.1 r''.1 = some 1 → wp (some ((1 : Int32), gs I (B + w.1) (nb live (nb live b (u.2.2 vals)) (w.2.2 vals)))) (fun r => r.2 = gs I (B + w.1) (nb live b (g u.2.2 w.2.2 vals)) ∧ tyB r.1 ∧ (live = 1 → b = 0 → ∀ x, g u.2.2 w.2.2 vals = some x → reB r.1 x)) := by
            intro s hs hs6 hz
            obtain ⟨f1, f2⟩ := fin s hs hs6
            refine wp_some.mpr ⟨by rw [f1], .inr rfl, fun q1 q2 x hx => .inr ⟨?_, rfl⟩⟩
            rw [f2 q1 q2 x hx] at hz
            cases hz; rfl
          unfold op_cmp at ho
          rw [gs_24]
          by_cases k0 : c u.1 = 160
          · rw [if_pos k0] at ho
            cases ho
            by_cases l0 : live = 0
            · rw [if_pos l0]; exact zero 6 rfl (.inl rfl) (fun q => by rw [l0] at q; exact absurd q (by decide))
            rw [if_neg l0]
            by_cases b0 : nb live (nb live b (u.2.2 vals)) (w.2.2 vals) = 0
            · rw [if_pos b0, if_pos k0]
              by_cases lt : r'.1 < r''.1
              · rw [if_neg (fun q => q lt)]; exact one 6 rfl (.inl rfl) (by rw [jn_6, if_pos lt])
              · rw [if_pos lt]; exact zero 6 rfl (.inl rfl) (fun _ _ => by rw [jn_6, if_neg lt])
            · rw [if_neg b0]; exact zero 6 rfl (.inl rfl) (fun _ q => absurd q b0)
          · rw [if_neg k0] at ho
            by_cases k1 : c u.1 = 162
            · rw [if_pos k1] at ho
              cases ho
              by_cases l0 : live = 0
              · rw [if_pos l0]; exact zero 7 rfl (.inr (.inl rfl)) (fun q => by rw [l0] at q; exact absurd q (by decide))
              rw [if_neg l0]
              by_cases b0 : nb live (nb live b (u.2.2 vals)) (w.2.2 vals) = 0
              · rw [if_pos b0, if_neg k0, if_pos k1]
                by_cases lt : r''.1 < r'.1
                · rw [if_neg (fun q => q lt)]; exact one 7 rfl (.inr (.inl rfl)) (by rw [jn_7, if_pos lt])
                · rw [if_pos lt]; exact zero 7 rfl (.inr (.inl rfl)) (fun _ _ => by rw [jn_7, if_neg lt])
              · rw [if_neg b0]; exact zero 7 rfl (.inr (.inl rfl)) (fun _ q => absurd q b0)
            · rw [if_neg k1] at ho
              by_cases k2 : c u.1 = 161
              · rw [if_pos k2] at ho
                cases ho
                by_cases l0 : live = 0
                · rw [if_pos l0]; exact zero 8 rfl (.inr (.inr rfl)) (fun q => by rw [l0] at q; exact absurd q (by decide))
                rw [if_neg l0]
                by_cases b0 : nb live (nb live b (u.2.2 vals)) (w.2.2 vals) = 0
                · rw [if_pos b0, if_neg k0, if_neg k1]
                  by_cases lt : r'.1 = r''.1
                  · rw [if_pos lt]; exact one 8 rfl (.inr (.inr rfl)) (by rw [jn_8, if_pos lt])
                  · rw [if_neg lt]; exact zero 8 rfl (.inr (.inr rfl)) (fun _ _ => by rw [jn_8, if_neg lt])
                · rw [if_neg b0]; exact zero 8 rfl (.inr (.inr rfl)) (fun _ q => absurd q b0)
              · rw [if_neg k2] at ho; cases ho
theorem okE_plain {I : v_I} {c v : Nat → Int32} {o : Bool} {vals : Nat → Int32} {B N : Nat} (E : Ev I c v o vals B N) (rc : Nat → Int32 → v_I → Option (Int32 × v_I)) {sm : Nat → Nat → PR} {sub : Option (Nat → Nat → PR)} (hmm : mo N sm) (hms : moS N sub)
    (hps : ∀ p n r, sp_pos c sm sub p n = .inr r → okE tyB reB I B vals (rc 3) p r.1 r.2.2) {p n : Nat} {r : Nat × Nat × Den} (h : sp_plain c sm sub p n = .inr r) : okE tyB reB I B vals (fun l J => h_X10_plainOf rc J l) p r.1 r.2.2 := by
  obtain ⟨h1, h2, h3, h4, h5, h6, h7, h8, h9⟩ := id E
  have hm := mo_plain h6 hmm hms _ _ _ h
  unfold sp_plain at h
  intro live b hl hb
  show wp (h_X10_plainOf rc (gs I (B + p) b) live) _
  unfold h_X10_plainOf
  rw [show ((0 : Int32), gs I (B + p) b) = (bI false, gs I (B + p) b) from rfl, ev_nots E rc live b 400 p FU false (by omega) (by omega) (by rw [FU_eq]; omega), p_bs]
  dsimp only
  generalize hno : sp_nots c 400 p false = no at h ⊢
  cases hq : sp_pos c sm sub no.1 n with
  | inl e => rw [hq] at h; cases h
  | inr u =>
    rw [hq] at h
    cases h
    dsimp only
    refine wp_seq (hps _ _ _ hq live b hl hb) fun r' hr => ?_
    obtain ⟨r1, r2, r3⟩ := hr
    have hn : ∀ vs, (if no.2 = true then d_not u.2.2 else u.2.2) vs = if no.2 = true then (u.2.2 vs).bind fun x => some (1 - x) else u.2.2 vs := by
      intro vs; split <;> rfl
    have st : nb live b (u.2.2 vals) = nb live b ((if no.2 = true then d_not u.2.2 else u.2.2) vals) := by
      rw [hn]
      cases u.2.2 vals with
      | none => split <;> rfl
      | some x => split
                  · rw [p_bs, nb_s, nb_s]
                  · rfl
    rw [r1, st]
    have key : ∀ z, z = (if r'.1 = bI no.2 then (0 : Int32) else 1) → live = 1 → b = 0 → ∀ x, (if no.2 = true then d_not u.2.2 else u.2.2) vals = some x → reB z x := by
      intro z hz q1 q2 x hx
      rw [hn] at hx
      subst hz
      cases hd : u.2.2 vals with
      | none => rw [hd] at hx; revert hx; split <;> (intro hx; cases hx)
      | some y =>
        rw [hd] at hx
        cases hb2 : no.2 with
        | false =>
          rw [hb2, if_neg (by decide)] at hx
          cases hx
          rcases r3 q1 q2 _ hd with ⟨e1, e2⟩ | ⟨e1, e2⟩
          · rw [e1, e2]; exact .inl ⟨rfl, by decide⟩
          · rw [e1, e2]; exact .inr ⟨rfl, by decide⟩
        | true =>
          rw [hb2, if_pos rfl, p_bs] at hx
          cases hx
          rcases r3 q1 q2 _ hd with ⟨e1, e2⟩ | ⟨e1, e2⟩
          · rw [e1, e2]; exact .inr ⟨by decide, by decide⟩
          · rw [e1, e2]; exact .inl ⟨by decide, by decide⟩
    by_cases hz : r'.1 = bI no.2
    · rw [if_pos hz]
      exact wp_some.mpr ⟨rfl, .inl rfl, key 0 (by rw [if_pos hz])⟩
    · rw [if_neg hz]
      exact wp_some.mpr ⟨rfl, .inr rfl, key 1 (by rw [if_neg hz])⟩
theorem bind_pairB {o : Option (Int32 × v_I)} {Q : Int32 × v_I → Prop} (h : wp o fun r => tyB r.1 ∧ Q r) : wp (o.bind fun q => (p_bl q.1).bind fun _ => some (q.1, q.2)) Q := by
  obtain ⟨r, e, t, q⟩ := h
  subst e
  rw [p_bs, tyB_bl t, p_bs]
  exact wp_some.mpr q
theorem okE_test {I : v_I} {c v : Nat → Int32} {o : Bool} {vals : Nat → Int32} {B N : Nat} (E : Ev I c v o vals B N) (hG : GNN = 100) : ∀ (dp m : Nat), dp ≤ 8 → 4 * dp + 4 ≤ m → ∀ p n r, sp_test c v o dp p n = .inr r → okE tyB reB I B vals (fun l J => gh_X10_testOf m 0 l J) p r.1 r.2.2 := by
  obtain ⟨h1, h2, h3, h4, h5, h6, h7, h8, h9⟩ := id E
  have main : ∀ (dp : Nat) (sub : Option (Nat → Nat → PR)) (m : Nat), dp ≤ 8 → moS N sub → (∀ g p n r, sub = some g → g p n = .inr r → okE tyB reB I B vals (gh_X10_testOf m 0) p r.1 r.2.2) → ∀ p n r, sp_chn c op_or (sp_both c (sp_sum c v o dp) sub) p n = .inr r → okE tyB reB I B vals (fun l J => gh_X10_testOf (m + 4) 0 l J) p r.1 r.2.2 := by
    intro dp sub m hdp hms hs
    have sm : ∀ p n r, sp_sum c v o dp p n = .inr r → okE tyL (· = ·) I B vals (gh_X10_sumOf GNN 0) p r.1 r.2.2 := okE_sum E dp GNN (by rw [hG]; omega)
    have pos : ∀ p n r, sp_pos c (sp_sum c v o dp) sub p n = .inr r → okE tyB reB I B vals (gh_X10_testOf (m + 1) 3) p r.1 r.2.2 := fun p n r h => okE_pos E (gh_X10_testOf m) (mo_sum h6 dp) hms sm hs h
    have plain : ∀ p n r, sp_plain c (sp_sum c v o dp) sub p n = .inr r → okE tyB reB I B vals (gh_X10_testOf (m + 2) 2) p r.1 r.2.2 := fun p n r h => okE_plain E (gh_X10_testOf (m + 1)) (mo_sum h6 dp) hms pos h
    have both : ∀ p n r, sp_both c (sp_sum c v o dp) sub p n = .inr r → okE tyB reB I B vals (gh_X10_testOf (m + 3) 1) p r.1 r.2.2 := by
      intro p n r h live b hl hb
      have k : okE tyB reB I B vals (fun l J => (gh_X10_testOf (m + 2) 2 l J).bind fun r => v_loop (h_X10_bothOf_B6 (gh_X10_testOf (m + 2)) l) FU (r.1, r.2)) p r.1 r.2.2 := by
        refine okE_chn h6 h1 (by decide) (mo_plain h6 (mo_sum h6 dp) hms) plain (fun live a p b hp ho => ?_) (fun live b0 hl hb a p n d g r hp hg hi ht ha => ev_andstep E hl hb hp hg (plain _ _ _ hi) ht ha) h
        unfold h_X10_bothOf_B6
        dsimp only
        unfold op_and at ho
        by_cases e1 : c p = 6
        · rw [if_pos e1] at ho; cases ho
        rw [ev_pass E _ (by omega), p_bs, if_neg e1]
        dsimp only
        rw [if_pos rfl]
      have := k live b hl hb
      show wp (h_X10_bothOf (gh_X10_testOf (m + 2)) (gs I (B + p) b) live) _
      unfold h_X10_bothOf
      obtain ⟨z, hz, hq⟩ := this
      dsimp only at hz
      obtain ⟨y, hy, hy2⟩ : ∃ y, gh_X10_testOf (m + 2) 2 live (gs I (B + p) b) = some y ∧ v_loop (h_X10_bothOf_B6 (gh_X10_testOf (m + 2)) live) FU (y.1, y.2) = some z := by
        cases hg : gh_X10_testOf (m + 2) 2 live (gs I (B + p) b) with
        | none => rw [hg] at hz; cases hz
        | some y => rw [hg] at hz; exact ⟨y, rfl, hz⟩
      rw [hy, p_bs]
      exact bind_pairB ⟨z, hy2, hq.2.1, hq⟩
    intro p n r h live b hl hb
    have k : okE tyB reB I B vals (fun l J => (gh_X10_testOf (m + 3) 1 l J).bind fun r => v_loop (h_X10_testOf_B6 (gh_X10_testOf (m + 3)) l) FU (r.1, r.2)) p r.1 r.2.2 := by
      refine okE_chn h6 h1 (by decide) (mo_both h6 (mo_sum h6 dp) hms) both (fun live a p b hp ho => ?_) (fun live b0 hl hb a p n d g r hp hg hi ht ha => ev_orstep E hl hb hp hg (both _ _ _ hi) ht ha) h
      unfold h_X10_testOf_B6
      dsimp only
      unfold op_or at ho
      by_cases e1 : c p = 5
      · rw [if_pos e1] at ho; cases ho
      rw [ev_pass E _ (by omega), p_bs, if_neg e1]
      dsimp only
      rw [if_pos rfl]
    have := k live b hl hb
    show wp (h_X10_testOf (gh_X10_testOf (m + 3)) (gs I (B + p) b) live) _
    unfold h_X10_testOf
    obtain ⟨z, hz, hq⟩ := this
    dsimp only at hz
    obtain ⟨y, hy, hy2⟩ : ∃ y, gh_X10_testOf (m + 3) 1 live (gs I (B + p) b) = some y ∧ v_loop (h_X10_testOf_B6 (gh_X10_testOf (m + 3)) live) FU (y.1, y.2) = some z := by
      cases hg : gh_X10_testOf (m + 3) 1 live (gs I (B + p) b) with
      | none => rw [hg] at hz; cases hz
      | some y => rw [hg] at hz; exact ⟨y, rfl, hz⟩
    rw [hy, p_bs]
    exact bind_pairB ⟨z, hy2, hq.2.1, hq⟩
  intro dp
  induction dp with
  | zero =>
    intro m hd hm p n r h
    obtain ⟨m, rfl⟩ : ∃ k, m = k + 4 := ⟨m - 4, by omega⟩
    exact main 0 none m hd moS_none (fun g p n r e => by cases e) p n r h
  | succ dp ih =>
    intro m hd hm p n r h
    obtain ⟨m, rfl⟩ : ∃ k, m = k + 4 := ⟨m - 4, by omega⟩
    exact main (dp + 1) (some (sp_test c v o dp)) m hd (moS_some (mo_test h6 dp)) (fun g p n r e h => by cases e; exact ih m (by omega) (by omega) p n r h) p n r h
end sp64
