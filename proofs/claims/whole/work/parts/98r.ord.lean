noncomputable section sp98r
/-! what can be undone, plainly -/
abbrev RG : Type := Nat × (Nat → Nat → Int32)
def psh (g : RG) (k : Nat → Int32) (kind : Int32) : RG := (min g.1 15 + 1, fun j i => if j < min g.1 15 then g.2 (j + (if g.1 = 16 then 1 else 0)) i else if i < 18 then k i else kind)
def mR (I : v_I) (g : RG) : Prop := g.1 ≤ 16 ∧ I 49 32 = nI g.1 ∧ ∀ j i, j < g.1 → i < 19 → I 63 (19 * j + i) = g.2 j i
theorem mR_kpd {I I2 : v_I} {g : RG} {kind : Int32} (h : mR I g) (k : kpd I I2 g.1 kind) : mR I2 (psh g (I 51) kind) := by
  obtain ⟨h1, h2, h3⟩ := h
  obtain ⟨k1, k2, k3, k4⟩ := k
  refine ⟨by unfold psh; dsimp only; omega, k1, fun j i hj hi => ?_⟩
  unfold psh at hj ⊢
  dsimp only at hj ⊢
  by_cases q : j < min g.1 15
  · rw [if_pos q, k2 j i q hi, h3 _ i (by split <;> omega) hi]
  · have : j = min g.1 15 := by omega
    subst this
    rw [if_neg q]
    by_cases q2 : i < 18
    · rw [if_pos q2, k3 i q2]
    · rw [if_neg q2, show i = 18 by omega, k4]
theorem mR_fr {I I' : v_I} {g : RG} (h : mR I g) (e1 : I' 49 32 = I 49 32) (e2 : I' 63 = I 63) : mR I' g := by
  unfold mR
  rw [e1, e2]
  exact h
/-! run, with what can be undone -/
abbrev OX : Type := OS × RG
def o1x (L : Option (List Cls)) (n : Nat) (x : Cls) (q : OX) : Option OX :=
  if d_holds (ov n q.1.1 q.1.2.1 q.1.2.2) x.2.2.2.1 = true then (ac1 L n x.1 q.1 (sm (ov n q.1.1 q.1.2.1 q.1.2.2) x.2.1) (sm (ov n q.1.1 q.1.2.1 q.1.2.2) x.2.2.1)).bind fun st => some (st, psh q.2 q.1.1 x.1) else some q
def oTx (L : Option (List Cls)) (n : Nat) (x : Cls) : Nat → OX → Option OX
  | 0, s => some s
  | t + 1, s => (o1x L n x s).bind (oTx L n x t)
def oRx (L : Option (List Cls)) (n : Nat) : List Cls → Nat → OX → OX ⊕ Nat
  | [], _, s => .inl s
  | x :: D, i, s => match oTx L n x (x.2.2.2.2).toNatClampNeg s with
    | none => .inr i
    | some s' => oRx L n D (i + 1) s'
theorem o1x_1 (L : Option (List Cls)) (n : Nat) (x : Cls) (q : OX) : (o1x L n x q = none → o1 L n x q.1 = none) ∧ ∀ u, o1x L n x q = some u → o1 L n x q.1 = some u.1 := by
  unfold o1x o1
  by_cases h : d_holds (ov n q.1.1 q.1.2.1 q.1.2.2) x.2.2.2.1 = true
  · rw [if_pos h, if_pos h]
    cases ac1 L n x.1 q.1 (sm (ov n q.1.1 q.1.2.1 q.1.2.2) x.2.1) (sm (ov n q.1.1 q.1.2.1 q.1.2.2) x.2.2.1) with
    | none => exact ⟨fun _ => rfl, (fun u e => by cases e)⟩
    | some st => exact ⟨(fun e => by cases e), fun u e => by cases e; rfl⟩
  · rw [if_neg h, if_neg h]
    exact ⟨(fun e => by cases e), fun u e => by cases e; rfl⟩
theorem oTx_1 (L : Option (List Cls)) (n : Nat) (x : Cls) : ∀ (t : Nat) (q : OX), (oTx L n x t q = none → oT L n x t q.1 = none) ∧ ∀ u, oTx L n x t q = some u → oT L n x t q.1 = some u.1
  | 0, q => ⟨(fun e => by cases e), fun u e => by cases e; rfl⟩
  | t + 1, q => by
    unfold oTx oT
    obtain ⟨h1, h2⟩ := o1x_1 L n x q
    cases e : o1x L n x q with
    | none => rw [h1 e]; exact ⟨fun _ => rfl, (fun u e => by cases e)⟩
    | some u => rw [h2 u e, p_bs, p_bs]; exact oTx_1 L n x t u
theorem oRx_1 (L : Option (List Cls)) (n : Nat) : ∀ (D : List Cls) (i : Nat) (q : OX), (∀ e, oRx L n D i q = .inr e → oR L n D i q.1 = .inr e) ∧ ∀ u, oRx L n D i q = .inl u → oR L n D i q.1 = .inl u.1
  | [], i, q => ⟨(fun e h => by cases h), fun u h => by cases h; rfl⟩
  | x :: D, i, q => by
    unfold oRx oR
    obtain ⟨h1, h2⟩ := oTx_1 L n x (x.2.2.2.2).toNatClampNeg q
    cases e : oTx L n x (x.2.2.2.2).toNatClampNeg q with
    | none => rw [h1 e]; exact ⟨fun e h => by cases h; rfl, (fun u h => by cases h)⟩
    | some u => rw [h2 u e]; exact oRx_1 L n D (i + 1) u
/-! the model obeys -/
def fob (I I' : v_I) : Prop := ∀ a j, a ≠ 51 → a ≠ 61 → a ≠ 62 → a ≠ 63 → ¬ (a = 49 ∧ (j = 32 ∨ (22 ≤ j ∧ j ≤ 25) ∨ j = 28)) → I' a j = I a j
theorem small_c (p : Int32) : (h_X10_small p.toInt64 = some p ∧ 0 ≤ p) ∨ (h_X10_small p.toInt64 = some (-1) ∧ ∀ c : Nat, c ≤ 9 → p ≠ nI c) := by
  unfold h_X10_small
  have e0 : (lg_cmp p.toInt64 0 < 0) ↔ p < 0 := by rw [b_neg]; exact b_64lt p 0
  have e1 : (lg_cmp p.toInt64 1000000 ≤ 0) ↔ p ≤ 1000000 := by
    have em : (1000000 : Int32).toInt64 = 1000000 := by decide +kernel
    have h' := b_64lt 1000000 p
    rw [em] at h'
    have hp := b_pos p.toInt64 1000000
    exact ⟨fun h => Int32.not_lt.mp (fun q => absurd (hp.mpr (h'.mpr q)) (Int32.not_lt.mpr h)), fun h => Int32.not_lt.mp (fun q => absurd (h'.mp (hp.mp q)) (Int32.not_lt.mpr h))⟩
  simp only [e0, e1]
  have p32 : p.toInt64.toInt32 = p := by simp
  by_cases h0 : p < 0
  · rw [if_pos h0]
    exact .inr ⟨rfl, fun c hc e => absurd h0 (by rw [e]; exact nI_pos (by omega))⟩
  · rw [if_neg h0]
    by_cases h1 : p ≤ 1000000
    · rw [if_pos h1, p32]; exact .inl ⟨rfl, Int32.not_lt.mp h0⟩
    · rw [if_neg h1]
      exact .inr ⟨rfl, fun c hc e => h1 (by rw [e]; exact i_le (b := 1000000) rfl rfl (by omega) (by omega))⟩
theorem m_obey {I : v_I} {J : v_J} {n : Nat} {L : Option (List Cls)} {g : RG} {kind a b : Int32} (hX : mX I n L (I 51)) (hkM : kM n (I 51)) (hR : mR I g) (hh : (I 49 41 = 22 ∧ kind = 2) ∨ (I 49 41 = 20 ∧ kind = 0) ∨ (I 49 41 = 21 ∧ kind = 1) ∨ (I 49 41 = 24 ∧ kind = 3)) (ha : kind ≠ 3 → J 70 0 = a.toInt64) (hb : kind = 2 → J 70 1 = b.toInt64) :
    (can n (I 51) kind a b = true → ∃ r I', h_X10_obeys I J = some (r, I') ∧ 0 ≤ r ∧ I' 51 = pf L n (I 51) kind a b ∧ mR I' (psh g (I 51) kind) ∧ I' 49 28 = (if kind = 3 then pcI (mn L n 0 (I 51) 0) else I 49 28) ∧ fob I I') ∧
    (¬ can n (I 51) kind a b = true → ∃ r, h_X10_obeys I J = some (r, I) ∧ ¬ 0 ≤ r) := by
  obtain ⟨_, hn, h49, hkB, hL⟩ := id hX
  have mf : ∀ {I' : v_I}, mfr I I' → fob I I' := fun m a j q1 q2 q3 q4 q5 => m a j q1 q2 q3 q4 (by omega)
  have m28 : ∀ {I' : v_I}, mfr I I' → I' 49 28 = I 49 28 := fun m => m 49 28 (by omega) (by omega) (by omega) (by omega) (by omega)
  obtain ⟨s1, hs1⟩ : ∃ s1, h_X10_small (J 70 0) = some s1 := by
    unfold h_X10_small
    split
    · exact ⟨_, rfl⟩
    split
    · exact ⟨_, rfl⟩
    · exact ⟨_, rfl⟩
  unfold h_X10_obeys
  rw [hs1, p_bs]
  rcases hh with ⟨e, rfl⟩ | ⟨e, rfl⟩ | ⟨e, rfl⟩ | ⟨e, rfl⟩
  · -- tempt
    rw [if_neg (by rw [e]; decide), if_pos e]
    rw [ha (by decide)] at hs1
    rw [hb rfl]
    have nine : ∀ w : Int32, h_X10_isNine w = some (if 0 ≤ w ∧ w ≤ 9 then 1 else 0) := by
      intro w
      unfold h_X10_isNine
      rw [b_lies, p_bs]
      by_cases q : 0 ≤ w ∧ w ≤ 9
      · rw [if_pos q]; rfl
      · rw [if_neg q]; rfl
    rw [can_idx (by decide)]
    have bad1 : ∀ w, ¬ (0 ≤ w ∧ w ≤ 9) → h_X10_temptsKept I s1 w = some (-1, I) := fun w q => by
      unfold h_X10_temptsKept
      rw [nine, if_neg q, p_bs, if_pos rfl]
    rcases small_c b with ⟨t1, t2⟩ | ⟨t1, t2⟩
    · rw [t1, p_bs]
      by_cases h9 : 0 ≤ b ∧ b ≤ 9
      · rcases small_c a with ⟨u1, u2⟩ | ⟨u1, u2⟩
        · rw [u1] at hs1
          cases hs1
          rcases one_cases a hn with ⟨c, hc, rfl, _, v2⟩ | ⟨_, v2, v3⟩
          · rw [nI_clamp (by omega)]
            by_cases hne : I 51 (1 + c) = b
            · refine ⟨fun z => absurd hne (z.2.2.2 rfl), fun _ => ⟨-3, ?_, by decide⟩⟩
              unfold h_X10_temptsKept
              rw [nine, if_pos h9, p_bs, if_neg (by decide), v2 I h49, p_bs, if_neg (by decide), show (1 : Int32) + nI c = nI 1 + nI c from rfl, p_inA (c := 1) (k := c) rfl (by omega) (by omega), p_bs, p_le, if_pos hne, p_bs]
            · refine ⟨fun _ => ?_, fun z => absurd ⟨fun _ => h9, ⟨nI_pos' (by omega), nI_lt hc (by omega)⟩, fun z => absurd z (by decide), fun _ => hne⟩ z⟩
              obtain ⟨r, r1, r2, r3, r4, r5⟩ := m_temptK (I := I) (want := b) (by rw [nine, if_pos h9]) (v2 I h49) (by omega) hne hR.1 hR.2.1
              refine ⟨r.1, r.2, by rw [r1, p_bs], by rw [r2]; exact hkM.2.2 c (by omega), ?_, mR_kpd hR r4, by rw [if_neg (by decide)]; exact m28 r5, mf r5⟩
              unfold pf
              rw [if_neg (by decide), if_neg (by decide), if_neg (by decide), nI_clamp (by omega)]
              exact r3
          · refine ⟨fun z => absurd z.2.1 (no_idx hn v3), fun _ => ⟨-2, ?_, by decide⟩⟩
            unfold h_X10_temptsKept
            rw [nine, if_pos h9, p_bs, if_neg (by decide), v2 I h49, p_bs, if_pos rfl, p_bs]
        · rw [u1] at hs1
          cases hs1
          have na : ∀ k : Nat, k < n → a ≠ nI k := fun k hk => u2 k (by omega)
          refine ⟨fun z => absurd z.2.1 (no_idx hn na), fun _ => ⟨-2, ?_, by decide⟩⟩
          rcases one_cases (-1) hn with ⟨c, hc, e', _, _⟩ | ⟨_, v2, v3⟩
          · exact absurd e'.symm (nI_ne c (by omega))
          · unfold h_X10_temptsKept
            rw [nine, if_pos h9, p_bs, if_neg (by decide), v2 I h49, p_bs, if_pos rfl, p_bs]
      · exact ⟨fun z => absurd (z.1 rfl) h9, fun _ => ⟨-1, by rw [bad1 b h9, p_bs], by decide⟩⟩
    · have h9 : ¬ (0 ≤ b ∧ b ≤ 9) := fun q => by
        obtain ⟨c, hc, e'⟩ := i_le_of (m := 9) (n := 9) rfl (by omega) q.1 q.2
        exact t2 c hc e'
      rw [t1, p_bs]
      exact ⟨fun z => absurd (z.1 rfl) h9, fun _ => ⟨-1, by rw [bad1 (-1) (by decide), p_bs], by decide⟩⟩
  · -- touch
    unfold h_X10_obeys_J88
    rw [if_neg (by rw [e]; decide), if_neg (by rw [e]; decide), if_neg (by rw [e]; decide), if_neg (by rw [e]; decide)]
    rw [ha (by decide)] at hs1
    rw [can_idx (by decide)]
    have bad : ∀ s1 : Int32, (∀ k : Nat, k < n → s1 ≠ nI k) → h_X10_touchesKept I s1 = some (-2, I) := fun s1 q => by
      rcases one_cases s1 hn with ⟨c, hc, e', _, _⟩ | ⟨_, v2, v3⟩
      · exact absurd e' (q c hc)
      · unfold h_X10_touchesKept
        rw [v2 I h49, p_bs, if_pos rfl]
    rcases small_c a with ⟨u1, u2⟩ | ⟨u1, u2⟩
    · rw [u1] at hs1
      cases hs1
      rcases one_cases a hn with ⟨c, hc, rfl, _, v2⟩ | ⟨_, v2, v3⟩
      · refine ⟨fun _ => ?_, fun z => absurd ⟨fun z => absurd z (by decide), ⟨nI_pos' (by omega), nI_lt hc (by omega)⟩, fun z => absurd z (by decide), fun z => absurd z (by decide)⟩ z⟩
        obtain ⟨r, r1, r2, r3, r4, r5⟩ := m_touchK (n := n) (I := I) hkB (v2 I h49) (by omega) hR.1 hR.2.1
        refine ⟨r.1, r.2, by rw [r1, p_bs], by rw [r2]; split <;> decide, ?_, mR_kpd hR r4, by rw [if_neg (by decide)]; exact m28 r5, mf r5⟩
        unfold pf
        rw [if_neg (by decide), if_pos rfl, nI_clamp (by omega)]
        exact r3
      · exact ⟨fun z => absurd z.2.1 (no_idx hn v3), fun _ => ⟨-2, by rw [bad a v3, p_bs], by decide⟩⟩
    · rw [u1] at hs1
      cases hs1
      have na : ∀ k : Nat, k < n → a ≠ nI k := fun k hk => u2 k (by omega)
      exact ⟨fun z => absurd z.2.1 (no_idx hn na), fun _ => ⟨-2, by rw [bad (-1) (fun k hk e' => absurd e'.symm (nI_ne k (by omega))), p_bs], by decide⟩⟩
  · -- coax
    rw [if_pos e]
    rw [ha (by decide)] at hs1
    rw [can_idx (by decide)]
    have bad : ∀ s1 : Int32, (∀ k : Nat, k < n → s1 ≠ nI k) → h_X10_coaxesKept I s1 = some (-2, I) := fun s1 q => by
      rcases one_cases s1 hn with ⟨c, hc, e', _, _⟩ | ⟨_, v2, v3⟩
      · exact absurd e' (q c hc)
      · unfold h_X10_coaxesKept
        rw [v2 I h49, p_bs, if_pos rfl]
    rcases small_c a with ⟨u1, u2⟩ | ⟨u1, u2⟩
    · rw [u1] at hs1
      cases hs1
      rcases one_cases a hn with ⟨c, hc, rfl, _, v2⟩ | ⟨_, v2, v3⟩
      · rw [nI_clamp (by omega)]
        cases hbt : bt (I 51 0) c with
        | true =>
          refine ⟨fun z => absurd (z.2.2.1 rfl) (by decide), fun _ => ⟨-3, ?_, by decide⟩⟩
          unfold h_X10_coaxesKept
          rw [v2 I h49, p_bs, if_neg (by decide), m_isOpen hkB (by omega), p_bs, hbt, if_neg (by decide), p_bs]
        | false =>
          refine ⟨fun _ => ?_, fun z => absurd ⟨fun z => absurd z (by decide), ⟨nI_pos' (by omega), nI_lt hc (by omega)⟩, fun _ => rfl, fun z => absurd z (by decide)⟩ z⟩
          obtain ⟨r, r1, r2, r3, r4, r5⟩ := m_coaxK (n := n) (I := I) hkB (v2 I h49) (by omega) hbt hR.1 hR.2.1
          refine ⟨r.1, r.2, by rw [r1, p_bs], by rw [r2]; exact pcI_ge _, ?_, mR_kpd hR r4, by rw [if_neg (by decide)]; exact m28 r5, mf r5⟩
          unfold pf
          rw [if_neg (by decide), if_neg (by decide), if_pos rfl]
          exact r3
      · exact ⟨fun z => absurd z.2.1 (no_idx hn v3), fun _ => ⟨-2, by rw [bad a v3, p_bs], by decide⟩⟩
    · rw [u1] at hs1
      cases hs1
      have na : ∀ k : Nat, k < n → a ≠ nI k := fun k hk => u2 k (by omega)
      exact ⟨fun z => absurd z.2.1 (no_idx hn na), fun _ => ⟨-2, by rw [bad (-1) (fun k hk e' => absurd e'.symm (nI_ne k (by omega))), p_bs], by decide⟩⟩
  · -- pass
    unfold h_X10_obeys_J83
    rw [if_neg (by rw [e]; decide), if_neg (by rw [e]; decide), if_neg (by rw [e]; decide), if_pos e]
    have ecan : can n (I 51) 3 a b = true ↔ I 51 17 < 999 := by
      unfold can
      rw [if_pos rfl, decide_eq_true_eq]
    rw [ecan]
    obtain ⟨mi, hmi, emi⟩ := hkM.2.1
    by_cases q : mi = 999
    · have e9 : I 51 17 = 999 := by rw [emi, q]; rfl
      refine ⟨fun z => absurd z (by rw [e9]; decide), fun _ => ⟨-3, ?_, by decide⟩⟩
      unfold h_X10_passesKept
      rw [if_pos e9, p_bs]
      dsimp only
      rw [if_neg (by decide), p_le, up_id rfl]
    · have hlt : I 51 17 < 999 := by rw [emi]; exact i_lt rfl (b := 999) rfl (by omega) (by omega)
      refine ⟨fun _ => ?_, fun z => absurd hlt z⟩
      obtain ⟨r, r1, r2, r3, r4, r5⟩ := m_passK hX (fun e' => by rw [e'] at hlt; exact absurd hlt (by decide)) hR.1 hR.2.1
      have h0 : 0 ≤ r.1 := by rw [r2]; exact pcI_ge _
      refine ⟨r.1, v_up r.2 49 28 r.1, ?_, h0, ?_, ?_, ?_, fun a j q1 q2 q3 q4 q5 => ?_⟩
      · rw [r1, p_bs, if_pos h0, p_le]
      · rw [w_row _ _ _ _ (by decide), r3]
        unfold pf
        rw [if_pos rfl]
      · exact mR_fr (mR_kpd hR r4) (w_ne _ _ _ _ (by decide)) (w_row _ _ _ _ (by decide))
      · rw [w_at, if_pos rfl]; exact r2
      · rw [v_up_ne _ _ (by omega)]; exact r5 a j q1 q2 q3 q4 (by omega)
end sp98r
