noncomputable section sp98u
theorem m_lay2 {I : v_I} {t z : Nat} (ht : t ≤ 6) (hz : z ≤ 400) (h18 : I 49 18 = nI z) : ∃ I', h_X10_lays I (nI t) = some I' ∧ I' 51 (53 + t) = nI z ∧ (∀ i, i < z → I' 51 (60 + 400 * t + i) = I 58 i ∧ I' 51 (2860 + 400 * t + i) = I 59 i) ∧ ∀ a j, ¬ (a = 51 ∧ (j = 53 + t ∨ (60 + 400 * t ≤ j ∧ j < 60 + 400 * t + z) ∨ (2860 + 400 * t ≤ j ∧ j < 2860 + 400 * t + z))) → I' a j = I a j := by
  have L : wp (v_loop (h_X10_lays_B15 (nI t)) FU ((0 : Int32), v_up I 51 (53 + t) (nI z))) (fun q => q.2 51 (53 + t) = nI z ∧ (∀ i, i < z → q.2 51 (60 + 400 * t + i) = I 58 i ∧ q.2 51 (2860 + 400 * t + i) = I 59 i) ∧ ∀ a j, ¬ (a = 51 ∧ (j = 53 + t ∨ (60 + 400 * t ≤ j ∧ j < 60 + 400 * t + z) ∨ (2860 + 400 * t ≤ j ∧ j < 2860 + 400 * t + z))) → q.2 a j = I a j) := by
    refine wp_loop (fun i s => s.1 = nI i ∧ s.2 51 (53 + t) = nI z ∧ (∀ u, u < i → s.2 51 (60 + 400 * t + u) = I 58 u ∧ s.2 51 (2860 + 400 * t + u) = I 59 u) ∧ ∀ a j, ¬ (a = 51 ∧ (j = 53 + t ∨ (60 + 400 * t ≤ j ∧ j < 60 + 400 * t + z) ∨ (2860 + 400 * t ≤ j ∧ j < 2860 + 400 * t + z))) → s.2 a j = I a j) z (by omega) ⟨rfl, w_at _ _ _ _, fun u hu => absurd hu (by omega), fun a j h => v_up_ne _ _ (by omega)⟩ (fun i s hi hI => ?_)
    obtain ⟨x, A⟩ := s
    obtain ⟨rfl, i1, i2, i3⟩ := hI
    dsimp only at i1 i2 i3
    have e18 : A 49 18 = nI z := by rw [i3 49 18 (by omega)]; exact h18
    unfold h_X10_lays_B15
    dsimp only
    by_cases q : i < z
    · have e1 : (60 : Int32) + 400 * nI t + nI i = nI (60 + 400 * t + i) := by
        rw [show (400 : Int32) = nI 400 from rfl, nI_mul', show (60 : Int32) = nI 60 from rfl, nI_add, nI_add]
      have e2 : (2860 : Int32) + 400 * nI t + nI i = nI (2860 + 400 * t + i) := by
        rw [show (400 : Int32) = nI 400 from rfl, nI_mul', show (2860 : Int32) = nI 2860 from rfl, nI_add, nI_add]
      rw [if_neg (show ¬ A 49 18 ≤ nI i by rw [e18]; exact nI_ge q (by omega)), p_in_nI (by omega) (by decide), p_bs, e1, p_in_nI (by omega) (by decide), p_bs, p_le, p_bs, e2, p_in_nI (by omega) (by decide), p_bs, p_le, p_le, ← nI_succ]
      refine wp_some.mpr ⟨q, rfl, ?_, fun u hu => ?_, fun a j h => ?_⟩
      · dsimp only
        rw [w_ne _ _ _ _ (by omega), w_ne _ _ _ _ (by omega)]; exact i1
      · dsimp only
        by_cases w : u = i
        · subst w
          refine ⟨?_, ?_⟩
          · rw [w_ne _ _ _ _ (by omega), w_at, i3 58 u (by omega)]
          · rw [w_at, w_row _ _ _ _ (by decide), i3 59 u (by omega)]
        · rw [w_ne _ _ _ _ (by omega), w_ne _ _ _ _ (by omega), w_ne _ _ _ _ (by omega), w_ne _ _ _ _ (by omega)]
          exact i2 u (by omega)
      · dsimp only
        rw [v_up_ne _ _ (by omega), v_up_ne _ _ (by omega)]; exact i3 a j h
    · rw [if_pos (show A 49 18 ≤ nI i by rw [e18]; exact nI_le (by omega) (by omega))]
      exact wp_some.mpr ⟨i1, fun u hu => i2 u (by omega), i3⟩
  obtain ⟨r, e1, e2⟩ := L
  refine ⟨r.2, ?_, e2⟩
  unfold h_X10_lays
  rw [show (53 : Int32) = nI 53 from rfl, nI_add, p_in_nI (by omega) (by decide), p_bs, p_le, h18, e1, p_bs]

/-- what can be undone is as it must be -/
def sdR (n : Nat) (g : RG) : Prop := ∀ j, j < g.1 → kM n (g.2 j) ∧ (g.2 j 18 = 0 ∨ g.2 j 18 = 1 ∨ g.2 j 18 = 2 ∨ g.2 j 18 = 3)
theorem sd_psh {n : Nat} {g : RG} {k : Nat → Int32} {kind : Int32} (h : sdR n g) (hk : kM n k) (hd : kind = 0 ∨ kind = 1 ∨ kind = 2 ∨ kind = 3) : sdR n (psh g k kind) := by
  intro j hj
  unfold psh at hj ⊢
  dsimp only at hj ⊢
  by_cases q : j < min g.1 15
  · have := h (j + (if g.1 = 16 then 1 else 0)) (by split <;> omega)
    refine ⟨kM_ext (fun i _ => by rw [if_pos q]) this.1, ?_⟩
    rw [if_pos q]
    exact this.2
  · refine ⟨kM_ext (fun i hi => by rw [if_neg q, if_pos hi]) hk, ?_⟩
    rw [if_neg q, if_neg (by omega)]
    exact hd
theorem sd_1 {L : Option (List Cls)} {n : Nat} {x : Cls} {q u : OX} (h : o1x L n x q = some u) (hw : wfO x) (hn : n ≤ 8) (hk : kM n q.1.1) (hs : sdR n q.2) : kM n u.1.1 ∧ sdR n u.2 := by
  have := o1_kM ((o1x_1 L n x q).2 u h) hw hn hk
  refine ⟨this.1, ?_⟩
  unfold o1x at h
  split at h
  · cases e : ac1 L n x.1 q.1 (sm (ov n q.1.1 q.1.2.1 q.1.2.2) x.2.1) (sm (ov n q.1.1 q.1.2.1 q.1.2.2) x.2.2.1) with
    | none => rw [e] at h; cases h
    | some st => rw [e] at h; cases h; exact sd_psh hs hk (kind_c hw)
  · cases h; exact hs
theorem sd_T {L : Option (List Cls)} {n : Nat} {x : Cls} (hw : wfO x) (hn : n ≤ 8) : ∀ (t : Nat) (q u : OX), oTx L n x t q = some u → kM n q.1.1 → sdR n q.2 → kM n u.1.1 ∧ sdR n u.2
  | 0, q, u, h, hk, hs => by cases h; exact ⟨hk, hs⟩
  | t + 1, q, u, h, hk, hs => by
    unfold oTx at h
    cases e : o1x L n x q with
    | none => rw [e] at h; cases h
    | some u1 =>
      rw [e, p_bs] at h
      have := sd_1 e hw hn hk hs
      exact sd_T hw hn t u1 u h this.1 this.2
theorem sd_R {L : Option (List Cls)} {n : Nat} (hn : n ≤ 8) : ∀ (D : List Cls) (i : Nat) (q u : OX), (∀ x ∈ D, wfO x) → oRx L n D i q = .inl u → kM n q.1.1 → sdR n q.2 → kM n u.1.1 ∧ sdR n u.2
  | [], i, q, u, hw, h, hk, hs => by cases h; exact ⟨hk, hs⟩
  | x :: D, i, q, u, hw, h, hk, hs => by
    unfold oRx at h
    cases e : oTx L n x (x.2.2.2.2).toNatClampNeg q with
    | none => rw [e] at h; cases h
    | some u1 =>
      rw [e] at h
      have := sd_T (hw x (by simp)) hn _ q u1 e hk hs
      exact sd_R hn D (i + 1) u1 u (fun y hy => hw y (by simp [hy])) h this.1 this.2
/-- ORDERS were run, or not: R -/
theorem R_run {S S' : v_S} {I I2 : v_I} {J J' : v_J} {F F' : v_F} {own own' : Nat → Nat} {n : Nat} {g : RG} (h : R S I J F) (hown : rN S own ∧ rL S I F own 9 (I 51) ∧ rP S I F own ∧ rG S I F own)
    (hn : n ≤ 8) (k2 : I 51 49 = nI n) (hext : ext S S' F F' 13) (hN' : rN S' own') (ho : ∀ a, own a ≠ 0 → own' a = own a) (hc : cR S' I2 F' own' g) (hm : mR I2 g) (hs : sdR n g) (gb : ∀ a, own a ≠ 0 → (own a < 2 ∨ 18 ≤ own a) → I2 a = I a)
    (gf : ∀ a j, a < 72 → ¬ scr a j → ¬ (a = 0 ∧ (j = 8 ∨ j = 14 ∨ j = 16 ∨ j = 17)) → a ≠ 48 → ¬ (a = 49 ∧ (j = 0 ∨ j = 13 ∨ j = 14 ∨ j = 32 ∨ j = 38)) → a ≠ 50 → ¬ (2 ≤ a ∧ a ≤ 4) → a ≠ 11 → a ≠ 12 → a ≠ 63 → a ≠ 51 → I2 a j = I a j)
    (r51 : ∀ z, 18 ≤ z → z ≠ 59 → ¬ (2460 ≤ z ∧ z < 2860) → ¬ (5260 ≤ z ∧ z < 5660) → I2 51 z = I 51 z)
    (hM : rM I2 2 3 4 (I2 51)) (hkM : kM n (I2 51)) (h8 : I2 0 8 = 0) (h13 : I2 49 13 = 0) (hO' : rO I2) : R S' I2 J' F' := by
  obtain ⟨hS, hF, hC, hK, hT, hO, hD, hW, _⟩ := h
  obtain ⟨hN, hL, hP, hG⟩ := hown
  have rl : ∀ j, 18 ≤ j → j < 59 → I2 51 j = I 51 j := fun j q1 q2 => r51 j q1 (by omega) (by omega) (by omega)
  have row : ∀ a, a < 72 → a ≠ 0 → a ≠ 48 → a ≠ 49 → a ≠ 50 → a ≠ 51 → ¬ (2 ≤ a ∧ a ≤ 4) → a ≠ 11 → a ≠ 12 → a ≠ 63 → (∀ j, ¬ scr a j) → I2 a = I a := fun a q0 q1 q2 q3 q4 q5 q6 q7 q8 q9 q10 => funext fun j => gf a j q0 (q10 j) (by omega) q2 (by omega) q4 q6 q7 q8 q9 q5
  have rr : ∀ a, (a = 1 ∨ (5 ≤ a ∧ a ≤ 8) ∨ (26 ≤ a ∧ a ≤ 29) ∨ a = 52 ∨ a = 53 ∨ a = 55 ∨ a = 56 ∨ a = 71) → I2 a = I a := fun a ha => row a (by omega) (by omega) (by omega) (by omega) (by omega) (by omega) (by omega) (by omega) (by omega) (by omega) (fun j => by unfold scr; omega)
  have l71 : 71 < S.length := S_lt (hS 71 _ rfl)
  refine ⟨ext_SS hext hS, ext_FF hext hS (.inl rfl) hF, ?_, ?_, ?_, hO', ?_, ?_, own', hN', ?_, ?_, ext_rG hext (by omega) (by omega) (by omega) hS hN ho (fun a ha => gb a (by omega) (by omega)) (rr 52 (by omega)) (rr 53 (by omega)) hG⟩
  · obtain ⟨_, c1, c2, c3, c4, c5, c6, c7, c8, c9, c10, c11⟩ := hC
    refine ⟨hM, ?_, fun z hz => ?_, fun z hz => ?_, ?_, ?_, ?_, ?_, fun z hz => ?_, fun z hz => ?_, ?_, ?_⟩
    · rw [rr 1 (by omega), rl _ (by omega) (by omega)]; exact c1
    · rw [rr 5 (by omega), rl _ (by omega) (by omega)]; exact c2 z hz
    · rw [rr 6 (by omega), rl _ (by omega) (by omega)]; exact c3 z hz
    · rw [rr 1 (by omega), rl _ (by omega) (by omega)]; exact c4
    · rw [rr 1 (by omega), rl _ (by omega) (by omega)]; exact c5
    · rw [rr 1 (by omega), rl _ (by omega) (by omega)]; exact c6
    · rw [rr 1 (by omega), rl _ (by omega) (by omega)]; exact c7
    · rw [rr 7 (by omega), rl _ (by omega) (by omega)]; exact c8 z hz
    · rw [rr 8 (by omega), rl _ (by omega) (by omega)]; exact c9 z hz
    · rw [rr 1 (by omega), rl _ (by omega) (by omega)]; exact c10
    · rw [rr 1 (by omega), rl _ (by omega) (by omega)]; exact c11
  · obtain ⟨n', tl, k1, kk2, k3, k4, k5, k6, k7, k8, k9⟩ := hK
    have : n' = n := (nI_eq (by omega) (by omega)).mp (kk2.symm.trans k2)
    subst this
    refine ⟨n', tl, k1, by rw [rl _ (by omega) (by omega)]; exact k2, hkM, fun z hz => by rw [rl _ (by omega) (by omega)]; exact k4 z hz, by rw [rl _ (by omega) (by omega)]; exact k5, fun z hz => by rw [rl _ (by omega) (by omega)]; exact k6 z hz, k7, by rw [rl _ (by omega) (by omega)]; exact k8, by rw [rl _ (by omega) (by omega)]; exact k9⟩
  · refine ⟨⟨0, by omega, h8, h13⟩, ?_⟩
    rw [rr 29 (by omega), rr 56 (by omega)]; exact hT.2
  · unfold rD rM
    rw [gf 0 6 (by omega) (by unfold scr; omega) (by omega) (by omega) (by omega) (by omega) (by omega) (by omega) (by omega) (by omega) (by omega), gf 49 46 (by omega) (by unfold scr; omega) (by omega) (by omega) (by omega) (by omega) (by omega) (by omega) (by omega) (by omega) (by omega), rr 26 (by omega), rr 27 (by omega), rr 28 (by omega), rr 71 (by omega)]; exact hD
  · unfold rW; rw [rr 55 (by omega)]; exact hW
  · exact ext_rL hext (by omega) hN ho (fun a ha => gb a (by omega) (by omega)) (by omega) (by omega) (rl _ (by omega) (by omega)) (fun t D ht hd => tk_fr' (rl _ (by omega) (by omega)) (fun i hi => r51 _ (by omega) (by omega) (by omega) (by omega)) (fun i hi => r51 _ (by omega) (by omega) (by omega) (by omega)) hd) hL
  · obtain ⟨nx, c1, c2, c3, c4, c5, c6⟩ := hc
    obtain ⟨m1, m2, m3⟩ := hm
    refine ⟨g.1, nx, c2, c1, c3, m2, c4, c5, fun j hj => ?_⟩
    obtain ⟨d1, m, w, s, d2, d3, d4, d5⟩ := c6 j hj
    obtain ⟨e1, e2⟩ := hs j hj
    have z18 := m3 j 18 hj (by omega)
    refine ⟨by rw [d1, z18], ⟨m, w, s, d2, d3, d4, rM_k d5 (fun i hi => m3 j i hj (by omega))⟩, fun u hu eu => ?_, by rw [z18]; exact e2⟩
    rw [rl 49 (by omega) (by omega)] at eu
    have : u = n := (nI_eq (by omega) (by omega)).mp (eu.symm.trans k2)
    subst this
    exact kM_ext (fun i hi => m3 j i hj (by omega)) e1
/-- what could be undone, laid aside, and back -/
theorem m_cpA {I : v_I} (J : v_J) : ∃ y I', v_loop (h_X10_orders_B27 J) FU ((0 : Int32), I) = some (y, I') ∧ (∀ i, i < 304 → I' 64 i = I 63 i) ∧ ∀ a, a ≠ 64 → I' a = I a := by
  have L : wp (v_loop (h_X10_orders_B27 J) FU ((0 : Int32), I)) (fun q => (∀ i, i < 304 → q.2 64 i = I 63 i) ∧ ∀ a, a ≠ 64 → q.2 a = I a) := by
    refine wp_loop (fun i s => s.1 = nI i ∧ (∀ u, u < i → s.2 64 u = I 63 u) ∧ ∀ a, a ≠ 64 → s.2 a = I a) 304 (by omega) ⟨rfl, fun u hu => absurd hu (by omega), fun _ _ => rfl⟩ (fun i s hi hI => ?_)
    obtain ⟨x, A⟩ := s
    obtain ⟨rfl, i1, i2⟩ := hI
    dsimp only at i1 i2
    unfold h_X10_orders_B27
    dsimp only
    by_cases q : i < 304
    · rw [if_neg (show ¬ (304 : Int32) ≤ nI i from i_nle (a := 304) rfl rfl q (by omega)), p_in_nI q (by decide), p_bs, p_bs, p_le, p_le, ← nI_succ]
      refine wp_some.mpr ⟨q, rfl, fun u hu => ?_, fun a ha => ?_⟩
      · dsimp only
        by_cases w : u = i
        · subst w; rw [w_at, i2 63 (by decide)]
        · rw [w_ne _ _ _ _ w]; exact i1 u (by omega)
      · dsimp only
        rw [w_row _ _ _ _ ha]; exact i2 a ha
    · rw [if_pos (show (304 : Int32) ≤ nI i from i_le (a := 304) rfl rfl (by omega) (by omega))]
      exact wp_some.mpr ⟨fun u hu => i1 u (by omega), i2⟩
  obtain ⟨r, e1, e2, e3⟩ := L
  exact ⟨r.1, r.2, e1, e2, e3⟩
theorem m_cpB {I : v_I} (J : v_J) (w1 w3 : Int32) : ∃ y I', v_loop (h_X10_orders_B122 J w1 w3) FU ((0 : Int32), I) = some (y, I') ∧ (∀ i, i < 304 → I' 63 i = I 64 i) ∧ ∀ a, a ≠ 63 → I' a = I a := by
  have L : wp (v_loop (h_X10_orders_B122 J w1 w3) FU ((0 : Int32), I)) (fun q => (∀ i, i < 304 → q.2 63 i = I 64 i) ∧ ∀ a, a ≠ 63 → q.2 a = I a) := by
    refine wp_loop (fun i s => s.1 = nI i ∧ (∀ u, u < i → s.2 63 u = I 64 u) ∧ ∀ a, a ≠ 63 → s.2 a = I a) 304 (by omega) ⟨rfl, fun u hu => absurd hu (by omega), fun _ _ => rfl⟩ (fun i s hi hI => ?_)
    obtain ⟨x, A⟩ := s
    obtain ⟨rfl, i1, i2⟩ := hI
    dsimp only at i1 i2
    unfold h_X10_orders_B122
    dsimp only
    by_cases q : i < 304
    · rw [if_neg (show ¬ (304 : Int32) ≤ nI i from i_nle (a := 304) rfl rfl q (by omega)), p_in_nI q (by decide), p_bs, p_bs, p_le, p_le, ← nI_succ]
      refine wp_some.mpr ⟨q, rfl, fun u hu => ?_, fun a ha => ?_⟩
      · dsimp only
        by_cases w : u = i
        · subst w; rw [w_at, i2 64 (by decide)]
        · rw [w_ne _ _ _ _ w]; exact i1 u (by omega)
      · dsimp only
        rw [w_row _ _ _ _ ha]; exact i2 a ha
    · rw [if_pos (show (304 : Int32) ≤ nI i from i_le (a := 304) rfl rfl (by omega) (by omega))]
      exact wp_some.mpr ⟨fun u hu => i1 u (by omega), i2⟩
  obtain ⟨r, e1, e2, e3⟩ := L
  exact ⟨r.1, r.2, e1, e2, e3⟩
end sp98u
