noncomputable section sp89
/-- who watches whom, as numbers -/
def wtc (k : Nat → Int32) (W : Nat → Nat) (n : Nat) : Prop := ∀ h, h < 8 → W h < 2 ^ n ∧ k (26 + h) = nI (W h)
theorem wt_of {k : Nat → Int32} (h : kK k) : ∃ n W, n ≤ 8 ∧ k 49 = nI n ∧ wtc k W n := by
  obtain ⟨n, tl, k1, k2, k3, k4, _⟩ := h
  refine ⟨n, fun h => (k (26 + h)).toNatClampNeg, k1, k2, fun h hh => ?_⟩
  obtain ⟨w, hw, e⟩ := k4 h hh
  have := two_le k1
  dsimp only
  rw [e, nI_clamp (by omega)]
  exact ⟨hw, rfl⟩
theorem bit_c {s h : Nat} (hs : s < 256) (hh : h < 8) : (nI s >>> (nI h &&& 31) &&& 1 = 1) ↔ s.testBit h = true := by
  rw [b_bit h s hh hs, bit_tb]
theorem c_wb {S : v_S} {I : v_I} {F : v_F} {W : Nat → Nat} {s : Nat} (hW : ∀ h, h < 8 → W h < 256 ∧ I 6 h = nI (W h)) (hs : s < 256) : h_X5_watchedBy S I F (nI s) = some (nI (wbp W s 8)) := by
  unfold h_X5_watchedBy
  have := v_loop_FU (body := h_X5_watchedBy_B4 S I F (nI s)) (fun i => (nI (wbp W s i), nI i)) (nI (wbp W s 8), nI 8) 8 (by omega) ?_ ?_
  · rw [show ((0 : Int32), (0 : Int32)) = (fun i => (nI (wbp W s i), nI i)) 0 from rfl, this, p_bs]
  · intro i hi
    unfold h_X5_watchedBy_B4 h_X5_watchedBy_J4_28
    have l : wbp W s i < 256 := wbp_lt (n := 8) i fun h hh => (hW h (by omega)).1
    have e : wbp W s (i + 1) = wbp W s i ||| (if s.testBit i then W i else 0) := rfl
    rw [if_neg (show ¬ (8 : Int32) ≤ nI i from i_nle (a := 8) rfl rfl (by omega) (by omega)), e, nI_succ]
    by_cases q : s.testBit i = true
    · rw [if_pos ((bit_c hs hi).mpr q), p_in_nI hi (by omega), p_bs, p_le, p_le, (hW i hi).2, (nI_or l (hW i hi).1).1, if_pos q]
    · rw [if_neg (fun z => q ((bit_c hs hi).mp z)), p_le, if_neg q, Nat.or_zero]
  · unfold h_X5_watchedBy_B4
    rw [if_pos (show (8 : Int32) ≤ nI 8 by decide)]
theorem c_meas {S : v_S} {I : v_I} {F : v_F} {W : Nat → Nat} {n f t : Nat} (hn : n ≤ 8) (hW : ∀ h, h < 8 → W h < 2 ^ n ∧ I 6 h = nI (W h)) (hf : f < n) (ht : t < n) :
    wp (h_X5_measure S I F (nI f) (nI t)) (fun r => ((∃ d, iL W t d f ∧ r.1 = nI d ∧ ∀ j, j ≤ d → r.2 24 j = nI (ly W t j).1) ∨ ((∀ d, ¬ iL W t d f) ∧ r.1 = -1)) ∧ ∀ a, a ≠ 24 → r.2 a = I a) := by
  have hW' : ∀ h, h < 8 → W h < 2 ^ n := fun h hh => (hW h hh).1
  have t256 := two_le hn
  have lt256 : ∀ i, (ly W t i).1 < 256 ∧ (ly W t i).2 < 256 := fun i => by have := ly_lt hn hW' ht i; omega
  unfold h_X5_measure
  have e0 : (1 : Int32) <<< (nI t &&& 31) = nI (2 ^ t) := by
    have : ∀ t : Nat, t < 8 → (1 : Int32) <<< (nI t &&& 31) = nI (2 ^ t) := by decide
    exact this t (by omega)
  rw [p_le, e0]
  refine wp_seq (P := fun q : Nat × (Int32 × Int32 × Int32 × v_I) => ((q.1 = 0 ∧ ∃ d, iL W t d f ∧ q.2.2.2.1 = nI d ∧ ∀ j, j ≤ d → q.2.2.2.2 24 j = nI (ly W t j).1) ∨ (q.1 ≠ 0 ∧ ∀ d, ¬ iL W t d f)) ∧ ∀ a, a ≠ 24 → q.2.2.2.2 a = I a) ?_ fun q hq => ?_
  · refine wp_lp (fun i (u : Int32 × Int32 × Int32 × v_I) => u.1 = nI (ly W t i).1 ∧ u.2.1 = nI (ly W t i).2 ∧ u.2.2.1 = nI i ∧ (∀ j, j < i → u.2.2.2 24 j = nI (ly W t j).1) ∧ (∀ j, j < i → ¬ iL W t j f) ∧ ∀ a, a ≠ 24 → u.2.2.2 a = I a) 8 (by omega) ⟨rfl, rfl, rfl, fun j hj => absurd hj (Nat.not_lt_zero _), fun j hj => absurd hj (Nat.not_lt_zero _), fun _ _ => rfl⟩ ?_
    rintro i ⟨x1, x2, x3, I'⟩ hi ⟨u1, u2, u3, u4, u5, u6⟩
    dsimp only at u1 u2 u3 u4 u5 u6
    subst u1 u2 u3
    unfold h_X5_measure_B12
    dsimp only
    by_cases h8 : i = 8
    · rw [if_pos (show (8 : Int32) ≤ nI i from i_le (a := 8) rfl rfl (by omega) (by omega))]
      refine wp_some.mpr ⟨.inr ⟨by dsimp only; omega, fun d hd => ?_⟩, u6⟩
      have := ly_5 hn hW' ht hd
      exact u5 d (by omega) hd
    rw [if_neg (show ¬ (8 : Int32) ≤ nI i from i_nle (a := 8) rfl rfl (by omega) (by omega)), p_in_nI (by omega) (by omega), p_bs, p_le]
    have rows : ∀ j, j < i + 1 → v_up I' 24 i (nI (ly W t i).1) 24 j = nI (ly W t j).1 := by
      intro j hj
      by_cases e : j = i
      · subst e; rw [w_at]
      · rw [w_ne _ _ _ _ e]; exact u4 j (by omega)
    have fr6 : ∀ a, a ≠ 24 → v_up I' 24 i (nI (ly W t i).1) a = I a := fun a ha => by rw [v_up_row _ 24 _ _ ha]; exact u6 a ha
    by_cases q : iL W t i f
    · rw [if_pos ((bit_c (lt256 i).1 (by omega)).mpr q)]
      exact wp_some.mpr ⟨.inl ⟨rfl, i, q, rfl, fun j hj => rows j (by omega)⟩, fr6⟩
    · rw [if_neg (fun z => q ((bit_c (lt256 i).1 (by omega)).mp z)), c_wb (W := W) (fun h hh => ⟨by have := (hW h hh).1; omega, by rw [fr6 6 (by omega)]; exact (hW h hh).2⟩) (lt256 i).1, p_bs]
      have lw : wbp W (ly W t i).1 8 < 256 := by have := wbp_lt (s := (ly W t i).1) 8 hW'; omega
      rw [nI_not lw (lt256 i).2, p_le, (nI_or (lt256 i).2 (Nat.lt_of_le_of_lt Nat.and_le_left lw)).1, p_le, p_le]
      refine wp_some.mpr ⟨by omega, rfl, rfl, (nI_succ i).symm, rows, fun j hj => ?_, fr6⟩
      by_cases e : j = i
      · rw [e]; exact q
      · exact u5 j (by omega)
  · obtain ⟨q1, q2⟩ := hq
    rcases q1 with ⟨e, d, d1, d2, d3⟩ | ⟨e, d1⟩
    · rw [if_pos e]; exact wp_some.mpr ⟨.inl ⟨d, d1, d2, d3⟩, q2⟩
    · rw [if_neg e]; exact wp_some.mpr ⟨.inr ⟨d1, rfl⟩, q2⟩
theorem m_watches {I : v_I} {W : Nat → Nat} {n b a : Nat} (hn : n ≤ 8) (hw : wtc (I 51) W n) (hb : b < 8) (ha : a < 8) : h_X10_watches I (nI b) (nI a) = some (if (W b).testBit a = true then 1 else 0) := by
  have t256 := two_le hn
  obtain ⟨h1, h2⟩ := hw b hb
  unfold h_X10_watches h_X10_isIn
  rw [show (26 : Int32) + nI b = nI 26 + nI b from rfl, p_inA (c := 26) (k := b) rfl (by omega) (by omega), p_bs, h2]
  by_cases q : (W b).testBit a = true
  · rw [if_pos ((bit_c (by omega) ha).mpr q), if_pos q]; rfl
  · rw [if_neg (fun z => q ((bit_c (by omega) ha).mp z)), if_neg q]; rfl
/-- what is left, as it is laid so far -/
def lfG (W : Nat → Nat) (t n : Nat) (I : v_I) (c : Nat) (le : Nat → Nat) : Prop := ∀ a, a < n → I 66 a = nI (le a) ∧ (le a = 1000000 ∨ (le a ≤ c ∧ ∃ j, j ≤ le a ∧ iL W t j a))
theorem lfG_le {W : Nat → Nat} {t n : Nat} {I : v_I} {c : Nat} {le : Nat → Nat} (h : lfG W t n I c le) (hc : c ≤ 1000000) {a : Nat} (ha : a < n) : le a ≤ 1000000 := by
  obtain ⟨_, e | ⟨e, _⟩⟩ := h a ha
  · rw [e]; exact Nat.le_refl _
  · exact Nat.le_trans e hc
theorem lesser_nI {x y : Nat} (hx : x ≤ 1000000) (hy : y ≤ 1000000) : h_X10_lesser (nI x) (nI y + 1) = some (nI (min x (y + 1))) := by
  unfold h_X10_lesser
  rw [← nI_succ]
  by_cases h : y + 1 ≤ x
  · rw [if_pos (nI_le h (by omega)), Nat.min_eq_right h]
  · rw [if_neg (nI_ge (by omega) (by omega)), Nat.min_eq_left (by omega)]
theorem m_left {I : v_I} {W : Nat → Nat} {n t : Nat} (hn : n ≤ 8) (hw : wtc (I 51) W n) (ek : I 51 49 = nI n) (ht : t < n) :
    wp (h_X10_laysLeft I (nI t)) (fun r => (∃ le : Nat → Nat, ∀ a, a < n → r 66 a = nI (le a) ∧ (∀ d, iL W t d a → le a = d) ∧ ((∀ d, ¬ iL W t d a) → le a = 1000000)) ∧ ∀ a, a ≠ 66 → r a = I a) := by
  have hW' : ∀ h, h < 8 → W h < 2 ^ n := fun h hh => (hw h hh).1
  unfold h_X10_laysLeft
  -- laid
  refine wp_seq (P := fun q : Int32 × v_I => (∀ a, a < n → q.2 66 a = nI (if a = t then 0 else 1000000)) ∧ ∀ a, a ≠ 66 → q.2 a = I a) ?_ fun q hq => ?_
  · refine wp_lp (fun i (u : Int32 × v_I) => u.1 = nI i ∧ (∀ a, a < i → u.2 66 a = nI (if a = t then 0 else 1000000)) ∧ ∀ a, a ≠ 66 → u.2 a = I a) n (by omega) ⟨rfl, fun a ha => absurd ha (Nat.not_lt_zero _), fun _ _ => rfl⟩ ?_
    rintro i ⟨x, I'⟩ hi ⟨u1, u2, u3⟩
    dsimp only at u1 u2 u3
    subst u1
    unfold h_X10_laysLeft_B2 h_X10_many h_X10_laysLeft_J2_26
    dsimp only
    rw [p_bs]
    have e49 : I' 51 49 = nI n := by rw [u3 51 (by omega)]; exact ek
    by_cases hin : n ≤ i
    · have : i = n := by omega
      subst this
      rw [if_pos (by rw [e49]; exact nI_le (Nat.le_refl _) (by omega))]
      exact wp_some.mpr ⟨u2, u3⟩
    rw [if_neg (by rw [e49]; exact nI_ge (by omega) (by omega)), p_in_nI (by omega) (by omega), p_bs]
    have go : ∀ z : Nat, z = (if i = t then 0 else 1000000) → wp (p_let (v_up I' 66 i (nI z)) fun I_6 => p_let (nI i + 1) fun x_8 => some (Sum.inl (x_8, I_6))) (v_K (fun (u : Int32 × v_I) => i < n ∧ u.1 = nI (i + 1) ∧ (∀ a, a < i + 1 → u.2 66 a = nI (if a = t then 0 else 1000000)) ∧ ∀ a, a ≠ 66 → u.2 a = I a) (fun q : Int32 × v_I => (∀ a, a < n → q.2 66 a = nI (if a = t then 0 else 1000000)) ∧ ∀ a, a ≠ 66 → q.2 a = I a)) := by
      intro z hz
      rw [p_le, p_le]
      refine wp_some.mpr ⟨by omega, (nI_succ i).symm, fun a ha => ?_, fun a ha => by dsimp only; rw [v_up_row _ 66 _ _ ha]; exact u3 a ha⟩
      dsimp only
      by_cases e : a = i
      · subst e; rw [w_at, hz]
      · rw [w_ne _ _ _ _ e]; exact u2 a (by omega)
    by_cases e : i = t
    · rw [if_pos (by rw [e])]; exact go 0 (by rw [if_pos e])
    · rw [if_neg (fun z => e ((nI_eq (by omega) (by omega)).mp z))]; exact go 1000000 (by rw [if_neg e])
  obtain ⟨q1, q2⟩ := hq
  -- the rounds
  refine wp_seq (P := fun u : Int32 × v_I => (∃ le, lfG W t n u.2 512 le ∧ ∀ a j, a < n → j ≤ n - 1 → iL W t j a → le a ≤ j) ∧ ∀ a, a ≠ 66 → u.2 a = I a) ?_ fun u hu => ?_
  · refine wp_lp (fun i (u : Int32 × v_I) => u.1 = nI (i + 1) ∧ (∃ le, lfG W t n u.2 (64 * i) le ∧ ∀ a j, a < n → j ≤ i → iL W t j a → le a ≤ j) ∧ ∀ a, a ≠ 66 → u.2 a = I a) (n - 1) (by omega) ⟨rfl, ⟨fun a => if a = t then 0 else 1000000, fun a ha => ⟨q1 a ha, ?_⟩, fun a j ha hj h => ?_⟩, q2⟩ ?_
    · dsimp only
      by_cases e : a = t
      · right; rw [if_pos e]; exact ⟨Nat.zero_le _, 0, Nat.le_refl _, ly_0.mpr e⟩
      · left; rw [if_neg e]
    · rw [show j = 0 by omega] at h ⊢
      dsimp only
      rw [if_pos (ly_0.mp h)]; exact Nat.le_refl _
    rintro r ⟨x, I'⟩ hr ⟨u1, ⟨le, u2, u3⟩, u4⟩
    dsimp only at u1 u2 u3 u4
    subst u1
    unfold h_X10_laysLeft_B35 h_X10_many
    dsimp only
    rw [p_bs]
    have e49 : I' 51 49 = nI n := by rw [u4 51 (by omega)]; exact ek
    by_cases hin : r = n - 1
    · rw [if_pos (by rw [e49]; exact nI_le (by omega) (by omega))]
      refine wp_some.mpr ⟨⟨le, fun a ha => ?_, fun a j ha hj h => u3 a j ha (by omega) h⟩, u4⟩
      obtain ⟨v1, v2⟩ := u2 a ha
      exact ⟨v1, v2.imp id fun ⟨w1, w2⟩ => ⟨by omega, w2⟩⟩
    rw [if_neg (by rw [e49]; exact nI_ge (by omega) (by omega))]
    refine wp_seq (P := fun v : Int32 × v_I => (∃ le, lfG W t n v.2 (64 * (r + 1)) le ∧ ∀ a j, a < n → j ≤ r + 1 → iL W t j a → le a ≤ j) ∧ ∀ a, a ≠ 66 → v.2 a = I a) ?_ fun v hv => ?_
    · refine wp_lp (fun A (v : Int32 × v_I) => v.1 = nI A ∧ (∃ le, lfG W t n v.2 (64 * r + 8 * A) le ∧ (∀ a j, a < n → j ≤ r → iL W t j a → le a ≤ j) ∧ ∀ a, a < A → iL W t (r + 1) a → le a ≤ r + 1) ∧ ∀ a, a ≠ 66 → v.2 a = I a) n (by omega) ⟨rfl, ⟨le, u2, u3, fun a ha => absurd ha (Nat.not_lt_zero _)⟩, u4⟩ ?_
      rintro A ⟨x, I1⟩ hA ⟨w1, ⟨l1, w2, w3, w4⟩, w5⟩
      dsimp only at w1 w2 w3 w4 w5
      subst w1
      unfold h_X10_laysLeft_B45 h_X10_many
      dsimp only
      rw [p_bs]
      have e49' : I1 51 49 = nI n := by rw [w5 51 (by omega)]; exact ek
      by_cases hin : n ≤ A
      · have : A = n := by omega
        subst this
        rw [if_pos (by rw [e49']; exact nI_le (Nat.le_refl _) (by omega))]
        refine wp_some.mpr ⟨⟨l1, fun a ha => ?_, fun a j ha hj h => ?_⟩, w5⟩
        · obtain ⟨v1, v2⟩ := w2 a ha
          exact ⟨v1, v2.imp id fun ⟨z1, z2⟩ => ⟨by omega, z2⟩⟩
        · by_cases e : j = r + 1
          · rw [e] at h ⊢; exact w4 a ha h
          · exact w3 a j ha (by omega) h
      rw [if_neg (by rw [e49']; exact nI_ge (by omega) (by omega))]
      refine wp_seq (P := fun v : Int32 × v_I => (∃ le, lfG W t n v.2 (64 * r + 8 * A + 8) le ∧ (∀ a j, a < n → j ≤ r → iL W t j a → le a ≤ j) ∧ ∀ a, a < A + 1 → iL W t (r + 1) a → le a ≤ r + 1) ∧ ∀ a, a ≠ 66 → v.2 a = I a) ?_ fun v hv => ?_
      · refine wp_lp (fun B (v : Int32 × v_I) => v.1 = nI B ∧ (∃ le, lfG W t n v.2 (64 * r + 8 * A + B) le ∧ (∀ a j, a < n → j ≤ r → iL W t j a → le a ≤ j) ∧ (∀ a, a < A → iL W t (r + 1) a → le a ≤ r + 1) ∧ ∀ b, b < B → (W b).testBit A = true → iL W t r b → le A ≤ r + 1) ∧ ∀ a, a ≠ 66 → v.2 a = I a) n (by omega) ⟨rfl, ⟨l1, w2, w3, w4, fun b hb => absurd hb (Nat.not_lt_zero _)⟩, w5⟩ ?_
        rintro B ⟨x, I2⟩ hB ⟨z1, ⟨l2, z2, z3, z4, z5⟩, z6⟩
        dsimp only at z1 z2 z3 z4 z5 z6
        subst z1
        unfold h_X10_laysLeft_B56 h_X10_many h_X10_laysLeft_J56_99
        dsimp only
        rw [p_bs]
        have e49'' : I2 51 49 = nI n := by rw [z6 51 (by omega)]; exact ek
        by_cases hin : n ≤ B
        · have : B = n := by omega
          subst this
          rw [if_pos (by rw [e49'']; exact nI_le (Nat.le_refl _) (by omega))]
          refine wp_some.mpr ⟨⟨l2, fun a ha => ?_, z3, fun a ha h => ?_⟩, z6⟩
          · obtain ⟨v1, v2⟩ := z2 a ha
            exact ⟨v1, v2.imp id fun ⟨y1, y2⟩ => ⟨by omega, y2⟩⟩
          · by_cases e : a = A
            · subst e
              obtain ⟨b, hb, h1, h2⟩ := ly_3 h
              exact z5 b (ly_n hn hW' ht h1) h2 h1
            · exact z4 a (by omega) h
        rw [if_neg (by rw [e49'']; exact nI_ge (by omega) (by omega)), m_watches (W := W) hn (by rw [z6 51 (by omega)]; exact hw) (by omega) (by omega), p_bs]
        by_cases hwt : (W B).testBit A = true
        · rw [if_pos hwt, if_neg (by decide), p_in_nI (by omega) (by omega), p_bs, p_in_nI (by omega) (by omega), p_bs]
          have lA := lfG_le z2 (by omega) (show A < n by omega)
          have lB := lfG_le z2 (by omega) (show B < n by omega)
          obtain ⟨a1, a2⟩ := z2 A (by omega)
          obtain ⟨b1, b2⟩ := z2 B (by omega)
          rw [a1, b1, lesser_nI lA lB, p_bs, p_bs, p_le, p_le]
          refine wp_some.mpr ⟨by omega, (nI_succ B).symm, ⟨fun a => if a = A then min (l2 A) (l2 B + 1) else l2 a, fun a ha => ?_, fun a j ha hj h => ?_, fun a ha h => ?_, fun b hb hb2 hb3 => ?_⟩, fun a ha => by dsimp only; rw [v_up_row _ 66 _ _ ha]; exact z6 a ha⟩
          · dsimp only
            by_cases e : a = A
            · subst e
              rw [w_at, if_pos rfl]
              refine ⟨rfl, ?_⟩
              by_cases hm : l2 a ≤ l2 B + 1
              · rw [Nat.min_eq_left hm]
                exact a2.imp id fun ⟨y1, y2⟩ => ⟨by omega, y2⟩
              · rw [Nat.min_eq_right (by omega)]
                rcases b2 with b2 | ⟨y1, j, y2, y3⟩
                · exact absurd lA (by rw [b2] at hm; clear a2; omega)
                · obtain ⟨j', y4, y5⟩ := ly_4 hn hW' y3 (by omega) hwt
                  exact .inr ⟨by omega, j', by omega, y5⟩
            · rw [w_ne _ _ _ _ e, if_neg e]
              obtain ⟨v1, v2⟩ := z2 a ha
              exact ⟨v1, v2.imp id fun ⟨y1, y2⟩ => ⟨by omega, y2⟩⟩
          · dsimp only
            have := z3 a j ha hj h
            by_cases e : a = A
            · subst e; rw [if_pos rfl]; omega
            · rw [if_neg e]; exact this
          · dsimp only
            rw [if_neg (by omega)]; exact z4 a ha h
          · dsimp only
            rw [if_pos rfl]
            by_cases e : b = B
            · subst e
              have := z3 b r (by omega) (Nat.le_refl _) hb3
              omega
            · have := z5 b (by omega) hb2 hb3
              omega
        · rw [if_neg hwt, if_pos rfl, p_le]
          refine wp_some.mpr ⟨by omega, (nI_succ B).symm, ⟨l2, fun a ha => ?_, z3, z4, fun b hb hb2 hb3 => ?_⟩, z6⟩
          · obtain ⟨v1, v2⟩ := z2 a ha
            exact ⟨v1, v2.imp id fun ⟨y1, y2⟩ => ⟨by omega, y2⟩⟩
          · by_cases e : b = B
            · subst e; exact absurd hb2 hwt
            · exact z5 b (by omega) hb2 hb3
      · obtain ⟨v1, v2⟩ := hv
        rw [p_le]
        exact wp_some.mpr ⟨by omega, (nI_succ A).symm, by rw [show 8 * (A + 1) = 8 * A + 8 by omega, ← Nat.add_assoc]; exact v1, v2⟩
    · obtain ⟨v1, v2⟩ := hv
      rw [p_le]
      exact wp_some.mpr ⟨by omega, (nI_succ (r + 1)).symm, v1, v2⟩
  obtain ⟨⟨le, g1, g2⟩, u2⟩ := hu
  refine wp_some.mpr ⟨⟨le, fun a ha => ?_⟩, u2⟩
  obtain ⟨v1, v2⟩ := g1 a ha
  refine ⟨v1, fun d hd => ?_, fun hd => ?_⟩
  · have dn := ly_5 hn hW' ht hd
    have l := g2 a d ha (by omega) hd
    rcases v2 with e | ⟨_, j, hj, h⟩
    · omega
    · have := ly_2 hn hW' ht h hd
      omega
  · rcases v2 with e | ⟨_, j, hj, h⟩
    · exact e
    · exact absurd h (hd j)
end sp89
