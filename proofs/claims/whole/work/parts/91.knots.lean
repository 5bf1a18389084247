noncomputable section sp91
theorem shl_nI {h : Nat} (hh : h < 8) : (1 : Int32) <<< (nI h &&& 31) = nI (2 ^ h) := by
  have : ∀ t : Nat, t < 8 → (1 : Int32) <<< (nI t &&& 31) = nI (2 ^ t) := by decide
  exact this h hh
theorem c_src {S : v_S} {I : v_I} {F : v_F} {W : Nat → Nat} (hW : ∀ h, h < 8 → W h < 256 ∧ I 6 h = nI (W h)) : wp (h_X5_findSources S I F) (fun r => (∀ h, h < 8 → r 25 h = nI (sr W h 8)) ∧ ∀ a, a ≠ 25 → r a = I a) := by
  have hW' : ∀ h, h < 8 → W h < 2 ^ 8 := fun h hh => (hW h hh).1
  unfold h_X5_findSources
  refine wp_seq (P := fun t : Int32 × v_I => (∀ h, h < 8 → t.2 25 h = nI (sr W h 8)) ∧ ∀ a, a ≠ 25 → t.2 a = I a) ?_ fun t ht => wp_some.mpr ht
  refine wp_lp (fun i (t : Int32 × v_I) => t.1 = nI i ∧ (∀ h, h < i → t.2 25 h = nI (sr W h 8)) ∧ ∀ a, a ≠ 25 → t.2 a = I a) 8 (by omega) ⟨rfl, fun h hh => absurd hh (Nat.not_lt_zero _), fun _ _ => rfl⟩ ?_
  rintro i ⟨x, I'⟩ hi ⟨u1, u2, u3⟩
  dsimp only at u1 u2 u3
  subst u1
  unfold h_X5_findSources_B2
  dsimp only
  by_cases h8 : i = 8
  · rw [if_pos (show (8 : Int32) ≤ nI i from i_le (a := 8) rfl rfl (by omega) (by omega))]
    exact wp_some.mpr ⟨fun h hh => u2 h (by omega), u3⟩
  rw [if_neg (show ¬ (8 : Int32) ≤ nI i from i_nle (a := 8) rfl rfl (by omega) (by omega)), p_le, shl_nI (by omega)]
  have lp := v_loop_FU (body := h_X5_findSources_B15 S F I' (nI i)) (fun z => (nI (sr W i z), nI z)) (nI (sr W i 8), nI 8) 8 (by omega) (fun z hz => by
    have l : sr W i z < 256 := sr_lt (n := 8) hW' (by omega) z
    have lw : wbp W (sr W i z) 8 < 256 := wbp_lt (n := 8) 8 hW'
    unfold h_X5_findSources_B15
    dsimp only
    rw [if_neg (show ¬ (8 : Int32) ≤ nI z from i_nle (a := 8) rfl rfl (by omega) (by omega)), c_wb (W := W) (fun h hh => ⟨(hW h hh).1, by rw [u3 6 (by omega)]; exact (hW h hh).2⟩) l, p_bs, (nI_or l lw).1, p_le, p_le, ← nI_succ]
    rfl) (by
    unfold h_X5_findSources_B15
    dsimp only
    rw [if_pos (show (8 : Int32) ≤ nI 8 by decide)])
  rw [show (nI (2 ^ i), (0 : Int32)) = (fun z => (nI (sr W i z), nI z)) 0 from rfl, lp, p_bs, p_in_nI (by omega) (by omega), p_bs, p_le, p_le]
  refine wp_some.mpr ⟨by omega, (nI_succ i).symm, fun h hh => ?_, fun a ha => by dsimp only; rw [v_up_row _ 25 _ _ ha]; exact u3 a ha⟩
  dsimp only
  by_cases e : h = i
  · subst e; rw [w_at]
  · rw [w_ne _ _ _ _ e]; exact u2 h (by omega)
theorem nx_step (f : Nat → Bool) {i : Nat} (hi : i < 8) (c : Bool) (hc : f i = c) : nI (nx f (i + 1)) = if c = true then nI (nx f i) ||| ((1 : Int32) <<< (nI i &&& 31)) else nI (nx f i) := by
  have l : nx f i < 256 := Nat.lt_of_lt_of_le (nx_lt f i) (two_le (by omega))
  rw [show nx f (i + 1) = nx f i ||| (if f i then 2 ^ i else 0) from rfl, hc]
  cases c with
  | true => rw [if_pos rfl, if_pos rfl, b_set i _ hi l]
  | false => rw [if_neg (by decide), if_neg (by decide), Nat.or_zero]
theorem c_knot {S : v_S} {I : v_I} {F : v_F} {Z : Nat → Nat} {one : Nat} (hZ : ∀ h, h < 8 → Z h < 256 ∧ I 25 h = nI (Z h)) (ho : one < 8) : h_X5_knotOf S I F (nI one) = some (nI (nx (fun h => (Z one).testBit h && (Z h).testBit one) 8)) := by
  unfold h_X5_knotOf
  have := v_loop_FU (body := h_X5_knotOf_B4 S I F (nI one)) (fun i => (nI (nx (fun h => (Z one).testBit h && (Z h).testBit one) i), nI i)) (nI (nx (fun h => (Z one).testBit h && (Z h).testBit one) 8), nI 8) 8 (by omega) (fun i hi => by
    unfold h_X5_knotOf_B4 h_X5_knotOf_J4_54
    dsimp only
    rw [if_neg (show ¬ (8 : Int32) ≤ nI i from i_nle (a := 8) rfl rfl (by omega) (by omega)), if_neg (nI_pos (by omega)), if_neg (show ¬ (8 : Int32) ≤ nI one from i_nle (a := 8) rfl rfl (by omega) (by omega)), p_in_nI ho (by omega), p_bs, (hZ one ho).2]
    by_cases q1 : (Z one).testBit i = true
    · rw [if_pos ((bit_c (hZ one ho).1 hi).mpr q1), p_in_nI hi (by omega), p_bs, (hZ i hi).2]
      by_cases q2 : (Z i).testBit one = true
      · rw [if_pos ((bit_c (hZ i hi).1 ho).mpr q2), p_le, p_le, nx_step _ hi true (by rw [q1, q2]; rfl), if_pos rfl, ← nI_succ]
      · rw [if_neg (fun z => q2 ((bit_c (hZ i hi).1 ho).mp z)), p_le, nx_step _ hi false (by rw [q1, Bool.true_and]; simpa using q2), if_neg (by decide), ← nI_succ]
    · rw [if_neg (fun z => q1 ((bit_c (hZ one ho).1 hi).mp z)), p_le, nx_step _ hi false (by rw [Bool.eq_false_iff.mpr q1]; rfl), if_neg (by decide), ← nI_succ]) (by
    unfold h_X5_knotOf_B4
    dsimp only
    rw [if_pos (show (8 : Int32) ≤ nI 8 by decide)])
  rw [show ((0 : Int32), (0 : Int32)) = (fun i => (nI (nx (fun h => (Z one).testBit h && (Z h).testBit one) i), nI i)) 0 from rfl, this, p_bs]
theorem low_eq {k h : Nat} (hk : k < 256) (hh : h < 8) (hb : k.testBit h = true) : (nI k &&& (-nI k) = (1 : Int32) <<< (nI h &&& 31)) ↔ (nI k &&& (((1 : Int32) <<< (nI h &&& 31)) - 1) = 0) := by
  have : ∀ h : Nat, h < 8 → ∀ k : Nat, k < 256 → k.testBit h = true → ((nI k &&& (-nI k) = (1 : Int32) <<< (nI h &&& 31)) ↔ (nI k &&& (((1 : Int32) <<< (nI h &&& 31)) - 1) = 0)) := by decide +kernel
  exact this h hh k hk hb
/-- the model: from whom one is come to -/
theorem m_reach {I : v_I} {W : Nat → Nat} {n h : Nat} (hn : n ≤ 8) (hw : wtc (I 51) W n) (ek : I 51 49 = nI n) (hh : h < n) : ∃ r, h_X10_reached I (nI h) = some (nI r) ∧ r < 2 ^ n ∧ ∀ y, y < n → (r.testBit y = true ↔ Rt W h y) := by
  have hW' : ∀ z, z < 8 → W z < 2 ^ n := fun z hz => (hw z hz).1
  have t256 := two_le hn
  have lt : ∀ i, rf W n h i < 256 := fun i => by have := rf_lt (W := W) hh i; omega
  have key : wp (h_X10_reached I (nI h)) (fun x => ∃ r, x = nI r ∧ r < 2 ^ n ∧ ∀ y, y < n → (r.testBit y = true ↔ Rt W h y)) := by
    unfold h_X10_reached
    rw [p_le, shl_nI (by omega)]
    refine wp_seq (P := fun q : Int32 × Int32 => ∃ r, q.1 = nI r ∧ r < 2 ^ n ∧ ∀ y, y < n → (r.testBit y = true ↔ Rt W h y)) ?_ fun q hq => wp_some.mpr hq
    refine wp_lp (fun i (u : Int32 × Int32) => u.1 = nI (rf W n h i) ∧ ((i = 0 ∧ u.2 = -1) ∨ (0 < i ∧ u.2 = nI (rf W n h (i - 1)) ∧ i ≤ pc (rf W n h (i - 1))))) n (by omega) ⟨rfl, .inl ⟨rfl, rfl⟩⟩ ?_
    rintro i ⟨x, y⟩ hi ⟨u1, u2⟩
    dsimp only at u1 u2
    subst u1
    unfold h_X10_reached_B6
    dsimp only
    -- it goes on
    have go : i < pc (rf W n h i) → wp ((v_loop (h_X10_reached_B16 I (nI (rf W n h i))) FU (nI (rf W n h i), 0)).bind fun q_13 => some (Sum.inl (q_13.1, nI (rf W n h i)))) (v_K (fun (u : Int32 × Int32) => i < n ∧ u.1 = nI (rf W n h (i + 1)) ∧ ((i + 1 = 0 ∧ u.2 = -1) ∨ (0 < i + 1 ∧ u.2 = nI (rf W n h (i + 1 - 1)) ∧ i + 1 ≤ pc (rf W n h (i + 1 - 1))))) (fun q : Int32 × Int32 => ∃ r, q.1 = nI r ∧ r < 2 ^ n ∧ ∀ y, y < n → (r.testBit y = true ↔ Rt W h y))) := by
      intro hp
      have hpn := pc_n hn (rf_lt (W := W) hh i)
      have lp := v_loop_FU (body := h_X10_reached_B16 I (nI (rf W n h i))) (fun z => (nI (rf W n h i ||| nx (fun k => decide (W k &&& rf W n h i ≠ 0)) z), nI z)) (nI (rf W n h (i + 1)), nI n) n (by omega) (fun z hz => by
        have wz := hw z (by omega)
        have lz : nx (fun k => decide (W k &&& rf W n h i ≠ 0)) z < 256 := Nat.lt_of_lt_of_le (nx_lt _ z) (two_le (by omega))
        have lo := (nI_or (lt i) lz).2
        unfold h_X10_reached_B16 h_X10_many h_X10_reached_J16_49
        dsimp only
        rw [p_bs, if_neg (by rw [ek]; exact nI_ge hz (by omega)), show (26 : Int32) + nI z = nI 26 + nI z from rfl, p_inA (c := 26) (k := z) rfl (by omega) (by omega), p_bs, wz.2, (nI_and (show W z < 256 by omega) (lt i)).1]
        have hst : nx (fun k => decide (W k &&& rf W n h i ≠ 0)) (z + 1) = nx (fun k => decide (W k &&& rf W n h i ≠ 0)) z ||| (if decide (W z &&& rf W n h i ≠ 0) = true then 2 ^ z else 0) := rfl
        have l0 := (nI_and (show W z < 256 by omega) (lt i)).2
        by_cases q : W z &&& rf W n h i = 0
        · rw [if_pos (by rw [q]; rfl), p_le, p_le, hst, if_neg (by simp [q]), Nat.or_zero, Int32.or_zero, ← nI_succ]
        · rw [if_neg (show ¬ nI (W z &&& rf W n h i) = 0 from fun e => q ((i_eqI (b := 0) rfl rfl (by omega) (by omega)).mp e)), p_le, p_le, hst, if_pos (by simp [q]), b_set z _ (by omega) lo, Nat.or_assoc, ← nI_succ]) (by
        unfold h_X10_reached_B16 h_X10_many
        dsimp only
        rw [p_bs, if_pos (by rw [ek]; exact nI_le (Nat.le_refl _) (by omega))]
        rfl)
      have s0 : (nI (rf W n h i), (0 : Int32)) = (fun z => (nI (rf W n h i ||| nx (fun k => decide (W k &&& rf W n h i ≠ 0)) z), nI z)) 0 := by
        show _ = (nI (rf W n h i ||| 0), nI 0)
        rw [Nat.or_zero]; rfl
      rw [s0, lp, p_bs]
      exact wp_some.mpr ⟨by omega, rfl, .inr ⟨by omega, by rw [Nat.add_sub_cancel], by rw [Nat.add_sub_cancel]; omega⟩⟩
    rcases u2 with ⟨e, rfl⟩ | ⟨hp, rfl, hpc⟩
    · rw [if_neg (by rw [e]; exact nI_ne _ (by have := lt 0; omega))]
      refine go ?_
      rw [e]
      have : ∀ t : Nat, t < 8 → 0 < pc (2 ^ t) := by decide
      exact this h (by omega)
    · obtain ⟨j, rfl⟩ : ∃ j, i = j + 1 := ⟨i - 1, by omega⟩
      rw [Nat.add_sub_cancel] at hpc ⊢
      by_cases e : rf W n h (j + 1) = rf W n h j
      · rw [if_pos (by rw [e])]
        refine wp_some.mpr ⟨rf W n h (j + 1), rfl, rf_lt hh _, fun y hy => ?_⟩
        rw [e]
        exact rf_st hn hW' e hy
      · rw [if_neg (fun q => e ((nI_eq (by have := lt (j + 1); omega) (by have := lt j; omega)).mp q))]
        refine go ?_
        have := rf_grow hn e
        omega
  obtain ⟨x, e, r, rfl, h1, h2⟩ := key
  exact ⟨r, e, h1, h2⟩
theorem m_knots {I : v_I} {W : Nat → Nat} {n : Nat} (hn : n ≤ 8) (hw : wtc (I 51) W n) (ek : I 51 49 = nI n) : wp (h_X10_laysKnots I) (fun r => ∃ Y : Nat → Nat, (∀ h, h < n → Y h < 2 ^ n ∧ r 67 h = nI (Y h) ∧ (∀ y, y < n → ((Y h).testBit y = true ↔ Rt W h y)) ∧ r 68 h = nI (nx (fun b => (Y h).testBit b && (Y b).testBit h) n)) ∧ ∀ a, a ≠ 67 → a ≠ 68 → r a = I a) := by
  have t256 := two_le hn
  have hex : ∃ Y : Nat → Nat, ∀ h, h < n → (∀ I' : v_I, I' 51 = I 51 → h_X10_reached I' (nI h) = some (nI (Y h))) ∧ Y h < 2 ^ n ∧ ∀ y, y < n → ((Y h).testBit y = true ↔ Rt W h y) := by
    have : ∀ h, ∃ r, h < n → (∀ I' : v_I, I' 51 = I 51 → h_X10_reached I' (nI h) = some (nI r)) ∧ r < 2 ^ n ∧ ∀ y, y < n → (r.testBit y = true ↔ Rt W h y) := by
      intro h
      by_cases hh : h < n
      · obtain ⟨r, e1, e2, e3⟩ := m_reach hn hw ek hh
        refine ⟨r, fun _ => ⟨fun I' e => ?_, e2, e3⟩⟩
        rw [← e1]
        unfold h_X10_reached
        have b16 : ∀ w, h_X10_reached_B16 I' w = h_X10_reached_B16 I w := fun w => by funext s; unfold h_X10_reached_B16 h_X10_reached_J16_49 h_X10_many; rw [e]
        have b6 : h_X10_reached_B6 I' = h_X10_reached_B6 I := by funext s; unfold h_X10_reached_B6; rw [b16]
        rw [b6]
      · exact ⟨0, fun q => absurd q hh⟩
    exact ⟨fun h => Classical.choose (this h), fun h hh => Classical.choose_spec (this h) hh⟩
  obtain ⟨Y, hY⟩ := hex
  have Y256 : ∀ h, h < n → Y h < 256 := fun h hh => by have := (hY h hh).2.1; omega
  unfold h_X10_laysKnots
  refine wp_seq (P := fun q : Int32 × v_I => (∀ h, h < n → q.2 67 h = nI (Y h)) ∧ ∀ a, a ≠ 67 → q.2 a = I a) ?_ fun q hq => ?_
  · refine wp_lp (fun i (u : Int32 × v_I) => u.1 = nI i ∧ (∀ h, h < i → u.2 67 h = nI (Y h)) ∧ ∀ a, a ≠ 67 → u.2 a = I a) n (by omega) ⟨rfl, fun h hh => absurd hh (Nat.not_lt_zero _), fun _ _ => rfl⟩ ?_
    rintro i ⟨x, I'⟩ hi ⟨u1, u2, u3⟩
    dsimp only at u1 u2 u3
    subst u1
    unfold h_X10_laysKnots_B2 h_X10_many
    dsimp only
    rw [p_bs]
    have e49 : I' 51 49 = nI n := by rw [u3 51 (by omega)]; exact ek
    by_cases hin : n ≤ i
    · have : i = n := by omega
      subst this
      rw [if_pos (by rw [e49]; exact nI_le (Nat.le_refl _) (by omega))]
      exact wp_some.mpr ⟨u2, u3⟩
    rw [if_neg (by rw [e49]; exact nI_ge (by omega) (by omega)), (hY i (by omega)).1 I' (u3 51 (by omega)), p_bs, p_in_nI (by omega) (by omega), p_bs, p_le, p_le]
    refine wp_some.mpr ⟨by omega, (nI_succ i).symm, fun h hh => ?_, fun a ha => by dsimp only; rw [v_up_row _ 67 _ _ ha]; exact u3 a ha⟩
    dsimp only
    by_cases e : h = i
    · subst e; rw [w_at]
    · rw [w_ne _ _ _ _ e]; exact u2 h (by omega)
  obtain ⟨q1, q2⟩ := hq
  refine wp_seq (P := fun u : Int32 × v_I => (∀ h, h < n → u.2 68 h = nI (nx (fun b => (Y h).testBit b && (Y b).testBit h) n)) ∧ ∀ a, a ≠ 68 → u.2 a = q.2 a) ?_ fun u hu => ?_
  · refine wp_lp (fun i (u : Int32 × v_I) => u.1 = nI i ∧ (∀ h, h < i → u.2 68 h = nI (nx (fun b => (Y h).testBit b && (Y b).testBit h) n)) ∧ ∀ a, a ≠ 68 → u.2 a = q.2 a) n (by omega) ⟨rfl, fun h hh => absurd hh (Nat.not_lt_zero _), fun _ _ => rfl⟩ ?_
    rintro i ⟨x, I'⟩ hi ⟨u1, u2, u3⟩
    dsimp only at u1 u2 u3
    subst u1
    unfold h_X10_laysKnots_B29 h_X10_many
    dsimp only
    rw [p_bs]
    have e49 : I' 51 49 = nI n := by rw [u3 51 (by omega), q2 51 (by omega)]; exact ek
    by_cases hin : n ≤ i
    · have : i = n := by omega
      subst this
      rw [if_pos (by rw [e49]; exact nI_le (Nat.le_refl _) (by omega))]
      exact wp_some.mpr ⟨u2, u3⟩
    rw [if_neg (by rw [e49]; exact nI_ge (by omega) (by omega)), p_in_nI (by omega) (by omega), p_bs, p_le]
    refine wp_seq (P := fun v : Int32 × v_I => v.2 68 i = nI (nx (fun b => (Y i).testBit b && (Y b).testBit i) n) ∧ (∀ h, h ≠ i → v.2 68 h = I' 68 h) ∧ ∀ a, a ≠ 68 → v.2 a = q.2 a) ?_ fun v hv => ?_
    · refine wp_lp (fun b (v : Int32 × v_I) => v.1 = nI b ∧ v.2 68 i = nI (nx (fun b => (Y i).testBit b && (Y b).testBit i) b) ∧ (∀ h, h ≠ i → v.2 68 h = I' 68 h) ∧ ∀ a, a ≠ 68 → v.2 a = q.2 a) n (by omega) ⟨rfl, by dsimp only; rw [w_at]; rfl, fun h hh => by dsimp only; rw [w_ne _ _ _ _ hh], fun a ha => by dsimp only; rw [v_up_row _ 68 _ _ ha]; exact u3 a ha⟩ ?_
      rintro b ⟨x, I2⟩ hb ⟨v1, v2, v3, v4⟩
      dsimp only at v1 v2 v3 v4
      subst v1
      unfold h_X10_laysKnots_B46 h_X10_many h_X10_laysKnots_J46_93 h_X10_laysKnots_J46_94 h_X10_isIn
      dsimp only
      rw [p_bs]
      have e49' : I2 51 49 = nI n := by rw [v4 51 (by omega), q2 51 (by omega)]; exact ek
      by_cases hin2 : n ≤ b
      · have : b = n := by omega
        subst this
        rw [if_pos (by rw [e49']; exact nI_le (Nat.le_refl _) (by omega))]
        exact wp_some.mpr ⟨v2, v3, v4⟩
      have b8 : b < 8 := by omega
      have i8 : i < 8 := by omega
      rw [if_neg (by rw [e49']; exact nI_ge (by omega) (by omega)), p_in_nI i8 (by omega), p_bs, p_bs]
      have y67 : ∀ h, h < n → I2 67 h = nI (Y h) := fun h hh => by rw [v4 67 (by omega)]; exact q1 h hh
      have put : ∀ z : Int32, nI (nx (fun b => (Y i).testBit b && (Y b).testBit i) b) ||| z = nI (nx (fun b => (Y i).testBit b && (Y b).testBit i) (b + 1)) → wp (p_let (v_up I2 68 i (I2 68 i ||| z)) fun I_28 => p_let (nI b + 1) fun x_30 => some (Sum.inl (x_30, I_28))) (v_K (fun (v : Int32 × v_I) => b < n ∧ v.1 = nI (b + 1) ∧ v.2 68 i = nI (nx (fun b => (Y i).testBit b && (Y b).testBit i) (b + 1)) ∧ (∀ h, h ≠ i → v.2 68 h = I' 68 h) ∧ ∀ a, a ≠ 68 → v.2 a = q.2 a) (fun v : Int32 × v_I => v.2 68 i = nI (nx (fun b => (Y i).testBit b && (Y b).testBit i) n) ∧ (∀ h, h ≠ i → v.2 68 h = I' 68 h) ∧ ∀ a, a ≠ 68 → v.2 a = q.2 a)) := by
        intro z hz
        rw [p_le, p_le, v2, hz]
        exact wp_some.mpr ⟨by omega, (nI_succ b).symm, by dsimp only; rw [w_at], fun h hh => by dsimp only; rw [w_ne _ _ _ _ hh]; exact v3 h hh, fun a ha => by dsimp only; rw [v_up_row _ 68 _ _ ha]; exact v4 a ha⟩
      by_cases g1 : (Y i).testBit b = true
      · rw [if_pos (by rw [y67 i (by omega)]; exact (bit_c (Y256 i (by omega)) b8).mpr g1), p_bs, if_neg (by decide), p_in_nI b8 (by omega), p_bs]
        by_cases g2 : (Y b).testBit i = true
        · rw [if_pos (by rw [y67 b (by omega)]; exact (bit_c (Y256 b (by omega)) i8).mpr g2), p_bs, if_neg (by decide), p_bs]
          exact put _ (by rw [nx_step _ b8 true (by rw [g1, g2]; rfl), if_pos rfl])
        · rw [if_neg (by rw [y67 b (by omega)]; exact fun z => g2 ((bit_c (Y256 b (by omega)) i8).mp z)), p_bs, if_pos rfl, p_bs]
          exact put 0 (by rw [Int32.or_zero, nx_step _ b8 false (by rw [g1, Bool.true_and]; simpa using g2), if_neg (by decide)])
      · rw [if_neg (by rw [y67 i (by omega)]; exact fun z => g1 ((bit_c (Y256 i (by omega)) b8).mp z)), p_bs, if_pos rfl, p_bs]
        exact put 0 (by rw [Int32.or_zero, nx_step _ b8 false (by rw [Bool.eq_false_iff.mpr g1]; rfl), if_neg (by decide)])
    · obtain ⟨v1, v2, v3⟩ := hv
      rw [p_le]
      refine wp_some.mpr ⟨by omega, (nI_succ i).symm, fun h hh => ?_, v3⟩
      by_cases e : h = i
      · rw [e]; exact v1
      · rw [v2 h e]; exact u2 h (by omega)
  obtain ⟨u1, u2⟩ := hu
  exact wp_some.mpr ⟨Y, fun h hh => ⟨(hY h hh).2.1, by rw [u2 67 (by omega)]; exact q1 h hh, (hY h hh).2.2, u1 h hh⟩, fun a h1 h2 => by rw [u2 a h2, q2 a h1]⟩
end sp91
