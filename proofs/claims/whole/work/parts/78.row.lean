noncomputable section sp78
theorem nI_sub {a b : Nat} (h : b ≤ a) : nI a - nI b = nI (a - b) := by
  have e : nI (a - b) + nI b = nI a := by rw [nI_add, Nat.sub_add_cancel h]
  rw [← e, Int32.sub_eq_add_neg, Int32.add_assoc, Int32.add_right_neg, Int32.add_zero]
/-- a row is added, three by three -/
def rs (b : Nat → Nat) (n : Nat) (k : Nat → Int32) : Nat → Nat × Nat × (Nat → Int32)
  | 0 => (n, 0, k)
  | i + 1 => if (rs b n k i).1 < 8 ∧ b (3 * i) ≤ 9 ∧ b (3 * i + 1) ≤ 9 ∧ b (3 * i + 2) ≤ 2 ^ (rs b n k i).1 - 1 then ((rs b n k i).1 + 1, (rs b n k i).2.1 + 1, sp_add (rs b n k i).2.2 (rs b n k i).1 (nI (b (3 * i))) (nI (b (3 * i + 1))) (nI (b (3 * i + 2)))) else rs b n k i
theorem rs_ok {b : Nat → Nat} {n : Nat} {k : Nat → Int32} (hn : n ≤ 8) (ek : k 49 = nI n) (hK : kK k) : ∀ i, (rs b n k i).1 ≤ 8 ∧ (rs b n k i).2.1 ≤ i ∧ (rs b n k i).2.2 49 = nI (rs b n k i).1 ∧ kK (rs b n k i).2.2 ∧ (∀ z, (z = 17 ∨ (34 ≤ z ∧ z ≠ 49)) → (rs b n k i).2.2 z = k z)
  | 0 => ⟨hn, Nat.le_refl _, ek, hK, fun _ _ => rfl⟩
  | i + 1 => by
    obtain ⟨h1, h2, h3, h4, h5⟩ := rs_ok (b := b) hn ek hK i
    unfold rs
    split
    · rename_i q
      refine ⟨q.1, Nat.succ_le_succ h2, by dsimp only; rw [sa_49], add_kK _ _ q.1 h3 h4 (by have := Nat.one_le_two_pow (n := (rs b n k i).1); omega) (nI_le (a := 0) (by omega) (by omega)), fun z hz => ?_⟩
      dsimp only
      rw [sa_k _ _ _ _ q.1 hz, h5 z hz]
    · exact ⟨h1, Nat.le_succ_of_le h2, h3, h4, h5⟩
theorem by_small (b : Nat) (hb : b < 256) : ((0 : Int32) ≤ (nI b).toInt8.toInt32 ∧ (nI b).toInt8.toInt32 ≤ 9 ↔ b ≤ 9) ∧ (b ≤ 9 → (nI b).toInt8.toInt32 = nI b) ∧ (nI b).toInt8.toInt32 &&& 255 = nI b := by
  have : ∀ b : Nat, b < 256 → ((0 : Int32) ≤ (nI b).toInt8.toInt32 ∧ (nI b).toInt8.toInt32 ≤ 9 ↔ b ≤ 9) ∧ (b ≤ 9 → (nI b).toInt8.toInt32 = nI b) ∧ (nI b).toInt8.toInt32 &&& 255 = nI b := by decide +kernel
  exact this b hb
theorem up_nI {b m : Nat} (hb : b < 2 ^ 31) (hm : m < 2 ^ 31) : h_X9_isUpTo (nI b).toInt64 (nI m) = some (if b ≤ m then 1 else 0) := by
  rw [b_isUpTo]
  by_cases h : b ≤ m
  · rw [if_pos ⟨nI_le (a := 0) (by omega) hb, nI_le h hm⟩, if_pos h]
  · rw [if_neg (fun q => absurd ((i_leI rfl rfl hb hm).mp q.2) h), if_neg h]
theorem c_tape {S : v_S} {I : v_I} {F : v_F} {b : Nat → Nat} {n0 i sz : Nat} {k0 : Nat → Int32} (hb : ∀ z, z < 400 → b z < 256 ∧ I 29 z = nI (b z)) (hsz : sz ≤ 400) (e8 : I 0 8 = nI sz) (h3 : 3 * i < sz) (hC : rC I 1 2 3 4 5 6 7 8 (rs b n0 k0 i).2.2) (hm : (rs b n0 k0 i).1 ≤ 8) (e49 : (rs b n0 k0 i).2.2 49 = nI (rs b n0 k0 i).1) :
    wp (h_X9_addFromTape S I F (nI (3 * i))) (fun r => (3 * i + 3 ≤ sz → r.1 = (if (rs b n0 k0 (i + 1)).2.1 = (rs b n0 k0 i).2.1 then 0 else 1) ∧ rC r.2 1 2 3 4 5 6 7 8 (rs b n0 k0 (i + 1)).2.2) ∧ (sz < 3 * i + 3 → r.1 = 0 ∧ r.2 = I) ∧ ∀ a, ¬ (1 ≤ a ∧ a ≤ 6) → r.2 a = I a) := by
  have e10 : I 1 0 = nI (rs b n0 k0 i).1 := by rw [hC.2.1, e49]
  unfold h_X9_addFromTape
  have a3 : nI (3 * i) + 3 = nI (3 * i + 3) := nI_add (3 * i) 3
  have a1 : nI (3 * i) + 1 = nI (3 * i + 1) := nI_add (3 * i) 1
  have a2 : nI (3 * i) + 2 = nI (3 * i + 2) := nI_add (3 * i) 2
  have hstep : rs b n0 k0 (i + 1) = if (rs b n0 k0 i).1 < 8 ∧ b (3 * i) ≤ 9 ∧ b (3 * i + 1) ≤ 9 ∧ b (3 * i + 2) ≤ 2 ^ (rs b n0 k0 i).1 - 1 then ((rs b n0 k0 i).1 + 1, (rs b n0 k0 i).2.1 + 1, sp_add (rs b n0 k0 i).2.2 (rs b n0 k0 i).1 (nI (b (3 * i))) (nI (b (3 * i + 1))) (nI (b (3 * i + 2)))) else rs b n0 k0 i := rfl
  rw [if_neg (nI_pos (by omega)), a3, e8]
  by_cases hp : sz < 3 * i + 3
  · rw [if_pos (nI_lt hp (by omega))]
    exact wp_some.mpr ⟨fun q => absurd hp (by omega), fun _ => ⟨rfl, rfl⟩, fun _ _ => rfl⟩
  rw [if_neg (nI_nlt (by omega) (by omega)), if_neg (show ¬ (400 : Int32) < nI (3 * i + 3) from i_nlt (a := 400) rfl rfl (by omega) (by omega))]
  have no : ¬ ((rs b n0 k0 i).1 < 8 ∧ b (3 * i) ≤ 9 ∧ b (3 * i + 1) ≤ 9 ∧ b (3 * i + 2) ≤ 2 ^ (rs b n0 k0 i).1 - 1) → wp (some ((0 : Int32), I)) (fun r => (3 * i + 3 ≤ sz → r.1 = (if (rs b n0 k0 (i + 1)).2.1 = (rs b n0 k0 i).2.1 then 0 else 1) ∧ rC r.2 1 2 3 4 5 6 7 8 (rs b n0 k0 (i + 1)).2.2) ∧ (sz < 3 * i + 3 → r.1 = 0 ∧ r.2 = I) ∧ ∀ a, ¬ (1 ≤ a ∧ a ≤ 6) → r.2 a = I a) := by
    intro q
    rw [if_neg q] at hstep
    refine wp_some.mpr ⟨fun _ => ?_, fun _ => ⟨rfl, rfl⟩, fun _ _ => rfl⟩
    rw [hstep, if_pos rfl]
    exact ⟨rfl, hC⟩
  have hm256 := two_le hm
  by_cases h8 : (rs b n0 k0 i).1 < 8
  · obtain ⟨b0, e0⟩ := hb (3 * i) (by omega)
    obtain ⟨b1, e1⟩ := hb (3 * i + 1) (by omega)
    obtain ⟨b2, e2⟩ := hb (3 * i + 2) (by omega)
    rw [if_pos (by rw [e10]; exact i_lt (b := 8) rfl rfl h8 (by omega)), p_in_nI (by omega) (by omega), p_bs, p_le, a1, p_in_nI (by omega) (by omega), p_bs, p_le, a2, p_in_nI (by omega) (by omega), p_bs, p_le, e0, e1, e2]
    rw [show (9 : Int32) = nI 9 from rfl, up_nI (by omega) (by omega), p_bs]
    refine (Classical.em (b (3 * i) ≤ 9)).elim (fun g0 => ?_) (fun g0 => by rw [if_neg g0, if_pos rfl]; exact no (fun q => g0 q.2.1))
    rw [if_pos g0, if_neg (by decide), up_nI (by omega) (by omega), p_bs]
    refine (Classical.em (b (3 * i + 1) ≤ 9)).elim (fun g1 => ?_) (fun g1 => by rw [if_neg g1, if_pos rfl]; exact no (fun q => g1 q.2.2.1))
    unfold h_X0_everyone
    rw [if_pos g1, if_neg (by decide), p_bs, e10, ev_n hm, up_nI (by omega) (by omega), p_bs]
    refine (Classical.em (b (3 * i + 2) ≤ 2 ^ (rs b n0 k0 i).1 - 1)).elim (fun g2 => ?_) (fun g2 => by rw [if_neg g2, if_pos rfl]; exact no (fun q => g2 q.2.2.2))
    rw [if_pos g2, if_neg (by decide), c_add S I F _ _ _ h8 e10, p_bs]
    rw [if_pos ⟨h8, g0, g1, g2⟩] at hstep
    refine wp_some.mpr ⟨fun _ => ?_, fun q => absurd q (by omega), fun a ha => ?_⟩
    · rw [hstep]
      dsimp only
      rw [if_neg (by omega)]
      exact ⟨rfl, add_rC _ _ _ h8 hC⟩
    · dsimp only
      rw [v_up_row _ 6 _ _ (by omega), v_up_row _ 5 _ _ (by omega), v_up_row _ 4 _ _ (by omega), v_up_row _ 2 _ _ (by omega), v_up_row _ 3 _ _ (by omega), v_up_row _ 1 _ _ (by omega)]
  · rw [if_neg (by rw [e10]; exact i_nlt (b := 8) rfl rfl (by omega) (by omega))]
    exact no (fun q => h8 q.1)
theorem m_canRow {I : v_I} {b : Nat → Nat} {n0 i : Nat} {k0 : Nat → Int32} (hb : ∀ z, z < 400 → b z < 256 ∧ I 56 z = (nI (b z)).toInt8.toInt32) (h3 : 3 * i + 3 ≤ 400) (hk : I 51 = (rs b n0 k0 i).2.2) (hm : (rs b n0 k0 i).1 ≤ 8) (e49 : (rs b n0 k0 i).2.2 49 = nI (rs b n0 k0 i).1) :
    h_X10_canRow I (nI (3 * i)) = some (if (rs b n0 k0 i).1 < 8 ∧ b (3 * i) ≤ 9 ∧ b (3 * i + 1) ≤ 9 ∧ b (3 * i + 2) ≤ 2 ^ (rs b n0 k0 i).1 - 1 then 1 else 0) := by
  unfold h_X10_canRow h_X10_many h_X10_watchAt h_X10_everybody h_X10_many
  have a1 : nI (3 * i) + 1 = nI (3 * i + 1) := nI_add (3 * i) 1
  have a2 : nI (3 * i) + 2 = nI (3 * i + 2) := nI_add (3 * i) 2
  have e49' : I 51 49 = nI (rs b n0 k0 i).1 := by rw [hk, e49]
  have hm256 := two_le hm
  obtain ⟨b0, e0⟩ := hb (3 * i) (by omega)
  obtain ⟨b1, e1⟩ := hb (3 * i + 1) (by omega)
  obtain ⟨b2, e2⟩ := hb (3 * i + 2) (by omega)
  have s0 := by_small _ b0
  have s1 := by_small _ b1
  have s2 := by_small _ b2
  rw [p_bs, e49']
  by_cases h8 : (rs b n0 k0 i).1 < 8
  · rw [if_neg (show ¬ nI (rs b n0 k0 i).1 = 8 from fun q => absurd ((i_eqI (b := 8) rfl rfl (by omega) (by omega)).mp q) (by omega)), p_in_nI (by omega) (by omega), p_bs, e0, b_isNine, p_bs]
    by_cases g0 : b (3 * i) ≤ 9
    · rw [if_pos (s0.1.mpr g0), if_neg (by decide), a1, p_in_nI (by omega) (by omega), p_bs, e1, b_isNine, p_bs]
      by_cases g1 : b (3 * i + 1) ≤ 9
      · rw [if_pos (s1.1.mpr g1), if_neg (by decide), a2, p_in_nI (by omega) (by omega)]
        simp only [p_bs]
        rw [e2, s2.2.2, ev_n hm]
        by_cases g2 : b (3 * i + 2) ≤ 2 ^ (rs b n0 k0 i).1 - 1
        · rw [if_neg (nI_nlt g2 (by omega)), if_pos ⟨h8, g0, g1, g2⟩]
        · rw [if_pos (nI_lt (by omega) (by omega)), if_neg (fun q => g2 q.2.2.2)]
      · rw [if_neg (fun q => g1 (s1.1.mp q)), if_pos rfl, if_neg (fun q => g1 q.2.2.1)]
    · rw [if_neg (fun q => g0 (s0.1.mp q)), if_pos rfl, if_neg (fun q => g0 q.2.1)]
  · rw [if_pos (by rw [show (rs b n0 k0 i).1 = 8 by omega]; rfl), if_neg (fun q => h8 q.1)]
theorem ok_6 {S : v_S} {I : v_I} {J : v_J} {F : v_F} (h : R S I J F) : op_6 R S I J F := by
  unfold op_6
  simp only [s_X9_row h.1 h.2.1, s_X10_row h.1 h.2.1]
  have hC := h.2.2.1
  have hK := h.2.2.2.1
  obtain ⟨⟨sz, hsz, t1, t2⟩, t3⟩ := id h.2.2.2.2.1
  have hO := h.2.2.2.2.2.1
  obtain ⟨n, tl, k1, k2, _⟩ := id hK
  by_cases hz : sz = 0
  · -- nothing is fed
    subst hz
    obtain ⟨I1, I2, a1, a2, a3⟩ := R_ref6 (J' := J) h
    have e1 : I1 = v_up (v_up I 0 14 (-6)) 48 4 (I 48 4 + 1) := by
      have := c_ref6 S I F
      rw [a1] at this; cases this; rfl
    have e13 : I1 49 13 = 0 := by
      rw [e1, v_up_row _ 48 _ _ (by omega), v_up_row _ 0 _ _ (by omega), t2]; rfl
    have e13' : v_up I1 49 13 0 = I1 := by
      funext a j
      unfold v_up
      by_cases q : a = 49 ∧ j = 13
      · rw [if_pos q, q.1, q.2, e13]
      · rw [if_neg q]
    refine ⟨(-6, I1), (-6, I2), ?_, ?_, rfl, h.1, a3⟩
    · unfold h_X9_row
      rw [if_pos (by rw [t1]; rfl), a1, p_bs]
    · show h_X10_row I1 = _
      unfold h_X10_row
      rw [p_le, p_le, if_pos e13, e13', a2, p_bs]
  · obtain ⟨bb, hbb⟩ : ∃ bb : Nat → Nat, ∀ z, z < 400 → bb z < 256 ∧ I 29 z = nI (bb z) ∧ I 56 z = (nI (bb z)).toInt8.toInt32 := by
      refine ⟨fun z => if hz : z < 400 then Classical.choose (t3 z hz) else 0, fun z hz => ?_⟩
      dsimp only
      rw [dif_pos hz]
      exact Classical.choose_spec (t3 z hz)
    have R0 := rs_ok (b := bb) k1 k2 hK
    -- the class
    have cl : wp (v_loop (h_X9_row_B20 S F) FU (0, 0, 0, I)) (fun q => q.1 = nI (rs bb n (I 51) (sz / 3)).2.1 ∧ q.2.1 = nI ((sz + 2) / 3 - (rs bb n (I 51) (sz / 3)).2.1) ∧ rC q.2.2.2 1 2 3 4 5 6 7 8 (rs bb n (I 51) (sz / 3)).2.2 ∧ ∀ a, ¬ (1 ≤ a ∧ a ≤ 6) → q.2.2.2 a = I a) := by
      refine wp_lp (fun i (t : Int32 × Int32 × Int32 × v_I) => (i ≤ sz / 3 → t.1 = nI (rs bb n (I 51) i).2.1 ∧ t.2.1 = nI (i - (rs bb n (I 51) i).2.1) ∧ rC t.2.2.2 1 2 3 4 5 6 7 8 (rs bb n (I 51) i).2.2) ∧ (sz / 3 < i → t.1 = nI (rs bb n (I 51) (sz / 3)).2.1 ∧ t.2.1 = nI (i - (rs bb n (I 51) (sz / 3)).2.1) ∧ rC t.2.2.2 1 2 3 4 5 6 7 8 (rs bb n (I 51) (sz / 3)).2.2) ∧ t.2.2.1 = nI (3 * i) ∧ ∀ a, ¬ (1 ≤ a ∧ a ≤ 6) → t.2.2.2 a = I a) ((sz + 2) / 3) (by omega) ⟨fun _ => ⟨rfl, rfl, hC⟩, fun q => absurd q (Nat.not_lt_zero _), rfl, fun _ _ => rfl⟩ ?_
      rintro i ⟨x1, x2, x3, I'⟩ hi ⟨u1, u2, u3, u4⟩
      dsimp only at u1 u2 u3 u4
      subst u3
      unfold h_X9_row_B20
      dsimp only
      have e8 : I' 0 8 = nI sz := by rw [u4 0 (by omega)]; exact t1
      by_cases hend : sz ≤ 3 * i
      · rw [if_pos (by rw [e8]; exact nI_le hend (by omega))]
        refine wp_some.mpr ?_
        by_cases hle : i ≤ sz / 3
        · obtain ⟨v1, v2, v3⟩ := u1 hle
          have : i = sz / 3 := by omega
          have e2 : (sz + 2) / 3 = sz / 3 := by omega
          rw [this] at v1 v2 v3
          exact ⟨v1, by rw [e2]; exact v2, v3, u4⟩
        · obtain ⟨v1, v2, v3⟩ := u2 (by omega)
          have : i = (sz + 2) / 3 := by omega
          rw [this] at v2
          exact ⟨v1, v2, v3, u4⟩
      · rw [if_neg (by rw [e8]; exact nI_ge (by omega) (by omega))]
        have hle : i ≤ sz / 3 := by omega
        obtain ⟨v1, v2, v3⟩ := u1 hle
        obtain ⟨g1, g2, g3, g4, g5⟩ := R0 i
        refine wp_seq (c_tape (b := bb) (n0 := n) (k0 := I 51) (fun z hz => ⟨(hbb z hz).1, by rw [u4 29 (by omega)]; exact (hbb z hz).2.1⟩) hsz e8 (by omega) v3 g1 g3) fun r hr => ?_
        obtain ⟨r1, r2, r3⟩ := hr
        have a3 : nI (3 * i) + 3 = nI (3 * (i + 1)) := by rw [show 3 * (i + 1) = 3 * i + 3 by omega]; exact nI_add (3 * i) 3
        have r4 : ∀ a, ¬ (1 ≤ a ∧ a ≤ 6) → r.2 a = I a := fun a ha => by rw [r3 a ha, u4 a ha]
        unfold h_X9_row_J20_45
        simp only [p_le, a3]
        by_cases hfull : 3 * i + 3 ≤ sz
        · obtain ⟨s1, s2⟩ := r1 hfull
          have hlt : i + 1 ≤ sz / 3 := by omega
          by_cases hsame : (rs bb n (I 51) (i + 1)).2.1 = (rs bb n (I 51) i).2.1
          · rw [if_pos hsame] at s1
            rw [if_pos s1]
            refine wp_some.mpr ⟨by omega, fun _ => ⟨by rw [hsame]; exact v1, ?_, s2⟩, fun q => absurd q (by omega), rfl, r4⟩
            dsimp only
            rw [v2, hsame, ← nI_succ, show i - (rs bb n (I 51) i).2.1 + 1 = i + 1 - (rs bb n (I 51) i).2.1 by omega]
          · rw [if_neg hsame] at s1
            rw [if_neg (by rw [s1]; decide)]
            have hone : (rs bb n (I 51) (i + 1)).2.1 = (rs bb n (I 51) i).2.1 + 1 := by
              have hstep : rs bb n (I 51) (i + 1) = if (rs bb n (I 51) i).1 < 8 ∧ bb (3 * i) ≤ 9 ∧ bb (3 * i + 1) ≤ 9 ∧ bb (3 * i + 2) ≤ 2 ^ (rs bb n (I 51) i).1 - 1 then ((rs bb n (I 51) i).1 + 1, (rs bb n (I 51) i).2.1 + 1, sp_add (rs bb n (I 51) i).2.2 (rs bb n (I 51) i).1 (nI (bb (3 * i))) (nI (bb (3 * i + 1))) (nI (bb (3 * i + 2)))) else rs bb n (I 51) i := rfl
              split at hstep
              · rw [hstep]
              · rw [hstep] at hsame; exact absurd rfl hsame
            refine wp_some.mpr ⟨by omega, fun _ => ⟨?_, ?_, s2⟩, fun q => absurd q (by omega), rfl, r4⟩
            · dsimp only
              rw [v1, hone, nI_succ]
            · dsimp only
              rw [v2, hone, show i + 1 - ((rs bb n (I 51) i).2.1 + 1) = i - (rs bb n (I 51) i).2.1 by omega]
        · obtain ⟨s1, s2⟩ := r2 (by omega)
          have hlast : i = sz / 3 := by omega
          rw [if_pos s1]
          refine wp_some.mpr ⟨by omega, fun q => absurd q (by omega), fun _ => ⟨by dsimp only; rw [v1, hlast], ?_, ?_⟩, rfl, r4⟩
          · dsimp only
            rw [v2, ← hlast, ← nI_succ, show i - (rs bb n (I 51) i).2.1 + 1 = i + 1 - (rs bb n (I 51) i).2.1 by omega]
          · dsimp only
            rw [s2, ← hlast]; exact v3
    obtain ⟨⟨x1, x2, x3, I1⟩, ce, c1, c2, c3, c4⟩ := cl
    dsimp only at c1 c2 c3 c4
    generalize hT : rs bb n (I 51) (sz / 3) = T at *
    have RT := R0 (sz / 3)
    rw [hT] at RT
    obtain ⟨g1, g2, g3, g4, g5⟩ := RT
    have cl : h_X9_row S I F = some (nI T.2.1, v_up (v_up (v_up (v_up I1 0 8 0) 0 15 (nI ((sz + 2) / 3 - T.2.1))) 11 0 0) 0 14 0) := by
      unfold h_X9_row
      rw [if_neg (by rw [t1]; exact fun q => hz ((i_eqI (b := 0) rfl rfl (by omega) (by omega)).mp q)), ce, p_bs]
      dsimp only
      rw [p_le, p_le, c_clear, p_bs, c_accept, p_bs, c1, c2]
    generalize hI2 : v_up (v_up (v_up (v_up I1 0 8 0) 0 15 (nI ((sz + 2) / 3 - T.2.1))) 11 0 0) 0 14 0 = I2 at cl
    have r2 : ∀ a, a ≠ 0 → a ≠ 11 → I2 a = I1 a := fun a h0 h11 => by rw [← hI2, v_up_row _ 0 _ _ h0, v_up_row _ 11 _ _ h11, v_up_row _ 0 _ _ h0, v_up_row _ 0 _ _ h0]
    have r20 : ∀ j, j ≠ 14 → j ≠ 15 → j ≠ 8 → I2 0 j = I 0 j := fun j q1 q2 q3 => by rw [← hI2, w_ne _ _ _ _ q1, v_up_row _ 11 _ _ (by omega), w_ne _ _ _ _ q2, w_ne _ _ _ _ q3, c4 0 (by omega)]
    have r2014 : I2 0 14 = 0 := by rw [← hI2, w_at]
    have r2015 : I2 0 15 = nI ((sz + 2) / 3 - T.2.1) := by rw [← hI2, w_ne _ _ _ _ (by omega), v_up_row _ 11 _ _ (by omega), w_at]
    have r208 : I2 0 8 = 0 := by rw [← hI2, w_ne _ _ _ _ (by omega), v_up_row _ 11 _ _ (by omega), w_ne _ _ _ _ (by omega), w_at]
    have r2b : ∀ a, a ≠ 0 → a ≠ 11 → ¬ (1 ≤ a ∧ a ≤ 6) → I2 a = I a := fun a q1 q2 q3 => by rw [r2 a q1 q2, c4 a q3]
    have r211 : ∀ j, j ≠ 0 → I2 11 j = I 11 j := fun j hj => by rw [← hI2, v_up_row _ 0 _ _ (by omega), w_ne _ _ _ _ hj, v_up_row _ 0 _ _ (by omega), v_up_row _ 0 _ _ (by omega), c4 11 (by omega)]
    have r2110 : I2 11 0 = 0 := by rw [← hI2, v_up_row _ 0 _ _ (by omega), w_at]
    -- the model
    have d3 : (nI sz + 2) / 3 = nI ((sz + 2) / 3) := by
      have : ∀ s : Nat, s < 401 → (nI s + 2) / 3 = nI ((s + 2) / 3) := by decide +kernel
      exact this sz (by omega)
    have md : wp (v_loop (h_X10_row_B32 (nI sz) (nI ((sz + 2) / 3))) FU (0, 0, v_up I2 49 13 0)) (fun q => q.1 = nI T.2.1 ∧ q.2.2 51 = T.2.2 ∧ ∀ a, a ≠ 51 → q.2.2 a = v_up I2 49 13 0 a) := by
      rw [← hT]
      refine wp_lp (fun i (t : Int32 × Int32 × v_I) => t.1 = nI (rs bb n (I 51) i).2.1 ∧ t.2.1 = nI (3 * i) ∧ t.2.2 51 = (rs bb n (I 51) i).2.2 ∧ ∀ a, a ≠ 51 → t.2.2 a = v_up I2 49 13 0 a) (sz / 3) (by omega) ⟨rfl, rfl, by dsimp only; rw [v_up_row _ 49 _ _ (by omega), r2b 51 (by omega) (by omega) (by omega)]; rfl, fun _ _ => rfl⟩ ?_
      rintro i ⟨y1, y2, I'⟩ hi ⟨u1, u2, u3, u4⟩
      dsimp only at u1 u2 u3 u4
      subst u2
      unfold h_X10_row_B32 h_X10_row_J32_82
      dsimp only
      have a3 : nI (3 * i) + 3 = nI (3 * i + 3) := nI_add (3 * i) 3
      have a3' : nI (3 * i + 3) = nI (3 * (i + 1)) := by rw [show 3 * (i + 1) = 3 * i + 3 by omega]
      rw [a3]
      by_cases hend : sz < 3 * i + 3
      · rw [if_pos (nI_lt hend (by omega))]
        have : i = sz / 3 := by omega
        rw [this] at u1 u3
        exact wp_some.mpr ⟨u1, u3, u4⟩
      rw [if_neg (nI_nlt (by omega) (by omega))]
      obtain ⟨p1, p2, p3, p4, p5⟩ := R0 i
      have b56 : ∀ z, z < 400 → bb z < 256 ∧ I' 56 z = (nI (bb z)).toInt8.toInt32 := fun z hz => ⟨(hbb z hz).1, by rw [u4 56 (by omega), v_up_row _ 49 _ _ (by omega), r2b 56 (by omega) (by omega) (by omega)]; exact (hbb z hz).2.2⟩
      rw [m_canRow b56 (by omega) u3 p1 p3, p_bs]
      have hstep : rs bb n (I 51) (i + 1) = if (rs bb n (I 51) i).1 < 8 ∧ bb (3 * i) ≤ 9 ∧ bb (3 * i + 1) ≤ 9 ∧ bb (3 * i + 2) ≤ 2 ^ (rs bb n (I 51) i).1 - 1 then ((rs bb n (I 51) i).1 + 1, (rs bb n (I 51) i).2.1 + 1, sp_add (rs bb n (I 51) i).2.2 (rs bb n (I 51) i).1 (nI (bb (3 * i))) (nI (bb (3 * i + 1))) (nI (bb (3 * i + 2)))) else rs bb n (I 51) i := rfl
      by_cases hok : (rs bb n (I 51) i).1 < 8 ∧ bb (3 * i) ≤ 9 ∧ bb (3 * i + 1) ≤ 9 ∧ bb (3 * i + 2) ≤ 2 ^ (rs bb n (I 51) i).1 - 1
      · rw [if_pos hok] at hstep ⊢
        unfold h_X10_watchAt
        have a1 : nI (3 * i) + 1 = nI (3 * i + 1) := nI_add (3 * i) 1
        have a2 : nI (3 * i) + 2 = nI (3 * i + 2) := nI_add (3 * i) 2
        rw [if_neg (by decide), p_in_nI (by omega) (by omega), p_bs, a1, p_in_nI (by omega) (by omega), p_bs, a2, p_in_nI (by omega) (by omega)]
        simp only [p_bs]
        rw [(b56 (3 * i) (by omega)).2, (b56 (3 * i + 1) (by omega)).2, (b56 (3 * i + 2) (by omega)).2, (by_small _ (b56 (3 * i) (by omega)).1).2.1 hok.2.1, (by_small _ (b56 (3 * i + 1) (by omega)).1).2.1 hok.2.2.1, (by_small _ (b56 (3 * i + 2) (by omega)).1).2.2]
        rw [m_adds I' _ _ _ hok.1 (by rw [u3]; exact p3), p_bs, p_le, p_le, a3']
        refine wp_some.mpr ⟨by omega, ?_, rfl, ?_, fun a ha => ?_⟩
        · dsimp only
          rw [hstep, u1]; exact (nI_succ _).symm
        · dsimp only
          rw [add_51 _ _ _ _ _ hok.1, u3, hstep]
        · dsimp only
          rw [v_up_row _ 51 _ _ ha, v_up_row _ 51 _ _ ha, v_up_row _ 51 _ _ ha, v_up_row _ 51 _ _ ha, v_up_row _ 51 _ _ ha, v_up_row _ 51 _ _ ha, u4 a ha]
      · rw [if_neg hok] at hstep ⊢
        rw [if_pos rfl, p_le, a3']
        exact wp_some.mpr ⟨by omega, by rw [hstep]; exact u1, rfl, by rw [hstep]; exact u3, u4⟩
    obtain ⟨⟨y1, y2, I3⟩, me, m1, m2, m3⟩ := md
    dsimp only at m1 m2 m3
    have md : h_X10_row I2 = some (nI T.2.1, v_up (v_up (v_up I3 49 6 (nI ((sz + 2) / 3 - T.2.1))) 49 32 0) 49 0 0) := by
      unfold h_X10_row
      rw [p_le, p_le, show I2 49 13 = nI sz by rw [r2b 49 (by omega) (by omega) (by omega)]; exact t2, if_neg (show ¬ nI sz = 0 from fun q => hz ((i_eqI (b := 0) rfl rfl (by omega) (by omega)).mp q)), d3, p_le, me, p_bs]
      dsimp only
      rw [p_le, m1, m_settled, p_bs, show nI ((sz + 2) / 3) - nI T.2.1 = nI ((sz + 2) / 3 - T.2.1) from nI_sub (by omega)]
    refine ⟨_, _, cl, md, rfl, h.1, ?_⟩
    dsimp only
    generalize hI4 : v_up (v_up (v_up I3 49 6 (nI ((sz + 2) / 3 - T.2.1))) 49 32 0) 49 0 0 = I4
    have s4 : ∀ a, a ≠ 49 → I4 a = I3 a := fun a ha => by rw [← hI4, v_up_row _ 49 _ _ ha, v_up_row _ 49 _ _ ha, v_up_row _ 49 _ _ ha]
    have s49 : ∀ j, j ≠ 0 → j ≠ 32 → j ≠ 6 → j ≠ 13 → I4 49 j = I 49 j := fun j q1 q2 q3 q4 => by rw [← hI4, w_ne _ _ _ _ q1, w_ne _ _ _ _ q2, w_ne _ _ _ _ q3, m3 49 (by omega), w_ne _ _ _ _ q4, r2b 49 (by omega) (by omega) (by omega)]
    have sI2 : ∀ a, a ≠ 49 → a ≠ 51 → I4 a = I2 a := fun a q1 q2 => by rw [s4 a q1, m3 a q2, v_up_row _ 49 _ _ q1]
    have sI : ∀ a, a ≠ 49 → a ≠ 51 → a ≠ 0 → a ≠ 11 → ¬ (1 ≤ a ∧ a ≤ 6) → I4 a = I a := fun a q1 q2 q3 q4 q5 => by rw [sI2 a q1 q2, r2b a q3 q4 q5]
    have s51 : I4 51 = T.2.2 := by rw [s4 51 (by omega)]; exact m2
    obtain ⟨o1, o2, o3, o4, o5, o6, o7, o8, o9⟩ := hO
    refine R_mk h (fun a ha => sI a (by omega) (by omega) (by omega) (by omega) (by omega)) ?_ (by rw [s51]; exact g4) ?_ ?_ ?_ (sI 55 (by omega) (by omega) (by omega) (by omega) (by omega)) (sI 52 (by omega) (by omega) (by omega) (by omega) (by omega)) (sI 53 (by omega) (by omega) (by omega) (by omega) (by omega)) (by rw [s51]; exact g5 51 (by omega)) (fun z hz => by rw [s51]; exact g5 z (by omega)) (.inl ⟨by rw [sI2 11 (by omega) (by omega)]; exact r2110, by rw [← hI4, w_ne _ _ _ _ (by omega), w_at], by rw [sI2 11 (by omega) (by omega)]; exact r211 1 (by omega)⟩)
    · rw [s51]
      exact rC_f c3 (fun a q1 q2 => by rw [sI2 a (by omega) (by omega), r2 a (by omega) (by omega)])
    · refine ⟨⟨0, by omega, by rw [sI2 0 (by omega) (by omega), r208]; rfl, ?_⟩, fun z hz => ?_⟩
      · rw [← hI4, w_ne _ _ _ _ (by omega), w_ne _ _ _ _ (by omega), w_ne _ _ _ _ (by omega), m3 49 (by omega), w_at]; rfl
      · rw [sI 29 (by omega) (by omega) (by omega) (by omega) (by omega), sI 56 (by omega) (by omega) (by omega) (by omega) (by omega)]; exact t3 z hz
    · have z0 : ∀ j, I4 0 j = I2 0 j := fun j => by rw [sI2 0 (by omega) (by omega)]
      refine ⟨?_, ?_, ?_, ?_, ?_, ?_, ?_, ?_, ?_⟩
      · rw [z0, r2014, ← hI4, w_at]
      · rw [sI 48 (by omega) (by omega) (by omega) (by omega) (by omega), sI 50 (by omega) (by omega) (by omega) (by omega) (by omega)]; exact o2
      · rw [sI 48 (by omega) (by omega) (by omega) (by omega) (by omega), sI 50 (by omega) (by omega) (by omega) (by omega) (by omega)]; exact o3
      · rw [sI 48 (by omega) (by omega) (by omega) (by omega) (by omega), sI 50 (by omega) (by omega) (by omega) (by omega) (by omega)]; exact o4
      · rw [sI 48 (by omega) (by omega) (by omega) (by omega) (by omega), sI 50 (by omega) (by omega) (by omega) (by omega) (by omega)]; exact o5
      · rw [sI 48 (by omega) (by omega) (by omega) (by omega) (by omega), sI 50 (by omega) (by omega) (by omega) (by omega) (by omega)]; exact o6
      · rw [z0, r2015, ← hI4, w_ne _ _ _ _ (by omega), w_ne _ _ _ _ (by omega), w_at]
      · rw [z0, r20 16 (by omega) (by omega) (by omega), s49 14 (by omega) (by omega) (by omega) (by omega)]; exact o8
      · rw [z0, r20 17 (by omega) (by omega) (by omega), s49 38 (by omega) (by omega) (by omega) (by omega)]; exact o9
    · have hD := h.2.2.2.2.2.2.1
      unfold rD rM at hD ⊢
      rw [sI2 0 (by omega) (by omega), r20 6 (by omega) (by omega) (by omega), s49 46 (by omega) (by omega) (by omega) (by omega), sI 26 (by omega) (by omega) (by omega) (by omega) (by omega), sI 27 (by omega) (by omega) (by omega) (by omega) (by omega), sI 28 (by omega) (by omega) (by omega) (by omega) (by omega), sI 71 (by omega) (by omega) (by omega) (by omega) (by omega)]
      exact hD
end sp78
