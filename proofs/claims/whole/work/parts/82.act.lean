noncomputable section sp82
def mfr (I I' : v_I) : Prop := ∀ a j, a ≠ 51 → a ≠ 61 → a ≠ 62 → a ≠ 63 → ¬ (a = 49 ∧ (j = 32 ∨ (22 ≤ j ∧ j ≤ 25))) → I' a j = I a j
theorem kpd_of {I I' : v_I} {nu : Nat} {kind : Int32} (h63 : I' 63 = I 63) (h51 : I' 51 = I 51) {I2 : v_I} (h : kpd I' I2 nu kind) : kpd I I2 nu kind := by
  unfold kpd at *
  rw [h63, h51] at h
  exact h
theorem kpd_up {I I2 I3 : v_I} {nu : Nat} {kind : Int32} (h63 : I3 63 = I2 63) (h32 : I3 49 32 = I2 49 32) (h : kpd I I2 nu kind) : kpd I I3 nu kind := by
  unfold kpd at *
  rw [h63, h32]
  exact h
/-- the class's end, the model's end: R -/
theorem act_fin {S' : v_S} {I I1 Ic Im : v_I} {J' : v_J} {F' : v_F} {n nu : Nat} {kind : Int32} {k' : Nat → Int32}
    (fin : ∀ (I2 : v_I) (J' : v_J), (∀ a, 72 ≤ a → I2 a = I1 a) → I2 11 = I1 11 → I2 12 = I1 12 → kpd I I2 nu kind → (∀ a j, a < 72 → ¬ scr a j → ¬ (a = 0 ∧ j = 14) → ¬ (a = 49 ∧ j = 0) → ¬ (2 ≤ a ∧ a ≤ 4) → a ≠ 11 → a ≠ 12 → a ≠ 63 → ¬ (a = 51 ∧ j < 18) → ¬ (a = 49 ∧ j = 32) → I2 a j = I a j) → rM I2 2 3 4 (I2 51) → kM n (I2 51) → I2 0 14 = I2 49 0 → R S' I2 J' F')
    (small : ∀ a, a < 72 → a ≠ 11 → a ≠ 12 → I1 a = I a) (hc : ∀ a, a ≠ 16 → a ≠ 21 → a ≠ 2 → a ≠ 3 → a ≠ 4 → a ≠ 0 → Ic a = I1 a) (hc0 : ∀ j, j ≠ 14 → Ic 0 j = I1 0 j) (hc14 : Ic 0 14 = 0) (hM : rM Ic 2 3 4 k') (hm51 : Im 51 = k') (hk : kpd Ic Im nu kind) (hmf : mfr Ic Im) (hkM : kM n k') (hge : ∀ z, 18 ≤ z → k' z = I 51 z) : R S' (v_up Im 49 0 0) J' F' := by
  have mrow : ∀ a, a ≠ 51 → a ≠ 61 → a ≠ 62 → a ≠ 63 → a ≠ 49 → v_up Im 49 0 0 a = Ic a := fun a q1 q2 q3 q4 q5 => by
    rw [v_up_row _ 49 _ _ q5]; exact funext fun j => hmf a j q1 q2 q3 q4 (by omega)
  have f51 : v_up Im 49 0 0 51 = k' := by rw [v_up_row _ 49 _ _ (by omega)]; exact hm51
  refine fin _ _ (fun a ha => ?_) ?_ ?_ (kpd_of (I' := Ic) ?_ ?_ (kpd_up ?_ ?_ hk)) (fun a j q0 q1 q2 q3 q4 q5 q6 q7 q8 q9 => ?_) ?_ ?_ ?_
  · rw [mrow a (by omega) (by omega) (by omega) (by omega) (by omega), hc a (by omega) (by omega) (by omega) (by omega) (by omega) (by omega)]
  · rw [mrow 11 (by omega) (by omega) (by omega) (by omega) (by omega), hc 11 (by omega) (by omega) (by omega) (by omega) (by omega) (by omega)]
  · rw [mrow 12 (by omega) (by omega) (by omega) (by omega) (by omega), hc 12 (by omega) (by omega) (by omega) (by omega) (by omega) (by omega)]
  · rw [hc 63 (by omega) (by omega) (by omega) (by omega) (by omega) (by omega), small 63 (by omega) (by omega) (by omega)]
  · rw [hc 51 (by omega) (by omega) (by omega) (by omega) (by omega) (by omega), small 51 (by omega) (by omega) (by omega)]
  · rw [v_up_row _ 49 _ _ (by omega)]
  · rw [w_ne _ _ _ _ (by omega)]
  · by_cases e51 : a = 51
    · subst e51; rw [f51]; exact hge j (by omega)
    by_cases e0 : a = 0
    · subst e0
      rw [mrow 0 (by omega) (by omega) (by omega) (by omega) (by omega), hc0 j (by omega), small 0 (by omega) (by omega) (by omega)]
    have hI : Ic a j = I a j := by
      rw [hc a (by rintro rfl; exact q1 (by unfold scr; omega)) (by rintro rfl; exact q1 (by unfold scr; omega)) (by omega) (by omega) (by omega) e0, small a q0 q5 q6]
    by_cases e49 : a = 49
    · subst e49
      rw [w_ne _ _ _ _ (by omega), hmf 49 j (by omega) (by omega) (by omega) (by omega) (fun q => q1 (by unfold scr; omega))]; exact hI
    · rw [mrow a e51 (by rintro rfl; exact q1 (by unfold scr; omega)) (by rintro rfl; exact q1 (by unfold scr; omega)) q7 e49]; exact hI
  · rw [f51]
    exact rM_fr (mrow 2 (by omega) (by omega) (by omega) (by omega) (by omega)) (mrow 3 (by omega) (by omega) (by omega) (by omega) (by omega)) (mrow 4 (by omega) (by omega) (by omega) (by omega) (by omega)) hM
  · rw [f51]; exact hkM
  · rw [w_at, mrow 0 (by omega) (by omega) (by omega) (by omega) (by omega)]; exact hc14
/-! the model's acts, where they may be -/
theorem m_isOpen {I : v_I} {c : Nat} (hk : kB (I 51)) (hc : c < 8) : h_X10_isOpen I (nI c) = some (if bt (I 51 0) c then 1 else 0) := by
  obtain ⟨o, ho, e0⟩ := hk.1
  unfold h_X10_isOpen h_X10_isIn
  rw [e0, b_bit c o hc ho, bt_nI ho]
  simp only [bit_tb]
  by_cases q : o.testBit c = true
  · rw [if_pos q, if_pos q]; rfl
  · rw [if_neg q, if_neg q]; rfl
theorem m_kp {I : v_I} {nu : Nat} (hnu : nu ≤ 16) (e : I 49 32 = nI nu) (kind : Int32) : wp (h_X10_keeps I kind) (fun I' => I' 51 = I 51 ∧ kpd I I' nu kind ∧ mfr I I') := by
  refine wp_mono (m_keeps hnu e kind) fun I' hI' => ?_
  obtain ⟨v1, v2, v3, v4, v5⟩ := hI'
  exact ⟨funext fun j => v5 51 j (by omega) (by omega), ⟨v1, v2, v3, v4⟩, fun a j q1 q2 q3 q4 q5 => v5 a j q4 (by omega)⟩
theorem m_touchK {I : v_I} {n c nu : Nat} (hk : kB (I 51)) (hone : h_X10_isOne I (nI c) = some 1) (hc : c < 8) (hnu : nu ≤ 16) (e : I 49 32 = nI nu) : wp (h_X10_touchesKept I (nI c)) (fun r => r.1 = (if bt (I 51 0) c then 1 else 0) ∧ r.2 51 = kup (kup (I 51) 0 (I 51 0 &&& (((1 : Int32) <<< (nI c &&& 31)) ^^^ -1))) (9 + c) 0 ∧ kpd I r.2 nu 0 ∧ mfr I r.2) := by
  have j24 : ∀ z, wp (h_X10_touchesKept_J24 I (nI c) z) (fun r => r.1 = z ∧ r.2 51 = kup (kup (I 51) 0 (I 51 0 &&& (((1 : Int32) <<< (nI c &&& 31)) ^^^ -1))) (9 + c) 0 ∧ kpd I r.2 nu 0 ∧ mfr I r.2) := by
    intro z
    unfold h_X10_touchesKept_J24 h_X10_touches
    refine wp_seq (m_kp hnu e 0) fun I' hI' => ?_
    obtain ⟨v1, v2, v3⟩ := hI'
    rw [p_le, show (9 : Int32) + nI c = nI 9 + nI c from rfl, p_inA (c := 9) (k := c) rfl (by omega) (by omega), p_bs, p_le, p_bs, v1]
    refine wp_some.mpr ⟨rfl, by dsimp only; rw [v_up_k, v_up_k, v1], kpd_up (by dsimp only; rw [v_up_row _ 51 _ _ (by omega), v_up_row _ 51 _ _ (by omega)]) (by dsimp only; rw [v_up_row _ 51 _ _ (by omega), v_up_row _ 51 _ _ (by omega)]) v2, fun a j q1 q2 q3 q4 q5 => ?_⟩
    dsimp only
    rw [v_up_row _ 51 _ _ q1, v_up_row _ 51 _ _ q1]; exact v3 a j q1 q2 q3 q4 q5
  unfold h_X10_touchesKept
  rw [hone, p_bs, if_neg (by decide), m_isOpen hk hc, p_bs]
  by_cases q : bt (I 51 0) c = true
  · rw [if_pos q, if_neg (by decide)]; exact j24 1
  · rw [if_neg q, if_pos rfl]; exact j24 0
theorem m_coaxK {I : v_I} {n c nu : Nat} (hk : kB (I 51)) (hone : h_X10_isOne I (nI c) = some 1) (hc : c < 8) (hsh : bt (I 51 0) c = false) (hnu : nu ≤ 16) (e : I 49 32 = nI nu) : wp (h_X10_coaxesKept I (nI c)) (fun r => r.1 = pcI (I 51 0 ||| ((1 : Int32) <<< (nI c &&& 31))) ∧ r.2 51 = kup (I 51) 0 (I 51 0 ||| ((1 : Int32) <<< (nI c &&& 31))) ∧ kpd I r.2 nu 1 ∧ mfr I r.2) := by
  obtain ⟨o, ho, e0⟩ := hk.1
  have hlt : o ||| 2 ^ c < 256 := Nat.or_lt_two_pow (n := 8) ho (Nat.pow_lt_pow_right (by omega) hc)
  unfold h_X10_coaxesKept
  rw [hone, p_bs, if_neg (by decide), m_isOpen hk hc, p_bs, hsh, if_pos (by decide)]
  refine wp_seq (m_kp hnu e 1) fun I' hI' => ?_
  obtain ⟨v1, v2, v3⟩ := hI'
  rw [p_le, v1, w_at, e0, b_set c o hc ho, b_ones hlt, p_bs]
  refine wp_some.mpr ⟨by rw [pcI_nI hlt], by dsimp only; rw [v_up_k, v1], kpd_up (by dsimp only; rw [v_up_row _ 51 _ _ (by omega)]) (by dsimp only; rw [v_up_row _ 51 _ _ (by omega)]) v2, fun a j q1 q2 q3 q4 q5 => ?_⟩
  dsimp only
  rw [v_up_row _ 51 _ _ q1]; exact v3 a j q1 q2 q3 q4 q5
theorem m_temptK {I : v_I} {c nu : Nat} {want : Int32} (h9 : h_X10_isNine want = some 1) (hone : h_X10_isOne I (nI c) = some 1) (hc : c < 8) (hne : I 51 (1 + c) ≠ want) (hnu : nu ≤ 16) (e : I 49 32 = nI nu) : wp (h_X10_temptsKept I (nI c) want) (fun r => r.1 = I 51 (1 + c) ∧ r.2 51 = kup (I 51) (1 + c) want ∧ kpd I r.2 nu 2 ∧ mfr I r.2) := by
  unfold h_X10_temptsKept
  rw [h9, p_bs, if_neg (by decide), hone, p_bs, if_neg (by decide), show (1 : Int32) + nI c = nI 1 + nI c from rfl, p_inA (c := 1) (k := c) rfl (by omega) (by omega), p_bs, p_le, if_neg hne]
  refine wp_seq (m_kp hnu e 2) fun I' hI' => ?_
  obtain ⟨v1, v2, v3⟩ := hI'
  rw [p_bs, p_le]
  refine wp_some.mpr ⟨rfl, by dsimp only; rw [v_up_k, v1], kpd_up (by dsimp only; rw [v_up_row _ 51 _ _ (by omega)]) (by dsimp only; rw [v_up_row _ 51 _ _ (by omega)]) v2, fun a j q1 q2 q3 q4 q5 => ?_⟩
  dsimp only
  rw [v_up_row _ 51 _ _ q1]; exact v3 a j q1 q2 q3 q4 q5
theorem m_passK {I : v_I} {n nu : Nat} {L : Option (List Cls)} {k : Nat → Int32} (hm : mX I n L k) (h999 : I 51 17 ≠ 999) (hnu : nu ≤ 16) (e : I 49 32 = nI nu) : wp (h_X10_passesKept I) (fun r => r.1 = pcI (mn L n 0 k 0) ∧ r.2 51 = mn L n 0 k ∧ kpd I r.2 nu 3 ∧ mfr I r.2) := by
  obtain ⟨h1, hn, h4, h5, h6⟩ := hm
  unfold h_X10_passesKept
  rw [if_neg h999]
  refine wp_seq (m_kp hnu e 3) fun I' hI' => ?_
  obtain ⟨v1, v2, v3⟩ := hI'
  have e51 : I' 51 = k := v1.trans h1
  refine wp_seq (m_min (hd := 0) (n := n) (L := L) (by rw [e51]; exact h6) (by rw [e51]; exact h5) hn (by rw [e51]; exact h4) (by omega)) fun r hr => ?_
  obtain ⟨r1, r2, r3⟩ := hr
  rw [e51] at r1 r2
  refine wp_some.mpr ⟨r1, r2, kpd_up (funext fun j => r3 63 j (by omega) (by omega) (by omega) (by omega)) (r3 49 32 (by omega) (by omega) (by omega) (by omega)) v2, fun a j q1 q2 q3 q4 q5 => ?_⟩
  dsimp only
  rw [r3 a j q1 q2 q3 (by omega)]; exact v3 a j q1 q2 q3 q4 q5
theorem m_gor {I : v_I} {x : Int32} (h : 0 ≤ x) : h_X10_goodOr I x = some (x, v_up I 49 0 0) := by
  unfold h_X10_goodOr
  rw [if_pos h, m_good, p_bs]
theorem m_bor {I : v_I} {x : Int32} (h : x < 0) : h_X10_goodOr I x = h_X10_refuses I x := by
  unfold h_X10_goodOr
  rw [if_neg (fun q => absurd h (Int32.not_lt.mpr q)), bindref]
theorem pcI_ge (x : Int32) : 0 ≤ pcI x := nI_le (a := 0) (Nat.zero_le _) (by have := pc_le x.toNatClampNeg; omega)
end sp82
