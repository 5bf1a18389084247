noncomputable section sp56
theorem wp_lp {α β : Type} {body : α → Option (α ⊕ β)} (Inv : Nat → α → Prop) (m : Nat) {Q : β → Prop} {s0 : α} (hm : m < 100000) (h0 : Inv 0 s0)
    (hs : ∀ i s, i ≤ m → Inv i s → wp (body s) (v_K (fun t => i < m ∧ Inv (i + 1) t) Q)) : wp (v_loop body FU s0) Q := wp_loop Inv m hm h0 fun i s hi h => wp_mono (hs i s hi h) fun r q => by
  cases r with
  | inl t => exact q
  | inr t => exact q
/-- the chances, round by round -/
def fw (s : Int32) : Nat → Nat → Int64
  | 0, i => if i = 0 then 1000000000000 else 0
  | c + 1, i => fw s c i * (10 - s).toInt64 / 10 + (if i = 0 then 0 else fw s c (i - 1) * s.toInt64 / 10)
def fw_sum (s : Int32) (c : Nat) : Nat → Int64
  | 0 => 0
  | i + 1 => fw_sum s c i + fw s c i
theorem c_fewIn (S : v_S) (I : v_I) (F : v_F) (w2 w4 : Int32) {s : Int32} {k c : Nat} {J : v_J} (hk : 1 ≤ k) (hk2 : k ≤ 20) (h : ∀ i, i < k → J 47 i = fw s c i) : wp (v_loop (h_X9_few_B64 S I F (nI k) w2 s w4) FU (nI k - 1, J)) (fun q => ∀ i, i < k → q.2 47 i = fw s (c + 1) i) := by
  refine wp_lp (fun m t => (m < k → t.1 = nI (k - 1 - m)) ∧ (m = k → t.1 = -1) ∧ ∀ i, i < k → t.2 47 i = if k - m ≤ i then fw s (c + 1) i else fw s c i) k (by omega) ⟨fun _ => ?_, fun e => ?_, fun i hi => by rw [if_neg (by omega)]; exact h i hi⟩ ?_
  · obtain ⟨k', rfl⟩ : ∃ k', k = k' + 1 := ⟨k - 1, by omega⟩
    exact nI_pred k'
  · omega
  · rintro m t hm ⟨e1, e2, e3⟩
    by_cases hlt : m < k
    · have e4 := e1 hlt
      obtain ⟨d, hd⟩ : ∃ d, d = k - 1 - m := ⟨_, rfl⟩
      rw [← hd] at e4
      unfold h_X9_few_B64
      rw [e4, if_neg (nI_pos (by omega))]
      have fin : ∀ z : Int64, z = (if d = 0 then 0 else fw s c (d - 1) * s.toInt64 / 10) → wp (h_X9_few_J64_94 S I F (nI k) w2 s w4 t.2 (nI d) z) (v_K (fun t => m < k ∧ (m + 1 < k → t.1 = nI (k - 1 - (m + 1))) ∧ (m + 1 = k → t.1 = -1) ∧ ∀ i, i < k → t.2 47 i = if k - (m + 1) ≤ i then fw s (c + 1) i else fw s c i) (fun q => ∀ i, i < k → q.2 47 i = fw s (c + 1) i)) := by
        intro z hz
        unfold h_X9_few_J64_94
        simp only [p_in_nI (show d < 20 by omega) (show 20 < 2 ^ 31 by omega), p_bs, p_le, wp_some, v_K]
        refine ⟨hlt, fun h1 => ?_, fun h1 => ?_, fun i hi => ?_⟩
        · obtain ⟨d', rfl⟩ : ∃ d', d = d' + 1 := ⟨d - 1, by omega⟩
          rw [show (-1 : Int32) = nI 1 * (-1) by decide, show k - 1 - (m + 1) = d' by omega, nI_succ]
          have : nI d' + 1 + nI 1 * -1 = nI d' := by
            rw [show nI 1 * (-1 : Int32) = -1 by decide, Int32.add_assoc, show (1 : Int32) + -1 = 0 by decide, Int32.add_zero]
          exact this
        · have : d = 0 := by omega
          rw [this]; decide
        · by_cases ei : i = d
          · subst ei
            rw [v_up_at, if_pos (by omega), e3 i hi, if_neg (by omega), hz]
            rfl
          · rw [v_up_ne _ _ (by omega), e3 i hi]
            by_cases hq : k - m ≤ i
            · rw [if_pos hq, if_pos (by omega)]
            · rw [if_neg hq, if_neg (by omega)]
      by_cases d0 : d = 0
      · subst d0
        rw [if_pos (show nI 0 ≤ 0 by decide)]
        exact fin 0 (by rw [if_pos rfl])
      · rw [if_neg (show ¬ nI d ≤ 0 from nI_nle (by omega) (by omega))]
        have e5 : nI d - 1 = nI (d - 1) := by
          obtain ⟨d', rfl⟩ : ∃ d', d = d' + 1 := ⟨d - 1, by omega⟩
          exact nI_pred d'
        rw [e5, p_in_nI (by omega) (by omega), p_bs, e3 _ (by omega), if_neg (by omega)]
        exact fin _ (by rw [if_neg d0])
    · have : m = k := by omega
      subst this
      unfold h_X9_few_B64
      rw [e2 rfl, if_pos (by decide), wp_some]
      show ∀ i, i < m → _
      intro i hi
      have := e3 i hi
      rw [if_pos (by omega)] at this
      exact this
theorem m_fewIn (I : v_I) (w2 w3 : Int32) {k c : Nat} {J : v_J} (hk : 1 ≤ k) (hk2 : k ≤ 20) (h : ∀ i, i < k → J 69 i = fw (I 51 46) c i) : wp (v_loop (h_X10_few_B67 I (nI k) w2 w3) FU (nI k - 1, J)) (fun q => ∀ i, i < k → q.2 69 i = fw (I 51 46) (c + 1) i) := by
  generalize hs : I 51 46 = s at *
  refine wp_loop (fun m t => (m < k → t.1 = nI (k - 1 - m)) ∧ (m = k → t.1 = -1) ∧ ∀ i, i < k → t.2 69 i = if k - m < i then fw s (c + 1) i else if k - m = i then fw s c i * (10 - s).toInt64 / 10 else fw s c i) k (by omega) ⟨fun _ => ?_, fun e => ?_, fun i hi => by rw [if_neg (by omega), if_neg (by omega)]; exact h i hi⟩ ?_
  · obtain ⟨k', rfl⟩ : ∃ k', k = k' + 1 := ⟨k - 1, by omega⟩
    exact nI_pred k'
  · omega
  · rintro m t hm ⟨e1, e2, e3⟩
    by_cases hlt : m < k
    · have e4 := e1 hlt
      obtain ⟨d, hd⟩ : ∃ d, d = k - 1 - m := ⟨_, rfl⟩
      rw [← hd] at e4
      unfold h_X10_few_B67
      rw [e4, if_neg (nI_pos (by omega)), hs]
      simp only [nI_1, p_in_nI (show d + 1 < 21 by omega) (show 21 < 2 ^ 31 by omega), p_in_nI (show d < 21 by omega) (show 21 < 2 ^ 31 by omega), p_bs, p_le, wp_some]
      refine ⟨hlt, fun h1 => ?_, fun h1 => ?_, fun i hi => ?_⟩
      · obtain ⟨d', rfl⟩ : ∃ d', d = d' + 1 := ⟨d - 1, by omega⟩
        rw [show k - 1 - (m + 1) = d' by omega, nI_succ, Int32.add_assoc, show (1 : Int32) + -1 = 0 by decide, Int32.add_zero]
      · have : d = 0 := by omega
        rw [this]; decide
      · by_cases ei : i = d
        · subst ei
          rw [v_up_at, v_up_ne _ _ (by omega), e3 i hi, if_neg (by omega), if_neg (by omega), if_neg (by omega), if_pos (by omega)]
        · rw [v_up_ne _ _ (by omega)]
          by_cases e1' : i = d + 1
          · subst e1'
            rw [v_up_at, e3 _ hi, e3 _ (by omega), if_neg (by omega), if_pos (by omega), if_neg (by omega), if_neg (by omega), if_pos (by omega)]
            show _ = fw s c (d + 1) * (10 - s).toInt64 / 10 + (if d + 1 = 0 then 0 else fw s c (d + 1 - 1) * s.toInt64 / 10)
            rw [if_neg (by omega)]
            rfl
          · rw [v_up_ne _ _ (by omega), e3 i hi]
            by_cases q1 : k - m < i
            · rw [if_pos q1, if_pos (by omega)]
            · rw [if_neg q1, if_neg (by omega), if_neg (by omega), if_neg (by omega)]
    · have : m = k := by omega
      subst this
      unfold h_X10_few_B67
      rw [e2 rfl, if_pos (by decide), wp_some]
      intro i hi
      have := e3 i hi
      by_cases i0 : i = 0
      · rw [if_neg (by omega), if_pos (by omega)] at this
        rw [this, i0]
        show _ = fw s c 0 * (10 - s).toInt64 / 10 + (if 0 = 0 then 0 else _)
        rw [if_pos rfl, Int64.add_zero]
      · rw [if_pos (by omega)] at this
        exact this
theorem ok_33 {S : v_S} {I : v_I} {J : v_J} {F : v_F} (h : R S I J F) : op_33 R S I J F := by
  intro a b
  have hC := h.2.2.1
  obtain ⟨⟨m1, m2, m3, m4⟩, c1, c2, c3, c4, c5, c6, c7, c8, c9, c10, c11⟩ := hC
  simp only [s_X9_few h.1 h.2.1, s_X10_few h.1 h.2.1]
  have fin : ∀ z : Int64, wp (h_X9_few S I J F a b) (fun r => r.1 = z) → (∀ J', wp (h_X10_few I J' a b) (fun r => r.1 = z)) → ∃ (r : Int64 × v_J) (q : Int64 × v_J), h_X9_few S I J F a b = some r ∧ h_X10_few I r.2 a b = some q ∧ r.1 = q.1 ∧ p_SS S ∧ R S I q.2 F := by
    intro z ⟨r, e1, e2⟩ hm
    obtain ⟨q, e3, e4⟩ := hm r.2
    exact ⟨r, q, e1, e3, e2.trans e4.symm, h.1, R_fr (fr_refl I) h⟩
  have bad : h_X10_lies a 1 20 = some 0 ∨ h_X10_lies b 0 99 = some 0 → (∀ J', wp (h_X10_few I J' a b) (fun r => r.1 = -1)) := by
    intro q J'
    unfold h_X10_few
    rcases q with q | q
    · rw [q]; simp only [p_bs, if_true, wp_some]
    · simp only [b_lies a, p_bs]
      by_cases h1 : 1 ≤ a ∧ a ≤ 20
      · rw [if_pos h1, if_neg (by decide), q]; simp only [p_bs, if_true, wp_some]
      · rw [if_neg h1, if_pos rfl]; simp only [wp_some]
  by_cases h1 : a < 1
  · refine fin (-1) ?_ (bad (.inl (by rw [b_lies, if_neg (fun q => absurd h1 (Int32.not_lt.mpr q.1))])))
    unfold h_X9_few
    rw [if_pos h1, wp_some]
  by_cases h2 : 20 < a
  · refine fin (-1) ?_ (bad (.inl (by rw [b_lies, if_neg (fun q => absurd h2 (Int32.not_lt.mpr q.2))])))
    unfold h_X9_few
    rw [if_neg h1, if_pos h2, wp_some]
  have la : h_X10_lies a 1 20 = some 1 := by rw [b_lies, if_pos ⟨Int32.not_lt.mp h1, Int32.not_lt.mp h2⟩]
  obtain ⟨k, hk, rfl⟩ := i_le_of (x := a) (m := 20) (n := 20) rfl (by omega) (Int32.le_trans (by decide) (Int32.not_lt.mp h1)) (Int32.not_lt.mp h2)
  have hk1 : 1 ≤ k := by
    have := (i_leI (x := 1) (y := nI k) (a := 1) rfl rfl (by omega) (by omega)).mp (Int32.not_lt.mp h1)
    omega
  rcases upTo_cases b (q := 99) (m := 99) rfl (by omega) with ⟨n, hn, rfl, u1, u2⟩ | ⟨u1, u2, u3⟩
  · refine fin (fw_sum (I 51 46) n k) ?_ (fun J' => ?_)
    · unfold h_X9_few
      rw [if_neg h1, if_neg h2, u1, p_bs, if_neg (by decide)]
      have fl : wp (h_J7_fill_d0a16 S J 47 0) (fun J1 => ∀ i, i < 20 → J1 47 i = 0) := by
        unfold h_J7_fill_d0a16
        rw [p_lenS h.1 (kd := 23) (a := 47) (n := 20) (x := 20) rfl (by decide), p_bs, wp_bind]
        refine wp_loop (fun i t => t.1 = nI i ∧ ∀ j, j < i → t.2 47 j = 0) 20 (by omega) ⟨rfl, fun j hj => absurd hj (Nat.not_lt_zero j)⟩ ?_
        rintro i t hi ⟨e1, e2⟩
        unfold h_J7_fill_d0a16_B6
        rw [e1]
        by_cases hlt : i < 20
        · rw [if_neg (show ¬ (20 : Int32) ≤ nI i from i_nle (a := 20) rfl rfl hlt (by omega)), p_ixS h.1 (kd := 23) (a := 47) (n := 20) rfl, p_in_nI hlt (by omega)]
          simp only [p_bs, p_le, wp_some]
          refine ⟨hlt, nI_1 i, fun j hj => ?_⟩
          by_cases ej : j = i
          · subst ej; rw [v_up_at]
          · rw [v_up_ne _ _ (by omega)]; exact e2 j (by omega)
        · have : i = 20 := by omega
          subst this
          rw [if_pos (show (20 : Int32) ≤ nI 20 by decide)]
          simp only [wp_some]
          exact e2
      refine wp_seq fl fun J1 f1 => ?_
      simp only [p_le]
      rw [c4, wp_bind]
      have st : ∀ i, i < k → (v_up J1 47 0 1000000000000) 47 i = fw (I 51 46) 0 i := fun i hi => by
        unfold fw
        by_cases i0 : i = 0
        · subst i0; rw [v_up_at, if_pos rfl]
        · rw [v_up_ne _ _ (by omega), if_neg i0]; exact f1 i (by omega)
      refine wp_loop (fun c t => t.1 = nI c ∧ ∀ i, i < k → t.2 47 i = fw (I 51 46) c i) n (by omega) ⟨rfl, st⟩ ?_
      rintro c t hc ⟨e1, e2⟩
      unfold h_X9_few_B53
      rw [e1]
      by_cases hlt : c < n
      · rw [if_neg (nI_ge hlt (by omega)), p_le]
        refine wp_seq (c_fewIn S I F (nI n) (nI c) hk1 hk e2) fun q hq => ?_
        simp only [p_le, wp_some]
        exact ⟨hlt, nI_1 c, hq⟩
      · have : c = n := by omega
        subst this
        rw [if_pos (Int32.le_refl _)]
        simp only [wp_some]
        rw [wp_bind]
        refine wp_loop (fun i t => t.2 = nI i ∧ t.1 = fw_sum (I 51 46) c i) k (by omega) ⟨rfl, rfl⟩ ?_
        rintro i u hi ⟨g1, g2⟩
        unfold h_X9_few_B141
        rw [g1]
        by_cases hi2 : i < k
        · rw [if_neg (nI_ge hi2 (by omega)), p_in_nI (by omega) (by omega)]
          simp only [p_bs, p_le, wp_some]
          exact ⟨hi2, nI_1 i, by rw [g2, e2 i hi2]; rfl⟩
        · have : i = k := by omega
          subst this
          rw [if_pos (Int32.le_refl _)]
          simp only [wp_some]
          exact g2
    · unfold h_X10_few
      rw [la, p_bs, if_neg (by decide), u2, p_bs, if_neg (by decide), wp_bind]
      refine wp_lp (fun i t => t.1 = nI i ∧ ∀ j, j < i → t.2 69 j = fw (I 51 46) 0 j) 21 (by omega) ⟨rfl, fun j hj => absurd hj (Nat.not_lt_zero j)⟩ ?_
      rintro i t hi ⟨e1, e2⟩
      unfold h_X10_few_B26
      rw [e1]
      by_cases hlt : i < 21
      · rw [if_neg (show ¬ (20 : Int32) < nI i from i_nlt (a := 20) rfl rfl (by omega) (by omega))]
        have stp : ∀ (Q : Int32 × v_J → Prop) (z : Int64), z = fw (I 51 46) 0 i → wp (h_X10_few_J26_48 I (nI k) (nI n) t.2 (nI i) z (nI i)) (v_K (fun t => i < 21 ∧ t.1 = nI (i + 1) ∧ ∀ j, j < i + 1 → t.2 69 j = fw (I 51 46) 0 j) Q) := by
          intro Q z hz
          unfold h_X10_few_J26_48
          simp only [p_in_nI (show i < 21 by omega) (show 21 < 2 ^ 31 by omega), p_bs, p_le, wp_some, v_K]
          refine ⟨hlt, nI_1 i, fun j hj => ?_⟩
          by_cases ej : j = i
          · subst ej; rw [v_up_at]; exact hz
          · rw [v_up_ne _ _ (by omega)]; exact e2 j (by omega)
        by_cases i0 : i = 0
        · subst i0
          rw [if_pos (show nI 0 = 0 from rfl)]
          exact stp _ _ (by unfold fw; rw [if_pos rfl])
        · rw [if_neg (show ¬ nI i = 0 from nI_ne0 (by omega) (by omega))]
          exact stp _ _ (by unfold fw; rw [if_neg i0])
      · have : i = 21 := by omega
        subst this
        rw [if_pos (show (20 : Int32) < nI 21 by decide)]
        simp only [wp_some, v_K]
        rw [wp_bind]
        refine wp_loop (fun c t => t.1 = nI c ∧ ∀ i, i < k → t.2 69 i = fw (I 51 46) c i) n (by omega) ⟨rfl, fun i hi => e2 i (by omega)⟩ ?_
        rintro c t hc ⟨e1, e2⟩
        unfold h_X10_few_B57
        rw [e1]
        by_cases hlt : c < n
        · rw [if_neg (nI_ge hlt (by omega)), p_le]
          refine wp_seq (m_fewIn I (nI n) (nI c) hk1 hk e2) fun q hq => ?_
          simp only [p_le, wp_some]
          exact ⟨hlt, nI_1 c, hq⟩
        · have : c = n := by omega
          subst this
          rw [if_pos (Int32.le_refl _)]
          simp only [wp_some]
          rw [wp_bind]
          refine wp_loop (fun i t => t.2 = nI i ∧ t.1 = fw_sum (I 51 46) c i) k (by omega) ⟨rfl, rfl⟩ ?_
          rintro i u hi ⟨g1, g2⟩
          unfold h_X10_few_B151
          rw [g1]
          by_cases hi2 : i < k
          · rw [if_neg (nI_ge hi2 (by omega)), p_in_nI (by omega) (by omega)]
            simp only [p_bs, p_le, wp_some]
            exact ⟨hi2, nI_1 i, by rw [g2, e2 i hi2]; rfl⟩
          · have : i = k := by omega
            subst this
            rw [if_pos (Int32.le_refl _)]
            simp only [wp_some]
            exact g2
  · refine fin (-1) ?_ (bad (.inr u2))
    unfold h_X9_few
    rw [if_neg h1, if_neg h2, u1, p_bs, if_pos rfl, wp_some]
end sp56
