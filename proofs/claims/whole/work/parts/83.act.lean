noncomputable section sp83
theorem c_why0 {S : v_S} {I : v_I} {F : v_F} {m w s : Nat} {x y : Int64} : h_X0_whyNot S I F m w s 0 x y = (h_X0_has S I x).bind fun r => if r = 0 then some (-2) else some 0 := by
  unfold h_X0_whyNot h_X0_whyNot_J39 h_X0_whyNot_J64 h_X0_whyNot_J87 h_X0_whyNot_J88
  simp only [show ¬ ((0 : Int32) = 3) by decide, show ¬ ((0 : Int32) = 2) by decide, show ¬ ((0 : Int32) = 1) by decide, if_false, if_true]
theorem c_why1 {S : v_S} {I : v_I} {F : v_F} {m w s : Nat} {x y : Int64} : h_X0_whyNot S I F m w s 1 x y = (h_X0_has S I x).bind fun r => if r = 0 then some (-2) else (h_X3_isOpen S I m w s x.toInt32).bind fun r => if r = 0 then some 0 else some (-3) := by
  unfold h_X0_whyNot h_X0_whyNot_J39 h_X0_whyNot_J64 h_X0_whyNot_J87 h_X0_whyNot_J83 h_X0_whyNot_J88
  simp only [show ¬ ((1 : Int32) = 3) by decide, show ¬ ((1 : Int32) = 2) by decide, show ¬ ((1 : Int32) = 0) by decide, if_false, if_true]
theorem c_why2 {S : v_S} {I : v_I} {F : v_F} {m w s : Nat} {x y : Int64} : h_X0_whyNot S I F m w s 2 x y = (h_X9_isUpTo y 9).bind fun r => if r = 0 then some (-1) else (h_X0_has S I x).bind fun r => if r = 0 then some (-2) else (p_in 8 x.toInt32).bind fun j => if (I w j).toInt64 = y then some (-3) else some 0 := by
  unfold h_X0_whyNot h_X0_whyNot_J39 h_X0_whyNot_J64 h_X0_whyNot_J87 h_X0_whyNot_J83 h_X0_whyNot_J88
  simp only [show ¬ ((2 : Int32) = 3) by decide, show ¬ ((1 : Int32) = 0) by decide, show ¬ ((2 : Int32) = 1) by decide, if_false, if_true, cmp_eq]
theorem c_why3 {S : v_S} {I : v_I} {F : v_F} {m w s : Nat} {x y : Int64} : h_X0_whyNot S I F m w s 3 x y = if I m 1 < 999 then some 0 else some (-3) := by
  unfold h_X0_whyNot
  rw [if_pos rfl]
theorem act_bad {S : v_S} {I : v_I} {J : v_J} {F : v_F} (h : R S I J F) {kind p q w : Int32} {md : v_I → Option (Int32 × v_I)} (hw : h_X0_whyNot S I F 2 3 4 kind p.toInt64 q.toInt64 = some w) (hr : w = -1 ∨ w = -2 ∨ w = -3) (hm : ∀ I' : v_I, I' 51 = I 51 → md I' = h_X10_refuses I' w) :
    ∃ (r : Int32 × v_S × v_I × v_J × v_F) (t : Int32 × v_I), (f_X9_act S I J F 0 kind p q) = some r ∧ md r.2.2.1 = some t ∧ r.1 = t.1 ∧ p_SS r.2.1 ∧ R r.2.1 t.2 r.2.2.2.1 r.2.2.2.2 := by
  have key : ∀ I1 I2, h_X9_refuse S I F w = some (w, I1) → h_X10_refuses I1 w = some (w, I2) → I1 51 = I 51 → R S I2 J F → ∃ (r : Int32 × v_S × v_I × v_J × v_F) (t : Int32 × v_I), (f_X9_act S I J F 0 kind p q) = some r ∧ md r.2.2.1 = some t ∧ r.1 = t.1 ∧ p_SS r.2.1 ∧ R r.2.1 t.2 r.2.2.2.1 r.2.2.2.2 := by
    intro I1 I2 e1 e2 e3 e4
    refine ⟨(w, S, I1, J, F), (w, I2), ?_, ?_, rfl, h.1, e4⟩
    · rw [act_no h hw (by rcases hr with rfl | rfl | rfl <;> decide), e1, p_bs]
    · show md I1 = _
      rw [hm I1 e3, e2]
  rcases hr with rfl | rfl | rfl
  · obtain ⟨I1, I2, a1, a2, a3⟩ := R_ref1 (J' := J) h
    refine key I1 I2 a1 a2 ?_ a3
    have := c_ref1 S I F; rw [a1] at this; cases this
    rw [v_up_row _ 48 _ _ (by omega), v_up_row _ 0 _ _ (by omega)]
  · obtain ⟨I1, I2, a1, a2, a3⟩ := R_ref2 (J' := J) h
    refine key I1 I2 a1 a2 ?_ a3
    have := c_ref2 S I F; rw [a1] at this; cases this
    rw [v_up_row _ 48 _ _ (by omega), v_up_row _ 0 _ _ (by omega)]
  · obtain ⟨I1, I2, a1, a2, a3⟩ := R_ref3 (J' := J) h
    refine key I1 I2 a1 a2 ?_ a3
    have := c_ref3 S I F; rw [a1] at this; cases this
    rw [v_up_row _ 48 _ _ (by omega), v_up_row _ 0 _ _ (by omega)]
/-- done on both sides -/
theorem act_both {S : v_S} {I : v_I} {J : v_J} {F : v_F} (h : R S I J F) {kind p q : Int32} (hkind : kind = 0 ∨ kind = 1 ∨ kind = 2 ∨ kind = 3) {md : v_I → Option (Int32 × v_I)} {mk : v_I → Option (Int32 × v_I)} (hw : h_X0_whyNot S I F 2 3 4 kind p.toInt64 q.toInt64 = some 0)
    (hmd : ∀ I' : v_I, md I' = (mk I').bind fun r => (h_X10_goodOr r.2 r.1).bind fun r => some (r.1, r.2))
    (hdo : ∀ (S' : v_S) (I1 : v_I) (F' : v_F) (n nu : Nat) (lw : Option Nat) (L : Option (List Cls)), cX S' I1 F' n lw L (I 51) → nu ≤ 16 → ∃ (ans : Int32) (k' : Nat → Int32), 0 ≤ ans ∧ kM n k' ∧ (∀ z, 18 ≤ z → k' z = I 51 z) ∧ wp (h_X1_perform S' I1 J F' 2 3 4 kind p q) (fun r => r.1 = ans ∧ rM r.2.1 2 3 4 k' ∧ ∀ a, a ≠ 16 → a ≠ 21 → a ≠ 2 → a ≠ 3 → a ≠ 4 → r.2.1 a = I1 a)
      ∧ ∀ Ic : v_I, Ic 51 = I 51 → Ic 49 32 = nI nu → wp (mk Ic) (fun r => r.1 = ans ∧ r.2 51 = k' ∧ kpd Ic r.2 nu kind ∧ mfr Ic r.2)) :
    ∃ (r : Int32 × v_S × v_I × v_J × v_F) (t : Int32 × v_I), (f_X9_act S I J F 0 kind p q) = some r ∧ md r.2.2.1 = some t ∧ r.1 = t.1 ∧ p_SS r.2.1 ∧ R r.2.1 t.2 r.2.2.2.1 r.2.2.2.2 := by
  obtain ⟨S', I1, F', n, nu, lw, L, a1, hX, p1, p4, small, fin⟩ := act_core h kind hkind
  obtain ⟨ans, k', h0, hkM, hge, ⟨⟨x, Ip, Jp⟩, b1, b2, b3, b4⟩, hmod⟩ := hdo S' I1 F' n nu lw L hX p1
  dsimp only at b2 b3 b4
  have c51 : v_up Ip 0 14 0 51 = I 51 := by rw [v_up_row _ 0 _ _ (by omega), b4 51 (by omega) (by omega) (by omega) (by omega) (by omega), small 51 (by omega) (by omega) (by omega)]
  have c49 : v_up Ip 0 14 0 49 32 = nI nu := by rw [v_up_row _ 0 _ _ (by omega), b4 49 (by omega) (by omega) (by omega) (by omega) (by omega), small 49 (by omega) (by omega) (by omega)]; exact p4
  obtain ⟨⟨y, Im⟩, d1, d2, d3, d4, d5⟩ := hmod (v_up Ip 0 14 0) c51 c49
  dsimp only at d2 d3 d4 d5
  refine ⟨(x, S', v_up Ip 0 14 0, Jp, F'), (y, v_up Im 49 0 0), ?_, ?_, by rw [b2, d2], hX.1, ?_⟩
  · rw [act_do h hw a1 hX, b1, p_bs]
  · show md (v_up Ip 0 14 0) = _
    rw [hmd, d1, p_bs]
    dsimp only
    rw [m_gor (by rw [d2]; exact h0), p_bs]
  · exact act_fin fin small (fun a q1 q2 q3 q4 q5 q6 => by rw [v_up_row _ 0 _ _ q6, b4 a q1 q2 q3 q4 q5]) (fun j hj => by rw [w_ne _ _ _ _ hj, b4 0 (by omega) (by omega) (by omega) (by omega) (by omega)]) (by rw [w_at]) (rM_fr (v_up_row _ 0 _ _ (show (2 : Nat) ≠ 0 by omega)) (v_up_row _ 0 _ _ (show (3 : Nat) ≠ 0 by omega)) (v_up_row _ 0 _ _ (show (4 : Nat) ≠ 0 by omega)) b3) d3 d4 d5 hkM hge
theorem kM_shut {n c o : Nat} {k : Nat → Int32} (h : kM n k) (hn : n ≤ 8) (hc : c < 8) (ho : o < 256) (e0 : k 0 = nI o) (x : Int32) : kM n (kup (kup k 0 (k 0 &&& (((1 : Int32) <<< (nI c &&& 31)) ^^^ -1))) (9 + c) x) := by
  obtain ⟨⟨o', ho', e0'⟩, h2, h3⟩ := h
  refine ⟨⟨o' &&& (255 - 2 ^ c), Nat.lt_of_le_of_lt Nat.and_le_left ho', ?_⟩, ?_, fun z hz => ?_⟩
  · have := two_le hn
    rw [kup_ne _ _ (by omega), kup_at, e0', b_clr c o' hc (by omega)]
  · rw [kup_ne _ _ (by omega), kup_ne _ _ (by omega)]; exact h2
  · rw [kup_ne _ _ (by omega), kup_ne _ _ (by omega)]; exact h3 z hz
theorem kM_open {n c : Nat} {k : Nat → Int32} (h : kM n k) (hn : n ≤ 8) (hc : c < n) : kM n (kup k 0 (k 0 ||| ((1 : Int32) <<< (nI c &&& 31)))) := by
  obtain ⟨⟨o', ho', e0'⟩, h2, h3⟩ := h
  have := two_le hn
  refine ⟨⟨o' ||| 2 ^ c, Nat.or_lt_two_pow ho' (Nat.pow_lt_pow_right (by omega) hc), ?_⟩, ?_, fun z hz => ?_⟩
  · rw [kup_at, e0', b_set c o' (by omega) (by omega)]
  · rw [kup_ne _ _ (by omega)]; exact h2
  · rw [kup_ne _ _ (by omega)]; exact h3 z hz
theorem kM_want {n c : Nat} {k : Nat → Int32} (h : kM n k) (hc : c < 8) {x : Int32} (hx : 0 ≤ x) : kM n (kup k (1 + c) x) := by
  obtain ⟨⟨o', ho', e0'⟩, h2, h3⟩ := h
  refine ⟨⟨o', ho', ?_⟩, ?_, fun z hz => ?_⟩
  · rw [kup_ne _ _ (by omega)]; exact e0'
  · rw [kup_ne _ _ (by omega)]; exact h2
  · by_cases e : z = c
    · subst e; rw [kup_at]; exact hx
    · rw [kup_ne _ _ (by omega)]; exact h3 z hz
theorem told_ge {D : List Cls} {u : Nat → Int32} {kind : Int32} : ∀ z, 0 ≤ z → 0 ≤ sp_told u kind z D := by
  induction D with
  | nil => intro z h; exact h
  | cons x D ih =>
    intro z h
    refine ih (sp_one u kind z x) ?_
    unfold sp_one
    split
    · split
      · decide
      · split
        · exact h
        · split
          · exact h
          · rename_i y _
            have : (mcl y).toInt32 = d_clip y := mcl_clip y
            rw [← this]
            have hm : mcl y = 0 ∨ mcl y = 9 ∨ (0 ≤ y ∧ y ≤ 9 ∧ mcl y = y) := by
              unfold mcl
              by_cases g0 : 0 ≤ y
              · rw [if_pos g0]
                by_cases g9 : y ≤ 9
                · rw [if_pos g9]; exact .inr (.inr ⟨g0, g9, rfl⟩)
                · rw [if_neg g9]; exact .inr (.inl rfl)
              · rw [if_neg g0]; exact .inl rfl
            rcases hm with e | e | ⟨e1, e2, e⟩
            · rw [e]; decide
            · rw [e]; decide
            · rw [e, Int32.le_iff_toInt_le, Int64.toInt_toInt32]
              rw [Int64.le_iff_toInt_le] at e1 e2
              have q0 : (0 : Int64).toInt = 0 := by decide
              have q9 : (9 : Int64).toInt = 9 := by decide
              rw [q0] at e1; rw [q9] at e2
              rw [Int.bmod_eq_of_le (by omega) (by omega)]
              exact e1
    · exact h
theorem kM_min {n hd : Nat} {L : Option (List Cls)} {k : Nat → Int32} (h : kM n k) (hn : n ≤ 8) (h9 : k 17 ≠ 999) : kM n (mn L n hd k) := by
  obtain ⟨h1, ⟨mi, hmi, e⟩, h3⟩ := h
  refine ⟨mn_lt, ⟨mi + 1, ?_, ?_⟩, fun z hz => ?_⟩
  · have : mi ≠ 999 := fun q => h9 (by rw [e, q]; rfl)
    omega
  · rw [mn_17 L hd k hn, e, nI_succ]
  · rw [mn_w L hd k hn hz]
    split
    · unfold tl
      split
      · exact h3 z hz
      · exact told_ge _ (h3 z hz)
    · exact h3 z hz
theorem mB_now : mB 2 3 4 := by unfold mB; omega
theorem R_kM {S : v_S} {I : v_I} {J : v_J} {F : v_F} (h : R S I J F) {n : Nat} (hn : n ≤ 8) (e : I 51 49 = nI n) : kM n (I 51) := by
  obtain ⟨n', tl, k1, k2, k3, _⟩ := h.2.2.2.1
  have : n' = n := (nI_eq (by omega) (by omega)).mp (k2.symm.trans e)
  subst this
  exact k3
theorem ok_13 {S : v_S} {I : v_I} {J : v_J} {F : v_F} (h : R S I J F) : op_13 R S I J F := by
  intro p
  unfold f_X9_touch
  rw [p_obS h.1 (a := 0) (kd := 9) rfl, p_bs, bind5]
  obtain ⟨n, lw, L, hX⟩ := R_cX h
  have hmod : ∀ (S' : v_S) (I' : v_I) (F' : v_F), p_SS S' → p_FF F' → f_X10_touch S' I' F' 49 p = h_X10_touch I' p := fun S' I' F' q1 q2 => s_X10_touch q1 q2 I' p
  have conv : (∃ (r : Int32 × v_S × v_I × v_J × v_F) (t : Int32 × v_I), (f_X9_act S I J F 0 0 p 0) = some r ∧ h_X10_touch r.2.2.1 p = some t ∧ r.1 = t.1 ∧ p_SS r.2.1 ∧ R r.2.1 t.2 r.2.2.2.1 r.2.2.2.2) → ∃ (r : Int32 × v_S × v_I × v_J × v_F) (q : Int32 × v_I), (f_X9_act S I J F 0 0 p 0) = some r ∧ f_X10_touch r.2.1 r.2.2.1 r.2.2.2.2 49 p = some q ∧ r.1 = q.1 ∧ p_SS r.2.1 ∧ R r.2.1 q.2 r.2.2.2.1 r.2.2.2.2 := by
    rintro ⟨r, t, e1, e2, e3, e4, e5⟩
    exact ⟨r, t, e1, by rw [hmod _ _ _ e4 e5.2.1]; exact e2, e3, e4, e5⟩
  refine conv ?_
  rcases one_cases p (n := n) hX.2.2.1 with ⟨c, hc, rfl, u1, u2⟩ | ⟨u1, u2, _⟩
  · have hn := hX.2.2.1
    refine act_both (md := fun I => h_X10_touch I (nI c)) (mk := fun I => h_X10_touchesKept I (nI c)) h (.inl rfl) ?_ (fun _ => rfl) (fun S' I1 F' n' nu lw' L' hX' hnu => ?_)
    · rw [c_why0, u1 S I (R_many h hX), p_bs, if_neg (by decide)]
    · have en : n' = n := (nI_eq (by have := hX'.2.2.1; omega) (by omega)).mp (hX'.2.2.2.1.symm.trans hX.2.2.2.1)
      subst en
      obtain ⟨o, ho, e0⟩ := id hX.2.2.2.2.1.1
      obtain ⟨⟨x, I2, b1, b2, b3, b4⟩, -, -, -⟩ := c_perf J hX' mB_now hX'.2.2.2.2.2.2.1 hX'.2.2.2.2.1 (fun _ _ => rfl) (show c < 8 by omega) 0
      refine ⟨x, _, by rw [b2]; split <;> decide, kM_shut (R_kM h hn hX.2.2.2.1) hn (show c < 8 by omega) ho e0 0, fun z hz => by rw [kup_ne _ _ (by omega), kup_ne _ _ (by omega)], ⟨_, b1, rfl, b3, fun a q1 q2 q3 q4 q5 => b4 a q3 q4 q5⟩, fun Ic e51 e32 => ?_⟩
      have := m_touchK (n := n') (I := Ic) (by rw [e51]; exact hX.2.2.2.2.1) (u2 Ic (by rw [e51]; exact hX.2.2.2.1)) (show c < 8 by omega) hnu e32
      rw [e51, ← b2] at this
      exact this
  · refine act_bad (md := fun I => h_X10_touch I p) h (w := -2) ?_ (.inr (.inl rfl)) (fun I' e => ?_)
    · rw [c_why0, u1 S I (R_many h hX), p_bs, if_pos rfl]
    · show h_X10_touch I' p = _
      unfold h_X10_touch h_X10_touchesKept
      rw [u2 I' (by rw [e]; exact hX.2.2.2.1), p_bs, if_pos rfl, p_bs]
      dsimp only
      rw [m_bor (by decide), bindref]
theorem ok_14 {S : v_S} {I : v_I} {J : v_J} {F : v_F} (h : R S I J F) : op_14 R S I J F := by
  intro p
  unfold f_X9_coax
  rw [p_obS h.1 (a := 0) (kd := 9) rfl, p_bs, bind5]
  obtain ⟨n, lw, L, hX⟩ := R_cX h
  have hmod : ∀ (S' : v_S) (I' : v_I) (F' : v_F), p_SS S' → p_FF F' → f_X10_coax S' I' F' 49 p = h_X10_coax I' p := fun S' I' F' q1 q2 => s_X10_coax q1 q2 I' p
  have conv : (∃ (r : Int32 × v_S × v_I × v_J × v_F) (t : Int32 × v_I), (f_X9_act S I J F 0 1 p 0) = some r ∧ h_X10_coax r.2.2.1 p = some t ∧ r.1 = t.1 ∧ p_SS r.2.1 ∧ R r.2.1 t.2 r.2.2.2.1 r.2.2.2.2) → ∃ (r : Int32 × v_S × v_I × v_J × v_F) (q : Int32 × v_I), (f_X9_act S I J F 0 1 p 0) = some r ∧ f_X10_coax r.2.1 r.2.2.1 r.2.2.2.2 49 p = some q ∧ r.1 = q.1 ∧ p_SS r.2.1 ∧ R r.2.1 q.2 r.2.2.2.1 r.2.2.2.2 := by
    rintro ⟨r, t, e1, e2, e3, e4, e5⟩
    exact ⟨r, t, e1, by rw [hmod _ _ _ e4 e5.2.1]; exact e2, e3, e4, e5⟩
  refine conv ?_
  rcases one_cases p (n := n) hX.2.2.1 with ⟨c, hc, rfl, u1, u2⟩ | ⟨u1, u2, _⟩
  · have hn := hX.2.2.1
    obtain ⟨o, ho, e0⟩ := id hX.2.2.2.2.1.1
    have c32 : (nI c).toInt64.toInt32 = nI c := by simp
    have o1 : h_X3_isOpen S I 2 3 4 (nI c) = some (if bt (I 51 0) c = true then 1 else 0) := by
      unfold h_X3_isOpen
      rw [show I 2 0 = nI o by rw [hX.2.2.2.2.2.2.1.1, e0], b_bit c o (by omega) ho, e0, bt_nI ho]
      simp only [bit_tb]
      split <;> rfl
    by_cases hop : bt (I 51 0) c = true
    · refine act_bad (md := fun I => h_X10_coax I (nI c)) h (w := -3) ?_ (.inr (.inr rfl)) (fun I' e => ?_)
      · rw [c_why1, u1 S I (R_many h hX), p_bs, if_neg (by decide), c32, o1, p_bs, if_pos hop, if_neg (by decide)]
      · show h_X10_coax I' (nI c) = _
        unfold h_X10_coax h_X10_coaxesKept
        rw [u2 I' (by rw [e]; exact hX.2.2.2.1), p_bs, if_neg (by decide), m_isOpen (by rw [e]; exact hX.2.2.2.2.1) (by omega), p_bs, e, if_pos hop, if_neg (by decide), p_bs]
        dsimp only
        rw [m_bor (by decide), bindref]
    · refine act_both (md := fun I => h_X10_coax I (nI c)) (mk := fun I => h_X10_coaxesKept I (nI c)) h (.inr (.inl rfl)) ?_ (fun _ => rfl) (fun S' I1 F' n' nu lw' L' hX' hnu => ?_)
      · rw [c_why1, u1 S I (R_many h hX), p_bs, if_neg (by decide), c32, o1, p_bs, if_neg hop, if_pos rfl]
      · have en : n' = n := (nI_eq (by have := hX'.2.2.1; omega) (by omega)).mp (hX'.2.2.2.1.symm.trans hX.2.2.2.1)
        subst en
        obtain ⟨-, ⟨x, I2, b1, b2, b3, b4⟩, -, -⟩ := c_perf J hX' mB_now hX'.2.2.2.2.2.2.1 hX'.2.2.2.2.1 (fun _ _ => rfl) (show c < 8 by omega) 0
        refine ⟨x, _, by rw [b2]; exact pcI_ge _, kM_open (R_kM h hn hX.2.2.2.1) hn hc, fun z hz => by rw [kup_ne _ _ (by omega)], ⟨_, b1, rfl, b3, fun a q1 q2 q3 q4 q5 => b4 a q3 q4 q5⟩, fun Ic e51 e32 => ?_⟩
        have := m_coaxK (n := n') (I := Ic) (by rw [e51]; exact hX.2.2.2.2.1) (u2 Ic (by rw [e51]; exact hX.2.2.2.1)) (show c < 8 by omega) (by rw [e51]; simpa using hop) hnu e32
        rw [e51, ← b2] at this
        exact this
  · refine act_bad (md := fun I => h_X10_coax I p) h (w := -2) ?_ (.inr (.inl rfl)) (fun I' e => ?_)
    · rw [c_why1, u1 S I (R_many h hX), p_bs, if_pos rfl]
    · show h_X10_coax I' p = _
      unfold h_X10_coax h_X10_coaxesKept
      rw [u2 I' (by rw [e]; exact hX.2.2.2.1), p_bs, if_pos rfl, p_bs]
      dsimp only
      rw [m_bor (by decide), bindref]
theorem i64_inj {x y : Int32} : x.toInt64 = y.toInt64 ↔ x = y := ⟨fun e => by have := congrArg Int64.toInt32 e; simpa using this, fun e => by rw [e]⟩
theorem ok_15 {S : v_S} {I : v_I} {J : v_J} {F : v_F} (h : R S I J F) : op_15 R S I J F := by
  intro p w
  unfold f_X9_tempt
  rw [p_obS h.1 (a := 0) (kd := 9) rfl, p_bs, bind5]
  obtain ⟨n, lw, L, hX⟩ := R_cX h
  have hmod : ∀ (S' : v_S) (I' : v_I) (F' : v_F), p_SS S' → p_FF F' → f_X10_tempt S' I' F' 49 p w = h_X10_tempt I' p w := fun S' I' F' q1 q2 => s_X10_tempt q1 q2 I' p w
  have conv : (∃ (r : Int32 × v_S × v_I × v_J × v_F) (t : Int32 × v_I), (f_X9_act S I J F 0 2 p w) = some r ∧ h_X10_tempt r.2.2.1 p w = some t ∧ r.1 = t.1 ∧ p_SS r.2.1 ∧ R r.2.1 t.2 r.2.2.2.1 r.2.2.2.2) → ∃ (r : Int32 × v_S × v_I × v_J × v_F) (q : Int32 × v_I), (f_X9_act S I J F 0 2 p w) = some r ∧ f_X10_tempt r.2.1 r.2.2.1 r.2.2.2.2 49 p w = some q ∧ r.1 = q.1 ∧ p_SS r.2.1 ∧ R r.2.1 q.2 r.2.2.2.1 r.2.2.2.2 := by
    rintro ⟨r, t, e1, e2, e3, e4, e5⟩
    exact ⟨r, t, e1, by rw [hmod _ _ _ e4 e5.2.1]; exact e2, e3, e4, e5⟩
  refine conv ?_
  have hn := hX.2.2.1
  rcases upTo_cases w (q := 9) (m := 9) rfl (by omega) with ⟨wa, hwa, ew, v1, v2⟩ | ⟨v1, v2, _⟩
  · have h9 : h_X10_isNine w = some 1 := by
      unfold h_X10_isNine; rw [v2, p_bs, show p_bl 1 = some () from rfl, p_bs]
    rcases one_cases p (n := n) hn with ⟨c, hc, rfl, u1, u2⟩ | ⟨u1, u2, _⟩
    · have c32 : (nI c).toInt64.toInt32 = nI c := by simp
      have i1 : (1 : Int32) + nI c = nI 1 + nI c := rfl
      by_cases hop : I 51 (1 + c) = w
      · refine act_bad (md := fun I => h_X10_tempt I (nI c) w) h (w := -3) ?_ (.inr (.inr rfl)) (fun I' e => ?_)
        · rw [c_why2, v1, p_bs, if_neg (by decide), u1 S I (R_many h hX), p_bs, if_neg (by decide), c32, p_in_nI (by omega) (by omega), p_bs, hX.2.2.2.2.2.2.1.2.2.1 c (by omega), if_pos (by rw [hop])]
        · show h_X10_tempt I' (nI c) w = _
          unfold h_X10_tempt h_X10_temptsKept
          rw [h9, p_bs, if_neg (by decide), u2 I' (by rw [e]; exact hX.2.2.2.1), p_bs, if_neg (by decide), i1, p_inA (c := 1) (k := c) rfl (by omega) (by omega), p_bs, p_le, e, if_pos hop, p_bs]
          dsimp only
          rw [m_bor (by decide), bindref]
      · refine act_both (md := fun I => h_X10_tempt I (nI c) w) (mk := fun I => h_X10_temptsKept I (nI c) w) h (.inr (.inr (.inl rfl))) ?_ (fun _ => rfl) (fun S' I1 F' n' nu lw' L' hX' hnu => ?_)
        · rw [c_why2, v1, p_bs, if_neg (by decide), u1 S I (R_many h hX), p_bs, if_neg (by decide), c32, p_in_nI (by omega) (by omega), p_bs, hX.2.2.2.2.2.2.1.2.2.1 c (by omega), if_neg (fun q => hop (i64_inj.mp q))]
        · have en : n' = n := (nI_eq (by have := hX'.2.2.1; omega) (by omega)).mp (hX'.2.2.2.1.symm.trans hX.2.2.2.1)
          subst en
          obtain ⟨-, -, ⟨x, I2, b1, b2, b3, b4⟩, -⟩ := c_perf J hX' mB_now hX'.2.2.2.2.2.2.1 hX'.2.2.2.2.1 (fun _ _ => rfl) (show c < 8 by omega) w
          have hkM := R_kM h hn hX.2.2.2.1
          refine ⟨x, _, by rw [b2]; exact hkM.2.2 c (by omega), kM_want hkM (show c < 8 by omega) (by rw [ew]; exact nI_le (a := 0) (by omega) (by omega)), fun z hz => by rw [kup_ne _ _ (by omega)], ⟨_, b1, rfl, b3, fun a q1 q2 q3 q4 q5 => b4 a q3 q4 q5⟩, fun Ic e51 e32 => ?_⟩
          have := m_temptK (I := Ic) h9 (u2 Ic (by rw [e51]; exact hX.2.2.2.1)) (show c < 8 by omega) (by rw [e51]; exact hop) hnu e32
          rw [e51, ← b2] at this
          exact this
    · refine act_bad (md := fun I => h_X10_tempt I p w) h (w := -2) ?_ (.inr (.inl rfl)) (fun I' e => ?_)
      · rw [c_why2, v1, p_bs, if_neg (by decide), u1 S I (R_many h hX), p_bs, if_pos rfl]
      · show h_X10_tempt I' p w = _
        unfold h_X10_tempt h_X10_temptsKept
        rw [h9, p_bs, if_neg (by decide), u2 I' (by rw [e]; exact hX.2.2.2.1), p_bs, if_pos rfl, p_bs]
        dsimp only
        rw [m_bor (by decide), bindref]
  · refine act_bad (md := fun I => h_X10_tempt I p w) h (w := -1) ?_ (.inl rfl) (fun I' e => ?_)
    · rw [c_why2, v1, p_bs, if_pos rfl]
    · show h_X10_tempt I' p w = _
      unfold h_X10_tempt h_X10_temptsKept h_X10_isNine
      rw [v2, p_bs, show p_bl 0 = some () from rfl, p_bs, p_bs, if_pos rfl, p_bs]
      dsimp only
      rw [m_bor (by decide), bindref]
theorem ok_16 {S : v_S} {I : v_I} {J : v_J} {F : v_F} (h : R S I J F) : op_16 R S I J F := by
  unfold op_16
  unfold f_X9_pass
  rw [p_obS h.1 (a := 0) (kd := 9) rfl, p_bs, bind5]
  obtain ⟨n, lw, L, hX⟩ := R_cX h
  have hn := hX.2.2.1
  have hkM := R_kM h hn hX.2.2.2.1
  have hmod : ∀ (S' : v_S) (I' : v_I) (F' : v_F), p_SS S' → p_FF F' → f_X10_pass S' I' F' 49 = h_X10_pass I' := fun S' I' F' q1 q2 => s_X10_pass q1 q2 I'
  have conv : (∃ (r : Int32 × v_S × v_I × v_J × v_F) (t : Int32 × v_I), (f_X9_act S I J F 0 3 0 0) = some r ∧ h_X10_pass r.2.2.1 = some t ∧ r.1 = t.1 ∧ p_SS r.2.1 ∧ R r.2.1 t.2 r.2.2.2.1 r.2.2.2.2) → ∃ (r : Int32 × v_S × v_I × v_J × v_F) (q : Int32 × v_I), (f_X9_act S I J F 0 3 0 0) = some r ∧ f_X10_pass r.2.1 r.2.2.1 r.2.2.2.2 49 = some q ∧ r.1 = q.1 ∧ p_SS r.2.1 ∧ R r.2.1 q.2 r.2.2.2.1 r.2.2.2.2 := by
    rintro ⟨r, t, e1, e2, e3, e4, e5⟩
    exact ⟨r, t, e1, by rw [hmod _ _ _ e4 e5.2.1]; exact e2, e3, e4, e5⟩
  refine conv ?_
  obtain ⟨mi, hmi, emi⟩ := id hkM.2.1
  have e1 : I 2 1 = nI mi := by rw [hX.2.2.2.2.2.2.1.2.1, emi]
  by_cases h9 : mi = 999
  · have h999 : I 51 17 = 999 := by rw [emi, h9]; rfl
    refine act_bad (md := fun I => h_X10_pass I) h (w := -3) ?_ (.inr (.inr rfl)) (fun I' e => ?_)
    · rw [c_why3, if_neg (by rw [e1]; exact i_nlt (b := 999) rfl rfl (by omega) (by omega))]
    · show h_X10_pass I' = _
      unfold h_X10_pass h_X10_passesKept
      rw [if_pos (by rw [e]; exact h999), p_bs]
      dsimp only
      rw [m_bor (by decide), bindref]
  · have h999 : I 51 17 ≠ 999 := fun q => h9 ((i_eqI (a := mi) (b := 999) rfl rfl (by omega) (by omega)).mp (emi.symm.trans q))
    refine act_both (md := fun I => h_X10_pass I) (mk := fun I => h_X10_passesKept I) h (.inr (.inr (.inr rfl))) ?_ (fun _ => rfl) (fun S' I1 F' n' nu lw' L' hX' hnu => ?_)
    · rw [c_why3, if_pos (by rw [e1]; exact i_lt (b := 999) rfl rfl (by omega) (by omega))]
    · have en : n' = n := (nI_eq (by have := hX'.2.2.1; omega) (by omega)).mp (hX'.2.2.2.1.symm.trans hX.2.2.2.1)
      subst en
      obtain ⟨-, -, -, hp⟩ := c_perf J hX' mB_now hX'.2.2.2.2.2.2.1 hX'.2.2.2.2.1 (fun _ _ => rfl) (show 0 < 8 by omega) 0
      obtain ⟨x, I2, J2, b1, b2, b3, b4⟩ := hp 0
      refine ⟨x, _, by rw [b2]; exact pcI_ge _, kM_min hkM hn h999, fun z hz => mn_ge hn hz, ⟨_, b1, rfl, b3, b4⟩, fun Ic e51 e32 => ?_⟩
      have := m_passK (n := n') (L := L') (k := I 51) (I := Ic) ⟨e51, hn, hX.2.2.2.1, hX.2.2.2.2.1, rLw_m hX'.2.2.2.2.2.2.2.1⟩ (by rw [e51]; exact h999) hnu e32
      rw [← b2] at this
      exact this
end sp83
