noncomputable section h12
variable {l : Launch} {B : Nat} {D : va_G} {ac : Nat → ClassId} {wa wb wt sb sL : Nat} {sx : Nat → Int32} {S : v_S} {I : v_I} {J : v_J} {F : v_F}
def f_X2_runAll_B35 (w0 : Nat) (w1 : Nat) (w2 : Nat) (w3 : Nat) (w4 : Nat) (w5 : Nat) (w6 : Int32) (s35 : Int32 × v_S × v_I × v_J × v_F) : Option ((Int32 × v_S × v_I × v_J × v_F) ⊕ (Nat × (Int32 × v_S × v_I × v_J × v_F))) :=
(p_ob s35.2.1 8 w1).bind fun _ =>
(s35.2.2.2.2 w1 7).bind fun a_14 =>
(p_ix s35.2.1 20 a_14 w6).bind fun j_16 =>
if (s35.2.2.1 a_14 j_16) ≤ s35.1 then (
some (.inr (1, (s35.1, s35.2.1, s35.2.2.1, s35.2.2.2.1, s35.2.2.2.2))))
else (
(p_ob s35.2.1 2 w0).bind fun _ =>
(f_X2_runOnce s35.2.1 s35.2.2.1 s35.2.2.2.1 s35.2.2.2.2 w0 w1 w6 w2 w3 w4 w5).bind fun r_19 =>
if r_19.1 = (0 : Int32) then (
some (.inr (0, (s35.1, r_19.2.1, r_19.2.2.1, r_19.2.2.2.1, r_19.2.2.2.2))))
else (
p_let (s35.1 + (1 : Int32)) fun x_23 =>
some (.inl (x_23, r_19.2.1, r_19.2.2.1, r_19.2.2.2.1, r_19.2.2.2.2))))
def f_X2_runAll_B13 (w0 : Nat) (w1 : Nat) (w2 : Nat) (w3 : Nat) (w4 : Nat) (w5 : Nat) (s13 : Int32 × v_S × v_I × v_J × v_F) : Option ((Int32 × v_S × v_I × v_J × v_F) ⊕ (Nat × (Int32 × v_S × v_I × v_J × v_F))) :=
(p_ob s13.2.1 8 w1).bind fun _ =>
if (s13.2.2.1 w1 0) ≤ s13.1 then (
some (.inr (1, (s13.1, s13.2.1, s13.2.2.1, s13.2.2.2.1, s13.2.2.2.2))))
else (
(s13.2.2.2.2 w1 7).bind fun a_8 =>
(p_len s13.2.1 20 a_8).bind fun x_10 =>
if x_10 ≤ s13.1 then (
some (.inr (1, (s13.1, s13.2.1, s13.2.2.1, s13.2.2.2.1, s13.2.2.2.2))))
else (
(v_loop (f_X2_runAll_B35 w0 w1 w2 w3 w4 w5 s13.1) 21 ((0 : Int32), s13.2.1, s13.2.2.1, s13.2.2.2.1, s13.2.2.2.2)).bind fun q_25 =>
if q_25.1 = 0 then (
some (.inr (0, (s13.1, q_25.2.2.1, q_25.2.2.2.1, q_25.2.2.2.2.1, q_25.2.2.2.2.2))))
else (
p_let (s13.1 + (1 : Int32)) fun x_27 =>
some (.inl (x_27, q_25.2.2.1, q_25.2.2.2.1, q_25.2.2.2.2.1, q_25.2.2.2.2.2)))))
def f_X2_runAll (S : v_S) (I : v_I) (J : v_J) (F : v_F) (p0 : Nat) (p1 : Nat) (p2 : Nat) (p3 : Nat) (p4 : Nat) (p5 : Nat) : Option (Int32 × v_S × v_I × v_J × v_F) :=
(p_ob S 2 p0).bind fun _ =>
p_let (v_up I p0 0 (0 : Int32)) fun I_2 =>
p_let (v_up I_2 p0 1 (-1 : Int32)) fun I_4 =>
(v_loop (f_X2_runAll_B13 p0 p1 p2 p3 p4 p5) 13 ((0 : Int32), S, I_4, J, F)).bind fun q_30 =>
if q_30.1 = 0 then (
some (q_30.2.1, q_30.2.2.1, q_30.2.2.2.1, q_30.2.2.2.2.1, q_30.2.2.2.2.2))
else (
some ((-1 : Int32), q_30.2.2.1, q_30.2.2.2.1, q_30.2.2.2.2.1, q_30.2.2.2.2.2))
set_option maxHeartbeats 4000000 in
set_option maxRecDepth 100000 in
theorem t_X2_runAll {p0 : Nat} {p1 : Nat} {p2 : Nat} {p3 : Nat} {p4 : Nat} {p5 : Nat} {r : Int32 × v_S × v_I × v_J × v_F} (h : f_X2_runAll S I J F p0 p1 p2 p3 p4 p5 = some r) : v_R l B D ac (v_EE B wa wb wt sb sL sx) yX2_runAll cX2_runAll 8 (some .int) 7 819 5460 [.ref (B + p0), .ref (B + p1), .ref (B + p2), .ref (B + p3), .ref (B + p4), .ref (B + p5)] S I J F (v_D (some (.int r.1)) r.2.1 r.2.2.1 r.2.2.2.1 r.2.2.2.2) := by
  refine v_R.of (by decide) (Nat.le_of_ble_eq_true rfl) fun d hd => ?_
  generalize hQ : v_D (some (.int r.1)) r.2.1 r.2.2.1 r.2.2.2.1 r.2.2.2.2 = Q
  have b13 : ∀ (n13 : Nat) (w0 : Nat) (w1 : Nat) (w2 : Nat) (w3 : Nat) (w4 : Nat) (w5 : Nat) (s13 : Int32 × v_S × v_I × v_J × v_F) (rx13 : (Int32 × v_S × v_I × v_J × v_F) ⊕ (Nat × (Int32 × v_S × v_I × v_J × v_F))), f_X2_runAll_B13 w0 w1 w2 w3 w4 w5 s13 = some rx13 → n13 + 1 ≤ 13 → v_K ((fun (nP : Nat) (sP : Int32 × v_S × v_I × v_J × v_F) => nP ≤ 13 → V l B D ac (v_EE B wa wb wt sb sL sx) yX2_runAll cX2_runAll 8 (some .int) d 819 5460 (0 + (13 - nP) * 63) (0 + (13 - nP) * 420) sP.2.1 sP.2.2.1 sP.2.2.2.1 sP.2.2.2.2 13 [(0, .ref (B + w0)), (1, .ref (B + w1)), (2, .ref (B + w2)), (3, .ref (B + w3)), (4, .ref (B + w4)), (5, .ref (B + w5)), (6, .int sP.1)] [] Q) n13) (fun (rE : Nat × (Int32 × v_S × v_I × v_J × v_F)) => (rE.1 = 0 → V l B D ac (v_EE B wa wb wt sb sL sx) yX2_runAll cX2_runAll 8 (some .int) d 819 5460 (0 + 13 * 63) (0 + 13 * 420) rE.2.2.1 rE.2.2.2.1 rE.2.2.2.2.1 rE.2.2.2.2.2 63 [(6, .int rE.2.1)] [] Q) ∧ (¬ rE.1 = 0 → V l B D ac (v_EE B wa wb wt sb sL sx) yX2_runAll cX2_runAll 8 (some .int) d 819 5460 (0 + 13 * 63) (0 + 13 * 420) rE.2.2.1 rE.2.2.2.1 rE.2.2.2.2.1 rE.2.2.2.2.2 78 [] [] Q)) rx13 → V l B D ac (v_EE B wa wb wt sb sL sx) yX2_runAll cX2_runAll 8 (some .int) d 819 5460 (0 + (13 - (n13 + 1)) * 63) (0 + (13 - (n13 + 1)) * 420) s13.2.1 s13.2.2.1 s13.2.2.2.1 s13.2.2.2.2 13 [(0, .ref (B + w0)), (1, .ref (B + w1)), (2, .ref (B + w2)), (3, .ref (B + w3)), (4, .ref (B + w4)), (5, .ref (B + w5)), (6, .int s13.1)] [] Q := by
    intro n13 w0 w1 w2 w3 w4 w5 s13 rx13 h hN hk
    have b35 : ∀ (n35 : Nat) (w0 : Nat) (w1 : Nat) (w2 : Nat) (w3 : Nat) (w4 : Nat) (w5 : Nat) (w6 : Int32) (s35 : Int32 × v_S × v_I × v_J × v_F) (rx35 : (Int32 × v_S × v_I × v_J × v_F) ⊕ (Nat × (Int32 × v_S × v_I × v_J × v_F))), f_X2_runAll_B35 w0 w1 w2 w3 w4 w5 w6 s35 = some rx35 → n35 + 1 ≤ 21 → v_K ((fun (nP : Nat) (sP : Int32 × v_S × v_I × v_J × v_F) => nP ≤ 21 → V l B D ac (v_EE B wa wb wt sb sL sx) yX2_runAll cX2_runAll 8 (some .int) d 819 5460 ((0 + (13 - (n13 + 1)) * 63) + (21 - nP) * 3) ((0 + (13 - (n13 + 1)) * 420) + (21 - nP) * 20) sP.2.1 sP.2.2.1 sP.2.2.2.1 sP.2.2.2.2 35 [(0, .ref (B + w0)), (1, .ref (B + w1)), (2, .ref (B + w2)), (3, .ref (B + w3)), (4, .ref (B + w4)), (5, .ref (B + w5)), (6, .int w6), (7, .int sP.1)] [] Q) n35) (fun (rE : Nat × (Int32 × v_S × v_I × v_J × v_F)) => (rE.1 = 0 → V l B D ac (v_EE B wa wb wt sb sL sx) yX2_runAll cX2_runAll 8 (some .int) d 819 5460 ((0 + (13 - (n13 + 1)) * 63) + 21 * 3) ((0 + (13 - (n13 + 1)) * 420) + 21 * 20) rE.2.2.1 rE.2.2.2.1 rE.2.2.2.2.1 rE.2.2.2.2.2 63 [(6, .int w6)] [] Q) ∧ (¬ rE.1 = 0 → V l B D ac (v_EE B wa wb wt sb sL sx) yX2_runAll cX2_runAll 8 (some .int) d 819 5460 ((0 + (13 - (n13 + 1)) * 63) + 21 * 3) ((0 + (13 - (n13 + 1)) * 420) + 21 * 20) rE.2.2.1 rE.2.2.2.1 rE.2.2.2.2.1 rE.2.2.2.2.2 72 [(0, .ref (B + w0)), (1, .ref (B + w1)), (2, .ref (B + w2)), (3, .ref (B + w3)), (4, .ref (B + w4)), (5, .ref (B + w5)), (6, .int w6)] [] Q)) rx35 → V l B D ac (v_EE B wa wb wt sb sL sx) yX2_runAll cX2_runAll 8 (some .int) d 819 5460 ((0 + (13 - (n13 + 1)) * 63) + (21 - (n35 + 1)) * 3) ((0 + (13 - (n13 + 1)) * 420) + (21 - (n35 + 1)) * 20) s35.2.1 s35.2.2.1 s35.2.2.2.1 s35.2.2.2.2 35 [(0, .ref (B + w0)), (1, .ref (B + w1)), (2, .ref (B + w2)), (3, .ref (B + w3)), (4, .ref (B + w4)), (5, .ref (B + w5)), (6, .int w6), (7, .int s35.1)] [] Q := by
      intro n35 w0 w1 w2 w3 w4 w5 w6 s35 rx35 h hN hk
      unfold f_X2_runAll_B35 at h
      refine v_iload dX2_runAll_35 rfl ?_
      refine v_aload_n dX2_runAll_37 rfl ?_
      replace h := p_bind_elim h
      obtain ⟨_, q_13, h⟩ := h
      have q_13 := p_ob_spec q_13
      replace h := p_bind_elim h
      obtain ⟨a_14, q_15, h⟩ := h
      refine v_getR q_15 rfl fl_X2_30 dX2_runAll_38 q_13 ?_
      refine v_iload dX2_runAll_41 rfl ?_
      replace h := p_bind_elim h
      obtain ⟨j_16, q_17, h⟩ := h
      refine v_ialdP dX2_runAll_43 q_17 ?_
      refine v_icmp_ge 72 dX2_runAll_44 (by decide) (fun c_18 => ?_) (fun c_18 => ?_)
      · rw [if_pos c_18] at h
        cases h
        refine v_sub [(0, .ref (B + w0)), (1, .ref (B + w1)), (2, .ref (B + w2)), (3, .ref (B + w3)), (4, .ref (B + w4)), (5, .ref (B + w5)), (6, .int w6)] ⟨rfl, rfl, rfl, rfl, rfl, rfl, rfl, trivial⟩ ?_
        exact v_widen (by omega) (by omega) ((hk.2 (Nat.succ_ne_zero _)))
      · rw [if_neg c_18] at h
        refine v_aload_n dX2_runAll_47 rfl ?_
        refine v_aload_n dX2_runAll_48 rfl ?_
        refine v_iload dX2_runAll_49 rfl ?_
        refine v_aload_n dX2_runAll_51 rfl ?_
        refine v_aload_n dX2_runAll_52 rfl ?_
        refine v_aload dX2_runAll_53 rfl ?_
        refine v_aload dX2_runAll_55 rfl ?_
        replace h := p_bind_elim h
        obtain ⟨_, q_21, h⟩ := h
        have q_21 := p_ob_spec q_21
        replace h := p_bind_elim h
        obtain ⟨r_19, q_20, h⟩ := h
        refine v_cVrc (t_X2_runOnce q_20) cal_X2_runOnce ml_X2_34 sel_X2_runOnce q_21 kk_2 dX2_runAll_57 (by omega) (by (try simp only [v_n]); omega) (by (try simp only [v_n]); omega) (Nat.le_of_ble_eq_true rfl) rfl ?_
        refine v_if_ne 66 dX2_runAll_60 (by decide) (fun c_22 => ?_) (fun c_22 => ?_)
        · rw [if_neg c_22] at h
          replace h := p_let_elim h
          obtain ⟨x_23, h_24, h⟩ := h
          refine v_iincE (1 : Int32) dX2_runAll_66 (by decide) rfl (by decide) ?_
          rw [← h_24]
          refine v_sub [(0, .ref (B + w0)), (1, .ref (B + w1)), (2, .ref (B + w2)), (3, .ref (B + w3)), (4, .ref (B + w4)), (5, .ref (B + w5)), (6, .int w6), (7, .int x_23)] ⟨rfl, rfl, rfl, rfl, rfl, rfl, rfl, rfl, trivial⟩ ?_
          refine v_goto 35 dX2_runAll_69 (by decide) ?_
          cases h
          refine v_sub [(0, .ref (B + w0)), (1, .ref (B + w1)), (2, .ref (B + w2)), (3, .ref (B + w3)), (4, .ref (B + w4)), (5, .ref (B + w5)), (6, .int w6), (7, .int x_23)] ⟨rfl, rfl, rfl, rfl, rfl, rfl, rfl, rfl, trivial⟩ ?_
          have hk_ : n35 ≤ 21 → _ := hk
          exact v_widen (by omega) (by omega) (hk_ (by omega))
        · rw [if_pos c_22] at h
          cases h
          refine v_sub [(6, .int w6)] ⟨rfl, trivial⟩ ?_
          exact v_widen (by omega) (by omega) (hk.1 rfl)
    unfold f_X2_runAll_B13 at h
    refine v_iload dX2_runAll_13 rfl ?_
    refine v_aload_n dX2_runAll_15 rfl ?_
    replace h := p_bind_elim h
    obtain ⟨_, q_6, h⟩ := h
    have q_6 := p_ob_spec q_6
    refine v_getI rfl fl_X2_25 dX2_runAll_16 q_6 ?_
    refine v_icmp_ge 78 dX2_runAll_19 (by decide) (fun c_7 => ?_) (fun c_7 => ?_)
    · rw [if_pos c_7] at h
      cases h
      refine v_sub [] trivial ?_
      exact v_widen (by omega) (by omega) ((hk.2 (Nat.succ_ne_zero _)))
    · rw [if_neg c_7] at h
      refine v_iload dX2_runAll_22 rfl ?_
      refine v_aload_n dX2_runAll_24 rfl ?_
      replace h := p_bind_elim h
      obtain ⟨a_8, q_9, h⟩ := h
      refine v_getR q_9 rfl fl_X2_30 dX2_runAll_25 q_6 ?_
      replace h := p_bind_elim h
      obtain ⟨x_10, q_11, h⟩ := h
      refine v_alenPI dX2_runAll_28 q_11 ?_
      refine v_icmp_ge 78 dX2_runAll_29 (by decide) (fun c_12 => ?_) (fun c_12 => ?_)
      · rw [if_pos c_12] at h
        cases h
        refine v_sub [] trivial ?_
        exact v_widen (by omega) (by omega) ((hk.2 (Nat.succ_ne_zero _)))
      · rw [if_neg c_12] at h
        refine v_iconstE (0 : Int32) dX2_runAll_32 (by decide) ?_
        refine v_istore dX2_runAll_33 (by decide) ?_
        refine v_sub [(0, .ref (B + w0)), (1, .ref (B + w1)), (2, .ref (B + w2)), (3, .ref (B + w3)), (4, .ref (B + w4)), (5, .ref (B + w5)), (6, .int s13.1), (7, .int (0 : Int32))] ⟨rfl, rfl, rfl, rfl, rfl, rfl, rfl, rfl, trivial⟩ ?_
        replace h := p_bind_elim h
        obtain ⟨q_25, h_26, h⟩ := h
        refine v_sub [(0, .ref (B + w0)), (1, .ref (B + w1)), (2, .ref (B + w2)), (3, .ref (B + w3)), (4, .ref (B + w4)), (5, .ref (B + w5)), (6, .int s13.1), (7, .int (0 : Int32))] ⟨rfl, rfl, rfl, rfl, rfl, rfl, rfl, rfl, trivial⟩ ?_
        refine v_widen (cn' := (0 + (13 - (n13 + 1)) * 63) + (21 - 21) * 3) (sn' := (0 + (13 - (n13 + 1)) * 420) + (21 - 21) * 20) (by (try simp only [v_n]); omega) (by (try simp only [v_n]); omega) ?_
        refine v_loopC (fun (nP : Nat) (sP : Int32 × v_S × v_I × v_J × v_F) => nP ≤ 21 → V l B D ac (v_EE B wa wb wt sb sL sx) yX2_runAll cX2_runAll 8 (some .int) d 819 5460 ((0 + (13 - (n13 + 1)) * 63) + (21 - nP) * 3) ((0 + (13 - (n13 + 1)) * 420) + (21 - nP) * 20) sP.2.1 sP.2.2.1 sP.2.2.2.1 sP.2.2.2.2 35 [(0, .ref (B + w0)), (1, .ref (B + w1)), (2, .ref (B + w2)), (3, .ref (B + w3)), (4, .ref (B + w4)), (5, .ref (B + w5)), (6, .int s13.1), (7, .int sP.1)] [] Q) (fun (rE : Nat × (Int32 × v_S × v_I × v_J × v_F)) => (rE.1 = 0 → V l B D ac (v_EE B wa wb wt sb sL sx) yX2_runAll cX2_runAll 8 (some .int) d 819 5460 ((0 + (13 - (n13 + 1)) * 63) + 21 * 3) ((0 + (13 - (n13 + 1)) * 420) + 21 * 20) rE.2.2.1 rE.2.2.2.1 rE.2.2.2.2.1 rE.2.2.2.2.2 63 [(6, .int s13.1)] [] Q) ∧ (¬ rE.1 = 0 → V l B D ac (v_EE B wa wb wt sb sL sx) yX2_runAll cX2_runAll 8 (some .int) d 819 5460 ((0 + (13 - (n13 + 1)) * 63) + 21 * 3) ((0 + (13 - (n13 + 1)) * 420) + 21 * 20) rE.2.2.1 rE.2.2.2.1 rE.2.2.2.2.1 rE.2.2.2.2.2 72 [(0, .ref (B + w0)), (1, .ref (B + w1)), (2, .ref (B + w2)), (3, .ref (B + w3)), (4, .ref (B + w4)), (5, .ref (B + w5)), (6, .int s13.1)] [] Q)) (fun n_ s_ x_ hb hk hn => b35 n_ _ _ _ _ _ _ _ s_ x_ hb hn hk) (r := q_25) ?_ h_26 (Nat.le_refl _)
        try dsimp only
        refine ⟨fun c_29 => ?_, fun c_29 => ?_⟩
        · rw [if_pos c_29] at h
          cases h
          refine v_sub [(6, .int s13.1)] ⟨rfl, trivial⟩ ?_
          exact v_widen (by omega) (by omega) (hk.1 rfl)
        · rw [if_neg c_29] at h
          replace h := p_let_elim h
          obtain ⟨x_27, h_28, h⟩ := h
          refine v_iincE (1 : Int32) dX2_runAll_72 (by decide) rfl (by decide) ?_
          rw [← h_28]
          refine v_sub [(0, .ref (B + w0)), (1, .ref (B + w1)), (2, .ref (B + w2)), (3, .ref (B + w3)), (4, .ref (B + w4)), (5, .ref (B + w5)), (6, .int x_27)] ⟨rfl, rfl, rfl, rfl, rfl, rfl, rfl, trivial⟩ ?_
          refine v_goto 13 dX2_runAll_75 (by decide) ?_
          cases h
          refine v_sub [(0, .ref (B + w0)), (1, .ref (B + w1)), (2, .ref (B + w2)), (3, .ref (B + w3)), (4, .ref (B + w4)), (5, .ref (B + w5)), (6, .int x_27)] ⟨rfl, rfl, rfl, rfl, rfl, rfl, rfl, trivial⟩ ?_
          have hk_ : n13 ≤ 13 → _ := hk
          exact v_widen (by omega) (by omega) (hk_ (by omega))
  unfold f_X2_runAll at h
  refine v_sub [(0, .ref (B + p0)), (1, .ref (B + p1)), (2, .ref (B + p2)), (3, .ref (B + p3)), (4, .ref (B + p4)), (5, .ref (B + p5))] ⟨rfl, rfl, rfl, rfl, rfl, rfl, trivial⟩ ?_
  refine v_aload_n dX2_runAll_0 rfl ?_
  refine v_iconstE (0 : Int32) dX2_runAll_1 (by decide) ?_
  replace h := p_bind_elim h
  obtain ⟨_, q_1, h⟩ := h
  have q_1 := p_ob_spec q_1
  refine v_putI rfl fl_X2_9 dX2_runAll_2 q_1 rfl rfl ?_
  replace h := p_let_elim h
  obtain ⟨I_2, h_3, h⟩ := h
  rw [← h_3]
  refine v_aload_n dX2_runAll_5 rfl ?_
  refine v_iconstE (-1 : Int32) dX2_runAll_6 (by decide) ?_
  refine v_putI rfl fl_X2_15 dX2_runAll_7 q_1 rfl rfl ?_
  replace h := p_let_elim h
  obtain ⟨I_4, h_5, h⟩ := h
  rw [← h_5]
  refine v_iconstE (0 : Int32) dX2_runAll_10 (by decide) ?_
  refine v_istore dX2_runAll_11 (by decide) ?_
  refine v_sub [(0, .ref (B + p0)), (1, .ref (B + p1)), (2, .ref (B + p2)), (3, .ref (B + p3)), (4, .ref (B + p4)), (5, .ref (B + p5)), (6, .int (0 : Int32))] ⟨rfl, rfl, rfl, rfl, rfl, rfl, rfl, trivial⟩ ?_
  replace h := p_bind_elim h
  obtain ⟨q_30, h_31, h⟩ := h
  refine v_sub [(0, .ref (B + p0)), (1, .ref (B + p1)), (2, .ref (B + p2)), (3, .ref (B + p3)), (4, .ref (B + p4)), (5, .ref (B + p5)), (6, .int (0 : Int32))] ⟨rfl, rfl, rfl, rfl, rfl, rfl, rfl, trivial⟩ ?_
  refine v_widen (cn' := 0 + (13 - 13) * 63) (sn' := 0 + (13 - 13) * 420) (by (try simp only [v_n]); omega) (by (try simp only [v_n]); omega) ?_
  refine v_loopC (fun (nP : Nat) (sP : Int32 × v_S × v_I × v_J × v_F) => nP ≤ 13 → V l B D ac (v_EE B wa wb wt sb sL sx) yX2_runAll cX2_runAll 8 (some .int) d 819 5460 (0 + (13 - nP) * 63) (0 + (13 - nP) * 420) sP.2.1 sP.2.2.1 sP.2.2.2.1 sP.2.2.2.2 13 [(0, .ref (B + p0)), (1, .ref (B + p1)), (2, .ref (B + p2)), (3, .ref (B + p3)), (4, .ref (B + p4)), (5, .ref (B + p5)), (6, .int sP.1)] [] Q) (fun (rE : Nat × (Int32 × v_S × v_I × v_J × v_F)) => (rE.1 = 0 → V l B D ac (v_EE B wa wb wt sb sL sx) yX2_runAll cX2_runAll 8 (some .int) d 819 5460 (0 + 13 * 63) (0 + 13 * 420) rE.2.2.1 rE.2.2.2.1 rE.2.2.2.2.1 rE.2.2.2.2.2 63 [(6, .int rE.2.1)] [] Q) ∧ (¬ rE.1 = 0 → V l B D ac (v_EE B wa wb wt sb sL sx) yX2_runAll cX2_runAll 8 (some .int) d 819 5460 (0 + 13 * 63) (0 + 13 * 420) rE.2.2.1 rE.2.2.2.1 rE.2.2.2.2.1 rE.2.2.2.2.2 78 [] [] Q)) (fun n_ s_ x_ hb hk hn => b13 n_ _ _ _ _ _ _ s_ x_ hb hn hk) (r := q_30) ?_ h_31 (Nat.le_refl _)
  try dsimp only
  refine ⟨fun c_32 => ?_, fun c_32 => ?_⟩
  · rw [if_pos c_32] at h
    refine v_iload dX2_runAll_63 rfl ?_
    cases h
    exact v_iret dX2_runAll_65 rfl (by (try simp only [v_n]); omega) (by (try simp only [v_n]); omega) (by rw [← hQ]; exact ⟨rfl, rfl, rfl, rfl, rfl⟩)
  · rw [if_neg c_32] at h
    refine v_iconstE (-1 : Int32) dX2_runAll_78 (by decide) ?_
    cases h
    exact v_iret dX2_runAll_79 rfl (by (try simp only [v_n]); omega) (by (try simp only [v_n]); omega) (by rw [← hQ]; exact ⟨rfl, rfl, rfl, rfl, rfl⟩)

def f_X9_orders (S : v_S) (I : v_I) (J : v_J) (F : v_F) (p0 : Nat) : Option (Int32 × v_S × v_I × v_J × v_F) :=
(p_ob S 9 p0).bind fun _ =>
p_let (v_up I p0 17 (-1 : Int32)) fun I_2 =>
(F p0 9).bind fun a_4 =>
(F p0 7).bind fun a_6 =>
(p_ob S 6 a_4).bind fun _ =>
(f_X6_read S I_2 F a_4 a_6 (I_2 p0 8) (1 : Int32)).bind fun r_8 =>
p_let (v_up r_8.2 p0 16 r_8.1) fun I_11 =>
p_let (v_up I_11 p0 8 (0 : Int32)) fun I_13 =>
if (I_13 p0 16) = (-1 : Int32) then (
(F p0 11).bind fun a_16 =>
(F p0 0).bind fun a_18 =>
(p_ob S 0 a_18).bind fun _ =>
(F a_18 1).bind fun a_21 =>
(p_ob S 3 a_16).bind fun _ =>
(f_X3_copyFrom S I_13 F a_16 a_21).bind fun r_23 =>
(F p0 10).bind fun a_26 =>
(F p0 9).bind fun a_28 =>
(p_ob S 6 a_28).bind fun _ =>
(F a_28 0).bind fun a_31 =>
(F p0 0).bind fun a_33 =>
(F p0 11).bind fun a_35 =>
(F p0 3).bind fun a_37 =>
(p_ob S 2 a_26).bind fun _ =>
(f_X2_runAllN S r_23 J F a_26 a_31 a_33 a_35 a_37).bind fun r_39 =>
p_let (v_up r_39.2.1 p0 17 r_39.1) fun I_42 =>
if (I_42 p0 17) = (-1 : Int32) then (
(F p0 10).bind fun a_45 =>
(F p0 9).bind fun a_47 =>
(p_ob S 6 a_47).bind fun _ =>
(F a_47 0).bind fun a_50 =>
(F p0 0).bind fun a_52 =>
(F p0 0).bind fun a_54 =>
(p_ob S 0 a_54).bind fun _ =>
(F a_54 1).bind fun a_57 =>
(F p0 3).bind fun a_59 =>
(F p0 2).bind fun a_61 =>
(p_ob S 2 a_45).bind fun _ =>
(f_X2_runAll S I_42 r_39.2.2 F a_45 a_50 a_52 a_57 a_59 a_61).bind fun r_63 =>
(p_ob r_63.2.1 9 p0).bind fun _ =>
(r_63.2.2.2.2 p0 10).bind fun a_67 =>
(p_ob r_63.2.1 2 a_67).bind fun _ =>
(f_X9_accept r_63.2.1 r_63.2.2.1 p0 (r_63.2.2.1 a_67 0)).bind fun r_70 =>
some (r_70.1, r_63.2.1, r_70.2, r_63.2.2.2.1, r_63.2.2.2.2))
else (
(f_X9_refuse S I_42 F p0 (-3 : Int32)).bind fun r_72 =>
some (r_72.1, S, r_72.2, r_39.2.2, F)))
else (
(f_X9_refuse S I_13 F p0 (-6 : Int32)).bind fun r_74 =>
some (r_74.1, S, r_74.2, J, F))
set_option maxHeartbeats 4000000 in
set_option maxRecDepth 100000 in
theorem t_X9_orders {p0 : Nat} {r : Int32 × v_S × v_I × v_J × v_F} (h : f_X9_orders S I J F p0 = some r) : v_R l B D ac (v_EE B wa wb wt sb sL sx) yX9_orders cX9_orders 1 (some .int) 107 819 5460 [.ref (B + p0)] S I J F (v_D (some (.int r.1)) r.2.1 r.2.2.1 r.2.2.2.1 r.2.2.2.2) := by
  refine v_R.of (by decide) (Nat.le_of_ble_eq_true rfl) fun d hd => ?_
  generalize hQ : v_D (some (.int r.1)) r.2.1 r.2.2.1 r.2.2.2.1 r.2.2.2.2 = Q
  unfold f_X9_orders at h
  refine v_sub [(0, .ref (B + p0))] ⟨rfl, trivial⟩ ?_
  refine v_aload_n dX9_orders_0 rfl ?_
  refine v_iconstE (-1 : Int32) dX9_orders_1 (by decide) ?_
  replace h := p_bind_elim h
  obtain ⟨_, q_1, h⟩ := h
  have q_1 := p_ob_spec q_1
  refine v_putI rfl fl_X9_92 dX9_orders_2 q_1 rfl rfl ?_
  replace h := p_let_elim h
  obtain ⟨I_2, h_3, h⟩ := h
  rw [← h_3]
  refine v_aload_n dX9_orders_5 rfl ?_
  refine v_aload_n dX9_orders_6 rfl ?_
  replace h := p_bind_elim h
  obtain ⟨a_4, q_5, h⟩ := h
  refine v_getR q_5 rfl fl_X9_62 dX9_orders_7 q_1 ?_
  refine v_aload_n dX9_orders_10 rfl ?_
  replace h := p_bind_elim h
  obtain ⟨a_6, q_7, h⟩ := h
  refine v_getR q_7 rfl fl_X9_52 dX9_orders_11 q_1 ?_
  refine v_aload_n dX9_orders_14 rfl ?_
  refine v_getI rfl fl_X9_56 dX9_orders_15 q_1 ?_
  refine v_iconstE (1 : Int32) dX9_orders_18 (by decide) ?_
  replace h := p_bind_elim h
  obtain ⟨_, q_10, h⟩ := h
  have q_10 := p_ob_spec q_10
  replace h := p_bind_elim h
  obtain ⟨r_8, q_9, h⟩ := h
  refine v_cVr (t_X6_read q_9) cal_X6_read ml_X9_166 sel_X6_read q_10 kk_6 dX9_orders_19 (by omega) (by decide) (by decide) (Nat.le_of_ble_eq_true rfl) rfl ?_
  refine v_putI rfl fl_X9_89 dX9_orders_22 q_1 rfl rfl ?_
  replace h := p_let_elim h
  obtain ⟨I_11, h_12, h⟩ := h
  rw [← h_12]
  refine v_aload_n dX9_orders_25 rfl ?_
  refine v_iconstE (0 : Int32) dX9_orders_26 (by decide) ?_
  refine v_putI rfl fl_X9_56 dX9_orders_27 q_1 rfl rfl ?_
  replace h := p_let_elim h
  obtain ⟨I_13, h_14, h⟩ := h
  rw [← h_14]
  refine v_aload_n dX9_orders_30 rfl ?_
  refine v_getI rfl fl_X9_89 dX9_orders_31 q_1 ?_
  refine v_iconstE (-1 : Int32) dX9_orders_34 (by decide) ?_
  refine v_icmp_eq 45 dX9_orders_35 (by decide) (fun c_15 => ?_) (fun c_15 => ?_)
  · rw [if_pos c_15] at h
    refine v_aload_n dX9_orders_45 rfl ?_
    replace h := p_bind_elim h
    obtain ⟨a_16, q_17, h⟩ := h
    refine v_getR q_17 rfl fl_X9_73 dX9_orders_46 q_1 ?_
    refine v_aload_n dX9_orders_49 rfl ?_
    replace h := p_bind_elim h
    obtain ⟨a_18, q_19, h⟩ := h
    refine v_getR q_19 rfl fl_X9_12 dX9_orders_50 q_1 ?_
    replace h := p_bind_elim h
    obtain ⟨_, q_20, h⟩ := h
    have q_20 := p_ob_spec q_20
    replace h := p_bind_elim h
    obtain ⟨a_21, q_22, h⟩ := h
    refine v_getR q_22 rfl fl_X9_123 dX9_orders_53 q_20 ?_
    replace h := p_bind_elim h
    obtain ⟨_, q_25, h⟩ := h
    have q_25 := p_ob_spec q_25
    replace h := p_bind_elim h
    obtain ⟨r_23, q_24, h⟩ := h
    refine v_cVn (t_X3_copyFrom q_24) cal_X3_copyFrom ml_X9_184 sel_X3_copyFrom q_25 kk_3 dX9_orders_56 (by omega) (by decide) (by decide) (Nat.le_of_ble_eq_true rfl) rfl ?_
    refine v_aload_n dX9_orders_59 rfl ?_
    refine v_aload_n dX9_orders_60 rfl ?_
    replace h := p_bind_elim h
    obtain ⟨a_26, q_27, h⟩ := h
    refine v_getR q_27 rfl fl_X9_69 dX9_orders_61 q_1 ?_
    refine v_aload_n dX9_orders_64 rfl ?_
    replace h := p_bind_elim h
    obtain ⟨a_28, q_29, h⟩ := h
    refine v_getR q_29 rfl fl_X9_62 dX9_orders_65 q_1 ?_
    replace h := p_bind_elim h
    obtain ⟨_, q_30, h⟩ := h
    have q_30 := p_ob_spec q_30
    replace h := p_bind_elim h
    obtain ⟨a_31, q_32, h⟩ := h
    refine v_getR q_32 rfl fl_X9_170 dX9_orders_68 q_30 ?_
    refine v_aload_n dX9_orders_71 rfl ?_
    replace h := p_bind_elim h
    obtain ⟨a_33, q_34, h⟩ := h
    refine v_getR q_34 rfl fl_X9_12 dX9_orders_72 q_1 ?_
    refine v_aload_n dX9_orders_75 rfl ?_
    replace h := p_bind_elim h
    obtain ⟨a_35, q_36, h⟩ := h
    refine v_getR q_36 rfl fl_X9_73 dX9_orders_76 q_1 ?_
    refine v_aload_n dX9_orders_79 rfl ?_
    replace h := p_bind_elim h
    obtain ⟨a_37, q_38, h⟩ := h
    refine v_getR q_38 rfl fl_X9_30 dX9_orders_80 q_1 ?_
    refine v_null dX9_orders_83 ?_
    replace h := p_bind_elim h
    obtain ⟨_, q_41, h⟩ := h
    have q_41 := p_ob_spec q_41
    replace h := p_bind_elim h
    obtain ⟨r_39, q_40, h⟩ := h
    refine v_cVr (t_X2_runAllN q_40) cal_X2_runAll ml_X9_188 sel_X2_runAll q_41 kk_2 dX9_orders_84 (by omega) (by decide) (by decide) (Nat.le_of_ble_eq_true rfl) rfl ?_
    refine v_putI rfl fl_X9_92 dX9_orders_87 q_1 rfl rfl ?_
    replace h := p_let_elim h
    obtain ⟨I_42, h_43, h⟩ := h
    rw [← h_43]
    refine v_aload_n dX9_orders_90 rfl ?_
    refine v_getI rfl fl_X9_92 dX9_orders_91 q_1 ?_
    refine v_iconstE (-1 : Int32) dX9_orders_94 (by decide) ?_
    refine v_icmp_eq 105 dX9_orders_95 (by decide) (fun c_44 => ?_) (fun c_44 => ?_)
    · rw [if_pos c_44] at h
      refine v_aload_n dX9_orders_105 rfl ?_
      replace h := p_bind_elim h
      obtain ⟨a_45, q_46, h⟩ := h
      refine v_getR q_46 rfl fl_X9_69 dX9_orders_106 q_1 ?_
      refine v_aload_n dX9_orders_109 rfl ?_
      replace h := p_bind_elim h
      obtain ⟨a_47, q_48, h⟩ := h
      refine v_getR q_48 rfl fl_X9_62 dX9_orders_110 q_1 ?_
      replace h := p_bind_elim h
      obtain ⟨_, q_49, h⟩ := h
      have q_49 := p_ob_spec q_49
      replace h := p_bind_elim h
      obtain ⟨a_50, q_51, h⟩ := h
      refine v_getR q_51 rfl fl_X9_170 dX9_orders_113 q_49 ?_
      refine v_aload_n dX9_orders_116 rfl ?_
      replace h := p_bind_elim h
      obtain ⟨a_52, q_53, h⟩ := h
      refine v_getR q_53 rfl fl_X9_12 dX9_orders_117 q_1 ?_
      refine v_aload_n dX9_orders_120 rfl ?_
      replace h := p_bind_elim h
      obtain ⟨a_54, q_55, h⟩ := h
      refine v_getR q_55 rfl fl_X9_12 dX9_orders_121 q_1 ?_
      replace h := p_bind_elim h
      obtain ⟨_, q_56, h⟩ := h
      have q_56 := p_ob_spec q_56
      replace h := p_bind_elim h
      obtain ⟨a_57, q_58, h⟩ := h
      refine v_getR q_58 rfl fl_X9_123 dX9_orders_124 q_56 ?_
      refine v_aload_n dX9_orders_127 rfl ?_
      replace h := p_bind_elim h
      obtain ⟨a_59, q_60, h⟩ := h
      refine v_getR q_60 rfl fl_X9_30 dX9_orders_128 q_1 ?_
      refine v_aload_n dX9_orders_131 rfl ?_
      replace h := p_bind_elim h
      obtain ⟨a_61, q_62, h⟩ := h
      refine v_getR q_62 rfl fl_X9_23 dX9_orders_132 q_1 ?_
      replace h := p_bind_elim h
      obtain ⟨_, q_65, h⟩ := h
      have q_65 := p_ob_spec q_65
      replace h := p_bind_elim h
      obtain ⟨r_63, q_64, h⟩ := h
      refine v_cVrc (t_X2_runAll q_64) cal_X2_runAll ml_X9_188 sel_X2_runAll q_65 kk_2 dX9_orders_135 (by omega) (by decide) (by decide) (Nat.le_of_ble_eq_true rfl) rfl ?_
      refine v_pop dX9_orders_138 rfl ?_
      refine v_aload_n dX9_orders_139 rfl ?_
      refine v_aload_n dX9_orders_140 rfl ?_
      replace h := p_bind_elim h
      obtain ⟨_, q_66, h⟩ := h
      have q_66 := p_ob_spec q_66
      replace h := p_bind_elim h
      obtain ⟨a_67, q_68, h⟩ := h
      refine v_getR q_68 rfl fl_X9_69 dX9_orders_141 q_66 ?_
      replace h := p_bind_elim h
      obtain ⟨_, q_69, h⟩ := h
      have q_69 := p_ob_spec q_69
      refine v_getI rfl fl_X9_192 dX9_orders_144 q_69 ?_
      replace h := p_bind_elim h
      obtain ⟨r_70, q_71, h⟩ := h
      refine v_cVr (t_X9_accept q_71) cal_X9_accept ml_X9_113 sel_X9_accept q_66 kk_9 dX9_orders_147 (by omega) (by decide) (by decide) (Nat.le_of_ble_eq_true rfl) rfl ?_
      cases h
      exact v_iret dX9_orders_150 rfl (by decide) (by decide) (by rw [← hQ]; exact ⟨rfl, rfl, rfl, rfl, rfl⟩)
    · rw [if_neg c_44] at h
      refine v_aload_n dX9_orders_98 rfl ?_
      refine v_bipush (-3 : Int32) dX9_orders_99 (by decide) ?_
      replace h := p_bind_elim h
      obtain ⟨r_72, q_73, h⟩ := h
      refine v_cVr (t_X9_refuse q_73) cal_X9_refuse ml_X9_99 sel_X9_refuse q_1 kk_9 dX9_orders_101 (by omega) (by decide) (by decide) (Nat.le_of_ble_eq_true rfl) rfl ?_
      cases h
      exact v_iret dX9_orders_104 rfl (by decide) (by decide) (by rw [← hQ]; exact ⟨rfl, rfl, rfl, rfl, rfl⟩)
  · rw [if_neg c_15] at h
    refine v_aload_n dX9_orders_38 rfl ?_
    refine v_bipush (-6 : Int32) dX9_orders_39 (by decide) ?_
    replace h := p_bind_elim h
    obtain ⟨r_74, q_75, h⟩ := h
    refine v_cVr (t_X9_refuse q_75) cal_X9_refuse ml_X9_99 sel_X9_refuse q_1 kk_9 dX9_orders_41 (by omega) (by decide) (by decide) (Nat.le_of_ble_eq_true rfl) rfl ?_
    cases h
    exact v_iret dX9_orders_44 rfl (by decide) (by decide) (by rw [← hQ]; exact ⟨rfl, rfl, rfl, rfl, rfl⟩)

end h12
