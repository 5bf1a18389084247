noncomputable section p02
variable {l : Launch} {B : Nat} {D : va_G} {ac : Nat → ClassId} {wa wb wt sb sL : Nat} {sx : Nat → Int32} {S : v_S} {I : v_I} {J : v_J} {F : v_F}
def f_X9_coax (S : v_S) (I : v_I) (J : v_J) (F : v_F) (p0 : Nat) (p1 : Int32) : Option (Int32 × v_S × v_I × v_J × v_F) :=
(p_ob S 9 p0).bind fun _ =>
(f_X9_act S I J F p0 (1 : Int32) p1 (0 : Int32)).bind fun r_1 =>
some (r_1.1, r_1.2.1, r_1.2.2.1, r_1.2.2.2.1, r_1.2.2.2.2)
set_option maxHeartbeats 4000000 in
set_option maxRecDepth 100000 in
theorem t_X9_coax {p0 : Nat} {p1 : Int32} {r : Int32 × v_S × v_I × v_J × v_F} (h : f_X9_coax S I J F p0 p1 = some r) : v_R l B D ac (v_EE B wa wb wt sb sL sx) yX9_coax cX9_coax 2 (some .int) 7 3 20 [.ref (B + p0), .int p1] S I J F (v_D (some (.int r.1)) r.2.1 r.2.2.1 r.2.2.2.1 r.2.2.2.2) := by
  refine v_R.of (by decide) (Nat.le_of_ble_eq_true rfl) fun d hd => ?_
  generalize hQ : v_D (some (.int r.1)) r.2.1 r.2.2.1 r.2.2.2.1 r.2.2.2.2 = Q
  unfold f_X9_coax at h
  refine v_sub [(0, .ref (B + p0)), (1, .int p1)] ⟨rfl, rfl, trivial⟩ ?_
  refine v_aload_n dX9_coax_0 rfl ?_
  refine v_iconstE (1 : Int32) dX9_coax_1 (by decide) ?_
  refine v_iload_n dX9_coax_2 rfl ?_
  refine v_iconstE (0 : Int32) dX9_coax_3 (by decide) ?_
  replace h := p_bind_elim h
  obtain ⟨_, q_3, h⟩ := h
  have q_3 := p_ob_spec q_3
  replace h := p_bind_elim h
  obtain ⟨r_1, q_2, h⟩ := h
  refine v_cVrc (t_X9_act q_2) cal_X9_act ml_X9_202 sel_X9_act q_3 kk_9 dX9_coax_4 (by omega) (by decide) (by decide) (Nat.le_of_ble_eq_true rfl) rfl ?_
  cases h
  exact v_iret dX9_coax_7 rfl (by decide) (by decide) (by rw [← hQ]; exact ⟨rfl, rfl, rfl, rfl, rfl⟩)

def f_X9_tempt (S : v_S) (I : v_I) (J : v_J) (F : v_F) (p0 : Nat) (p1 : Int32) (p2 : Int32) : Option (Int32 × v_S × v_I × v_J × v_F) :=
(p_ob S 9 p0).bind fun _ =>
(f_X9_act S I J F p0 (2 : Int32) p1 p2).bind fun r_1 =>
some (r_1.1, r_1.2.1, r_1.2.2.1, r_1.2.2.2.1, r_1.2.2.2.2)
set_option maxHeartbeats 4000000 in
set_option maxRecDepth 100000 in
theorem t_X9_tempt {p0 : Nat} {p1 : Int32} {p2 : Int32} {r : Int32 × v_S × v_I × v_J × v_F} (h : f_X9_tempt S I J F p0 p1 p2 = some r) : v_R l B D ac (v_EE B wa wb wt sb sL sx) yX9_tempt cX9_tempt 3 (some .int) 7 3 20 [.ref (B + p0), .int p1, .int p2] S I J F (v_D (some (.int r.1)) r.2.1 r.2.2.1 r.2.2.2.1 r.2.2.2.2) := by
  refine v_R.of (by decide) (Nat.le_of_ble_eq_true rfl) fun d hd => ?_
  generalize hQ : v_D (some (.int r.1)) r.2.1 r.2.2.1 r.2.2.2.1 r.2.2.2.2 = Q
  unfold f_X9_tempt at h
  refine v_sub [(0, .ref (B + p0)), (1, .int p1), (2, .int p2)] ⟨rfl, rfl, rfl, trivial⟩ ?_
  refine v_aload_n dX9_tempt_0 rfl ?_
  refine v_iconstE (2 : Int32) dX9_tempt_1 (by decide) ?_
  refine v_iload_n dX9_tempt_2 rfl ?_
  refine v_iload_n dX9_tempt_3 rfl ?_
  replace h := p_bind_elim h
  obtain ⟨_, q_3, h⟩ := h
  have q_3 := p_ob_spec q_3
  replace h := p_bind_elim h
  obtain ⟨r_1, q_2, h⟩ := h
  refine v_cVrc (t_X9_act q_2) cal_X9_act ml_X9_202 sel_X9_act q_3 kk_9 dX9_tempt_4 (by omega) (by decide) (by decide) (Nat.le_of_ble_eq_true rfl) rfl ?_
  cases h
  exact v_iret dX9_tempt_7 rfl (by decide) (by decide) (by rw [← hQ]; exact ⟨rfl, rfl, rfl, rfl, rfl⟩)

def f_X9_pass (S : v_S) (I : v_I) (J : v_J) (F : v_F) (p0 : Nat) : Option (Int32 × v_S × v_I × v_J × v_F) :=
(p_ob S 9 p0).bind fun _ =>
(f_X9_act S I J F p0 (3 : Int32) (0 : Int32) (0 : Int32)).bind fun r_1 =>
some (r_1.1, r_1.2.1, r_1.2.2.1, r_1.2.2.2.1, r_1.2.2.2.2)
set_option maxHeartbeats 4000000 in
set_option maxRecDepth 100000 in
theorem t_X9_pass {p0 : Nat} {r : Int32 × v_S × v_I × v_J × v_F} (h : f_X9_pass S I J F p0 = some r) : v_R l B D ac (v_EE B wa wb wt sb sL sx) yX9_pass cX9_pass 1 (some .int) 7 3 20 [.ref (B + p0)] S I J F (v_D (some (.int r.1)) r.2.1 r.2.2.1 r.2.2.2.1 r.2.2.2.2) := by
  refine v_R.of (by decide) (Nat.le_of_ble_eq_true rfl) fun d hd => ?_
  generalize hQ : v_D (some (.int r.1)) r.2.1 r.2.2.1 r.2.2.2.1 r.2.2.2.2 = Q
  unfold f_X9_pass at h
  refine v_sub [(0, .ref (B + p0))] ⟨rfl, trivial⟩ ?_
  refine v_aload_n dX9_pass_0 rfl ?_
  refine v_iconstE (3 : Int32) dX9_pass_1 (by decide) ?_
  refine v_iconstE (0 : Int32) dX9_pass_2 (by decide) ?_
  refine v_iconstE (0 : Int32) dX9_pass_3 (by decide) ?_
  replace h := p_bind_elim h
  obtain ⟨_, q_3, h⟩ := h
  have q_3 := p_ob_spec q_3
  replace h := p_bind_elim h
  obtain ⟨r_1, q_2, h⟩ := h
  refine v_cVrc (t_X9_act q_2) cal_X9_act ml_X9_202 sel_X9_act q_3 kk_9 dX9_pass_4 (by omega) (by decide) (by decide) (Nat.le_of_ble_eq_true rfl) rfl ?_
  cases h
  exact v_iret dX9_pass_7 rfl (by decide) (by decide) (by rw [← hQ]; exact ⟨rfl, rfl, rfl, rfl, rfl⟩)

def f_X4_takeBack (S : v_S) (I : v_I) (F : v_F) (p0 : Nat) (p1 : Nat) : Option (Int32 × v_I) :=
(p_ob S 4 p0).bind fun _ =>
p_let ((((I p0 1) + (16 : Int32)) - (1 : Int32)) - (((I p0 1) + (16 : Int32)) - (1 : Int32)) / (16 : Int32) * (16 : Int32)) fun x_2 =>
if (I p0 0) = (0 : Int32) then (
some ((-1 : Int32), I))
else (
if x_2 < (0 : Int32) then (
some ((-1 : Int32), I))
else (
(F p0 3).bind fun a_6 =>
(p_ix S 25 a_6 x_2).bind fun j_8 =>
p_let (F a_6 j_8) fun x_10 =>
p_nul x_10 (
some ((-1 : Int32), I)) (fun a_12 =>
(F p0 3).bind fun a_14 =>
(p_ix S 25 a_14 x_2).bind fun j_16 =>
p_let (F a_14 j_16) fun x_18 =>
(x_18).bind fun a_20 =>
(p_ob S 3 p1).bind fun _ =>
(f_X3_copyFrom S I F p1 a_20).bind fun r_22 =>
p_let (v_up r_22 p0 1 x_2) fun I_25 =>
p_let (v_up I_25 p0 0 ((I_25 p0 0) - (1 : Int32))) fun I_27 =>
(F p0 2).bind fun a_29 =>
(p_ix S 20 a_29 x_2).bind fun j_31 =>
some (I_27 a_29 j_31, I_27))))
set_option maxHeartbeats 4000000 in
set_option maxRecDepth 100000 in
theorem t_X4_takeBack {p0 : Nat} {p1 : Nat} {r : Int32 × v_I} (h : f_X4_takeBack S I F p0 p1 = some r) : v_R l B D ac (v_EE B wa wb wt sb sL sx) yX4_takeBack cX4_takeBack 3 (some .int) 3 0 0 [.ref (B + p0), .ref (B + p1)] S I J F (v_D (some (.int r.1)) S r.2 J F) := by
  refine v_R.of (by decide) (Nat.le_of_ble_eq_true rfl) fun d hd => ?_
  generalize hQ : v_D (some (.int r.1)) S r.2 J F = Q
  unfold f_X4_takeBack at h
  refine v_sub [(0, .ref (B + p0)), (1, .ref (B + p1))] ⟨rfl, rfl, trivial⟩ ?_
  refine v_aload_n dX4_takeBack_0 rfl ?_
  replace h := p_bind_elim h
  obtain ⟨_, q_1, h⟩ := h
  have q_1 := p_ob_spec q_1
  refine v_getI rfl fl_X4_15 dX4_takeBack_1 q_1 ?_
  refine v_bipush (16 : Int32) dX4_takeBack_4 (by decide) ?_
  refine v_iadd dX4_takeBack_6 ?_
  refine v_iconstE (1 : Int32) dX4_takeBack_7 (by decide) ?_
  refine v_isub dX4_takeBack_8 ?_
  refine v_bipush (16 : Int32) dX4_takeBack_9 (by decide) ?_
  refine v_irem dX4_takeBack_11 (by decide) ?_
  replace h := p_let_elim h
  obtain ⟨x_2, h_3, h⟩ := h
  rw [← h_3]
  refine v_istore_n dX4_takeBack_12 (by decide) ?_
  refine v_sub [(0, .ref (B + p0)), (1, .ref (B + p1)), (2, .int x_2)] ⟨rfl, rfl, rfl, trivial⟩ ?_
  refine v_aload_n dX4_takeBack_13 rfl ?_
  refine v_getI rfl fl_X4_9 dX4_takeBack_14 q_1 ?_
  refine v_if_eq 33 dX4_takeBack_17 (by decide) (fun c_4 => ?_) (fun c_4 => ?_)
  · rw [if_pos c_4] at h
    refine v_iconstE (-1 : Int32) dX4_takeBack_33 (by decide) ?_
    cases h
    exact v_iret dX4_takeBack_34 rfl (by decide) (by decide) (by rw [← hQ]; exact ⟨rfl, rfl, rfl, rfl, rfl⟩)
  · rw [if_neg c_4] at h
    refine v_iload_n dX4_takeBack_20 rfl ?_
    refine v_if_lt 33 dX4_takeBack_21 (by decide) (fun c_5 => ?_) (fun c_5 => ?_)
    · rw [if_pos c_5] at h
      refine v_iconstE (-1 : Int32) dX4_takeBack_33 (by decide) ?_
      cases h
      exact v_iret dX4_takeBack_34 rfl (by decide) (by decide) (by rw [← hQ]; exact ⟨rfl, rfl, rfl, rfl, rfl⟩)
    · rw [if_neg c_5] at h
      refine v_aload_n dX4_takeBack_24 rfl ?_
      replace h := p_bind_elim h
      obtain ⟨a_6, q_7, h⟩ := h
      refine v_getR q_7 rfl fl_X4_24 dX4_takeBack_25 q_1 ?_
      refine v_iload_n dX4_takeBack_28 rfl ?_
      replace h := p_bind_elim h
      obtain ⟨j_8, q_9, h⟩ := h
      refine v_aaldP5 dX4_takeBack_29 q_9 ?_
      replace h := p_let_elim h
      obtain ⟨x_10, h_11, h⟩ := h
      rw [← h_11]
      replace h := p_nul_elim h
      rcases h with ⟨q_13, h⟩ | ⟨a_12, q_13, h⟩
      · subst q_13
        refine v_ifnonnullN dX4_takeBack_30 ?_
        refine v_iconstE (-1 : Int32) dX4_takeBack_33 (by decide) ?_
        cases h
        exact v_iret dX4_takeBack_34 rfl (by decide) (by decide) (by rw [← hQ]; exact ⟨rfl, rfl, rfl, rfl, rfl⟩)
      · subst q_13
        refine v_ifnonnull 35 dX4_takeBack_30 (by decide) ?_
        refine v_aload_n dX4_takeBack_35 rfl ?_
        refine v_aload_n dX4_takeBack_36 rfl ?_
        replace h := p_bind_elim h
        obtain ⟨a_14, q_15, h⟩ := h
        refine v_getR q_15 rfl fl_X4_24 dX4_takeBack_37 q_1 ?_
        refine v_iload_n dX4_takeBack_40 rfl ?_
        replace h := p_bind_elim h
        obtain ⟨j_16, q_17, h⟩ := h
        refine v_aaldP5 dX4_takeBack_41 q_17 ?_
        replace h := p_let_elim h
        obtain ⟨x_18, h_19, h⟩ := h
        rw [← h_19]
        replace h := p_bind_elim h
        obtain ⟨a_20, q_21, h⟩ := h
        subst q_21
        replace h := p_bind_elim h
        obtain ⟨_, q_24, h⟩ := h
        have q_24 := p_ob_spec q_24
        replace h := p_bind_elim h
        obtain ⟨r_22, q_23, h⟩ := h
        refine v_cVn (t_X3_copyFrom q_23) cal_X3_copyFrom ml_X4_29 sel_X3_copyFrom q_24 kk_3 dX4_takeBack_42 (by omega) (by decide) (by decide) (Nat.le_of_ble_eq_true rfl) rfl ?_
        refine v_aload_n dX4_takeBack_45 rfl ?_
        refine v_iload_n dX4_takeBack_46 rfl ?_
        refine v_putI rfl fl_X4_15 dX4_takeBack_47 q_1 rfl rfl ?_
        replace h := p_let_elim h
        obtain ⟨I_25, h_26, h⟩ := h
        rw [← h_26]
        refine v_aload_n dX4_takeBack_50 rfl ?_
        refine v_dup dX4_takeBack_51 rfl ?_
        refine v_getI rfl fl_X4_9 dX4_takeBack_52 q_1 ?_
        refine v_iconstE (1 : Int32) dX4_takeBack_55 (by decide) ?_
        refine v_isub dX4_takeBack_56 ?_
        refine v_putI rfl fl_X4_9 dX4_takeBack_57 q_1 rfl rfl ?_
        replace h := p_let_elim h
        obtain ⟨I_27, h_28, h⟩ := h
        rw [← h_28]
        refine v_aload_n dX4_takeBack_60 rfl ?_
        replace h := p_bind_elim h
        obtain ⟨a_29, q_30, h⟩ := h
        refine v_getR q_30 rfl fl_X4_18 dX4_takeBack_61 q_1 ?_
        refine v_iload_n dX4_takeBack_64 rfl ?_
        replace h := p_bind_elim h
        obtain ⟨j_31, q_32, h⟩ := h
        refine v_ialdP dX4_takeBack_65 q_32 ?_
        cases h
        exact v_iret dX4_takeBack_66 rfl (by decide) (by decide) (by rw [← hQ]; exact ⟨rfl, rfl, rfl, rfl, rfl⟩)

def f_X9_undo (S : v_S) (I : v_I) (F : v_F) (p0 : Nat) : Option (Int32 × v_I) :=
(p_ob S 9 p0).bind fun _ =>
(F p0 2).bind fun a_2 =>
(F p0 0).bind fun a_4 =>
(p_ob S 0 a_4).bind fun _ =>
(F a_4 1).bind fun a_7 =>
(p_ob S 4 a_2).bind fun _ =>
(f_X4_takeBack S I F a_2 a_7).bind fun r_9 =>
if r_9.1 = (-1 : Int32) then (
(f_X9_refuse S r_9.2 F p0 (-3 : Int32)).bind fun r_15 =>
some (r_15.1, r_15.2))
else (
(f_X9_accept S r_9.2 p0 r_9.1).bind fun r_13 =>
some (r_13.1, r_13.2))
set_option maxHeartbeats 4000000 in
set_option maxRecDepth 100000 in
theorem t_X9_undo {p0 : Nat} {r : Int32 × v_I} (h : f_X9_undo S I F p0 = some r) : v_R l B D ac (v_EE B wa wb wt sb sL sx) yX9_undo cX9_undo 2 (some .int) 4 0 0 [.ref (B + p0)] S I J F (v_D (some (.int r.1)) S r.2 J F) := by
  refine v_R.of (by decide) (Nat.le_of_ble_eq_true rfl) fun d hd => ?_
  generalize hQ : v_D (some (.int r.1)) S r.2 J F = Q
  unfold f_X9_undo at h
  refine v_sub [(0, .ref (B + p0))] ⟨rfl, trivial⟩ ?_
  refine v_aload_n dX9_undo_0 rfl ?_
  replace h := p_bind_elim h
  obtain ⟨_, q_1, h⟩ := h
  have q_1 := p_ob_spec q_1
  replace h := p_bind_elim h
  obtain ⟨a_2, q_3, h⟩ := h
  refine v_getR q_3 rfl fl_X9_23 dX9_undo_1 q_1 ?_
  refine v_aload_n dX9_undo_4 rfl ?_
  replace h := p_bind_elim h
  obtain ⟨a_4, q_5, h⟩ := h
  refine v_getR q_5 rfl fl_X9_12 dX9_undo_5 q_1 ?_
  replace h := p_bind_elim h
  obtain ⟨_, q_6, h⟩ := h
  have q_6 := p_ob_spec q_6
  replace h := p_bind_elim h
  obtain ⟨a_7, q_8, h⟩ := h
  refine v_getR q_8 rfl fl_X9_123 dX9_undo_8 q_6 ?_
  replace h := p_bind_elim h
  obtain ⟨_, q_11, h⟩ := h
  have q_11 := p_ob_spec q_11
  replace h := p_bind_elim h
  obtain ⟨r_9, q_10, h⟩ := h
  refine v_cVr (t_X4_takeBack q_10) cal_X4_takeBack ml_X9_205 sel_X4_takeBack q_11 kk_4 dX9_undo_11 (by omega) (by decide) (by decide) (Nat.le_of_ble_eq_true rfl) rfl ?_
  refine v_istore_n dX9_undo_14 (by decide) ?_
  refine v_sub [(0, .ref (B + p0)), (1, .int r_9.1)] ⟨rfl, rfl, trivial⟩ ?_
  refine v_iload_n dX9_undo_15 rfl ?_
  refine v_iconstE (-1 : Int32) dX9_undo_16 (by decide) ?_
  refine v_icmp_ne 29 dX9_undo_17 (by decide) (fun c_12 => ?_) (fun c_12 => ?_)
  · rw [if_neg c_12] at h
    refine v_aload_n dX9_undo_29 rfl ?_
    refine v_iload_n dX9_undo_30 rfl ?_
    replace h := p_bind_elim h
    obtain ⟨r_13, q_14, h⟩ := h
    refine v_cVr (t_X9_accept q_14) cal_X9_accept ml_X9_113 sel_X9_accept q_1 kk_9 dX9_undo_31 (by omega) (by decide) (by decide) (Nat.le_of_ble_eq_true rfl) rfl ?_
    cases h
    exact v_iret dX9_undo_34 rfl (by decide) (by decide) (by rw [← hQ]; exact ⟨rfl, rfl, rfl, rfl, rfl⟩)
  · rw [if_pos c_12] at h
    refine v_aload_n dX9_undo_20 rfl ?_
    refine v_bipush (-3 : Int32) dX9_undo_21 (by decide) ?_
    replace h := p_bind_elim h
    obtain ⟨r_15, q_16, h⟩ := h
    refine v_cVr (t_X9_refuse q_16) cal_X9_refuse ml_X9_99 sel_X9_refuse q_1 kk_9 dX9_undo_23 (by omega) (by decide) (by decide) (Nat.le_of_ble_eq_true rfl) rfl ?_
    refine v_goto 34 dX9_undo_26 (by decide) ?_
    cases h
    exact v_iret dX9_undo_34 rfl (by decide) (by decide) (by rw [← hQ]; exact ⟨rfl, rfl, rfl, rfl, rfl⟩)

def f_X9_later (S : v_S) (I : v_I) (J : v_J) (F : v_F) (p0 : Nat) (p1 : Int32) : Option (Int32 × v_I × v_J) :=
(f_X9_isUpTo p1.toInt64 (60 : Int32)).bind fun r_1 =>
if r_1 = (0 : Int32) then (
some ((-1 : Int32), I, J))
else (
(p_ob S 9 p0).bind fun _ =>
(F p0 3).bind fun a_5 =>
(F p0 0).bind fun a_7 =>
(F p0 0).bind fun a_9 =>
(p_ob S 0 a_9).bind fun _ =>
(F a_9 1).bind fun a_12 =>
(p_ob S 3 a_12).bind fun _ =>
(p_ob S 1 a_5).bind fun _ =>
(f_X1_openBehind S I J F a_5 a_7 (I a_12 0) p1).bind fun r_15 =>
some (r_15.1, r_15.2.1, r_15.2.2))
set_option maxHeartbeats 4000000 in
set_option maxRecDepth 100000 in
theorem t_X9_later {p0 : Nat} {p1 : Int32} {r : Int32 × v_I × v_J} (h : f_X9_later S I J F p0 p1 = some r) : v_R l B D ac (v_EE B wa wb wt sb sL sx) yX9_later cX9_later 2 (some .int) 6 0 0 [.ref (B + p0), .int p1] S I J F (v_D (some (.int r.1)) S r.2.1 r.2.2 F) := by
  refine v_R.of (by decide) (Nat.le_of_ble_eq_true rfl) fun d hd => ?_
  generalize hQ : v_D (some (.int r.1)) S r.2.1 r.2.2 F = Q
  unfold f_X9_later at h
  refine v_sub [(0, .ref (B + p0)), (1, .int p1)] ⟨rfl, rfl, trivial⟩ ?_
  refine v_iload_n dX9_later_0 rfl ?_
  refine v_i2l dX9_later_1 ?_
  refine v_bipush (60 : Int32) dX9_later_2 (by decide) ?_
  replace h := p_bind_elim h
  obtain ⟨r_1, q_2, h⟩ := h
  refine v_cSr (t_X9_isUpTo q_2) cal_X9_isUpTo ml_X9_95 sta_X9_isUpTo dX9_later_4 (by omega) (by decide) (by decide) (Nat.le_of_ble_eq_true rfl) rfl ?_
  refine v_if_eq 35 dX9_later_7 (by decide) (fun c_3 => ?_) (fun c_3 => ?_)
  · rw [if_pos c_3] at h
    refine v_iconstE (-1 : Int32) dX9_later_35 (by decide) ?_
    cases h
    exact v_iret dX9_later_36 rfl (by decide) (by decide) (by rw [← hQ]; exact ⟨rfl, rfl, rfl, rfl, rfl⟩)
  · rw [if_neg c_3] at h
    refine v_aload_n dX9_later_10 rfl ?_
    replace h := p_bind_elim h
    obtain ⟨_, q_4, h⟩ := h
    have q_4 := p_ob_spec q_4
    replace h := p_bind_elim h
    obtain ⟨a_5, q_6, h⟩ := h
    refine v_getR q_6 rfl fl_X9_30 dX9_later_11 q_4 ?_
    refine v_aload_n dX9_later_14 rfl ?_
    replace h := p_bind_elim h
    obtain ⟨a_7, q_8, h⟩ := h
    refine v_getR q_8 rfl fl_X9_12 dX9_later_15 q_4 ?_
    refine v_aload_n dX9_later_18 rfl ?_
    replace h := p_bind_elim h
    obtain ⟨a_9, q_10, h⟩ := h
    refine v_getR q_10 rfl fl_X9_12 dX9_later_19 q_4 ?_
    replace h := p_bind_elim h
    obtain ⟨_, q_11, h⟩ := h
    have q_11 := p_ob_spec q_11
    replace h := p_bind_elim h
    obtain ⟨a_12, q_13, h⟩ := h
    refine v_getR q_13 rfl fl_X9_123 dX9_later_22 q_11 ?_
    replace h := p_bind_elim h
    obtain ⟨_, q_14, h⟩ := h
    have q_14 := p_ob_spec q_14
    refine v_getI rfl fl_X9_209 dX9_later_25 q_14 ?_
    refine v_iload_n dX9_later_28 rfl ?_
    replace h := p_bind_elim h
    obtain ⟨_, q_17, h⟩ := h
    have q_17 := p_ob_spec q_17
    replace h := p_bind_elim h
    obtain ⟨r_15, q_16, h⟩ := h
    refine v_cVr (t_X1_openBehind q_16) cal_X1_openBehind ml_X9_212 sel_X1_openBehind q_17 kk_1 dX9_later_29 (by omega) (by decide) (by decide) (Nat.le_of_ble_eq_true rfl) rfl ?_
    refine v_goto 36 dX9_later_32 (by decide) ?_
    cases h
    exact v_iret dX9_later_36 rfl (by decide) (by decide) (by rw [← hQ]; exact ⟨rfl, rfl, rfl, rfl, rfl⟩)

def f_X1_firstMinute_B22 (S : v_S) (F : v_F) (w0 : Nat) (w1 : Nat) (w3 : Int32) (w4 : Int32) (w5 : Option Nat) (s22 : Int32 × Int32 × v_I × v_J) : Option ((Int32 × Int32 × v_I × v_J) ⊕ (Nat × (Int32 × Int32 × v_I × v_J))) :=
if (60 : Int32) < s22.2.1 then (
some (.inr (1, (s22.1, s22.2.1, s22.2.2.1, s22.2.2.2))))
else (
if s22.1 = (0 : Int32) then (
some (.inr (1, (s22.1, s22.2.1, s22.2.2.1, s22.2.2.2))))
else (
(p_ob S 1 w0).bind fun _ =>
(F w0 1).bind fun a_10 =>
(p_ob S 3 a_10).bind fun _ =>
if ((s22.2.2.1 a_10 0) &&& w4) = w4 then (
some (.inr (0, (s22.1, s22.2.1, s22.2.2.1, s22.2.2.2))))
else (
(F w0 1).bind fun a_14 =>
(f_X1_passMinute S s22.2.2.1 s22.2.2.2 F w0 w1 a_14 w5 w3).bind fun r_16 =>
p_let (s22.2.1 + (1 : Int32)) fun x_18 =>
some (.inl (r_16.1, x_18, r_16.2.1, r_16.2.2)))))
def f_X1_firstMinute (S : v_S) (I : v_I) (J : v_J) (F : v_F) (p0 : Nat) (p1 : Nat) (p2 : Int32) (p3 : Int32) (p4 : Int32) : Option (Int32 × v_I × v_J) :=
(p_ob S 1 p0).bind fun _ =>
(f_X1_begin S I F p0 p1 (p2 &&& (p3 ^^^ (-1 : Int32)))).bind fun r_1 =>
(p_ob S 0 p1).bind fun _ =>
(f_X0_lawInForce S r_1 F p1).bind fun r_4 =>
(v_loop (f_X1_firstMinute_B22 S F p0 p1 p3 p4 r_4) FU ((1 : Int32), (0 : Int32), r_1, J)).bind fun q_20 =>
if q_20.1 = 0 then (
some (q_20.2.2.1, q_20.2.2.2.1, q_20.2.2.2.2))
else (
some ((-1 : Int32), q_20.2.2.2.1, q_20.2.2.2.2))
set_option maxHeartbeats 4000000 in
set_option maxRecDepth 100000 in
theorem t_X1_firstMinute {p0 : Nat} {p1 : Nat} {p2 : Int32} {p3 : Int32} {p4 : Int32} {r : Int32 × v_I × v_J} (h : f_X1_firstMinute S I J F p0 p1 p2 p3 p4 = some r) : v_R l B D ac (v_EE B wa wb wt sb sL sx) yX1_firstMinute cX1_firstMinute 8 (some .int) 5 0 0 [.ref (B + p0), .ref (B + p1), .int p2, .int p3, .int p4] S I J F (v_D (some (.int r.1)) S r.2.1 r.2.2 F) := by
  refine v_R.of (by decide) (Nat.le_of_ble_eq_true rfl) fun d hd => ?_
  generalize hQ : v_D (some (.int r.1)) S r.2.1 r.2.2 F = Q
  have b22 : ∀ (w0 : Nat) (w1 : Nat) (w3 : Int32) (w4 : Int32) (w5 : Option Nat) (s22 : Int32 × Int32 × v_I × v_J) (rx22 : (Int32 × Int32 × v_I × v_J) ⊕ (Nat × (Int32 × Int32 × v_I × v_J))), f_X1_firstMinute_B22 S F w0 w1 w3 w4 w5 s22 = some rx22 → v_K (fun (sP : Int32 × Int32 × v_I × v_J) => V l B D ac (v_EE B wa wb wt sb sL sx) yX1_firstMinute cX1_firstMinute 8 (some .int) d 0 0 0 0 S sP.2.2.1 sP.2.2.2 F 22 [(0, .ref (B + w0)), (1, .ref (B + w1)), (3, .int w3), (4, .int w4), (5, v_rf B w5), (6, .int sP.1), (7, .int sP.2.1)] [] Q) (fun (rE : Nat × (Int32 × Int32 × v_I × v_J)) => (rE.1 = 0 → V l B D ac (v_EE B wa wb wt sb sL sx) yX1_firstMinute cX1_firstMinute 8 (some .int) d 0 0 0 0 S rE.2.2.2.1 rE.2.2.2.2 F 49 [(7, .int rE.2.2.1)] [] Q) ∧ (¬ rE.1 = 0 → V l B D ac (v_EE B wa wb wt sb sL sx) yX1_firstMinute cX1_firstMinute 8 (some .int) d 0 0 0 0 S rE.2.2.2.1 rE.2.2.2.2 F 72 [] [] Q)) rx22 → V l B D ac (v_EE B wa wb wt sb sL sx) yX1_firstMinute cX1_firstMinute 8 (some .int) d 0 0 0 0 S s22.2.2.1 s22.2.2.2 F 22 [(0, .ref (B + w0)), (1, .ref (B + w1)), (3, .int w3), (4, .int w4), (5, v_rf B w5), (6, .int s22.1), (7, .int s22.2.1)] [] Q := by
    intro w0 w1 w3 w4 w5 s22 rx22 h hk
    unfold f_X1_firstMinute_B22 at h
    refine v_iload dX1_firstMinute_22 rfl ?_
    refine v_bipush (60 : Int32) dX1_firstMinute_24 (by decide) ?_
    refine v_icmp_gt 72 dX1_firstMinute_26 (by decide) (fun c_7 => ?_) (fun c_7 => ?_)
    · rw [if_pos c_7] at h
      cases h
      refine v_sub [] (by rcases w5 with _ | _ <;> exact trivial) ?_
      exact (hk.2 (Nat.succ_ne_zero _))
    · rw [if_neg c_7] at h
      refine v_iload dX1_firstMinute_29 rfl ?_
      refine v_if_eq 72 dX1_firstMinute_31 (by decide) (fun c_8 => ?_) (fun c_8 => ?_)
      · rw [if_pos c_8] at h
        cases h
        refine v_sub [] (by rcases w5 with _ | _ <;> exact trivial) ?_
        exact (hk.2 (Nat.succ_ne_zero _))
      · rw [if_neg c_8] at h
        refine v_aload_n dX1_firstMinute_34 rfl ?_
        replace h := p_bind_elim h
        obtain ⟨_, q_9, h⟩ := h
        have q_9 := p_ob_spec q_9
        replace h := p_bind_elim h
        obtain ⟨a_10, q_11, h⟩ := h
        refine v_getR q_11 rfl fl_X1_21 dX1_firstMinute_35 q_9 ?_
        replace h := p_bind_elim h
        obtain ⟨_, q_12, h⟩ := h
        have q_12 := p_ob_spec q_12
        refine v_getI rfl fl_X1_56 dX1_firstMinute_38 q_12 ?_
        refine v_iload dX1_firstMinute_41 rfl ?_
        refine v_iand dX1_firstMinute_43 ?_
        refine v_iload dX1_firstMinute_44 rfl ?_
        refine v_icmp_ne 52 dX1_firstMinute_46 (by decide) (fun c_13 => ?_) (fun c_13 => ?_)
        · rw [if_neg c_13] at h
          refine v_aload_n dX1_firstMinute_52 rfl ?_
          refine v_aload_n dX1_firstMinute_53 rfl ?_
          refine v_aload_n dX1_firstMinute_54 rfl ?_
          replace h := p_bind_elim h
          obtain ⟨a_14, q_15, h⟩ := h
          refine v_getR q_15 rfl fl_X1_21 dX1_firstMinute_55 q_9 ?_
          refine v_aloadQ dX1_firstMinute_58 rfl ?_
          refine v_iload_n dX1_firstMinute_60 rfl ?_
          replace h := p_bind_elim h
          obtain ⟨r_16, q_17, h⟩ := h
          refine v_cVr (t_X1_passMinute q_17) cal_X1_passMinute ml_X1_80 sel_X1_passMinute q_9 kk_1 dX1_firstMinute_61 (by omega) (by decide) (by decide) (Nat.le_of_ble_eq_true rfl) rfl ?_
          refine v_istore dX1_firstMinute_64 (by decide) ?_
          refine v_sub [(0, .ref (B + w0)), (1, .ref (B + w1)), (3, .int w3), (4, .int w4), (5, v_rf B w5), (6, .int r_16.1), (7, .int s22.2.1)] (by rcases w5 with _ | _ <;> exact ⟨rfl, rfl, rfl, rfl, rfl, rfl, rfl, trivial⟩) ?_
          replace h := p_let_elim h
          obtain ⟨x_18, h_19, h⟩ := h
          refine v_iincE (1 : Int32) dX1_firstMinute_66 (by decide) rfl (by decide) ?_
          rw [← h_19]
          refine v_sub [(0, .ref (B + w0)), (1, .ref (B + w1)), (3, .int w3), (4, .int w4), (5, v_rf B w5), (6, .int r_16.1), (7, .int x_18)] (by rcases w5 with _ | _ <;> exact ⟨rfl, rfl, rfl, rfl, rfl, rfl, rfl, trivial⟩) ?_
          refine v_goto 22 dX1_firstMinute_69 (by decide) ?_
          cases h
          refine v_sub [(0, .ref (B + w0)), (1, .ref (B + w1)), (3, .int w3), (4, .int w4), (5, v_rf B w5), (6, .int r_16.1), (7, .int x_18)] (by rcases w5 with _ | _ <;> exact ⟨rfl, rfl, rfl, rfl, rfl, rfl, rfl, trivial⟩) ?_
          exact hk
        · rw [if_pos c_13] at h
          cases h
          refine v_sub [(7, .int s22.2.1)] (by rcases w5 with _ | _ <;> exact ⟨rfl, trivial⟩) ?_
          exact hk.1 rfl
  unfold f_X1_firstMinute at h
  refine v_sub [(0, .ref (B + p0)), (1, .ref (B + p1)), (2, .int p2), (3, .int p3), (4, .int p4)] ⟨rfl, rfl, rfl, rfl, rfl, trivial⟩ ?_
  refine v_aload_n dX1_firstMinute_0 rfl ?_
  refine v_aload_n dX1_firstMinute_1 rfl ?_
  refine v_iload_n dX1_firstMinute_2 rfl ?_
  refine v_iload_n dX1_firstMinute_3 rfl ?_
  refine v_iconstE (-1 : Int32) dX1_firstMinute_4 (by decide) ?_
  refine v_ixor dX1_firstMinute_5 ?_
  refine v_iand dX1_firstMinute_6 ?_
  replace h := p_bind_elim h
  obtain ⟨_, q_3, h⟩ := h
  have q_3 := p_ob_spec q_3
  replace h := p_bind_elim h
  obtain ⟨r_1, q_2, h⟩ := h
  refine v_cVn (t_X1_begin q_2) cal_X1_begin ml_X1_158 sel_X1_begin q_3 kk_1 dX1_firstMinute_7 (by omega) (by decide) (by decide) (Nat.le_of_ble_eq_true rfl) rfl ?_
  refine v_aload_n dX1_firstMinute_10 rfl ?_
  replace h := p_bind_elim h
  obtain ⟨_, q_6, h⟩ := h
  have q_6 := p_ob_spec q_6
  replace h := p_bind_elim h
  obtain ⟨r_4, q_5, h⟩ := h
  refine v_cVr (t_X0_lawInForce q_5) cal_X0_lawInForce ml_X1_38 sel_X0_lawInForce q_6 kk_0 dX1_firstMinute_11 (by omega) (by decide) (by decide) (Nat.le_of_ble_eq_true rfl) rfl ?_
  refine v_astoreQ dX1_firstMinute_14 (by decide) ?_
  refine v_sub [(0, .ref (B + p0)), (1, .ref (B + p1)), (3, .int p3), (4, .int p4), (5, v_rf B r_4)] (by rcases r_4 with _ | _ <;> exact ⟨rfl, rfl, rfl, rfl, rfl, trivial⟩) ?_
  refine v_iconstE (1 : Int32) dX1_firstMinute_16 (by decide) ?_
  refine v_istore dX1_firstMinute_17 (by decide) ?_
  refine v_sub [(0, .ref (B + p0)), (1, .ref (B + p1)), (3, .int p3), (4, .int p4), (5, v_rf B r_4), (6, .int (1 : Int32))] (by rcases r_4 with _ | _ <;> exact ⟨rfl, rfl, rfl, rfl, rfl, rfl, trivial⟩) ?_
  refine v_iconstE (0 : Int32) dX1_firstMinute_19 (by decide) ?_
  refine v_istore dX1_firstMinute_20 (by decide) ?_
  refine v_sub [(0, .ref (B + p0)), (1, .ref (B + p1)), (3, .int p3), (4, .int p4), (5, v_rf B r_4), (6, .int (1 : Int32)), (7, .int (0 : Int32))] (by rcases r_4 with _ | _ <;> exact ⟨rfl, rfl, rfl, rfl, rfl, rfl, rfl, trivial⟩) ?_
  replace h := p_bind_elim h
  obtain ⟨q_20, h_21, h⟩ := h
  refine v_sub [(0, .ref (B + p0)), (1, .ref (B + p1)), (3, .int p3), (4, .int p4), (5, v_rf B r_4), (6, .int (1 : Int32)), (7, .int (0 : Int32))] (by rcases r_4 with _ | _ <;> exact ⟨rfl, rfl, rfl, rfl, rfl, rfl, rfl, trivial⟩) ?_
  refine v_loopV (fun (sP : Int32 × Int32 × v_I × v_J) => V l B D ac (v_EE B wa wb wt sb sL sx) yX1_firstMinute cX1_firstMinute 8 (some .int) d 0 0 0 0 S sP.2.2.1 sP.2.2.2 F 22 [(0, .ref (B + p0)), (1, .ref (B + p1)), (3, .int p3), (4, .int p4), (5, v_rf B r_4), (6, .int sP.1), (7, .int sP.2.1)] [] Q) (fun (rE : Nat × (Int32 × Int32 × v_I × v_J)) => (rE.1 = 0 → V l B D ac (v_EE B wa wb wt sb sL sx) yX1_firstMinute cX1_firstMinute 8 (some .int) d 0 0 0 0 S rE.2.2.2.1 rE.2.2.2.2 F 49 [(7, .int rE.2.2.1)] [] Q) ∧ (¬ rE.1 = 0 → V l B D ac (v_EE B wa wb wt sb sL sx) yX1_firstMinute cX1_firstMinute 8 (some .int) d 0 0 0 0 S rE.2.2.2.1 rE.2.2.2.2 F 72 [] [] Q)) (fun s_ x_ hb hk => b22 _ _ _ _ _ s_ x_ hb hk) (r := q_20) ?_ h_21
  try dsimp only
  refine ⟨fun c_22 => ?_, fun c_22 => ?_⟩
  · rw [if_pos c_22] at h
    refine v_iload dX1_firstMinute_49 rfl ?_
    cases h
    exact v_iret dX1_firstMinute_51 rfl (by decide) (by decide) (by rw [← hQ]; exact ⟨rfl, rfl, rfl, rfl, rfl⟩)
  · rw [if_neg c_22] at h
    refine v_iconstE (-1 : Int32) dX1_firstMinute_72 (by decide) ?_
    cases h
    exact v_iret dX1_firstMinute_73 rfl (by decide) (by decide) (by rw [← hQ]; exact ⟨rfl, rfl, rfl, rfl, rfl⟩)

def f_X9_opens (S : v_S) (I : v_I) (J : v_J) (F : v_F) (p0 : Nat) (p1 : Int32) : Option (Int32 × v_I × v_J) :=
(p_ob S 9 p0).bind fun _ =>
(F p0 0).bind fun a_2 =>
(p_ob S 0 a_2).bind fun _ =>
(f_X0_has S I a_2 p1.toInt64).bind fun r_4 =>
if r_4 = (0 : Int32) then (
some ((-1 : Int32), I, J))
else (
(F p0 3).bind fun a_8 =>
(F p0 0).bind fun a_10 =>
(F p0 0).bind fun a_12 =>
(p_ob S 0 a_12).bind fun _ =>
(F a_12 1).bind fun a_15 =>
(p_ob S 3 a_15).bind fun _ =>
(p_ob S 1 a_8).bind fun _ =>
(f_X1_firstMinute S I J F a_8 a_10 (I a_15 0) (0 : Int32) ((1 : Int32) <<< (p1 &&& 31))).bind fun r_18 =>
some (r_18.1, r_18.2.1, r_18.2.2))
set_option maxHeartbeats 4000000 in
set_option maxRecDepth 100000 in
theorem t_X9_opens {p0 : Nat} {p1 : Int32} {r : Int32 × v_I × v_J} (h : f_X9_opens S I J F p0 p1 = some r) : v_R l B D ac (v_EE B wa wb wt sb sL sx) yX9_opens cX9_opens 2 (some .int) 6 0 0 [.ref (B + p0), .int p1] S I J F (v_D (some (.int r.1)) S r.2.1 r.2.2 F) := by
  refine v_R.of (by decide) (Nat.le_of_ble_eq_true rfl) fun d hd => ?_
  generalize hQ : v_D (some (.int r.1)) S r.2.1 r.2.2 F = Q
  unfold f_X9_opens at h
  refine v_sub [(0, .ref (B + p0)), (1, .int p1)] ⟨rfl, rfl, trivial⟩ ?_
  refine v_aload_n dX9_opens_0 rfl ?_
  replace h := p_bind_elim h
  obtain ⟨_, q_1, h⟩ := h
  have q_1 := p_ob_spec q_1
  replace h := p_bind_elim h
  obtain ⟨a_2, q_3, h⟩ := h
  refine v_getR q_3 rfl fl_X9_12 dX9_opens_1 q_1 ?_
  refine v_iload_n dX9_opens_4 rfl ?_
  refine v_i2l dX9_opens_5 ?_
  replace h := p_bind_elim h
  obtain ⟨_, q_6, h⟩ := h
  have q_6 := p_ob_spec q_6
  replace h := p_bind_elim h
  obtain ⟨r_4, q_5, h⟩ := h
  refine v_cVr (t_X0_has q_5) cal_X0_has ml_X9_116 sel_X0_has q_6 kk_0 dX9_opens_6 (by omega) (by decide) (by decide) (Nat.le_of_ble_eq_true rfl) rfl ?_
  refine v_if_ne 14 dX9_opens_9 (by decide) (fun c_7 => ?_) (fun c_7 => ?_)
  · rw [if_neg c_7] at h
    refine v_aload_n dX9_opens_14 rfl ?_
    replace h := p_bind_elim h
    obtain ⟨a_8, q_9, h⟩ := h
    refine v_getR q_9 rfl fl_X9_30 dX9_opens_15 q_1 ?_
    refine v_aload_n dX9_opens_18 rfl ?_
    replace h := p_bind_elim h
    obtain ⟨a_10, q_11, h⟩ := h
    refine v_getR q_11 rfl fl_X9_12 dX9_opens_19 q_1 ?_
    refine v_aload_n dX9_opens_22 rfl ?_
    replace h := p_bind_elim h
    obtain ⟨a_12, q_13, h⟩ := h
    refine v_getR q_13 rfl fl_X9_12 dX9_opens_23 q_1 ?_
    replace h := p_bind_elim h
    obtain ⟨_, q_14, h⟩ := h
    have q_14 := p_ob_spec q_14
    replace h := p_bind_elim h
    obtain ⟨a_15, q_16, h⟩ := h
    refine v_getR q_16 rfl fl_X9_123 dX9_opens_26 q_14 ?_
    replace h := p_bind_elim h
    obtain ⟨_, q_17, h⟩ := h
    have q_17 := p_ob_spec q_17
    refine v_getI rfl fl_X9_209 dX9_opens_29 q_17 ?_
    refine v_iconstE (0 : Int32) dX9_opens_32 (by decide) ?_
    refine v_iconstE (1 : Int32) dX9_opens_33 (by decide) ?_
    refine v_iload_n dX9_opens_34 rfl ?_
    refine v_ishl dX9_opens_35 ?_
    replace h := p_bind_elim h
    obtain ⟨_, q_20, h⟩ := h
    have q_20 := p_ob_spec q_20
    replace h := p_bind_elim h
    obtain ⟨r_18, q_19, h⟩ := h
    refine v_cVr (t_X1_firstMinute q_19) cal_X1_firstMinute ml_X9_215 sel_X1_firstMinute q_20 kk_1 dX9_opens_36 (by omega) (by decide) (by decide) (Nat.le_of_ble_eq_true rfl) rfl ?_
    cases h
    exact v_iret dX9_opens_39 rfl (by decide) (by decide) (by rw [← hQ]; exact ⟨rfl, rfl, rfl, rfl, rfl⟩)
  · rw [if_pos c_7] at h
    refine v_iconstE (-1 : Int32) dX9_opens_12 (by decide) ?_
    cases h
    exact v_iret dX9_opens_13 rfl (by decide) (by decide) (by rw [← hQ]; exact ⟨rfl, rfl, rfl, rfl, rfl⟩)

def f_X9_together (S : v_S) (I : v_I) (J : v_J) (F : v_F) (p0 : Nat) : Option (Int32 × v_I × v_J) :=
(p_ob S 9 p0).bind fun _ =>
(F p0 3).bind fun a_2 =>
(F p0 0).bind fun a_4 =>
(F p0 0).bind fun a_6 =>
(p_ob S 0 a_6).bind fun _ =>
(F a_6 1).bind fun a_9 =>
(p_ob S 3 a_9).bind fun _ =>
(F p0 0).bind fun a_12 =>
(p_ob S 0 a_12).bind fun _ =>
(f_X0_everyone S I a_12).bind fun r_14 =>
(p_ob S 1 a_2).bind fun _ =>
(f_X1_firstMinute S I J F a_2 a_4 (I a_9 0) (0 : Int32) r_14).bind fun r_17 =>
some (r_17.1, r_17.2.1, r_17.2.2)
set_option maxHeartbeats 4000000 in
set_option maxRecDepth 100000 in
theorem t_X9_together {p0 : Nat} {r : Int32 × v_I × v_J} (h : f_X9_together S I J F p0 = some r) : v_R l B D ac (v_EE B wa wb wt sb sL sx) yX9_together cX9_together 1 (some .int) 6 0 0 [.ref (B + p0)] S I J F (v_D (some (.int r.1)) S r.2.1 r.2.2 F) := by
  refine v_R.of (by decide) (Nat.le_of_ble_eq_true rfl) fun d hd => ?_
  generalize hQ : v_D (some (.int r.1)) S r.2.1 r.2.2 F = Q
  unfold f_X9_together at h
  refine v_sub [(0, .ref (B + p0))] ⟨rfl, trivial⟩ ?_
  refine v_aload_n dX9_together_0 rfl ?_
  replace h := p_bind_elim h
  obtain ⟨_, q_1, h⟩ := h
  have q_1 := p_ob_spec q_1
  replace h := p_bind_elim h
  obtain ⟨a_2, q_3, h⟩ := h
  refine v_getR q_3 rfl fl_X9_30 dX9_together_1 q_1 ?_
  refine v_aload_n dX9_together_4 rfl ?_
  replace h := p_bind_elim h
  obtain ⟨a_4, q_5, h⟩ := h
  refine v_getR q_5 rfl fl_X9_12 dX9_together_5 q_1 ?_
  refine v_aload_n dX9_together_8 rfl ?_
  replace h := p_bind_elim h
  obtain ⟨a_6, q_7, h⟩ := h
  refine v_getR q_7 rfl fl_X9_12 dX9_together_9 q_1 ?_
  replace h := p_bind_elim h
  obtain ⟨_, q_8, h⟩ := h
  have q_8 := p_ob_spec q_8
  replace h := p_bind_elim h
  obtain ⟨a_9, q_10, h⟩ := h
  refine v_getR q_10 rfl fl_X9_123 dX9_together_12 q_8 ?_
  replace h := p_bind_elim h
  obtain ⟨_, q_11, h⟩ := h
  have q_11 := p_ob_spec q_11
  refine v_getI rfl fl_X9_209 dX9_together_15 q_11 ?_
  refine v_iconstE (0 : Int32) dX9_together_18 (by decide) ?_
  refine v_aload_n dX9_together_19 rfl ?_
  replace h := p_bind_elim h
  obtain ⟨a_12, q_13, h⟩ := h
  refine v_getR q_13 rfl fl_X9_12 dX9_together_20 q_1 ?_
  replace h := p_bind_elim h
  obtain ⟨_, q_16, h⟩ := h
  have q_16 := p_ob_spec q_16
  replace h := p_bind_elim h
  obtain ⟨r_14, q_15, h⟩ := h
  refine v_cVr (t_X0_everyone q_15) cal_X0_everyone ml_X9_219 sel_X0_everyone q_16 kk_0 dX9_together_23 (by omega) (by decide) (by decide) (Nat.le_of_ble_eq_true rfl) rfl ?_
  replace h := p_bind_elim h
  obtain ⟨_, q_19, h⟩ := h
  have q_19 := p_ob_spec q_19
  replace h := p_bind_elim h
  obtain ⟨r_17, q_18, h⟩ := h
  refine v_cVr (t_X1_firstMinute q_18) cal_X1_firstMinute ml_X9_215 sel_X1_firstMinute q_19 kk_1 dX9_together_26 (by omega) (by decide) (by decide) (Nat.le_of_ble_eq_true rfl) rfl ?_
  cases h
  exact v_iret dX9_together_29 rfl (by decide) (by decide) (by rw [← hQ]; exact ⟨rfl, rfl, rfl, rfl, rfl⟩)

def f_X1_firstReturn_B2 (S : v_S) (I : v_I) (F : v_F) (w0 : Nat) (s2 : Int32) : Option ((Int32) ⊕ (Nat × (Int32))) :=
if (60 : Int32) < s2 then (
some (.inr (1, s2)))
else (
(p_ob S 1 w0).bind fun _ =>
(F w0 3).bind fun a_3 =>
(p_ix S 20 a_3 s2).bind fun j_5 =>
(F w0 3).bind fun a_7 =>
(p_ix S 20 a_7 (0 : Int32)).bind fun j_9 =>
if (I a_3 j_5) = (I a_7 j_9) then (
some (.inr (0, s2)))
else (
p_let (s2 + (1 : Int32)) fun x_12 =>
some (.inl x_12)))
def f_X1_firstReturn (S : v_S) (I : v_I) (F : v_F) (p0 : Nat) : Option (Int32) :=
(v_loop (f_X1_firstReturn_B2 S I F p0) FU (1 : Int32)).bind fun q_14 =>
if q_14.1 = 0 then (
some (q_14.2))
else (
some ((-1 : Int32)))
set_option maxHeartbeats 4000000 in
set_option maxRecDepth 100000 in
theorem t_X1_firstReturn {p0 : Nat} {r : Int32} (h : f_X1_firstReturn S I F p0 = some r) : v_R l B D ac (v_EE B wa wb wt sb sL sx) yX1_firstReturn cX1_firstReturn 2 (some .int) 1 0 0 [.ref (B + p0)] S I J F (v_D (some (.int r)) S I J F) := by
  refine v_R.of (by decide) (Nat.le_of_ble_eq_true rfl) fun d hd => ?_
  generalize hQ : v_D (some (.int r)) S I J F = Q
  have b2 : ∀ (w0 : Nat) (s2 : Int32) (rx2 : (Int32) ⊕ (Nat × (Int32))), f_X1_firstReturn_B2 S I F w0 s2 = some rx2 → v_K (fun (sP : Int32) => V l B D ac (v_EE B wa wb wt sb sL sx) yX1_firstReturn cX1_firstReturn 2 (some .int) d 0 0 0 0 S I J F 2 [(0, .ref (B + w0)), (1, .int sP)] [] Q) (fun (rE : Nat × (Int32)) => (rE.1 = 0 → V l B D ac (v_EE B wa wb wt sb sL sx) yX1_firstReturn cX1_firstReturn 2 (some .int) d 0 0 0 0 S I J F 23 [(1, .int rE.2)] [] Q) ∧ (¬ rE.1 = 0 → V l B D ac (v_EE B wa wb wt sb sL sx) yX1_firstReturn cX1_firstReturn 2 (some .int) d 0 0 0 0 S I J F 31 [] [] Q)) rx2 → V l B D ac (v_EE B wa wb wt sb sL sx) yX1_firstReturn cX1_firstReturn 2 (some .int) d 0 0 0 0 S I J F 2 [(0, .ref (B + w0)), (1, .int s2)] [] Q := by
    intro w0 s2 rx2 h hk
    unfold f_X1_firstReturn_B2 at h
    refine v_iload_n dX1_firstReturn_2 rfl ?_
    refine v_bipush (60 : Int32) dX1_firstReturn_3 (by decide) ?_
    refine v_icmp_gt 31 dX1_firstReturn_5 (by decide) (fun c_1 => ?_) (fun c_1 => ?_)
    · rw [if_pos c_1] at h
      cases h
      refine v_sub [] trivial ?_
      exact (hk.2 (Nat.succ_ne_zero _))
    · rw [if_neg c_1] at h
      refine v_aload_n dX1_firstReturn_8 rfl ?_
      replace h := p_bind_elim h
      obtain ⟨_, q_2, h⟩ := h
      have q_2 := p_ob_spec q_2
      replace h := p_bind_elim h
      obtain ⟨a_3, q_4, h⟩ := h
      refine v_getR q_4 rfl fl_X1_29 dX1_firstReturn_9 q_2 ?_
      refine v_iload_n dX1_firstReturn_12 rfl ?_
      replace h := p_bind_elim h
      obtain ⟨j_5, q_6, h⟩ := h
      refine v_ialdP dX1_firstReturn_13 q_6 ?_
      refine v_aload_n dX1_firstReturn_14 rfl ?_
      replace h := p_bind_elim h
      obtain ⟨a_7, q_8, h⟩ := h
      refine v_getR q_8 rfl fl_X1_29 dX1_firstReturn_15 q_2 ?_
      refine v_iconstE (0 : Int32) dX1_firstReturn_18 (by decide) ?_
      replace h := p_bind_elim h
      obtain ⟨j_9, q_10, h⟩ := h
      refine v_ialdP dX1_firstReturn_19 q_10 ?_
      refine v_icmp_ne 25 dX1_firstReturn_20 (by decide) (fun c_11 => ?_) (fun c_11 => ?_)
      · rw [if_neg c_11] at h
        replace h := p_let_elim h
        obtain ⟨x_12, h_13, h⟩ := h
        refine v_iincE (1 : Int32) dX1_firstReturn_25 (by decide) rfl (by decide) ?_
        rw [← h_13]
        refine v_sub [(0, .ref (B + w0)), (1, .int x_12)] ⟨rfl, rfl, trivial⟩ ?_
        refine v_goto 2 dX1_firstReturn_28 (by decide) ?_
        cases h
        refine v_sub [(0, .ref (B + w0)), (1, .int x_12)] ⟨rfl, rfl, trivial⟩ ?_
        exact hk
      · rw [if_pos c_11] at h
        cases h
        refine v_sub [(1, .int s2)] ⟨rfl, trivial⟩ ?_
        exact hk.1 rfl
  unfold f_X1_firstReturn at h
  refine v_sub [(0, .ref (B + p0))] ⟨rfl, trivial⟩ ?_
  refine v_iconstE (1 : Int32) dX1_firstReturn_0 (by decide) ?_
  refine v_istore_n dX1_firstReturn_1 (by decide) ?_
  refine v_sub [(0, .ref (B + p0)), (1, .int (1 : Int32))] ⟨rfl, rfl, trivial⟩ ?_
  replace h := p_bind_elim h
  obtain ⟨q_14, h_15, h⟩ := h
  refine v_sub [(0, .ref (B + p0)), (1, .int (1 : Int32))] ⟨rfl, rfl, trivial⟩ ?_
  refine v_loopV (fun (sP : Int32) => V l B D ac (v_EE B wa wb wt sb sL sx) yX1_firstReturn cX1_firstReturn 2 (some .int) d 0 0 0 0 S I J F 2 [(0, .ref (B + p0)), (1, .int sP)] [] Q) (fun (rE : Nat × (Int32)) => (rE.1 = 0 → V l B D ac (v_EE B wa wb wt sb sL sx) yX1_firstReturn cX1_firstReturn 2 (some .int) d 0 0 0 0 S I J F 23 [(1, .int rE.2)] [] Q) ∧ (¬ rE.1 = 0 → V l B D ac (v_EE B wa wb wt sb sL sx) yX1_firstReturn cX1_firstReturn 2 (some .int) d 0 0 0 0 S I J F 31 [] [] Q)) (fun s_ x_ hb hk => b2 _ s_ x_ hb hk) (r := q_14) ?_ h_15
  try dsimp only
  refine ⟨fun c_16 => ?_, fun c_16 => ?_⟩
  · rw [if_pos c_16] at h
    refine v_iload_n dX1_firstReturn_23 rfl ?_
    cases h
    exact v_iret dX1_firstReturn_24 rfl (by decide) (by decide) (by rw [← hQ]; exact ⟨rfl, rfl, rfl, rfl, rfl⟩)
  · rw [if_neg c_16] at h
    refine v_iconstE (-1 : Int32) dX1_firstReturn_31 (by decide) ?_
    cases h
    exact v_iret dX1_firstReturn_32 rfl (by decide) (by decide) (by rw [← hQ]; exact ⟨rfl, rfl, rfl, rfl, rfl⟩)

def f_X1_follow_B32 (S : v_S) (F : v_F) (w0 : Nat) (w1 : Nat) (w2 : Option Nat) (s32 : Int32 × v_I × v_J) : Option ((Int32 × v_I × v_J) ⊕ (Int32 × v_I × v_J)) :=
if (60 : Int32) < s32.1 then (
some (.inr (s32.1, s32.2.1, s32.2.2)))
else (
(p_ob S 1 w0).bind fun _ =>
(F w0 1).bind fun a_21 =>
(f_X1_passMinute S s32.2.1 s32.2.2 F w0 w1 a_21 w2 (0 : Int32)).bind fun r_23 =>
(F w0 3).bind fun a_25 =>
(F w0 1).bind fun a_27 =>
(p_ob S 3 a_27).bind fun _ =>
(p_ix S 20 a_25 s32.1).bind fun j_30 =>
p_let (v_up r_23.2.1 a_25 j_30 (r_23.2.1 a_27 0)) fun I_32 =>
p_let (s32.1 + (1 : Int32)) fun x_34 =>
some (.inl (x_34, I_32, r_23.2.2)))
def f_X1_follow (S : v_S) (I : v_I) (J : v_J) (F : v_F) (p0 : Nat) (p1 : Nat) : Option (v_I × v_J) :=
(p_ob S 0 p1).bind fun _ =>
(F p1 1).bind fun a_2 =>
(p_ob S 3 a_2).bind fun _ =>
(p_ob S 1 p0).bind fun _ =>
(f_X1_begin S I F p0 p1 (I a_2 0)).bind fun r_5 =>
(f_X0_lawInForce S r_5 F p1).bind fun r_8 =>
(F p0 3).bind fun a_10 =>
(F p0 1).bind fun a_12 =>
(p_ob S 3 a_12).bind fun _ =>
(p_ix S 20 a_10 (0 : Int32)).bind fun j_15 =>
p_let (v_up r_5 a_10 j_15 (r_5 a_12 0)) fun I_17 =>
(v_loop (f_X1_follow_B32 S F p0 p1 r_8) FU ((1 : Int32), I_17, J)).bind fun q_36 =>
some (q_36.2.1, q_36.2.2)
set_option maxHeartbeats 4000000 in
set_option maxRecDepth 100000 in
theorem t_X1_follow {p0 : Nat} {p1 : Nat} {r : v_I × v_J} (h : f_X1_follow S I J F p0 p1 = some r) : v_R l B D ac (v_EE B wa wb wt sb sL sx) yX1_follow cX1_follow 4 none 5 0 0 [.ref (B + p0), .ref (B + p1)] S I J F (v_D none S r.1 r.2 F) := by
  refine v_R.of (by decide) (Nat.le_of_ble_eq_true rfl) fun d hd => ?_
  generalize hQ : v_D none S r.1 r.2 F = Q
  have b32 : ∀ (w0 : Nat) (w1 : Nat) (w2 : Option Nat) (s32 : Int32 × v_I × v_J) (rx32 : (Int32 × v_I × v_J) ⊕ (Int32 × v_I × v_J)), f_X1_follow_B32 S F w0 w1 w2 s32 = some rx32 → v_K (fun (sP : Int32 × v_I × v_J) => V l B D ac (v_EE B wa wb wt sb sL sx) yX1_follow cX1_follow 4 none d 0 0 0 0 S sP.2.1 sP.2.2 F 32 [(0, .ref (B + w0)), (1, .ref (B + w1)), (2, v_rf B w2), (3, .int sP.1)] [] Q) (fun (rE : Int32 × v_I × v_J) => V l B D ac (v_EE B wa wb wt sb sL sx) yX1_follow cX1_follow 4 none d 0 0 0 0 S rE.2.1 rE.2.2 F 69 [] [] Q) rx32 → V l B D ac (v_EE B wa wb wt sb sL sx) yX1_follow cX1_follow 4 none d 0 0 0 0 S s32.2.1 s32.2.2 F 32 [(0, .ref (B + w0)), (1, .ref (B + w1)), (2, v_rf B w2), (3, .int s32.1)] [] Q := by
    intro w0 w1 w2 s32 rx32 h hk
    unfold f_X1_follow_B32 at h
    refine v_iload_n dX1_follow_32 rfl ?_
    refine v_bipush (60 : Int32) dX1_follow_33 (by decide) ?_
    refine v_icmp_gt 69 dX1_follow_35 (by decide) (fun c_19 => ?_) (fun c_19 => ?_)
    · rw [if_pos c_19] at h
      cases h
      refine v_sub [] (by rcases w2 with _ | _ <;> exact trivial) ?_
      exact hk
    · rw [if_neg c_19] at h
      refine v_aload_n dX1_follow_38 rfl ?_
      refine v_aload_n dX1_follow_39 rfl ?_
      refine v_aload_n dX1_follow_40 rfl ?_
      replace h := p_bind_elim h
      obtain ⟨_, q_20, h⟩ := h
      have q_20 := p_ob_spec q_20
      replace h := p_bind_elim h
      obtain ⟨a_21, q_22, h⟩ := h
      refine v_getR q_22 rfl fl_X1_21 dX1_follow_41 q_20 ?_
      refine v_aload_nQ dX1_follow_44 rfl ?_
      refine v_iconstE (0 : Int32) dX1_follow_45 (by decide) ?_
      replace h := p_bind_elim h
      obtain ⟨r_23, q_24, h⟩ := h
      refine v_cVr (t_X1_passMinute q_24) cal_X1_passMinute ml_X1_80 sel_X1_passMinute q_20 kk_1 dX1_follow_46 (by omega) (by decide) (by decide) (Nat.le_of_ble_eq_true rfl) rfl ?_
      refine v_pop dX1_follow_49 rfl ?_
      refine v_aload_n dX1_follow_50 rfl ?_
      replace h := p_bind_elim h
      obtain ⟨a_25, q_26, h⟩ := h
      refine v_getR q_26 rfl fl_X1_29 dX1_follow_51 q_20 ?_
      refine v_iload_n dX1_follow_54 rfl ?_
      refine v_aload_n dX1_follow_55 rfl ?_
      replace h := p_bind_elim h
      obtain ⟨a_27, q_28, h⟩ := h
      refine v_getR q_28 rfl fl_X1_21 dX1_follow_56 q_20 ?_
      replace h := p_bind_elim h
      obtain ⟨_, q_29, h⟩ := h
      have q_29 := p_ob_spec q_29
      refine v_getI rfl fl_X1_56 dX1_follow_59 q_29 ?_
      replace h := p_bind_elim h
      obtain ⟨j_30, q_31, h⟩ := h
      refine v_iastP dX1_follow_62 q_31 ?_
      replace h := p_let_elim h
      obtain ⟨I_32, h_33, h⟩ := h
      rw [← h_33]
      replace h := p_let_elim h
      obtain ⟨x_34, h_35, h⟩ := h
      refine v_iincE (1 : Int32) dX1_follow_63 (by decide) rfl (by decide) ?_
      rw [← h_35]
      refine v_sub [(0, .ref (B + w0)), (1, .ref (B + w1)), (2, v_rf B w2), (3, .int x_34)] (by rcases w2 with _ | _ <;> exact ⟨rfl, rfl, rfl, rfl, trivial⟩) ?_
      refine v_goto 32 dX1_follow_66 (by decide) ?_
      cases h
      refine v_sub [(0, .ref (B + w0)), (1, .ref (B + w1)), (2, v_rf B w2), (3, .int x_34)] (by rcases w2 with _ | _ <;> exact ⟨rfl, rfl, rfl, rfl, trivial⟩) ?_
      exact hk
  unfold f_X1_follow at h
  refine v_sub [(0, .ref (B + p0)), (1, .ref (B + p1))] ⟨rfl, rfl, trivial⟩ ?_
  refine v_aload_n dX1_follow_0 rfl ?_
  refine v_aload_n dX1_follow_1 rfl ?_
  refine v_aload_n dX1_follow_2 rfl ?_
  replace h := p_bind_elim h
  obtain ⟨_, q_1, h⟩ := h
  have q_1 := p_ob_spec q_1
  replace h := p_bind_elim h
  obtain ⟨a_2, q_3, h⟩ := h
  refine v_getR q_3 rfl fl_X1_42 dX1_follow_3 q_1 ?_
  replace h := p_bind_elim h
  obtain ⟨_, q_4, h⟩ := h
  have q_4 := p_ob_spec q_4
  refine v_getI rfl fl_X1_56 dX1_follow_6 q_4 ?_
  replace h := p_bind_elim h
  obtain ⟨_, q_7, h⟩ := h
  have q_7 := p_ob_spec q_7
  replace h := p_bind_elim h
  obtain ⟨r_5, q_6, h⟩ := h
  refine v_cVn (t_X1_begin q_6) cal_X1_begin ml_X1_158 sel_X1_begin q_7 kk_1 dX1_follow_9 (by omega) (by decide) (by decide) (Nat.le_of_ble_eq_true rfl) rfl ?_
  refine v_aload_n dX1_follow_12 rfl ?_
  replace h := p_bind_elim h
  obtain ⟨r_8, q_9, h⟩ := h
  refine v_cVr (t_X0_lawInForce q_9) cal_X0_lawInForce ml_X1_38 sel_X0_lawInForce q_1 kk_0 dX1_follow_13 (by omega) (by decide) (by decide) (Nat.le_of_ble_eq_true rfl) rfl ?_
  refine v_astore_nQ dX1_follow_16 (by decide) ?_
  refine v_sub [(0, .ref (B + p0)), (1, .ref (B + p1)), (2, v_rf B r_8)] (by rcases r_8 with _ | _ <;> exact ⟨rfl, rfl, rfl, trivial⟩) ?_
  refine v_aload_n dX1_follow_17 rfl ?_
  replace h := p_bind_elim h
  obtain ⟨a_10, q_11, h⟩ := h
  refine v_getR q_11 rfl fl_X1_29 dX1_follow_18 q_7 ?_
  refine v_iconstE (0 : Int32) dX1_follow_21 (by decide) ?_
  refine v_aload_n dX1_follow_22 rfl ?_
  replace h := p_bind_elim h
  obtain ⟨a_12, q_13, h⟩ := h
  refine v_getR q_13 rfl fl_X1_21 dX1_follow_23 q_7 ?_
  replace h := p_bind_elim h
  obtain ⟨_, q_14, h⟩ := h
  have q_14 := p_ob_spec q_14
  refine v_getI rfl fl_X1_56 dX1_follow_26 q_14 ?_
  replace h := p_bind_elim h
  obtain ⟨j_15, q_16, h⟩ := h
  refine v_iastP dX1_follow_29 q_16 ?_
  replace h := p_let_elim h
  obtain ⟨I_17, h_18, h⟩ := h
  rw [← h_18]
  refine v_iconstE (1 : Int32) dX1_follow_30 (by decide) ?_
  refine v_istore_n dX1_follow_31 (by decide) ?_
  refine v_sub [(0, .ref (B + p0)), (1, .ref (B + p1)), (2, v_rf B r_8), (3, .int (1 : Int32))] (by rcases r_8 with _ | _ <;> exact ⟨rfl, rfl, rfl, rfl, trivial⟩) ?_
  replace h := p_bind_elim h
  obtain ⟨q_36, h_37, h⟩ := h
  refine v_sub [(0, .ref (B + p0)), (1, .ref (B + p1)), (2, v_rf B r_8), (3, .int (1 : Int32))] (by rcases r_8 with _ | _ <;> exact ⟨rfl, rfl, rfl, rfl, trivial⟩) ?_
  refine v_loopV (fun (sP : Int32 × v_I × v_J) => V l B D ac (v_EE B wa wb wt sb sL sx) yX1_follow cX1_follow 4 none d 0 0 0 0 S sP.2.1 sP.2.2 F 32 [(0, .ref (B + p0)), (1, .ref (B + p1)), (2, v_rf B r_8), (3, .int sP.1)] [] Q) (fun (rE : Int32 × v_I × v_J) => V l B D ac (v_EE B wa wb wt sb sL sx) yX1_follow cX1_follow 4 none d 0 0 0 0 S rE.2.1 rE.2.2 F 69 [] [] Q) (fun s_ x_ hb hk => b32 _ _ _ s_ x_ hb hk) (r := q_36) ?_ h_37
  try dsimp only
  cases h
  exact v_vret dX1_follow_69 rfl (by decide) (by decide) (by rw [← hQ]; exact ⟨rfl, rfl, rfl, rfl, rfl⟩)

def f_X9_again (S : v_S) (I : v_I) (J : v_J) (F : v_F) (p0 : Nat) : Option (Int32 × v_I × v_J) :=
(p_ob S 9 p0).bind fun _ =>
(F p0 3).bind fun a_2 =>
(F p0 0).bind fun a_4 =>
(p_ob S 1 a_2).bind fun _ =>
(f_X1_follow S I J F a_2 a_4).bind fun r_6 =>
(F p0 3).bind fun a_9 =>
(p_ob S 1 a_9).bind fun _ =>
(f_X1_firstReturn S r_6.1 F a_9).bind fun r_11 =>
some (r_11, r_6.1, r_6.2)
set_option maxHeartbeats 4000000 in
set_option maxRecDepth 100000 in
theorem t_X9_again {p0 : Nat} {r : Int32 × v_I × v_J} (h : f_X9_again S I J F p0 = some r) : v_R l B D ac (v_EE B wa wb wt sb sL sx) yX9_again cX9_again 1 (some .int) 6 0 0 [.ref (B + p0)] S I J F (v_D (some (.int r.1)) S r.2.1 r.2.2 F) := by
  refine v_R.of (by decide) (Nat.le_of_ble_eq_true rfl) fun d hd => ?_
  generalize hQ : v_D (some (.int r.1)) S r.2.1 r.2.2 F = Q
  unfold f_X9_again at h
  refine v_sub [(0, .ref (B + p0))] ⟨rfl, trivial⟩ ?_
  refine v_aload_n dX9_again_0 rfl ?_
  replace h := p_bind_elim h
  obtain ⟨_, q_1, h⟩ := h
  have q_1 := p_ob_spec q_1
  replace h := p_bind_elim h
  obtain ⟨a_2, q_3, h⟩ := h
  refine v_getR q_3 rfl fl_X9_30 dX9_again_1 q_1 ?_
  refine v_aload_n dX9_again_4 rfl ?_
  replace h := p_bind_elim h
  obtain ⟨a_4, q_5, h⟩ := h
  refine v_getR q_5 rfl fl_X9_12 dX9_again_5 q_1 ?_
  replace h := p_bind_elim h
  obtain ⟨_, q_8, h⟩ := h
  have q_8 := p_ob_spec q_8
  replace h := p_bind_elim h
  obtain ⟨r_6, q_7, h⟩ := h
  refine v_cVn (t_X1_follow q_7) cal_X1_follow ml_X9_223 sel_X1_follow q_8 kk_1 dX9_again_8 (by omega) (by decide) (by decide) (Nat.le_of_ble_eq_true rfl) rfl ?_
  refine v_aload_n dX9_again_11 rfl ?_
  replace h := p_bind_elim h
  obtain ⟨a_9, q_10, h⟩ := h
  refine v_getR q_10 rfl fl_X9_30 dX9_again_12 q_1 ?_
  replace h := p_bind_elim h
  obtain ⟨_, q_13, h⟩ := h
  have q_13 := p_ob_spec q_13
  replace h := p_bind_elim h
  obtain ⟨r_11, q_12, h⟩ := h
  refine v_cVr (t_X1_firstReturn q_12) cal_X1_firstReturn ml_X9_227 sel_X1_firstReturn q_13 kk_1 dX9_again_15 (by omega) (by decide) (by decide) (Nat.le_of_ble_eq_true rfl) rfl ?_
  cases h
  exact v_iret dX9_again_18 rfl (by decide) (by decide) (by rw [← hQ]; exact ⟨rfl, rfl, rfl, rfl, rfl⟩)

def f_X1_isPart (p0 : Int32) (p1 : Int32) (p2 : Int32) : Option (Int32) :=
(f_J6_bitCount_0f7a4 p0).bind fun r_1 =>
if r_1 = p2 then (
if (p0 &&& (p1 ^^^ (-1 : Int32))) = (0 : Int32) then (
some ((1 : Int32)))
else (
some ((0 : Int32))))
else (
some ((0 : Int32)))
set_option maxHeartbeats 4000000 in
set_option maxRecDepth 100000 in
theorem t_X1_isPart {p0 : Int32} {p1 : Int32} {p2 : Int32} {r : Int32} (h : f_X1_isPart p0 p1 p2 = some r) : v_R l B D ac (v_EE B wa wb wt sb sL sx) yX1_isPart cX1_isPart 3 (some .boolean) 2 0 0 [.int p0, .int p1, .int p2] S I J F (v_D (some (.int r)) S I J F) := by
  refine v_R.of (by decide) (Nat.le_of_ble_eq_true rfl) fun d hd => ?_
  generalize hQ : v_D (some (.int r)) S I J F = Q
  unfold f_X1_isPart at h
  refine v_sub [(0, .int p0), (1, .int p1), (2, .int p2)] ⟨rfl, rfl, rfl, trivial⟩ ?_
  refine v_iload_n dX1_isPart_0 rfl ?_
  replace h := p_bind_elim h
  obtain ⟨r_1, q_2, h⟩ := h
  refine v_cSr (t_J6_bitCount_0f7a4 q_2) cal_J6_bitCount_0f7a4 ml_X1_117 sta_J6_bitCount_0f7a4 dX1_isPart_1 (by omega) (by decide) (by decide) (Nat.le_of_ble_eq_true rfl) rfl ?_
  refine v_iload_n dX1_isPart_4 rfl ?_
  refine v_icmp_ne 20 dX1_isPart_5 (by decide) (fun c_3 => ?_) (fun c_3 => ?_)
  · rw [if_neg c_3] at h
    refine v_iconstE (0 : Int32) dX1_isPart_20 (by decide) ?_
    cases h
    exact v_zret dX1_isPart_21 rfl rfl (by decide) (by decide) (by rw [← hQ]; exact ⟨rfl, rfl, rfl, rfl, rfl⟩)
  · rw [if_pos c_3] at h
    refine v_iload_n dX1_isPart_8 rfl ?_
    refine v_iload_n dX1_isPart_9 rfl ?_
    refine v_iconstE (-1 : Int32) dX1_isPart_10 (by decide) ?_
    refine v_ixor dX1_isPart_11 ?_
    refine v_iand dX1_isPart_12 ?_
    refine v_if_ne 20 dX1_isPart_13 (by decide) (fun c_4 => ?_) (fun c_4 => ?_)
    · rw [if_neg c_4] at h
      refine v_iconstE (0 : Int32) dX1_isPart_20 (by decide) ?_
      cases h
      exact v_zret dX1_isPart_21 rfl rfl (by decide) (by decide) (by rw [← hQ]; exact ⟨rfl, rfl, rfl, rfl, rfl⟩)
    · rw [if_pos c_4] at h
      refine v_iconstE (1 : Int32) dX1_isPart_16 (by decide) ?_
      refine v_goto 21 dX1_isPart_17 (by decide) ?_
      cases h
      exact v_zret dX1_isPart_21 rfl rfl (by decide) (by decide) (by rw [← hQ]; exact ⟨rfl, rfl, rfl, rfl, rfl⟩)

def f_X1_fewestCoaxed_J13_54 (S : v_S) (F : v_F) (w0 : Nat) (w1 : Nat) (w2 : Int32) (w3 : Int32) (w4 : Int32) (I : v_I) (J : v_J) (y5 : Int32) : Option ((Int32 × v_I × v_J) ⊕ (Nat × (Int32 × v_I × v_J))) :=
p_let (y5 + (1 : Int32)) fun x_6 =>
some (.inl (x_6, I, J))
def f_X1_fewestCoaxed_B13 (S : v_S) (F : v_F) (w0 : Nat) (w1 : Nat) (w2 : Int32) (w3 : Int32) (w4 : Int32) (s13 : Int32 × v_I × v_J) : Option ((Int32 × v_I × v_J) ⊕ (Nat × (Int32 × v_I × v_J))) :=
if w2 < s13.1 then (
some (.inr (1, (s13.1, s13.2.1, s13.2.2))))
else (
(f_X1_isPart s13.1 w2 w4).bind fun r_3 =>
if r_3 = (0 : Int32) then (
f_X1_fewestCoaxed_J13_54 S F w0 w1 w2 w3 w4 s13.2.1 s13.2.2 s13.1)
else (
(p_ob S 0 w1).bind fun _ =>
(F w1 1).bind fun a_9 =>
(p_ob S 3 a_9).bind fun _ =>
(p_ob S 1 w0).bind fun _ =>
(f_X1_firstMinute S s13.2.1 s13.2.2 F w0 w1 ((s13.2.1 a_9 0) ||| s13.1) (0 : Int32) w3).bind fun r_12 =>
if r_12.1 = (-1 : Int32) then (
f_X1_fewestCoaxed_J13_54 S F w0 w1 w2 w3 w4 r_12.2.1 r_12.2.2 s13.1)
else (
some (.inr (0, (s13.1, r_12.2.1, r_12.2.2))))))
def f_X1_fewestCoaxed_B3 (S : v_S) (F : v_F) (w0 : Nat) (w1 : Nat) (w2 : Int32) (w3 : Int32) (s3 : Int32 × v_I × v_J) : Option ((Int32 × v_I × v_J) ⊕ (Nat × (Int32 × v_I × v_J × Int32))) :=
if (8 : Int32) < s3.1 then (
some (.inr (1, (s3.1, s3.2.1, s3.2.2, (0 : Int32)))))
else (
(v_loop (f_X1_fewestCoaxed_B13 S F w0 w1 w2 w3 s3.1) FU ((0 : Int32), s3.2.1, s3.2.2)).bind fun q_16 =>
if q_16.1 = 0 then (
some (.inr (0, ((0 : Int32), q_16.2.2.1, q_16.2.2.2, q_16.2.1))))
else (
p_let (s3.1 + (1 : Int32)) fun x_18 =>
some (.inl (x_18, q_16.2.2.1, q_16.2.2.2))))
def f_X1_fewestCoaxed (S : v_S) (I : v_I) (J : v_J) (F : v_F) (p0 : Nat) (p1 : Nat) (p2 : Int32) (p3 : Int32) : Option (Int32 × v_I × v_J) :=
(v_loop (f_X1_fewestCoaxed_B3 S F p0 p1 p2 p3) FU ((0 : Int32), I, J)).bind fun q_21 =>
if q_21.1 = 0 then (
some (q_21.2.2.2.2, q_21.2.2.1, q_21.2.2.2.1))
else (
some ((-1 : Int32), q_21.2.2.1, q_21.2.2.2.1))
set_option maxHeartbeats 4000000 in
set_option maxRecDepth 100000 in
theorem t_X1_fewestCoaxed {p0 : Nat} {p1 : Nat} {p2 : Int32} {p3 : Int32} {r : Int32 × v_I × v_J} (h : f_X1_fewestCoaxed S I J F p0 p1 p2 p3 = some r) : v_R l B D ac (v_EE B wa wb wt sb sL sx) yX1_fewestCoaxed cX1_fewestCoaxed 6 (some .int) 6 0 0 [.ref (B + p0), .ref (B + p1), .int p2, .int p3] S I J F (v_D (some (.int r.1)) S r.2.1 r.2.2 F) := by
  refine v_R.of (by decide) (Nat.le_of_ble_eq_true rfl) fun d hd => ?_
  generalize hQ : v_D (some (.int r.1)) S r.2.1 r.2.2 F = Q
  have b3 : ∀ (w0 : Nat) (w1 : Nat) (w2 : Int32) (w3 : Int32) (s3 : Int32 × v_I × v_J) (rx3 : (Int32 × v_I × v_J) ⊕ (Nat × (Int32 × v_I × v_J × Int32))), f_X1_fewestCoaxed_B3 S F w0 w1 w2 w3 s3 = some rx3 → v_K (fun (sP : Int32 × v_I × v_J) => V l B D ac (v_EE B wa wb wt sb sL sx) yX1_fewestCoaxed cX1_fewestCoaxed 6 (some .int) d 0 0 0 0 S sP.2.1 sP.2.2 F 3 [(0, .ref (B + w0)), (1, .ref (B + w1)), (2, .int w2), (3, .int w3), (4, .int sP.1)] [] Q) (fun (rE : Nat × (Int32 × v_I × v_J × Int32)) => (rE.1 = 0 → V l B D ac (v_EE B wa wb wt sb sL sx) yX1_fewestCoaxed cX1_fewestCoaxed 6 (some .int) d 0 0 0 0 S rE.2.2.1 rE.2.2.2.1 F 51 [(5, .int rE.2.2.2.2)] [] Q) ∧ (¬ rE.1 = 0 → V l B D ac (v_EE B wa wb wt sb sL sx) yX1_fewestCoaxed cX1_fewestCoaxed 6 (some .int) d 0 0 0 0 S rE.2.2.1 rE.2.2.2.1 F 66 [] [] Q)) rx3 → V l B D ac (v_EE B wa wb wt sb sL sx) yX1_fewestCoaxed cX1_fewestCoaxed 6 (some .int) d 0 0 0 0 S s3.2.1 s3.2.2 F 3 [(0, .ref (B + w0)), (1, .ref (B + w1)), (2, .int w2), (3, .int w3), (4, .int s3.1)] [] Q := by
    intro w0 w1 w2 w3 s3 rx3 h hk
    have b13 : ∀ (w0 : Nat) (w1 : Nat) (w2 : Int32) (w3 : Int32) (w4 : Int32) (s13 : Int32 × v_I × v_J) (rx13 : (Int32 × v_I × v_J) ⊕ (Nat × (Int32 × v_I × v_J))), f_X1_fewestCoaxed_B13 S F w0 w1 w2 w3 w4 s13 = some rx13 → v_K (fun (sP : Int32 × v_I × v_J) => V l B D ac (v_EE B wa wb wt sb sL sx) yX1_fewestCoaxed cX1_fewestCoaxed 6 (some .int) d 0 0 0 0 S sP.2.1 sP.2.2 F 13 [(0, .ref (B + w0)), (1, .ref (B + w1)), (2, .int w2), (3, .int w3), (4, .int w4), (5, .int sP.1)] [] Q) (fun (rE : Nat × (Int32 × v_I × v_J)) => (rE.1 = 0 → V l B D ac (v_EE B wa wb wt sb sL sx) yX1_fewestCoaxed cX1_fewestCoaxed 6 (some .int) d 0 0 0 0 S rE.2.2.1 rE.2.2.2 F 51 [(5, .int rE.2.1)] [] Q) ∧ (¬ rE.1 = 0 → V l B D ac (v_EE B wa wb wt sb sL sx) yX1_fewestCoaxed cX1_fewestCoaxed 6 (some .int) d 0 0 0 0 S rE.2.2.1 rE.2.2.2 F 60 [(0, .ref (B + w0)), (1, .ref (B + w1)), (2, .int w2), (3, .int w3), (4, .int w4)] [] Q)) rx13 → V l B D ac (v_EE B wa wb wt sb sL sx) yX1_fewestCoaxed cX1_fewestCoaxed 6 (some .int) d 0 0 0 0 S s13.2.1 s13.2.2 F 13 [(0, .ref (B + w0)), (1, .ref (B + w1)), (2, .int w2), (3, .int w3), (4, .int w4), (5, .int s13.1)] [] Q := by
      intro w0 w1 w2 w3 w4 s13 rx13 h hk
      have j54 : ∀ (I : v_I) (J : v_J) (y5 : Int32), f_X1_fewestCoaxed_J13_54 S F w0 w1 w2 w3 w4 I J y5 = some rx13 → V l B D ac (v_EE B wa wb wt sb sL sx) yX1_fewestCoaxed cX1_fewestCoaxed 6 (some .int) d 0 0 0 0 S I J F 54 [(0, .ref (B + w0)), (1, .ref (B + w1)), (2, .int w2), (3, .int w3), (4, .int w4), (5, .int y5)] [] Q := by
        intro I J y5 h
        unfold f_X1_fewestCoaxed_J13_54 at h
        replace h := p_let_elim h
        obtain ⟨x_6, h_7, h⟩ := h
        refine v_iincE (1 : Int32) dX1_fewestCoaxed_54 (by decide) rfl (by decide) ?_
        rw [← h_7]
        refine v_sub [(0, .ref (B + w0)), (1, .ref (B + w1)), (2, .int w2), (3, .int w3), (4, .int w4), (5, .int x_6)] ⟨rfl, rfl, rfl, rfl, rfl, rfl, trivial⟩ ?_
        refine v_goto 13 dX1_fewestCoaxed_57 (by decide) ?_
        cases h
        refine v_sub [(0, .ref (B + w0)), (1, .ref (B + w1)), (2, .int w2), (3, .int w3), (4, .int w4), (5, .int x_6)] ⟨rfl, rfl, rfl, rfl, rfl, rfl, trivial⟩ ?_
        exact hk
      unfold f_X1_fewestCoaxed_B13 at h
      refine v_iload dX1_fewestCoaxed_13 rfl ?_
      refine v_iload_n dX1_fewestCoaxed_15 rfl ?_
      refine v_icmp_gt 60 dX1_fewestCoaxed_16 (by decide) (fun c_2 => ?_) (fun c_2 => ?_)
      · rw [if_pos c_2] at h
        cases h
        refine v_sub [(0, .ref (B + w0)), (1, .ref (B + w1)), (2, .int w2), (3, .int w3), (4, .int w4)] ⟨rfl, rfl, rfl, rfl, rfl, trivial⟩ ?_
        exact (hk.2 (Nat.succ_ne_zero _))
      · rw [if_neg c_2] at h
        refine v_iload dX1_fewestCoaxed_19 rfl ?_
        refine v_iload_n dX1_fewestCoaxed_21 rfl ?_
        refine v_iload dX1_fewestCoaxed_22 rfl ?_
        replace h := p_bind_elim h
        obtain ⟨r_3, q_4, h⟩ := h
        refine v_cSr (t_X1_isPart q_4) cal_X1_isPart ml_X1_162 sta_X1_isPart dX1_fewestCoaxed_24 (by omega) (by decide) (by decide) (Nat.le_of_ble_eq_true rfl) rfl ?_
        refine v_if_eq 54 dX1_fewestCoaxed_27 (by decide) (fun c_5 => ?_) (fun c_5 => ?_)
        · rw [if_pos c_5] at h
          refine v_sub [(0, .ref (B + w0)), (1, .ref (B + w1)), (2, .int w2), (3, .int w3), (4, .int w4), (5, .int s13.1)] ⟨rfl, rfl, rfl, rfl, rfl, rfl, trivial⟩ ?_
          exact j54 _ _ _ h
        · rw [if_neg c_5] at h
          refine v_aload_n dX1_fewestCoaxed_30 rfl ?_
          refine v_aload_n dX1_fewestCoaxed_31 rfl ?_
          refine v_aload_n dX1_fewestCoaxed_32 rfl ?_
          replace h := p_bind_elim h
          obtain ⟨_, q_8, h⟩ := h
          have q_8 := p_ob_spec q_8
          replace h := p_bind_elim h
          obtain ⟨a_9, q_10, h⟩ := h
          refine v_getR q_10 rfl fl_X1_42 dX1_fewestCoaxed_33 q_8 ?_
          replace h := p_bind_elim h
          obtain ⟨_, q_11, h⟩ := h
          have q_11 := p_ob_spec q_11
          refine v_getI rfl fl_X1_56 dX1_fewestCoaxed_36 q_11 ?_
          refine v_iload dX1_fewestCoaxed_39 rfl ?_
          refine v_ior dX1_fewestCoaxed_41 ?_
          refine v_iconstE (0 : Int32) dX1_fewestCoaxed_42 (by decide) ?_
          refine v_iload_n dX1_fewestCoaxed_43 rfl ?_
          replace h := p_bind_elim h
          obtain ⟨_, q_14, h⟩ := h
          have q_14 := p_ob_spec q_14
          replace h := p_bind_elim h
          obtain ⟨r_12, q_13, h⟩ := h
          refine v_cVr (t_X1_firstMinute q_13) cal_X1_firstMinute ml_X1_166 sel_X1_firstMinute q_14 kk_1 dX1_fewestCoaxed_44 (by omega) (by decide) (by decide) (Nat.le_of_ble_eq_true rfl) rfl ?_
          refine v_iconstE (-1 : Int32) dX1_fewestCoaxed_47 (by decide) ?_
          refine v_icmp_eq 54 dX1_fewestCoaxed_48 (by decide) (fun c_15 => ?_) (fun c_15 => ?_)
          · rw [if_pos c_15] at h
            refine v_sub [(0, .ref (B + w0)), (1, .ref (B + w1)), (2, .int w2), (3, .int w3), (4, .int w4), (5, .int s13.1)] ⟨rfl, rfl, rfl, rfl, rfl, rfl, trivial⟩ ?_
            exact j54 _ _ _ h
          · rw [if_neg c_15] at h
            cases h
            refine v_sub [(5, .int s13.1)] ⟨rfl, trivial⟩ ?_
            exact hk.1 rfl
    unfold f_X1_fewestCoaxed_B3 at h
    refine v_iload dX1_fewestCoaxed_3 rfl ?_
    refine v_bipush (8 : Int32) dX1_fewestCoaxed_5 (by decide) ?_
    refine v_icmp_gt 66 dX1_fewestCoaxed_7 (by decide) (fun c_1 => ?_) (fun c_1 => ?_)
    · rw [if_pos c_1] at h
      cases h
      refine v_sub [] trivial ?_
      exact (hk.2 (Nat.succ_ne_zero _))
    · rw [if_neg c_1] at h
      refine v_iconstE (0 : Int32) dX1_fewestCoaxed_10 (by decide) ?_
      refine v_istore dX1_fewestCoaxed_11 (by decide) ?_
      refine v_sub [(0, .ref (B + w0)), (1, .ref (B + w1)), (2, .int w2), (3, .int w3), (4, .int s3.1), (5, .int (0 : Int32))] ⟨rfl, rfl, rfl, rfl, rfl, rfl, trivial⟩ ?_
      replace h := p_bind_elim h
      obtain ⟨q_16, h_17, h⟩ := h
      refine v_sub [(0, .ref (B + w0)), (1, .ref (B + w1)), (2, .int w2), (3, .int w3), (4, .int s3.1), (5, .int (0 : Int32))] ⟨rfl, rfl, rfl, rfl, rfl, rfl, trivial⟩ ?_
      refine v_loopV (fun (sP : Int32 × v_I × v_J) => V l B D ac (v_EE B wa wb wt sb sL sx) yX1_fewestCoaxed cX1_fewestCoaxed 6 (some .int) d 0 0 0 0 S sP.2.1 sP.2.2 F 13 [(0, .ref (B + w0)), (1, .ref (B + w1)), (2, .int w2), (3, .int w3), (4, .int s3.1), (5, .int sP.1)] [] Q) (fun (rE : Nat × (Int32 × v_I × v_J)) => (rE.1 = 0 → V l B D ac (v_EE B wa wb wt sb sL sx) yX1_fewestCoaxed cX1_fewestCoaxed 6 (some .int) d 0 0 0 0 S rE.2.2.1 rE.2.2.2 F 51 [(5, .int rE.2.1)] [] Q) ∧ (¬ rE.1 = 0 → V l B D ac (v_EE B wa wb wt sb sL sx) yX1_fewestCoaxed cX1_fewestCoaxed 6 (some .int) d 0 0 0 0 S rE.2.2.1 rE.2.2.2 F 60 [(0, .ref (B + w0)), (1, .ref (B + w1)), (2, .int w2), (3, .int w3), (4, .int s3.1)] [] Q)) (fun s_ x_ hb hk => b13 _ _ _ _ _ s_ x_ hb hk) (r := q_16) ?_ h_17
      try dsimp only
      refine ⟨fun c_20 => ?_, fun c_20 => ?_⟩
      · rw [if_pos c_20] at h
        cases h
        refine v_sub [(5, .int q_16.2.1)] ⟨rfl, trivial⟩ ?_
        exact hk.1 rfl
      · rw [if_neg c_20] at h
        replace h := p_let_elim h
        obtain ⟨x_18, h_19, h⟩ := h
        refine v_iincE (1 : Int32) dX1_fewestCoaxed_60 (by decide) rfl (by decide) ?_
        rw [← h_19]
        refine v_sub [(0, .ref (B + w0)), (1, .ref (B + w1)), (2, .int w2), (3, .int w3), (4, .int x_18)] ⟨rfl, rfl, rfl, rfl, rfl, trivial⟩ ?_
        refine v_goto 3 dX1_fewestCoaxed_63 (by decide) ?_
        cases h
        refine v_sub [(0, .ref (B + w0)), (1, .ref (B + w1)), (2, .int w2), (3, .int w3), (4, .int x_18)] ⟨rfl, rfl, rfl, rfl, rfl, trivial⟩ ?_
        exact hk
  unfold f_X1_fewestCoaxed at h
  refine v_sub [(0, .ref (B + p0)), (1, .ref (B + p1)), (2, .int p2), (3, .int p3)] ⟨rfl, rfl, rfl, rfl, trivial⟩ ?_
  refine v_iconstE (0 : Int32) dX1_fewestCoaxed_0 (by decide) ?_
  refine v_istore dX1_fewestCoaxed_1 (by decide) ?_
  refine v_sub [(0, .ref (B + p0)), (1, .ref (B + p1)), (2, .int p2), (3, .int p3), (4, .int (0 : Int32))] ⟨rfl, rfl, rfl, rfl, rfl, trivial⟩ ?_
  replace h := p_bind_elim h
  obtain ⟨q_21, h_22, h⟩ := h
  refine v_sub [(0, .ref (B + p0)), (1, .ref (B + p1)), (2, .int p2), (3, .int p3), (4, .int (0 : Int32))] ⟨rfl, rfl, rfl, rfl, rfl, trivial⟩ ?_
  refine v_loopV (fun (sP : Int32 × v_I × v_J) => V l B D ac (v_EE B wa wb wt sb sL sx) yX1_fewestCoaxed cX1_fewestCoaxed 6 (some .int) d 0 0 0 0 S sP.2.1 sP.2.2 F 3 [(0, .ref (B + p0)), (1, .ref (B + p1)), (2, .int p2), (3, .int p3), (4, .int sP.1)] [] Q) (fun (rE : Nat × (Int32 × v_I × v_J × Int32)) => (rE.1 = 0 → V l B D ac (v_EE B wa wb wt sb sL sx) yX1_fewestCoaxed cX1_fewestCoaxed 6 (some .int) d 0 0 0 0 S rE.2.2.1 rE.2.2.2.1 F 51 [(5, .int rE.2.2.2.2)] [] Q) ∧ (¬ rE.1 = 0 → V l B D ac (v_EE B wa wb wt sb sL sx) yX1_fewestCoaxed cX1_fewestCoaxed 6 (some .int) d 0 0 0 0 S rE.2.2.1 rE.2.2.2.1 F 66 [] [] Q)) (fun s_ x_ hb hk => b3 _ _ _ _ s_ x_ hb hk) (r := q_21) ?_ h_22
  try dsimp only
  refine ⟨fun c_23 => ?_, fun c_23 => ?_⟩
  · rw [if_pos c_23] at h
    refine v_iload dX1_fewestCoaxed_51 rfl ?_
    cases h
    exact v_iret dX1_fewestCoaxed_53 rfl (by decide) (by decide) (by rw [← hQ]; exact ⟨rfl, rfl, rfl, rfl, rfl⟩)
  · rw [if_neg c_23] at h
    refine v_iconstE (-1 : Int32) dX1_fewestCoaxed_66 (by decide) ?_
    cases h
    exact v_iret dX1_fewestCoaxed_67 rfl (by decide) (by decide) (by rw [← hQ]; exact ⟨rfl, rfl, rfl, rfl, rfl⟩)

def f_X9_tellSet (p0 : Int32) (p1 : Int32) : Option (Int32) :=
if p0 = (-1 : Int32) then (
some (p0))
else (
if p1 = (1 : Int32) then (
some (p0))
else (
(f_J6_bitCount_0f7a4 p0).bind fun r_3 =>
some (r_3)))
set_option maxHeartbeats 4000000 in
set_option maxRecDepth 100000 in
theorem t_X9_tellSet {p0 : Int32} {p1 : Int32} {r : Int32} (h : f_X9_tellSet p0 p1 = some r) : v_R l B D ac (v_EE B wa wb wt sb sL sx) yX9_tellSet cX9_tellSet 2 (some .int) 2 0 0 [.int p0, .int p1] S I J F (v_D (some (.int r)) S I J F) := by
  refine v_R.of (by decide) (Nat.le_of_ble_eq_true rfl) fun d hd => ?_
  generalize hQ : v_D (some (.int r)) S I J F = Q
  unfold f_X9_tellSet at h
  refine v_sub [(0, .int p0), (1, .int p1)] ⟨rfl, rfl, trivial⟩ ?_
  refine v_iload_n dX9_tellSet_0 rfl ?_
  refine v_iconstE (-1 : Int32) dX9_tellSet_1 (by decide) ?_
  refine v_icmp_eq 10 dX9_tellSet_2 (by decide) (fun c_1 => ?_) (fun c_1 => ?_)
  · rw [if_pos c_1] at h
    refine v_iload_n dX9_tellSet_10 rfl ?_
    refine v_goto 18 dX9_tellSet_11 (by decide) ?_
    cases h
    exact v_iret dX9_tellSet_18 rfl (by decide) (by decide) (by rw [← hQ]; exact ⟨rfl, rfl, rfl, rfl, rfl⟩)
  · rw [if_neg c_1] at h
    refine v_iload_n dX9_tellSet_5 rfl ?_
    refine v_iconstE (1 : Int32) dX9_tellSet_6 (by decide) ?_
    refine v_icmp_ne 14 dX9_tellSet_7 (by decide) (fun c_2 => ?_) (fun c_2 => ?_)
    · rw [if_neg c_2] at h
      refine v_iload_n dX9_tellSet_14 rfl ?_
      replace h := p_bind_elim h
      obtain ⟨r_3, q_4, h⟩ := h
      refine v_cSr (t_J6_bitCount_0f7a4 q_4) cal_J6_bitCount_0f7a4 ml_X9_251 sta_J6_bitCount_0f7a4 dX9_tellSet_15 (by omega) (by decide) (by decide) (Nat.le_of_ble_eq_true rfl) rfl ?_
      cases h
      exact v_iret dX9_tellSet_18 rfl (by decide) (by decide) (by rw [← hQ]; exact ⟨rfl, rfl, rfl, rfl, rfl⟩)
    · rw [if_pos c_2] at h
      refine v_iload_n dX9_tellSet_10 rfl ?_
      refine v_goto 18 dX9_tellSet_11 (by decide) ?_
      cases h
      exact v_iret dX9_tellSet_18 rfl (by decide) (by decide) (by rw [← hQ]; exact ⟨rfl, rfl, rfl, rfl, rfl⟩)

def f_X9_seeds (S : v_S) (I : v_I) (J : v_J) (F : v_F) (p0 : Nat) (p1 : Int32) : Option (Int32 × v_I × v_J) :=
(f_X9_isUpTo p1.toInt64 (1 : Int32)).bind fun r_1 =>
if r_1 = (0 : Int32) then (
some ((-1 : Int32), I, J))
else (
(p_ob S 9 p0).bind fun _ =>
(F p0 0).bind fun a_5 =>
(p_ob S 0 a_5).bind fun _ =>
(f_X0_everyone S I a_5).bind fun r_7 =>
(F p0 0).bind fun a_10 =>
(p_ob S 0 a_10).bind fun _ =>
(F a_10 1).bind fun a_13 =>
(p_ob S 3 a_13).bind fun _ =>
p_let (r_7 &&& ((I a_13 0) ^^^ (-1 : Int32))) fun x_16 =>
(F p0 3).bind fun a_18 =>
(F p0 0).bind fun a_20 =>
(F p0 0).bind fun a_22 =>
(p_ob S 0 a_22).bind fun _ =>
(f_X0_everyone S I a_22).bind fun r_24 =>
(p_ob S 1 a_18).bind fun _ =>
(f_X1_fewestCoaxed S I J F a_18 a_20 x_16 r_24).bind fun r_27 =>
(f_X9_tellSet r_27.1 p1).bind fun r_30 =>
some (r_30, r_27.2.1, r_27.2.2))
set_option maxHeartbeats 4000000 in
set_option maxRecDepth 100000 in
theorem t_X9_seeds {p0 : Nat} {p1 : Int32} {r : Int32 × v_I × v_J} (h : f_X9_seeds S I J F p0 p1 = some r) : v_R l B D ac (v_EE B wa wb wt sb sL sx) yX9_seeds cX9_seeds 3 (some .int) 7 0 0 [.ref (B + p0), .int p1] S I J F (v_D (some (.int r.1)) S r.2.1 r.2.2 F) := by
  refine v_R.of (by decide) (Nat.le_of_ble_eq_true rfl) fun d hd => ?_
  generalize hQ : v_D (some (.int r.1)) S r.2.1 r.2.2 F = Q
  unfold f_X9_seeds at h
  refine v_sub [(0, .ref (B + p0)), (1, .int p1)] ⟨rfl, rfl, trivial⟩ ?_
  refine v_iload_n dX9_seeds_0 rfl ?_
  refine v_i2l dX9_seeds_1 ?_
  refine v_iconstE (1 : Int32) dX9_seeds_2 (by decide) ?_
  replace h := p_bind_elim h
  obtain ⟨r_1, q_2, h⟩ := h
  refine v_cSr (t_X9_isUpTo q_2) cal_X9_isUpTo ml_X9_95 sta_X9_isUpTo dX9_seeds_3 (by omega) (by decide) (by decide) (Nat.le_of_ble_eq_true rfl) rfl ?_
  refine v_if_ne 11 dX9_seeds_6 (by decide) (fun c_3 => ?_) (fun c_3 => ?_)
  · rw [if_neg c_3] at h
    refine v_aload_n dX9_seeds_11 rfl ?_
    replace h := p_bind_elim h
    obtain ⟨_, q_4, h⟩ := h
    have q_4 := p_ob_spec q_4
    replace h := p_bind_elim h
    obtain ⟨a_5, q_6, h⟩ := h
    refine v_getR q_6 rfl fl_X9_12 dX9_seeds_12 q_4 ?_
    replace h := p_bind_elim h
    obtain ⟨_, q_9, h⟩ := h
    have q_9 := p_ob_spec q_9
    replace h := p_bind_elim h
    obtain ⟨r_7, q_8, h⟩ := h
    refine v_cVr (t_X0_everyone q_8) cal_X0_everyone ml_X9_219 sel_X0_everyone q_9 kk_0 dX9_seeds_15 (by omega) (by decide) (by decide) (Nat.le_of_ble_eq_true rfl) rfl ?_
    refine v_aload_n dX9_seeds_18 rfl ?_
    replace h := p_bind_elim h
    obtain ⟨a_10, q_11, h⟩ := h
    refine v_getR q_11 rfl fl_X9_12 dX9_seeds_19 q_4 ?_
    replace h := p_bind_elim h
    obtain ⟨_, q_12, h⟩ := h
    have q_12 := p_ob_spec q_12
    replace h := p_bind_elim h
    obtain ⟨a_13, q_14, h⟩ := h
    refine v_getR q_14 rfl fl_X9_123 dX9_seeds_22 q_12 ?_
    replace h := p_bind_elim h
    obtain ⟨_, q_15, h⟩ := h
    have q_15 := p_ob_spec q_15
    refine v_getI rfl fl_X9_209 dX9_seeds_25 q_15 ?_
    refine v_iconstE (-1 : Int32) dX9_seeds_28 (by decide) ?_
    refine v_ixor dX9_seeds_29 ?_
    refine v_iand dX9_seeds_30 ?_
    replace h := p_let_elim h
    obtain ⟨x_16, h_17, h⟩ := h
    rw [← h_17]
    refine v_istore_n dX9_seeds_31 (by decide) ?_
    refine v_sub [(0, .ref (B + p0)), (1, .int p1), (2, .int x_16)] ⟨rfl, rfl, rfl, trivial⟩ ?_
    refine v_aload_n dX9_seeds_32 rfl ?_
    replace h := p_bind_elim h
    obtain ⟨a_18, q_19, h⟩ := h
    refine v_getR q_19 rfl fl_X9_30 dX9_seeds_33 q_4 ?_
    refine v_aload_n dX9_seeds_36 rfl ?_
    replace h := p_bind_elim h
    obtain ⟨a_20, q_21, h⟩ := h
    refine v_getR q_21 rfl fl_X9_12 dX9_seeds_37 q_4 ?_
    refine v_iload_n dX9_seeds_40 rfl ?_
    refine v_aload_n dX9_seeds_41 rfl ?_
    replace h := p_bind_elim h
    obtain ⟨a_22, q_23, h⟩ := h
    refine v_getR q_23 rfl fl_X9_12 dX9_seeds_42 q_4 ?_
    replace h := p_bind_elim h
    obtain ⟨_, q_26, h⟩ := h
    have q_26 := p_ob_spec q_26
    replace h := p_bind_elim h
    obtain ⟨r_24, q_25, h⟩ := h
    refine v_cVr (t_X0_everyone q_25) cal_X0_everyone ml_X9_219 sel_X0_everyone q_26 kk_0 dX9_seeds_45 (by omega) (by decide) (by decide) (Nat.le_of_ble_eq_true rfl) rfl ?_
    replace h := p_bind_elim h
    obtain ⟨_, q_29, h⟩ := h
    have q_29 := p_ob_spec q_29
    replace h := p_bind_elim h
    obtain ⟨r_27, q_28, h⟩ := h
    refine v_cVr (t_X1_fewestCoaxed q_28) cal_X1_fewestCoaxed ml_X9_230 sel_X1_fewestCoaxed q_29 kk_1 dX9_seeds_48 (by omega) (by decide) (by decide) (Nat.le_of_ble_eq_true rfl) rfl ?_
    refine v_iload_n dX9_seeds_51 rfl ?_
    replace h := p_bind_elim h
    obtain ⟨r_30, q_31, h⟩ := h
    refine v_cSr (t_X9_tellSet q_31) cal_X9_tellSet ml_X9_233 sta_X9_tellSet dX9_seeds_52 (by omega) (by decide) (by decide) (Nat.le_of_ble_eq_true rfl) rfl ?_
    cases h
    exact v_iret dX9_seeds_55 rfl (by decide) (by decide) (by rw [← hQ]; exact ⟨rfl, rfl, rfl, rfl, rfl⟩)
  · rw [if_pos c_3] at h
    refine v_iconstE (-1 : Int32) dX9_seeds_9 (by decide) ?_
    cases h
    exact v_iret dX9_seeds_10 rfl (by decide) (by decide) (by rw [← hQ]; exact ⟨rfl, rfl, rfl, rfl, rfl⟩)

def f_X9_seedsFor (S : v_S) (I : v_I) (J : v_J) (F : v_F) (p0 : Nat) (p1 : Int32) (p2 : Int32) : Option (Int32 × v_I × v_J) :=
(f_X9_isUpTo p2.toInt64 (1 : Int32)).bind fun r_1 =>
if r_1 = (0 : Int32) then (
some ((-1 : Int32), I, J))
else (
(p_ob S 9 p0).bind fun _ =>
(F p0 0).bind fun a_5 =>
(p_ob S 0 a_5).bind fun _ =>
(f_X0_has S I a_5 p1.toInt64).bind fun r_7 =>
if r_7 = (0 : Int32) then (
some ((-1 : Int32), I, J))
else (
(F p0 0).bind fun a_11 =>
(p_ob S 0 a_11).bind fun _ =>
(f_X0_everyone S I a_11).bind fun r_13 =>
(F p0 0).bind fun a_16 =>
(p_ob S 0 a_16).bind fun _ =>
(F a_16 1).bind fun a_19 =>
(p_ob S 3 a_19).bind fun _ =>
p_let ((r_13 &&& ((I a_19 0) ^^^ (-1 : Int32))) &&& (((1 : Int32) <<< (p1 &&& 31)) ^^^ (-1 : Int32))) fun x_22 =>
(F p0 3).bind fun a_24 =>
(F p0 0).bind fun a_26 =>
(p_ob S 1 a_24).bind fun _ =>
(f_X1_fewestCoaxed S I J F a_24 a_26 x_22 ((1 : Int32) <<< (p1 &&& 31))).bind fun r_28 =>
(f_X9_tellSet r_28.1 p2).bind fun r_31 =>
some (r_31, r_28.2.1, r_28.2.2)))
set_option maxHeartbeats 4000000 in
set_option maxRecDepth 100000 in
theorem t_X9_seedsFor {p0 : Nat} {p1 : Int32} {p2 : Int32} {r : Int32 × v_I × v_J} (h : f_X9_seedsFor S I J F p0 p1 p2 = some r) : v_R l B D ac (v_EE B wa wb wt sb sL sx) yX9_seedsFor cX9_seedsFor 4 (some .int) 7 0 0 [.ref (B + p0), .int p1, .int p2] S I J F (v_D (some (.int r.1)) S r.2.1 r.2.2 F) := by
  refine v_R.of (by decide) (Nat.le_of_ble_eq_true rfl) fun d hd => ?_
  generalize hQ : v_D (some (.int r.1)) S r.2.1 r.2.2 F = Q
  unfold f_X9_seedsFor at h
  refine v_sub [(0, .ref (B + p0)), (1, .int p1), (2, .int p2)] ⟨rfl, rfl, rfl, trivial⟩ ?_
  refine v_iload_n dX9_seedsFor_0 rfl ?_
  refine v_i2l dX9_seedsFor_1 ?_
  refine v_iconstE (1 : Int32) dX9_seedsFor_2 (by decide) ?_
  replace h := p_bind_elim h
  obtain ⟨r_1, q_2, h⟩ := h
  refine v_cSr (t_X9_isUpTo q_2) cal_X9_isUpTo ml_X9_95 sta_X9_isUpTo dX9_seedsFor_3 (by omega) (by decide) (by decide) (Nat.le_of_ble_eq_true rfl) rfl ?_
  refine v_if_eq 21 dX9_seedsFor_6 (by decide) (fun c_3 => ?_) (fun c_3 => ?_)
  · rw [if_pos c_3] at h
    refine v_iconstE (-1 : Int32) dX9_seedsFor_21 (by decide) ?_
    cases h
    exact v_iret dX9_seedsFor_22 rfl (by decide) (by decide) (by rw [← hQ]; exact ⟨rfl, rfl, rfl, rfl, rfl⟩)
  · rw [if_neg c_3] at h
    refine v_aload_n dX9_seedsFor_9 rfl ?_
    replace h := p_bind_elim h
    obtain ⟨_, q_4, h⟩ := h
    have q_4 := p_ob_spec q_4
    replace h := p_bind_elim h
    obtain ⟨a_5, q_6, h⟩ := h
    refine v_getR q_6 rfl fl_X9_12 dX9_seedsFor_10 q_4 ?_
    refine v_iload_n dX9_seedsFor_13 rfl ?_
    refine v_i2l dX9_seedsFor_14 ?_
    replace h := p_bind_elim h
    obtain ⟨_, q_9, h⟩ := h
    have q_9 := p_ob_spec q_9
    replace h := p_bind_elim h
    obtain ⟨r_7, q_8, h⟩ := h
    refine v_cVr (t_X0_has q_8) cal_X0_has ml_X9_116 sel_X0_has q_9 kk_0 dX9_seedsFor_15 (by omega) (by decide) (by decide) (Nat.le_of_ble_eq_true rfl) rfl ?_
    refine v_if_ne 23 dX9_seedsFor_18 (by decide) (fun c_10 => ?_) (fun c_10 => ?_)
    · rw [if_neg c_10] at h
      refine v_aload_n dX9_seedsFor_23 rfl ?_
      replace h := p_bind_elim h
      obtain ⟨a_11, q_12, h⟩ := h
      refine v_getR q_12 rfl fl_X9_12 dX9_seedsFor_24 q_4 ?_
      replace h := p_bind_elim h
      obtain ⟨_, q_15, h⟩ := h
      have q_15 := p_ob_spec q_15
      replace h := p_bind_elim h
      obtain ⟨r_13, q_14, h⟩ := h
      refine v_cVr (t_X0_everyone q_14) cal_X0_everyone ml_X9_219 sel_X0_everyone q_15 kk_0 dX9_seedsFor_27 (by omega) (by decide) (by decide) (Nat.le_of_ble_eq_true rfl) rfl ?_
      refine v_aload_n dX9_seedsFor_30 rfl ?_
      replace h := p_bind_elim h
      obtain ⟨a_16, q_17, h⟩ := h
      refine v_getR q_17 rfl fl_X9_12 dX9_seedsFor_31 q_4 ?_
      replace h := p_bind_elim h
      obtain ⟨_, q_18, h⟩ := h
      have q_18 := p_ob_spec q_18
      replace h := p_bind_elim h
      obtain ⟨a_19, q_20, h⟩ := h
      refine v_getR q_20 rfl fl_X9_123 dX9_seedsFor_34 q_18 ?_
      replace h := p_bind_elim h
      obtain ⟨_, q_21, h⟩ := h
      have q_21 := p_ob_spec q_21
      refine v_getI rfl fl_X9_209 dX9_seedsFor_37 q_21 ?_
      refine v_iconstE (-1 : Int32) dX9_seedsFor_40 (by decide) ?_
      refine v_ixor dX9_seedsFor_41 ?_
      refine v_iand dX9_seedsFor_42 ?_
      refine v_iconstE (1 : Int32) dX9_seedsFor_43 (by decide) ?_
      refine v_iload_n dX9_seedsFor_44 rfl ?_
      refine v_ishl dX9_seedsFor_45 ?_
      refine v_iconstE (-1 : Int32) dX9_seedsFor_46 (by decide) ?_
      refine v_ixor dX9_seedsFor_47 ?_
      refine v_iand dX9_seedsFor_48 ?_
      replace h := p_let_elim h
      obtain ⟨x_22, h_23, h⟩ := h
      rw [← h_23]
      refine v_istore_n dX9_seedsFor_49 (by decide) ?_
      refine v_sub [(0, .ref (B + p0)), (1, .int p1), (2, .int p2), (3, .int x_22)] ⟨rfl, rfl, rfl, rfl, trivial⟩ ?_
      refine v_aload_n dX9_seedsFor_50 rfl ?_
      replace h := p_bind_elim h
      obtain ⟨a_24, q_25, h⟩ := h
      refine v_getR q_25 rfl fl_X9_30 dX9_seedsFor_51 q_4 ?_
      refine v_aload_n dX9_seedsFor_54 rfl ?_
      replace h := p_bind_elim h
      obtain ⟨a_26, q_27, h⟩ := h
      refine v_getR q_27 rfl fl_X9_12 dX9_seedsFor_55 q_4 ?_
      refine v_iload_n dX9_seedsFor_58 rfl ?_
      refine v_iconstE (1 : Int32) dX9_seedsFor_59 (by decide) ?_
      refine v_iload_n dX9_seedsFor_60 rfl ?_
      refine v_ishl dX9_seedsFor_61 ?_
      replace h := p_bind_elim h
      obtain ⟨_, q_30, h⟩ := h
      have q_30 := p_ob_spec q_30
      replace h := p_bind_elim h
      obtain ⟨r_28, q_29, h⟩ := h
      refine v_cVr (t_X1_fewestCoaxed q_29) cal_X1_fewestCoaxed ml_X9_230 sel_X1_fewestCoaxed q_30 kk_1 dX9_seedsFor_62 (by omega) (by decide) (by decide) (Nat.le_of_ble_eq_true rfl) rfl ?_
      refine v_iload_n dX9_seedsFor_65 rfl ?_
      replace h := p_bind_elim h
      obtain ⟨r_31, q_32, h⟩ := h
      refine v_cSr (t_X9_tellSet q_32) cal_X9_tellSet ml_X9_233 sta_X9_tellSet dX9_seedsFor_66 (by omega) (by decide) (by decide) (Nat.le_of_ble_eq_true rfl) rfl ?_
      cases h
      exact v_iret dX9_seedsFor_69 rfl (by decide) (by decide) (by rw [← hQ]; exact ⟨rfl, rfl, rfl, rfl, rfl⟩)
    · rw [if_pos c_10] at h
      refine v_iconstE (-1 : Int32) dX9_seedsFor_21 (by decide) ?_
      cases h
      exact v_iret dX9_seedsFor_22 rfl (by decide) (by decide) (by rw [← hQ]; exact ⟨rfl, rfl, rfl, rfl, rfl⟩)

def f_X9_spread (S : v_S) (I : v_I) (J : v_J) (F : v_F) (p0 : Nat) (p1 : Int32) : Option (Int32 × v_I × v_J) :=
(p_ob S 9 p0).bind fun _ =>
(F p0 0).bind fun a_2 =>
(p_ob S 0 a_2).bind fun _ =>
(f_X0_has S I a_2 p1.toInt64).bind fun r_4 =>
if r_4 = (0 : Int32) then (
some ((-1 : Int32), I, J))
else (
(F p0 0).bind fun a_8 =>
(p_ob S 0 a_8).bind fun _ =>
(F a_8 1).bind fun a_11 =>
(p_ob S 3 a_11).bind fun _ =>
p_let ((I a_11 0) ||| ((1 : Int32) <<< (p1 &&& 31))) fun x_14 =>
(F p0 3).bind fun a_16 =>
(F p0 0).bind fun a_18 =>
(p_ob S 1 a_16).bind fun _ =>
(f_X1_openBehind S I J F a_16 a_18 x_14 (60 : Int32)).bind fun r_20 =>
(F p0 3).bind fun a_23 =>
(F p0 0).bind fun a_25 =>
(p_ob S 1 a_23).bind fun _ =>
(f_X1_openBehind S r_20.2.1 r_20.2.2 F a_23 a_25 (x_14 &&& (((1 : Int32) <<< (p1 &&& 31)) ^^^ (-1 : Int32))) (60 : Int32)).bind fun r_27 =>
some (r_20.1 &&& (r_27.1 ^^^ (-1 : Int32)), r_27.2.1, r_27.2.2))
set_option maxHeartbeats 4000000 in
set_option maxRecDepth 100000 in
theorem t_X9_spread {p0 : Nat} {p1 : Int32} {r : Int32 × v_I × v_J} (h : f_X9_spread S I J F p0 p1 = some r) : v_R l B D ac (v_EE B wa wb wt sb sL sx) yX9_spread cX9_spread 5 (some .int) 6 0 0 [.ref (B + p0), .int p1] S I J F (v_D (some (.int r.1)) S r.2.1 r.2.2 F) := by
  refine v_R.of (by decide) (Nat.le_of_ble_eq_true rfl) fun d hd => ?_
  generalize hQ : v_D (some (.int r.1)) S r.2.1 r.2.2 F = Q
  unfold f_X9_spread at h
  refine v_sub [(0, .ref (B + p0)), (1, .int p1)] ⟨rfl, rfl, trivial⟩ ?_
  refine v_aload_n dX9_spread_0 rfl ?_
  replace h := p_bind_elim h
  obtain ⟨_, q_1, h⟩ := h
  have q_1 := p_ob_spec q_1
  replace h := p_bind_elim h
  obtain ⟨a_2, q_3, h⟩ := h
  refine v_getR q_3 rfl fl_X9_12 dX9_spread_1 q_1 ?_
  refine v_iload_n dX9_spread_4 rfl ?_
  refine v_i2l dX9_spread_5 ?_
  replace h := p_bind_elim h
  obtain ⟨_, q_6, h⟩ := h
  have q_6 := p_ob_spec q_6
  replace h := p_bind_elim h
  obtain ⟨r_4, q_5, h⟩ := h
  refine v_cVr (t_X0_has q_5) cal_X0_has ml_X9_116 sel_X0_has q_6 kk_0 dX9_spread_6 (by omega) (by decide) (by decide) (Nat.le_of_ble_eq_true rfl) rfl ?_
  refine v_if_ne 14 dX9_spread_9 (by decide) (fun c_7 => ?_) (fun c_7 => ?_)
  · rw [if_neg c_7] at h
    refine v_aload_n dX9_spread_14 rfl ?_
    replace h := p_bind_elim h
    obtain ⟨a_8, q_9, h⟩ := h
    refine v_getR q_9 rfl fl_X9_12 dX9_spread_15 q_1 ?_
    replace h := p_bind_elim h
    obtain ⟨_, q_10, h⟩ := h
    have q_10 := p_ob_spec q_10
    replace h := p_bind_elim h
    obtain ⟨a_11, q_12, h⟩ := h
    refine v_getR q_12 rfl fl_X9_123 dX9_spread_18 q_10 ?_
    replace h := p_bind_elim h
    obtain ⟨_, q_13, h⟩ := h
    have q_13 := p_ob_spec q_13
    refine v_getI rfl fl_X9_209 dX9_spread_21 q_13 ?_
    refine v_iconstE (1 : Int32) dX9_spread_24 (by decide) ?_
    refine v_iload_n dX9_spread_25 rfl ?_
    refine v_ishl dX9_spread_26 ?_
    refine v_ior dX9_spread_27 ?_
    replace h := p_let_elim h
    obtain ⟨x_14, h_15, h⟩ := h
    rw [← h_15]
    refine v_istore_n dX9_spread_28 (by decide) ?_
    refine v_sub [(0, .ref (B + p0)), (1, .int p1), (2, .int x_14)] ⟨rfl, rfl, rfl, trivial⟩ ?_
    refine v_aload_n dX9_spread_29 rfl ?_
    replace h := p_bind_elim h
    obtain ⟨a_16, q_17, h⟩ := h
    refine v_getR q_17 rfl fl_X9_30 dX9_spread_30 q_1 ?_
    refine v_aload_n dX9_spread_33 rfl ?_
    replace h := p_bind_elim h
    obtain ⟨a_18, q_19, h⟩ := h
    refine v_getR q_19 rfl fl_X9_12 dX9_spread_34 q_1 ?_
    refine v_iload_n dX9_spread_37 rfl ?_
    refine v_bipush (60 : Int32) dX9_spread_38 (by decide) ?_
    replace h := p_bind_elim h
    obtain ⟨_, q_22, h⟩ := h
    have q_22 := p_ob_spec q_22
    replace h := p_bind_elim h
    obtain ⟨r_20, q_21, h⟩ := h
    refine v_cVr (t_X1_openBehind q_21) cal_X1_openBehind ml_X9_212 sel_X1_openBehind q_22 kk_1 dX9_spread_40 (by omega) (by decide) (by decide) (Nat.le_of_ble_eq_true rfl) rfl ?_
    refine v_istore_n dX9_spread_43 (by decide) ?_
    refine v_sub [(0, .ref (B + p0)), (1, .int p1), (2, .int x_14), (3, .int r_20.1)] ⟨rfl, rfl, rfl, rfl, trivial⟩ ?_
    refine v_aload_n dX9_spread_44 rfl ?_
    replace h := p_bind_elim h
    obtain ⟨a_23, q_24, h⟩ := h
    refine v_getR q_24 rfl fl_X9_30 dX9_spread_45 q_1 ?_
    refine v_aload_n dX9_spread_48 rfl ?_
    replace h := p_bind_elim h
    obtain ⟨a_25, q_26, h⟩ := h
    refine v_getR q_26 rfl fl_X9_12 dX9_spread_49 q_1 ?_
    refine v_iload_n dX9_spread_52 rfl ?_
    refine v_iconstE (1 : Int32) dX9_spread_53 (by decide) ?_
    refine v_iload_n dX9_spread_54 rfl ?_
    refine v_ishl dX9_spread_55 ?_
    refine v_iconstE (-1 : Int32) dX9_spread_56 (by decide) ?_
    refine v_ixor dX9_spread_57 ?_
    refine v_iand dX9_spread_58 ?_
    refine v_bipush (60 : Int32) dX9_spread_59 (by decide) ?_
    replace h := p_bind_elim h
    obtain ⟨_, q_29, h⟩ := h
    have q_29 := p_ob_spec q_29
    replace h := p_bind_elim h
    obtain ⟨r_27, q_28, h⟩ := h
    refine v_cVr (t_X1_openBehind q_28) cal_X1_openBehind ml_X9_212 sel_X1_openBehind q_29 kk_1 dX9_spread_61 (by omega) (by decide) (by decide) (Nat.le_of_ble_eq_true rfl) rfl ?_
    refine v_istore dX9_spread_64 (by decide) ?_
    refine v_sub [(3, .int r_20.1), (4, .int r_27.1)] ⟨rfl, rfl, trivial⟩ ?_
    refine v_iload_n dX9_spread_66 rfl ?_
    refine v_iload dX9_spread_67 rfl ?_
    refine v_iconstE (-1 : Int32) dX9_spread_69 (by decide) ?_
    refine v_ixor dX9_spread_70 ?_
    refine v_iand dX9_spread_71 ?_
    cases h
    exact v_iret dX9_spread_72 rfl (by decide) (by decide) (by rw [← hQ]; exact ⟨rfl, rfl, rfl, rfl, rfl⟩)
  · rw [if_pos c_7] at h
    refine v_iconstE (-1 : Int32) dX9_spread_12 (by decide) ?_
    cases h
    exact v_iret dX9_spread_13 rfl (by decide) (by decide) (by rw [← hQ]; exact ⟨rfl, rfl, rfl, rfl, rfl⟩)

def f_X1_fewestHeld_J24_65 (S : v_S) (F : v_F) (w0 : Nat) (w1 : Nat) (w2 : Int32) (w3 : Int32) (w4 : Int32) (I : v_I) (J : v_J) (y5 : Int32) : Option ((Int32 × v_I × v_J) ⊕ (Nat × (Int32 × v_I × v_J))) :=
p_let (y5 + (1 : Int32)) fun x_11 =>
some (.inl (x_11, I, J))
def f_X1_fewestHeld_B24 (S : v_S) (F : v_F) (w0 : Nat) (w1 : Nat) (w2 : Int32) (w3 : Int32) (w4 : Int32) (s24 : Int32 × v_I × v_J) : Option ((Int32 × v_I × v_J) ⊕ (Nat × (Int32 × v_I × v_J))) :=
if w3 < s24.1 then (
some (.inr (1, (s24.1, s24.2.1, s24.2.2))))
else (
(f_X1_isPart s24.1 w3 w4).bind fun r_8 =>
if r_8 = (0 : Int32) then (
f_X1_fewestHeld_J24_65 S F w0 w1 w2 w3 w4 s24.2.1 s24.2.2 s24.1)
else (
(p_ob S 0 w1).bind fun _ =>
(F w1 1).bind fun a_14 =>
(p_ob S 3 a_14).bind fun _ =>
(p_ob S 1 w0).bind fun _ =>
(f_X1_firstMinute S s24.2.1 s24.2.2 F w0 w1 (s24.2.1 a_14 0) s24.1 ((1 : Int32) <<< (w2 &&& 31))).bind fun r_17 =>
if r_17.1 = (-1 : Int32) then (
some (.inr (0, (s24.1, r_17.2.1, r_17.2.2))))
else (
f_X1_fewestHeld_J24_65 S F w0 w1 w2 w3 w4 r_17.2.1 r_17.2.2 s24.1)))
def f_X1_fewestHeld_B14 (S : v_S) (F : v_F) (w0 : Nat) (w1 : Nat) (w2 : Int32) (w3 : Int32) (s14 : Int32 × v_I × v_J) : Option ((Int32 × v_I × v_J) ⊕ (Nat × (Int32 × v_I × v_J × Int32))) :=
if (8 : Int32) < s14.1 then (
some (.inr (1, (s14.1, s14.2.1, s14.2.2, (0 : Int32)))))
else (
(v_loop (f_X1_fewestHeld_B24 S F w0 w1 w2 w3 s14.1) FU ((0 : Int32), s14.2.1, s14.2.2)).bind fun q_21 =>
if q_21.1 = 0 then (
some (.inr (0, ((0 : Int32), q_21.2.2.1, q_21.2.2.2, q_21.2.1))))
else (
p_let (s14.1 + (1 : Int32)) fun x_23 =>
some (.inl (x_23, q_21.2.2.1, q_21.2.2.2))))
def f_X1_fewestHeld (S : v_S) (I : v_I) (J : v_J) (F : v_F) (p0 : Nat) (p1 : Nat) (p2 : Int32) : Option (Int32 × v_I × v_J) :=
(p_ob S 0 p1).bind fun _ =>
(f_X0_everyone S I p1).bind fun r_1 =>
p_let (r_1 &&& (((1 : Int32) <<< (p2 &&& 31)) ^^^ (-1 : Int32))) fun x_4 =>
(v_loop (f_X1_fewestHeld_B14 S F p0 p1 p2 x_4) FU ((0 : Int32), I, J)).bind fun q_26 =>
if q_26.1 = 0 then (
some (q_26.2.2.2.2, q_26.2.2.1, q_26.2.2.2.1))
else (
some ((-1 : Int32), q_26.2.2.1, q_26.2.2.2.1))
set_option maxHeartbeats 4000000 in
set_option maxRecDepth 100000 in
theorem t_X1_fewestHeld {p0 : Nat} {p1 : Nat} {p2 : Int32} {r : Int32 × v_I × v_J} (h : f_X1_fewestHeld S I J F p0 p1 p2 = some r) : v_R l B D ac (v_EE B wa wb wt sb sL sx) yX1_fewestHeld cX1_fewestHeld 6 (some .int) 6 0 0 [.ref (B + p0), .ref (B + p1), .int p2] S I J F (v_D (some (.int r.1)) S r.2.1 r.2.2 F) := by
  refine v_R.of (by decide) (Nat.le_of_ble_eq_true rfl) fun d hd => ?_
  generalize hQ : v_D (some (.int r.1)) S r.2.1 r.2.2 F = Q
  have b14 : ∀ (w0 : Nat) (w1 : Nat) (w2 : Int32) (w3 : Int32) (s14 : Int32 × v_I × v_J) (rx14 : (Int32 × v_I × v_J) ⊕ (Nat × (Int32 × v_I × v_J × Int32))), f_X1_fewestHeld_B14 S F w0 w1 w2 w3 s14 = some rx14 → v_K (fun (sP : Int32 × v_I × v_J) => V l B D ac (v_EE B wa wb wt sb sL sx) yX1_fewestHeld cX1_fewestHeld 6 (some .int) d 0 0 0 0 S sP.2.1 sP.2.2 F 14 [(0, .ref (B + w0)), (1, .ref (B + w1)), (2, .int w2), (3, .int w3), (4, .int sP.1)] [] Q) (fun (rE : Nat × (Int32 × v_I × v_J × Int32)) => (rE.1 = 0 → V l B D ac (v_EE B wa wb wt sb sL sx) yX1_fewestHeld cX1_fewestHeld 6 (some .int) d 0 0 0 0 S rE.2.2.1 rE.2.2.2.1 F 62 [(5, .int rE.2.2.2.2)] [] Q) ∧ (¬ rE.1 = 0 → V l B D ac (v_EE B wa wb wt sb sL sx) yX1_fewestHeld cX1_fewestHeld 6 (some .int) d 0 0 0 0 S rE.2.2.1 rE.2.2.2.1 F 77 [] [] Q)) rx14 → V l B D ac (v_EE B wa wb wt sb sL sx) yX1_fewestHeld cX1_fewestHeld 6 (some .int) d 0 0 0 0 S s14.2.1 s14.2.2 F 14 [(0, .ref (B + w0)), (1, .ref (B + w1)), (2, .int w2), (3, .int w3), (4, .int s14.1)] [] Q := by
    intro w0 w1 w2 w3 s14 rx14 h hk
    have b24 : ∀ (w0 : Nat) (w1 : Nat) (w2 : Int32) (w3 : Int32) (w4 : Int32) (s24 : Int32 × v_I × v_J) (rx24 : (Int32 × v_I × v_J) ⊕ (Nat × (Int32 × v_I × v_J))), f_X1_fewestHeld_B24 S F w0 w1 w2 w3 w4 s24 = some rx24 → v_K (fun (sP : Int32 × v_I × v_J) => V l B D ac (v_EE B wa wb wt sb sL sx) yX1_fewestHeld cX1_fewestHeld 6 (some .int) d 0 0 0 0 S sP.2.1 sP.2.2 F 24 [(0, .ref (B + w0)), (1, .ref (B + w1)), (2, .int w2), (3, .int w3), (4, .int w4), (5, .int sP.1)] [] Q) (fun (rE : Nat × (Int32 × v_I × v_J)) => (rE.1 = 0 → V l B D ac (v_EE B wa wb wt sb sL sx) yX1_fewestHeld cX1_fewestHeld 6 (some .int) d 0 0 0 0 S rE.2.2.1 rE.2.2.2 F 62 [(5, .int rE.2.1)] [] Q) ∧ (¬ rE.1 = 0 → V l B D ac (v_EE B wa wb wt sb sL sx) yX1_fewestHeld cX1_fewestHeld 6 (some .int) d 0 0 0 0 S rE.2.2.1 rE.2.2.2 F 71 [(0, .ref (B + w0)), (1, .ref (B + w1)), (2, .int w2), (3, .int w3), (4, .int w4)] [] Q)) rx24 → V l B D ac (v_EE B wa wb wt sb sL sx) yX1_fewestHeld cX1_fewestHeld 6 (some .int) d 0 0 0 0 S s24.2.1 s24.2.2 F 24 [(0, .ref (B + w0)), (1, .ref (B + w1)), (2, .int w2), (3, .int w3), (4, .int w4), (5, .int s24.1)] [] Q := by
      intro w0 w1 w2 w3 w4 s24 rx24 h hk
      have j65 : ∀ (I : v_I) (J : v_J) (y5 : Int32), f_X1_fewestHeld_J24_65 S F w0 w1 w2 w3 w4 I J y5 = some rx24 → V l B D ac (v_EE B wa wb wt sb sL sx) yX1_fewestHeld cX1_fewestHeld 6 (some .int) d 0 0 0 0 S I J F 65 [(0, .ref (B + w0)), (1, .ref (B + w1)), (2, .int w2), (3, .int w3), (4, .int w4), (5, .int y5)] [] Q := by
        intro I J y5 h
        unfold f_X1_fewestHeld_J24_65 at h
        replace h := p_let_elim h
        obtain ⟨x_11, h_12, h⟩ := h
        refine v_iincE (1 : Int32) dX1_fewestHeld_65 (by decide) rfl (by decide) ?_
        rw [← h_12]
        refine v_sub [(0, .ref (B + w0)), (1, .ref (B + w1)), (2, .int w2), (3, .int w3), (4, .int w4), (5, .int x_11)] ⟨rfl, rfl, rfl, rfl, rfl, rfl, trivial⟩ ?_
        refine v_goto 24 dX1_fewestHeld_68 (by decide) ?_
        cases h
        refine v_sub [(0, .ref (B + w0)), (1, .ref (B + w1)), (2, .int w2), (3, .int w3), (4, .int w4), (5, .int x_11)] ⟨rfl, rfl, rfl, rfl, rfl, rfl, trivial⟩ ?_
        exact hk
      unfold f_X1_fewestHeld_B24 at h
      refine v_iload dX1_fewestHeld_24 rfl ?_
      refine v_iload_n dX1_fewestHeld_26 rfl ?_
      refine v_icmp_gt 71 dX1_fewestHeld_27 (by decide) (fun c_7 => ?_) (fun c_7 => ?_)
      · rw [if_pos c_7] at h
        cases h
        refine v_sub [(0, .ref (B + w0)), (1, .ref (B + w1)), (2, .int w2), (3, .int w3), (4, .int w4)] ⟨rfl, rfl, rfl, rfl, rfl, trivial⟩ ?_
        exact (hk.2 (Nat.succ_ne_zero _))
      · rw [if_neg c_7] at h
        refine v_iload dX1_fewestHeld_30 rfl ?_
        refine v_iload_n dX1_fewestHeld_32 rfl ?_
        refine v_iload dX1_fewestHeld_33 rfl ?_
        replace h := p_bind_elim h
        obtain ⟨r_8, q_9, h⟩ := h
        refine v_cSr (t_X1_isPart q_9) cal_X1_isPart ml_X1_162 sta_X1_isPart dX1_fewestHeld_35 (by omega) (by decide) (by decide) (Nat.le_of_ble_eq_true rfl) rfl ?_
        refine v_if_eq 65 dX1_fewestHeld_38 (by decide) (fun c_10 => ?_) (fun c_10 => ?_)
        · rw [if_pos c_10] at h
          refine v_sub [(0, .ref (B + w0)), (1, .ref (B + w1)), (2, .int w2), (3, .int w3), (4, .int w4), (5, .int s24.1)] ⟨rfl, rfl, rfl, rfl, rfl, rfl, trivial⟩ ?_
          exact j65 _ _ _ h
        · rw [if_neg c_10] at h
          refine v_aload_n dX1_fewestHeld_41 rfl ?_
          refine v_aload_n dX1_fewestHeld_42 rfl ?_
          refine v_aload_n dX1_fewestHeld_43 rfl ?_
          replace h := p_bind_elim h
          obtain ⟨_, q_13, h⟩ := h
          have q_13 := p_ob_spec q_13
          replace h := p_bind_elim h
          obtain ⟨a_14, q_15, h⟩ := h
          refine v_getR q_15 rfl fl_X1_42 dX1_fewestHeld_44 q_13 ?_
          replace h := p_bind_elim h
          obtain ⟨_, q_16, h⟩ := h
          have q_16 := p_ob_spec q_16
          refine v_getI rfl fl_X1_56 dX1_fewestHeld_47 q_16 ?_
          refine v_iload dX1_fewestHeld_50 rfl ?_
          refine v_iconstE (1 : Int32) dX1_fewestHeld_52 (by decide) ?_
          refine v_iload_n dX1_fewestHeld_53 rfl ?_
          refine v_ishl dX1_fewestHeld_54 ?_
          replace h := p_bind_elim h
          obtain ⟨_, q_19, h⟩ := h
          have q_19 := p_ob_spec q_19
          replace h := p_bind_elim h
          obtain ⟨r_17, q_18, h⟩ := h
          refine v_cVr (t_X1_firstMinute q_18) cal_X1_firstMinute ml_X1_166 sel_X1_firstMinute q_19 kk_1 dX1_fewestHeld_55 (by omega) (by decide) (by decide) (Nat.le_of_ble_eq_true rfl) rfl ?_
          refine v_iconstE (-1 : Int32) dX1_fewestHeld_58 (by decide) ?_
          refine v_icmp_ne 65 dX1_fewestHeld_59 (by decide) (fun c_20 => ?_) (fun c_20 => ?_)
          · rw [if_neg c_20] at h
            refine v_sub [(0, .ref (B + w0)), (1, .ref (B + w1)), (2, .int w2), (3, .int w3), (4, .int w4), (5, .int s24.1)] ⟨rfl, rfl, rfl, rfl, rfl, rfl, trivial⟩ ?_
            exact j65 _ _ _ h
          · rw [if_pos c_20] at h
            cases h
            refine v_sub [(5, .int s24.1)] ⟨rfl, trivial⟩ ?_
            exact hk.1 rfl
    unfold f_X1_fewestHeld_B14 at h
    refine v_iload dX1_fewestHeld_14 rfl ?_
    refine v_bipush (8 : Int32) dX1_fewestHeld_16 (by decide) ?_
    refine v_icmp_gt 77 dX1_fewestHeld_18 (by decide) (fun c_6 => ?_) (fun c_6 => ?_)
    · rw [if_pos c_6] at h
      cases h
      refine v_sub [] trivial ?_
      exact (hk.2 (Nat.succ_ne_zero _))
    · rw [if_neg c_6] at h
      refine v_iconstE (0 : Int32) dX1_fewestHeld_21 (by decide) ?_
      refine v_istore dX1_fewestHeld_22 (by decide) ?_
      refine v_sub [(0, .ref (B + w0)), (1, .ref (B + w1)), (2, .int w2), (3, .int w3), (4, .int s14.1), (5, .int (0 : Int32))] ⟨rfl, rfl, rfl, rfl, rfl, rfl, trivial⟩ ?_
      replace h := p_bind_elim h
      obtain ⟨q_21, h_22, h⟩ := h
      refine v_sub [(0, .ref (B + w0)), (1, .ref (B + w1)), (2, .int w2), (3, .int w3), (4, .int s14.1), (5, .int (0 : Int32))] ⟨rfl, rfl, rfl, rfl, rfl, rfl, trivial⟩ ?_
      refine v_loopV (fun (sP : Int32 × v_I × v_J) => V l B D ac (v_EE B wa wb wt sb sL sx) yX1_fewestHeld cX1_fewestHeld 6 (some .int) d 0 0 0 0 S sP.2.1 sP.2.2 F 24 [(0, .ref (B + w0)), (1, .ref (B + w1)), (2, .int w2), (3, .int w3), (4, .int s14.1), (5, .int sP.1)] [] Q) (fun (rE : Nat × (Int32 × v_I × v_J)) => (rE.1 = 0 → V l B D ac (v_EE B wa wb wt sb sL sx) yX1_fewestHeld cX1_fewestHeld 6 (some .int) d 0 0 0 0 S rE.2.2.1 rE.2.2.2 F 62 [(5, .int rE.2.1)] [] Q) ∧ (¬ rE.1 = 0 → V l B D ac (v_EE B wa wb wt sb sL sx) yX1_fewestHeld cX1_fewestHeld 6 (some .int) d 0 0 0 0 S rE.2.2.1 rE.2.2.2 F 71 [(0, .ref (B + w0)), (1, .ref (B + w1)), (2, .int w2), (3, .int w3), (4, .int s14.1)] [] Q)) (fun s_ x_ hb hk => b24 _ _ _ _ _ s_ x_ hb hk) (r := q_21) ?_ h_22
      try dsimp only
      refine ⟨fun c_25 => ?_, fun c_25 => ?_⟩
      · rw [if_pos c_25] at h
        cases h
        refine v_sub [(5, .int q_21.2.1)] ⟨rfl, trivial⟩ ?_
        exact hk.1 rfl
      · rw [if_neg c_25] at h
        replace h := p_let_elim h
        obtain ⟨x_23, h_24, h⟩ := h
        refine v_iincE (1 : Int32) dX1_fewestHeld_71 (by decide) rfl (by decide) ?_
        rw [← h_24]
        refine v_sub [(0, .ref (B + w0)), (1, .ref (B + w1)), (2, .int w2), (3, .int w3), (4, .int x_23)] ⟨rfl, rfl, rfl, rfl, rfl, trivial⟩ ?_
        refine v_goto 14 dX1_fewestHeld_74 (by decide) ?_
        cases h
        refine v_sub [(0, .ref (B + w0)), (1, .ref (B + w1)), (2, .int w2), (3, .int w3), (4, .int x_23)] ⟨rfl, rfl, rfl, rfl, rfl, trivial⟩ ?_
        exact hk
  unfold f_X1_fewestHeld at h
  refine v_sub [(0, .ref (B + p0)), (1, .ref (B + p1)), (2, .int p2)] ⟨rfl, rfl, rfl, trivial⟩ ?_
  refine v_aload_n dX1_fewestHeld_0 rfl ?_
  replace h := p_bind_elim h
  obtain ⟨_, q_3, h⟩ := h
  have q_3 := p_ob_spec q_3
  replace h := p_bind_elim h
  obtain ⟨r_1, q_2, h⟩ := h
  refine v_cVr (t_X0_everyone q_2) cal_X0_everyone ml_X1_170 sel_X0_everyone q_3 kk_0 dX1_fewestHeld_1 (by omega) (by decide) (by decide) (Nat.le_of_ble_eq_true rfl) rfl ?_
  refine v_iconstE (1 : Int32) dX1_fewestHeld_4 (by decide) ?_
  refine v_iload_n dX1_fewestHeld_5 rfl ?_
  refine v_ishl dX1_fewestHeld_6 ?_
  refine v_iconstE (-1 : Int32) dX1_fewestHeld_7 (by decide) ?_
  refine v_ixor dX1_fewestHeld_8 ?_
  refine v_iand dX1_fewestHeld_9 ?_
  replace h := p_let_elim h
  obtain ⟨x_4, h_5, h⟩ := h
  rw [← h_5]
  refine v_istore_n dX1_fewestHeld_10 (by decide) ?_
  refine v_sub [(0, .ref (B + p0)), (1, .ref (B + p1)), (2, .int p2), (3, .int x_4)] ⟨rfl, rfl, rfl, rfl, trivial⟩ ?_
  refine v_iconstE (0 : Int32) dX1_fewestHeld_11 (by decide) ?_
  refine v_istore dX1_fewestHeld_12 (by decide) ?_
  refine v_sub [(0, .ref (B + p0)), (1, .ref (B + p1)), (2, .int p2), (3, .int x_4), (4, .int (0 : Int32))] ⟨rfl, rfl, rfl, rfl, rfl, trivial⟩ ?_
  replace h := p_bind_elim h
  obtain ⟨q_26, h_27, h⟩ := h
  refine v_sub [(0, .ref (B + p0)), (1, .ref (B + p1)), (2, .int p2), (3, .int x_4), (4, .int (0 : Int32))] ⟨rfl, rfl, rfl, rfl, rfl, trivial⟩ ?_
  refine v_loopV (fun (sP : Int32 × v_I × v_J) => V l B D ac (v_EE B wa wb wt sb sL sx) yX1_fewestHeld cX1_fewestHeld 6 (some .int) d 0 0 0 0 S sP.2.1 sP.2.2 F 14 [(0, .ref (B + p0)), (1, .ref (B + p1)), (2, .int p2), (3, .int x_4), (4, .int sP.1)] [] Q) (fun (rE : Nat × (Int32 × v_I × v_J × Int32)) => (rE.1 = 0 → V l B D ac (v_EE B wa wb wt sb sL sx) yX1_fewestHeld cX1_fewestHeld 6 (some .int) d 0 0 0 0 S rE.2.2.1 rE.2.2.2.1 F 62 [(5, .int rE.2.2.2.2)] [] Q) ∧ (¬ rE.1 = 0 → V l B D ac (v_EE B wa wb wt sb sL sx) yX1_fewestHeld cX1_fewestHeld 6 (some .int) d 0 0 0 0 S rE.2.2.1 rE.2.2.2.1 F 77 [] [] Q)) (fun s_ x_ hb hk => b14 _ _ _ _ s_ x_ hb hk) (r := q_26) ?_ h_27
  try dsimp only
  refine ⟨fun c_28 => ?_, fun c_28 => ?_⟩
  · rw [if_pos c_28] at h
    refine v_iload dX1_fewestHeld_62 rfl ?_
    cases h
    exact v_iret dX1_fewestHeld_64 rfl (by decide) (by decide) (by rw [← hQ]; exact ⟨rfl, rfl, rfl, rfl, rfl⟩)
  · rw [if_neg c_28] at h
    refine v_iconstE (-1 : Int32) dX1_fewestHeld_77 (by decide) ?_
    cases h
    exact v_iret dX1_fewestHeld_78 rfl (by decide) (by decide) (by rw [← hQ]; exact ⟨rfl, rfl, rfl, rfl, rfl⟩)

def f_X9_held (S : v_S) (I : v_I) (J : v_J) (F : v_F) (p0 : Nat) (p1 : Int32) (p2 : Int32) : Option (Int32 × v_I × v_J) :=
(f_X9_isUpTo p2.toInt64 (1 : Int32)).bind fun r_1 =>
if r_1 = (0 : Int32) then (
some ((-1 : Int32), I, J))
else (
(p_ob S 9 p0).bind fun _ =>
(F p0 0).bind fun a_5 =>
(p_ob S 0 a_5).bind fun _ =>
(f_X0_has S I a_5 p1.toInt64).bind fun r_7 =>
if r_7 = (0 : Int32) then (
some ((-1 : Int32), I, J))
else (
(F p0 0).bind fun a_11 =>
(p_ob S 0 a_11).bind fun _ =>
(F a_11 1).bind fun a_14 =>
(p_ob S 3 a_14).bind fun _ =>
(f_X3_isOpen S I a_14 p1).bind fun r_16 =>
if r_16 = (0 : Int32) then (
(F p0 3).bind fun a_20 =>
(F p0 0).bind fun a_22 =>
(p_ob S 1 a_20).bind fun _ =>
(f_X1_fewestHeld S I J F a_20 a_22 p1).bind fun r_24 =>
(f_X9_tellSet r_24.1 p2).bind fun r_27 =>
some (r_27, r_24.2.1, r_24.2.2))
else (
some ((-1 : Int32), I, J))))
set_option maxHeartbeats 4000000 in
set_option maxRecDepth 100000 in
theorem t_X9_held {p0 : Nat} {p1 : Int32} {p2 : Int32} {r : Int32 × v_I × v_J} (h : f_X9_held S I J F p0 p1 p2 = some r) : v_R l B D ac (v_EE B wa wb wt sb sL sx) yX9_held cX9_held 3 (some .int) 7 0 0 [.ref (B + p0), .int p1, .int p2] S I J F (v_D (some (.int r.1)) S r.2.1 r.2.2 F) := by
  refine v_R.of (by decide) (Nat.le_of_ble_eq_true rfl) fun d hd => ?_
  generalize hQ : v_D (some (.int r.1)) S r.2.1 r.2.2 F = Q
  unfold f_X9_held at h
  refine v_sub [(0, .ref (B + p0)), (1, .int p1), (2, .int p2)] ⟨rfl, rfl, rfl, trivial⟩ ?_
  refine v_iload_n dX9_held_0 rfl ?_
  refine v_i2l dX9_held_1 ?_
  refine v_iconstE (1 : Int32) dX9_held_2 (by decide) ?_
  replace h := p_bind_elim h
  obtain ⟨r_1, q_2, h⟩ := h
  refine v_cSr (t_X9_isUpTo q_2) cal_X9_isUpTo ml_X9_95 sta_X9_isUpTo dX9_held_3 (by omega) (by decide) (by decide) (Nat.le_of_ble_eq_true rfl) rfl ?_
  refine v_if_eq 35 dX9_held_6 (by decide) (fun c_3 => ?_) (fun c_3 => ?_)
  · rw [if_pos c_3] at h
    refine v_iconstE (-1 : Int32) dX9_held_35 (by decide) ?_
    cases h
    exact v_iret dX9_held_36 rfl (by decide) (by decide) (by rw [← hQ]; exact ⟨rfl, rfl, rfl, rfl, rfl⟩)
  · rw [if_neg c_3] at h
    refine v_aload_n dX9_held_9 rfl ?_
    replace h := p_bind_elim h
    obtain ⟨_, q_4, h⟩ := h
    have q_4 := p_ob_spec q_4
    replace h := p_bind_elim h
    obtain ⟨a_5, q_6, h⟩ := h
    refine v_getR q_6 rfl fl_X9_12 dX9_held_10 q_4 ?_
    refine v_iload_n dX9_held_13 rfl ?_
    refine v_i2l dX9_held_14 ?_
    replace h := p_bind_elim h
    obtain ⟨_, q_9, h⟩ := h
    have q_9 := p_ob_spec q_9
    replace h := p_bind_elim h
    obtain ⟨r_7, q_8, h⟩ := h
    refine v_cVr (t_X0_has q_8) cal_X0_has ml_X9_116 sel_X0_has q_9 kk_0 dX9_held_15 (by omega) (by decide) (by decide) (Nat.le_of_ble_eq_true rfl) rfl ?_
    refine v_if_eq 35 dX9_held_18 (by decide) (fun c_10 => ?_) (fun c_10 => ?_)
    · rw [if_pos c_10] at h
      refine v_iconstE (-1 : Int32) dX9_held_35 (by decide) ?_
      cases h
      exact v_iret dX9_held_36 rfl (by decide) (by decide) (by rw [← hQ]; exact ⟨rfl, rfl, rfl, rfl, rfl⟩)
    · rw [if_neg c_10] at h
      refine v_aload_n dX9_held_21 rfl ?_
      replace h := p_bind_elim h
      obtain ⟨a_11, q_12, h⟩ := h
      refine v_getR q_12 rfl fl_X9_12 dX9_held_22 q_4 ?_
      replace h := p_bind_elim h
      obtain ⟨_, q_13, h⟩ := h
      have q_13 := p_ob_spec q_13
      replace h := p_bind_elim h
      obtain ⟨a_14, q_15, h⟩ := h
      refine v_getR q_15 rfl fl_X9_123 dX9_held_25 q_13 ?_
      refine v_iload_n dX9_held_28 rfl ?_
      replace h := p_bind_elim h
      obtain ⟨_, q_18, h⟩ := h
      have q_18 := p_ob_spec q_18
      replace h := p_bind_elim h
      obtain ⟨r_16, q_17, h⟩ := h
      refine v_cVr (t_X3_isOpen q_17) cal_X3_isOpen ml_X9_135 sel_X3_isOpen q_18 kk_3 dX9_held_29 (by omega) (by decide) (by decide) (Nat.le_of_ble_eq_true rfl) rfl ?_
      refine v_if_eq 37 dX9_held_32 (by decide) (fun c_19 => ?_) (fun c_19 => ?_)
      · rw [if_pos c_19] at h
        refine v_aload_n dX9_held_37 rfl ?_
        replace h := p_bind_elim h
        obtain ⟨a_20, q_21, h⟩ := h
        refine v_getR q_21 rfl fl_X9_30 dX9_held_38 q_4 ?_
        refine v_aload_n dX9_held_41 rfl ?_
        replace h := p_bind_elim h
        obtain ⟨a_22, q_23, h⟩ := h
        refine v_getR q_23 rfl fl_X9_12 dX9_held_42 q_4 ?_
        refine v_iload_n dX9_held_45 rfl ?_
        replace h := p_bind_elim h
        obtain ⟨_, q_26, h⟩ := h
        have q_26 := p_ob_spec q_26
        replace h := p_bind_elim h
        obtain ⟨r_24, q_25, h⟩ := h
        refine v_cVr (t_X1_fewestHeld q_25) cal_X1_fewestHeld ml_X9_237 sel_X1_fewestHeld q_26 kk_1 dX9_held_46 (by omega) (by decide) (by decide) (Nat.le_of_ble_eq_true rfl) rfl ?_
        refine v_iload_n dX9_held_49 rfl ?_
        replace h := p_bind_elim h
        obtain ⟨r_27, q_28, h⟩ := h
        refine v_cSr (t_X9_tellSet q_28) cal_X9_tellSet ml_X9_233 sta_X9_tellSet dX9_held_50 (by omega) (by decide) (by decide) (Nat.le_of_ble_eq_true rfl) rfl ?_
        cases h
        exact v_iret dX9_held_53 rfl (by decide) (by decide) (by rw [← hQ]; exact ⟨rfl, rfl, rfl, rfl, rfl⟩)
      · rw [if_neg c_19] at h
        refine v_iconstE (-1 : Int32) dX9_held_35 (by decide) ?_
        cases h
        exact v_iret dX9_held_36 rfl (by decide) (by decide) (by rw [← hQ]; exact ⟨rfl, rfl, rfl, rfl, rfl⟩)

def f_X5_watchedBy_J4_28 (S : v_S) (I : v_I) (F : v_F) (w0 : Nat) (w1 : Int32) (y2 : Int32) (y3 : Int32) : Option ((Int32 × Int32) ⊕ (Int32 × Int32)) :=
p_let (y3 + (1 : Int32)) fun x_3 =>
some (.inl (y2, x_3))
def f_X5_watchedBy_B4 (S : v_S) (I : v_I) (F : v_F) (w0 : Nat) (w1 : Int32) (s4 : Int32 × Int32) : Option ((Int32 × Int32) ⊕ (Int32 × Int32)) :=
if (8 : Int32) ≤ s4.2 then (
some (.inr (s4.1, s4.2)))
else (
if ((w1 >>> (s4.2 &&& 31)) &&& (1 : Int32)) = (1 : Int32) then (
(p_ob S 0 w0).bind fun _ =>
(F w0 3).bind fun a_6 =>
(p_ix S 20 a_6 s4.2).bind fun j_8 =>
p_let (s4.1 ||| (I a_6 j_8)) fun x_10 =>
f_X5_watchedBy_J4_28 S I F w0 w1 x_10 s4.2)
else (
f_X5_watchedBy_J4_28 S I F w0 w1 s4.1 s4.2))
def f_X5_watchedBy (S : v_S) (I : v_I) (F : v_F) (p0 : Nat) (p1 : Int32) : Option (Int32) :=
(v_loop (f_X5_watchedBy_B4 S I F p0 p1) FU ((0 : Int32), (0 : Int32))).bind fun q_12 =>
some (q_12.1)
set_option maxHeartbeats 4000000 in
set_option maxRecDepth 100000 in
theorem t_X5_watchedBy {p0 : Nat} {p1 : Int32} {r : Int32} (h : f_X5_watchedBy S I F p0 p1 = some r) : v_R l B D ac (v_EE B wa wb wt sb sL sx) yX5_watchedBy cX5_watchedBy 4 (some .int) 1 0 0 [.ref (B + p0), .int p1] S I J F (v_D (some (.int r)) S I J F) := by
  refine v_R.of (by decide) (Nat.le_of_ble_eq_true rfl) fun d hd => ?_
  generalize hQ : v_D (some (.int r)) S I J F = Q
  have b4 : ∀ (w0 : Nat) (w1 : Int32) (s4 : Int32 × Int32) (rx4 : (Int32 × Int32) ⊕ (Int32 × Int32)), f_X5_watchedBy_B4 S I F w0 w1 s4 = some rx4 → v_K (fun (sP : Int32 × Int32) => V l B D ac (v_EE B wa wb wt sb sL sx) yX5_watchedBy cX5_watchedBy 4 (some .int) d 0 0 0 0 S I J F 4 [(0, .ref (B + w0)), (1, .int w1), (2, .int sP.1), (3, .int sP.2)] [] Q) (fun (rE : Int32 × Int32) => V l B D ac (v_EE B wa wb wt sb sL sx) yX5_watchedBy cX5_watchedBy 4 (some .int) d 0 0 0 0 S I J F 34 [(2, .int rE.1)] [] Q) rx4 → V l B D ac (v_EE B wa wb wt sb sL sx) yX5_watchedBy cX5_watchedBy 4 (some .int) d 0 0 0 0 S I J F 4 [(0, .ref (B + w0)), (1, .int w1), (2, .int s4.1), (3, .int s4.2)] [] Q := by
    intro w0 w1 s4 rx4 h hk
    have j28 : ∀ (y2 : Int32) (y3 : Int32), f_X5_watchedBy_J4_28 S I F w0 w1 y2 y3 = some rx4 → V l B D ac (v_EE B wa wb wt sb sL sx) yX5_watchedBy cX5_watchedBy 4 (some .int) d 0 0 0 0 S I J F 28 [(0, .ref (B + w0)), (1, .int w1), (2, .int y2), (3, .int y3)] [] Q := by
      intro y2 y3 h
      unfold f_X5_watchedBy_J4_28 at h
      replace h := p_let_elim h
      obtain ⟨x_3, h_4, h⟩ := h
      refine v_iincE (1 : Int32) dX5_watchedBy_28 (by decide) rfl (by decide) ?_
      rw [← h_4]
      refine v_sub [(0, .ref (B + w0)), (1, .int w1), (2, .int y2), (3, .int x_3)] ⟨rfl, rfl, rfl, rfl, trivial⟩ ?_
      refine v_goto 4 dX5_watchedBy_31 (by decide) ?_
      cases h
      refine v_sub [(0, .ref (B + w0)), (1, .int w1), (2, .int y2), (3, .int x_3)] ⟨rfl, rfl, rfl, rfl, trivial⟩ ?_
      exact hk
    unfold f_X5_watchedBy_B4 at h
    refine v_iload_n dX5_watchedBy_4 rfl ?_
    refine v_bipush (8 : Int32) dX5_watchedBy_5 (by decide) ?_
    refine v_icmp_ge 34 dX5_watchedBy_7 (by decide) (fun c_1 => ?_) (fun c_1 => ?_)
    · rw [if_pos c_1] at h
      cases h
      refine v_sub [(2, .int s4.1)] ⟨rfl, trivial⟩ ?_
      exact hk
    · rw [if_neg c_1] at h
      refine v_iload_n dX5_watchedBy_10 rfl ?_
      refine v_iload_n dX5_watchedBy_11 rfl ?_
      refine v_ishr dX5_watchedBy_12 ?_
      refine v_iconstE (1 : Int32) dX5_watchedBy_13 (by decide) ?_
      refine v_iand dX5_watchedBy_14 ?_
      refine v_iconstE (1 : Int32) dX5_watchedBy_15 (by decide) ?_
      refine v_icmp_ne 28 dX5_watchedBy_16 (by decide) (fun c_2 => ?_) (fun c_2 => ?_)
      · rw [if_neg c_2] at h
        refine v_sub [(0, .ref (B + w0)), (1, .int w1), (2, .int s4.1), (3, .int s4.2)] ⟨rfl, rfl, rfl, rfl, trivial⟩ ?_
        exact j28 _ _ h
      · rw [if_pos c_2] at h
        refine v_iload_n dX5_watchedBy_19 rfl ?_
        refine v_aload_n dX5_watchedBy_20 rfl ?_
        replace h := p_bind_elim h
        obtain ⟨_, q_5, h⟩ := h
        have q_5 := p_ob_spec q_5
        replace h := p_bind_elim h
        obtain ⟨a_6, q_7, h⟩ := h
        refine v_getR q_7 rfl fl_X5_26 dX5_watchedBy_21 q_5 ?_
        refine v_iload_n dX5_watchedBy_24 rfl ?_
        replace h := p_bind_elim h
        obtain ⟨j_8, q_9, h⟩ := h
        refine v_ialdP dX5_watchedBy_25 q_9 ?_
        refine v_ior dX5_watchedBy_26 ?_
        replace h := p_let_elim h
        obtain ⟨x_10, h_11, h⟩ := h
        rw [← h_11]
        refine v_istore_n dX5_watchedBy_27 (by decide) ?_
        refine v_sub [(0, .ref (B + w0)), (1, .int w1), (2, .int x_10), (3, .int s4.2)] ⟨rfl, rfl, rfl, rfl, trivial⟩ ?_
        refine v_sub [(0, .ref (B + w0)), (1, .int w1), (2, .int x_10), (3, .int s4.2)] ⟨rfl, rfl, rfl, rfl, trivial⟩ ?_
        exact j28 _ _ h
  unfold f_X5_watchedBy at h
  refine v_sub [(0, .ref (B + p0)), (1, .int p1)] ⟨rfl, rfl, trivial⟩ ?_
  refine v_iconstE (0 : Int32) dX5_watchedBy_0 (by decide) ?_
  refine v_istore_n dX5_watchedBy_1 (by decide) ?_
  refine v_sub [(0, .ref (B + p0)), (1, .int p1), (2, .int (0 : Int32))] ⟨rfl, rfl, rfl, trivial⟩ ?_
  refine v_iconstE (0 : Int32) dX5_watchedBy_2 (by decide) ?_
  refine v_istore_n dX5_watchedBy_3 (by decide) ?_
  refine v_sub [(0, .ref (B + p0)), (1, .int p1), (2, .int (0 : Int32)), (3, .int (0 : Int32))] ⟨rfl, rfl, rfl, rfl, trivial⟩ ?_
  replace h := p_bind_elim h
  obtain ⟨q_12, h_13, h⟩ := h
  refine v_sub [(0, .ref (B + p0)), (1, .int p1), (2, .int (0 : Int32)), (3, .int (0 : Int32))] ⟨rfl, rfl, rfl, rfl, trivial⟩ ?_
  refine v_loopV (fun (sP : Int32 × Int32) => V l B D ac (v_EE B wa wb wt sb sL sx) yX5_watchedBy cX5_watchedBy 4 (some .int) d 0 0 0 0 S I J F 4 [(0, .ref (B + p0)), (1, .int p1), (2, .int sP.1), (3, .int sP.2)] [] Q) (fun (rE : Int32 × Int32) => V l B D ac (v_EE B wa wb wt sb sL sx) yX5_watchedBy cX5_watchedBy 4 (some .int) d 0 0 0 0 S I J F 34 [(2, .int rE.1)] [] Q) (fun s_ x_ hb hk => b4 _ _ s_ x_ hb hk) (r := q_12) ?_ h_13
  try dsimp only
  refine v_iload_n dX5_watchedBy_34 rfl ?_
  cases h
  exact v_iret dX5_watchedBy_35 rfl (by decide) (by decide) (by rw [← hQ]; exact ⟨rfl, rfl, rfl, rfl, rfl⟩)

def f_X5_measure_B12 (S : v_S) (F : v_F) (w0 : Nat) (w1 : Nat) (w2 : Int32) (s12 : Int32 × Int32 × Int32 × v_I) : Option ((Int32 × Int32 × Int32 × v_I) ⊕ (Nat × (Int32 × Int32 × Int32 × v_I))) :=
if (8 : Int32) ≤ s12.2.2.1 then (
some (.inr (1, (s12.1, s12.2.1, s12.2.2.1, s12.2.2.2))))
else (
(p_ob S 5 w0).bind fun _ =>
(F w0 0).bind fun a_5 =>
(p_ix S 20 a_5 s12.2.2.1).bind fun j_7 =>
p_let (v_up s12.2.2.2 a_5 j_7 s12.1) fun I_9 =>
if ((s12.1 >>> (w2 &&& 31)) &&& (1 : Int32)) = (1 : Int32) then (
some (.inr (0, (s12.1, s12.2.1, s12.2.2.1, I_9))))
else (
(f_X5_watchedBy S I_9 F w1 s12.1).bind fun r_12 =>
p_let (r_12 &&& (s12.2.1 ^^^ (-1 : Int32))) fun x_14 =>
p_let (s12.2.1 ||| x_14) fun x_16 =>
p_let (s12.2.2.1 + (1 : Int32)) fun x_18 =>
some (.inl (x_14, x_16, x_18, I_9))))
def f_X5_measure (S : v_S) (I : v_I) (F : v_F) (p0 : Nat) (p1 : Nat) (p2 : Int32) (p3 : Int32) : Option (Int32 × v_I) :=
p_let ((1 : Int32) <<< (p3 &&& 31)) fun x_1 =>
(v_loop (f_X5_measure_B12 S F p0 p1 p2) FU (x_1, x_1, (0 : Int32), I)).bind fun q_20 =>
if q_20.1 = 0 then (
some (q_20.2.2.2.1, q_20.2.2.2.2))
else (
some ((-1 : Int32), q_20.2.2.2.2))
set_option maxHeartbeats 4000000 in
set_option maxRecDepth 100000 in
theorem t_X5_measure {p0 : Nat} {p1 : Nat} {p2 : Int32} {p3 : Int32} {r : Int32 × v_I} (h : f_X5_measure S I F p0 p1 p2 p3 = some r) : v_R l B D ac (v_EE B wa wb wt sb sL sx) yX5_measure cX5_measure 7 (some .int) 2 0 0 [.ref (B + p0), .ref (B + p1), .int p2, .int p3] S I J F (v_D (some (.int r.1)) S r.2 J F) := by
  refine v_R.of (by decide) (Nat.le_of_ble_eq_true rfl) fun d hd => ?_
  generalize hQ : v_D (some (.int r.1)) S r.2 J F = Q
  have b12 : ∀ (w0 : Nat) (w1 : Nat) (w2 : Int32) (s12 : Int32 × Int32 × Int32 × v_I) (rx12 : (Int32 × Int32 × Int32 × v_I) ⊕ (Nat × (Int32 × Int32 × Int32 × v_I))), f_X5_measure_B12 S F w0 w1 w2 s12 = some rx12 → v_K (fun (sP : Int32 × Int32 × Int32 × v_I) => V l B D ac (v_EE B wa wb wt sb sL sx) yX5_measure cX5_measure 7 (some .int) d 0 0 0 0 S sP.2.2.2 J F 12 [(0, .ref (B + w0)), (1, .ref (B + w1)), (2, .int w2), (4, .int sP.1), (5, .int sP.2.1), (6, .int sP.2.2.1)] [] Q) (fun (rE : Nat × (Int32 × Int32 × Int32 × v_I)) => (rE.1 = 0 → V l B D ac (v_EE B wa wb wt sb sL sx) yX5_measure cX5_measure 7 (some .int) d 0 0 0 0 S rE.2.2.2.2 J F 38 [(6, .int rE.2.2.2.1)] [] Q) ∧ (¬ rE.1 = 0 → V l B D ac (v_EE B wa wb wt sb sL sx) yX5_measure cX5_measure 7 (some .int) d 0 0 0 0 S rE.2.2.2.2 J F 67 [] [] Q)) rx12 → V l B D ac (v_EE B wa wb wt sb sL sx) yX5_measure cX5_measure 7 (some .int) d 0 0 0 0 S s12.2.2.2 J F 12 [(0, .ref (B + w0)), (1, .ref (B + w1)), (2, .int w2), (4, .int s12.1), (5, .int s12.2.1), (6, .int s12.2.2.1)] [] Q := by
    intro w0 w1 w2 s12 rx12 h hk
    unfold f_X5_measure_B12 at h
    refine v_iload dX5_measure_12 rfl ?_
    refine v_bipush (8 : Int32) dX5_measure_14 (by decide) ?_
    refine v_icmp_ge 67 dX5_measure_16 (by decide) (fun c_3 => ?_) (fun c_3 => ?_)
    · rw [if_pos c_3] at h
      cases h
      refine v_sub [] trivial ?_
      exact (hk.2 (Nat.succ_ne_zero _))
    · rw [if_neg c_3] at h
      refine v_aload_n dX5_measure_19 rfl ?_
      replace h := p_bind_elim h
      obtain ⟨_, q_4, h⟩ := h
      have q_4 := p_ob_spec q_4
      replace h := p_bind_elim h
      obtain ⟨a_5, q_6, h⟩ := h
      refine v_getR q_6 rfl fl_X5_9 dX5_measure_20 q_4 ?_
      refine v_iload dX5_measure_23 rfl ?_
      refine v_iload dX5_measure_25 rfl ?_
      replace h := p_bind_elim h
      obtain ⟨j_7, q_8, h⟩ := h
      refine v_iastP dX5_measure_27 q_8 ?_
      replace h := p_let_elim h
      obtain ⟨I_9, h_10, h⟩ := h
      rw [← h_10]
      refine v_iload dX5_measure_28 rfl ?_
      refine v_iload_n dX5_measure_30 rfl ?_
      refine v_ishr dX5_measure_31 ?_
      refine v_iconstE (1 : Int32) dX5_measure_32 (by decide) ?_
      refine v_iand dX5_measure_33 ?_
      refine v_iconstE (1 : Int32) dX5_measure_34 (by decide) ?_
      refine v_icmp_ne 41 dX5_measure_35 (by decide) (fun c_11 => ?_) (fun c_11 => ?_)
      · rw [if_neg c_11] at h
        refine v_aload_n dX5_measure_41 rfl ?_
        refine v_iload dX5_measure_42 rfl ?_
        replace h := p_bind_elim h
        obtain ⟨r_12, q_13, h⟩ := h
        refine v_cSr (t_X5_watchedBy q_13) cal_X5_watchedBy ml_X5_18 sta_X5_watchedBy dX5_measure_44 (by omega) (by decide) (by decide) (Nat.le_of_ble_eq_true rfl) rfl ?_
        refine v_iload dX5_measure_47 rfl ?_
        refine v_iconstE (-1 : Int32) dX5_measure_49 (by decide) ?_
        refine v_ixor dX5_measure_50 ?_
        refine v_iand dX5_measure_51 ?_
        replace h := p_let_elim h
        obtain ⟨x_14, h_15, h⟩ := h
        rw [← h_15]
        refine v_istore dX5_measure_52 (by decide) ?_
        refine v_sub [(0, .ref (B + w0)), (1, .ref (B + w1)), (2, .int w2), (4, .int x_14), (5, .int s12.2.1), (6, .int s12.2.2.1)] ⟨rfl, rfl, rfl, rfl, rfl, rfl, trivial⟩ ?_
        refine v_iload dX5_measure_54 rfl ?_
        refine v_iload dX5_measure_56 rfl ?_
        refine v_ior dX5_measure_58 ?_
        replace h := p_let_elim h
        obtain ⟨x_16, h_17, h⟩ := h
        rw [← h_17]
        refine v_istore dX5_measure_59 (by decide) ?_
        refine v_sub [(0, .ref (B + w0)), (1, .ref (B + w1)), (2, .int w2), (4, .int x_14), (5, .int x_16), (6, .int s12.2.2.1)] ⟨rfl, rfl, rfl, rfl, rfl, rfl, trivial⟩ ?_
        replace h := p_let_elim h
        obtain ⟨x_18, h_19, h⟩ := h
        refine v_iincE (1 : Int32) dX5_measure_61 (by decide) rfl (by decide) ?_
        rw [← h_19]
        refine v_sub [(0, .ref (B + w0)), (1, .ref (B + w1)), (2, .int w2), (4, .int x_14), (5, .int x_16), (6, .int x_18)] ⟨rfl, rfl, rfl, rfl, rfl, rfl, trivial⟩ ?_
        refine v_goto 12 dX5_measure_64 (by decide) ?_
        cases h
        refine v_sub [(0, .ref (B + w0)), (1, .ref (B + w1)), (2, .int w2), (4, .int x_14), (5, .int x_16), (6, .int x_18)] ⟨rfl, rfl, rfl, rfl, rfl, rfl, trivial⟩ ?_
        exact hk
      · rw [if_pos c_11] at h
        cases h
        refine v_sub [(6, .int s12.2.2.1)] ⟨rfl, trivial⟩ ?_
        exact hk.1 rfl
  unfold f_X5_measure at h
  refine v_sub [(0, .ref (B + p0)), (1, .ref (B + p1)), (2, .int p2), (3, .int p3)] ⟨rfl, rfl, rfl, rfl, trivial⟩ ?_
  refine v_iconstE (1 : Int32) dX5_measure_0 (by decide) ?_
  refine v_iload_n dX5_measure_1 rfl ?_
  refine v_ishl dX5_measure_2 ?_
  replace h := p_let_elim h
  obtain ⟨x_1, h_2, h⟩ := h
  rw [← h_2]
  refine v_istore dX5_measure_3 (by decide) ?_
  refine v_sub [(0, .ref (B + p0)), (1, .ref (B + p1)), (2, .int p2), (4, .int x_1)] ⟨rfl, rfl, rfl, rfl, trivial⟩ ?_
  refine v_iload dX5_measure_5 rfl ?_
  refine v_istore dX5_measure_7 (by decide) ?_
  refine v_sub [(0, .ref (B + p0)), (1, .ref (B + p1)), (2, .int p2), (4, .int x_1), (5, .int x_1)] ⟨rfl, rfl, rfl, rfl, rfl, trivial⟩ ?_
  refine v_iconstE (0 : Int32) dX5_measure_9 (by decide) ?_
  refine v_istore dX5_measure_10 (by decide) ?_
  refine v_sub [(0, .ref (B + p0)), (1, .ref (B + p1)), (2, .int p2), (4, .int x_1), (5, .int x_1), (6, .int (0 : Int32))] ⟨rfl, rfl, rfl, rfl, rfl, rfl, trivial⟩ ?_
  replace h := p_bind_elim h
  obtain ⟨q_20, h_21, h⟩ := h
  refine v_sub [(0, .ref (B + p0)), (1, .ref (B + p1)), (2, .int p2), (4, .int x_1), (5, .int x_1), (6, .int (0 : Int32))] ⟨rfl, rfl, rfl, rfl, rfl, rfl, trivial⟩ ?_
  refine v_loopV (fun (sP : Int32 × Int32 × Int32 × v_I) => V l B D ac (v_EE B wa wb wt sb sL sx) yX5_measure cX5_measure 7 (some .int) d 0 0 0 0 S sP.2.2.2 J F 12 [(0, .ref (B + p0)), (1, .ref (B + p1)), (2, .int p2), (4, .int sP.1), (5, .int sP.2.1), (6, .int sP.2.2.1)] [] Q) (fun (rE : Nat × (Int32 × Int32 × Int32 × v_I)) => (rE.1 = 0 → V l B D ac (v_EE B wa wb wt sb sL sx) yX5_measure cX5_measure 7 (some .int) d 0 0 0 0 S rE.2.2.2.2 J F 38 [(6, .int rE.2.2.2.1)] [] Q) ∧ (¬ rE.1 = 0 → V l B D ac (v_EE B wa wb wt sb sL sx) yX5_measure cX5_measure 7 (some .int) d 0 0 0 0 S rE.2.2.2.2 J F 67 [] [] Q)) (fun s_ x_ hb hk => b12 _ _ _ s_ x_ hb hk) (r := q_20) ?_ h_21
  try dsimp only
  refine ⟨fun c_22 => ?_, fun c_22 => ?_⟩
  · rw [if_pos c_22] at h
    refine v_iload dX5_measure_38 rfl ?_
    cases h
    exact v_iret dX5_measure_40 rfl (by decide) (by decide) (by rw [← hQ]; exact ⟨rfl, rfl, rfl, rfl, rfl⟩)
  · rw [if_neg c_22] at h
    refine v_iconstE (-1 : Int32) dX5_measure_67 (by decide) ?_
    cases h
    exact v_iret dX5_measure_68 rfl (by decide) (by decide) (by rw [← hQ]; exact ⟨rfl, rfl, rfl, rfl, rfl⟩)

def f_X5_lowestWatcher_J2_33 (S : v_S) (I : v_I) (F : v_F) (w0 : Nat) (w1 : Int32) (w2 : Int32) (y3 : Int32) : Option ((Int32) ⊕ (Nat × (Int32))) :=
p_let (y3 + (1 : Int32)) fun x_3 =>
some (.inl x_3)
def f_X5_lowestWatcher_B2 (S : v_S) (I : v_I) (F : v_F) (w0 : Nat) (w1 : Int32) (w2 : Int32) (s2 : Int32) : Option ((Int32) ⊕ (Nat × (Int32))) :=
if (8 : Int32) ≤ s2 then (
some (.inr (1, s2)))
else (
if ((w1 >>> (s2 &&& 31)) &&& (1 : Int32)) = (1 : Int32) then (
(p_ob S 0 w0).bind fun _ =>
(F w0 3).bind fun a_6 =>
(p_ix S 20 a_6 s2).bind fun j_8 =>
if (((I a_6 j_8) >>> (w2 &&& 31)) &&& (1 : Int32)) = (1 : Int32) then (
some (.inr (0, s2)))
else (
f_X5_lowestWatcher_J2_33 S I F w0 w1 w2 s2))
else (
f_X5_lowestWatcher_J2_33 S I F w0 w1 w2 s2))
def f_X5_lowestWatcher (S : v_S) (I : v_I) (F : v_F) (p0 : Nat) (p1 : Int32) (p2 : Int32) : Option (Int32) :=
(v_loop (f_X5_lowestWatcher_B2 S I F p0 p1 p2) FU (0 : Int32)).bind fun q_11 =>
if q_11.1 = 0 then (
some (q_11.2))
else (
some ((-1 : Int32)))
set_option maxHeartbeats 4000000 in
set_option maxRecDepth 100000 in
theorem t_X5_lowestWatcher {p0 : Nat} {p1 : Int32} {p2 : Int32} {r : Int32} (h : f_X5_lowestWatcher S I F p0 p1 p2 = some r) : v_R l B D ac (v_EE B wa wb wt sb sL sx) yX5_lowestWatcher cX5_lowestWatcher 4 (some .int) 1 0 0 [.ref (B + p0), .int p1, .int p2] S I J F (v_D (some (.int r)) S I J F) := by
  refine v_R.of (by decide) (Nat.le_of_ble_eq_true rfl) fun d hd => ?_
  generalize hQ : v_D (some (.int r)) S I J F = Q
  have b2 : ∀ (w0 : Nat) (w1 : Int32) (w2 : Int32) (s2 : Int32) (rx2 : (Int32) ⊕ (Nat × (Int32))), f_X5_lowestWatcher_B2 S I F w0 w1 w2 s2 = some rx2 → v_K (fun (sP : Int32) => V l B D ac (v_EE B wa wb wt sb sL sx) yX5_lowestWatcher cX5_lowestWatcher 4 (some .int) d 0 0 0 0 S I J F 2 [(0, .ref (B + w0)), (1, .int w1), (2, .int w2), (3, .int sP)] [] Q) (fun (rE : Nat × (Int32)) => (rE.1 = 0 → V l B D ac (v_EE B wa wb wt sb sL sx) yX5_lowestWatcher cX5_lowestWatcher 4 (some .int) d 0 0 0 0 S I J F 31 [(3, .int rE.2)] [] Q) ∧ (¬ rE.1 = 0 → V l B D ac (v_EE B wa wb wt sb sL sx) yX5_lowestWatcher cX5_lowestWatcher 4 (some .int) d 0 0 0 0 S I J F 39 [] [] Q)) rx2 → V l B D ac (v_EE B wa wb wt sb sL sx) yX5_lowestWatcher cX5_lowestWatcher 4 (some .int) d 0 0 0 0 S I J F 2 [(0, .ref (B + w0)), (1, .int w1), (2, .int w2), (3, .int s2)] [] Q := by
    intro w0 w1 w2 s2 rx2 h hk
    have j33 : ∀ (y3 : Int32), f_X5_lowestWatcher_J2_33 S I F w0 w1 w2 y3 = some rx2 → V l B D ac (v_EE B wa wb wt sb sL sx) yX5_lowestWatcher cX5_lowestWatcher 4 (some .int) d 0 0 0 0 S I J F 33 [(0, .ref (B + w0)), (1, .int w1), (2, .int w2), (3, .int y3)] [] Q := by
      intro y3 h
      unfold f_X5_lowestWatcher_J2_33 at h
      replace h := p_let_elim h
      obtain ⟨x_3, h_4, h⟩ := h
      refine v_iincE (1 : Int32) dX5_lowestWatcher_33 (by decide) rfl (by decide) ?_
      rw [← h_4]
      refine v_sub [(0, .ref (B + w0)), (1, .int w1), (2, .int w2), (3, .int x_3)] ⟨rfl, rfl, rfl, rfl, trivial⟩ ?_
      refine v_goto 2 dX5_lowestWatcher_36 (by decide) ?_
      cases h
      refine v_sub [(0, .ref (B + w0)), (1, .int w1), (2, .int w2), (3, .int x_3)] ⟨rfl, rfl, rfl, rfl, trivial⟩ ?_
      exact hk
    unfold f_X5_lowestWatcher_B2 at h
    refine v_iload_n dX5_lowestWatcher_2 rfl ?_
    refine v_bipush (8 : Int32) dX5_lowestWatcher_3 (by decide) ?_
    refine v_icmp_ge 39 dX5_lowestWatcher_5 (by decide) (fun c_1 => ?_) (fun c_1 => ?_)
    · rw [if_pos c_1] at h
      cases h
      refine v_sub [] trivial ?_
      exact (hk.2 (Nat.succ_ne_zero _))
    · rw [if_neg c_1] at h
      refine v_iload_n dX5_lowestWatcher_8 rfl ?_
      refine v_iload_n dX5_lowestWatcher_9 rfl ?_
      refine v_ishr dX5_lowestWatcher_10 ?_
      refine v_iconstE (1 : Int32) dX5_lowestWatcher_11 (by decide) ?_
      refine v_iand dX5_lowestWatcher_12 ?_
      refine v_iconstE (1 : Int32) dX5_lowestWatcher_13 (by decide) ?_
      refine v_icmp_ne 33 dX5_lowestWatcher_14 (by decide) (fun c_2 => ?_) (fun c_2 => ?_)
      · rw [if_neg c_2] at h
        refine v_sub [(0, .ref (B + w0)), (1, .int w1), (2, .int w2), (3, .int s2)] ⟨rfl, rfl, rfl, rfl, trivial⟩ ?_
        exact j33 _ h
      · rw [if_pos c_2] at h
        refine v_aload_n dX5_lowestWatcher_17 rfl ?_
        replace h := p_bind_elim h
        obtain ⟨_, q_5, h⟩ := h
        have q_5 := p_ob_spec q_5
        replace h := p_bind_elim h
        obtain ⟨a_6, q_7, h⟩ := h
        refine v_getR q_7 rfl fl_X5_26 dX5_lowestWatcher_18 q_5 ?_
        refine v_iload_n dX5_lowestWatcher_21 rfl ?_
        replace h := p_bind_elim h
        obtain ⟨j_8, q_9, h⟩ := h
        refine v_ialdP dX5_lowestWatcher_22 q_9 ?_
        refine v_iload_n dX5_lowestWatcher_23 rfl ?_
        refine v_ishr dX5_lowestWatcher_24 ?_
        refine v_iconstE (1 : Int32) dX5_lowestWatcher_25 (by decide) ?_
        refine v_iand dX5_lowestWatcher_26 ?_
        refine v_iconstE (1 : Int32) dX5_lowestWatcher_27 (by decide) ?_
        refine v_icmp_ne 33 dX5_lowestWatcher_28 (by decide) (fun c_10 => ?_) (fun c_10 => ?_)
        · rw [if_neg c_10] at h
          refine v_sub [(0, .ref (B + w0)), (1, .int w1), (2, .int w2), (3, .int s2)] ⟨rfl, rfl, rfl, rfl, trivial⟩ ?_
          exact j33 _ h
        · rw [if_pos c_10] at h
          cases h
          refine v_sub [(3, .int s2)] ⟨rfl, trivial⟩ ?_
          exact hk.1 rfl
  unfold f_X5_lowestWatcher at h
  refine v_sub [(0, .ref (B + p0)), (1, .int p1), (2, .int p2)] ⟨rfl, rfl, rfl, trivial⟩ ?_
  refine v_iconstE (0 : Int32) dX5_lowestWatcher_0 (by decide) ?_
  refine v_istore_n dX5_lowestWatcher_1 (by decide) ?_
  refine v_sub [(0, .ref (B + p0)), (1, .int p1), (2, .int p2), (3, .int (0 : Int32))] ⟨rfl, rfl, rfl, rfl, trivial⟩ ?_
  replace h := p_bind_elim h
  obtain ⟨q_11, h_12, h⟩ := h
  refine v_sub [(0, .ref (B + p0)), (1, .int p1), (2, .int p2), (3, .int (0 : Int32))] ⟨rfl, rfl, rfl, rfl, trivial⟩ ?_
  refine v_loopV (fun (sP : Int32) => V l B D ac (v_EE B wa wb wt sb sL sx) yX5_lowestWatcher cX5_lowestWatcher 4 (some .int) d 0 0 0 0 S I J F 2 [(0, .ref (B + p0)), (1, .int p1), (2, .int p2), (3, .int sP)] [] Q) (fun (rE : Nat × (Int32)) => (rE.1 = 0 → V l B D ac (v_EE B wa wb wt sb sL sx) yX5_lowestWatcher cX5_lowestWatcher 4 (some .int) d 0 0 0 0 S I J F 31 [(3, .int rE.2)] [] Q) ∧ (¬ rE.1 = 0 → V l B D ac (v_EE B wa wb wt sb sL sx) yX5_lowestWatcher cX5_lowestWatcher 4 (some .int) d 0 0 0 0 S I J F 39 [] [] Q)) (fun s_ x_ hb hk => b2 _ _ _ s_ x_ hb hk) (r := q_11) ?_ h_12
  try dsimp only
  refine ⟨fun c_13 => ?_, fun c_13 => ?_⟩
  · rw [if_pos c_13] at h
    refine v_iload_n dX5_lowestWatcher_31 rfl ?_
    cases h
    exact v_iret dX5_lowestWatcher_32 rfl (by decide) (by decide) (by rw [← hQ]; exact ⟨rfl, rfl, rfl, rfl, rfl⟩)
  · rw [if_neg c_13] at h
    refine v_iconstE (-1 : Int32) dX5_lowestWatcher_39 (by decide) ?_
    cases h
    exact v_iret dX5_lowestWatcher_40 rfl (by decide) (by decide) (by rw [← hQ]; exact ⟨rfl, rfl, rfl, rfl, rfl⟩)

def f_X5_member_B25 (S : v_S) (I : v_I) (F : v_F) (w0 : Nat) (w1 : Nat) (w3 : Int32) (w4 : Int32) (s25 : Int32 × Int32) : Option ((Int32 × Int32) ⊕ (Int32 × Int32)) :=
if w4 < s25.2 then (
some (.inr (s25.1, s25.2)))
else (
(p_ob S 5 w0).bind fun _ =>
(F w0 0).bind fun a_6 =>
(p_ix S 20 a_6 ((w3 - (1 : Int32)) - s25.2)).bind fun j_8 =>
(f_X5_lowestWatcher S I F w1 (I a_6 j_8) s25.1).bind fun r_10 =>
p_let (s25.2 + (1 : Int32)) fun x_12 =>
some (.inl (r_10, x_12)))
def f_X5_member (S : v_S) (I : v_I) (F : v_F) (p0 : Nat) (p1 : Nat) (p2 : Int32) (p3 : Int32) (p4 : Int32) : Option (Int32) :=
if p4 < (0 : Int32) then (
some ((-1 : Int32)))
else (
if p3 ≤ p4 then (
some ((-1 : Int32)))
else (
if p3 ≤ (8 : Int32) then (
(v_loop (f_X5_member_B25 S I F p0 p1 p3 p4) FU (p2, (0 : Int32))).bind fun q_14 =>
some (q_14.1))
else (
some ((-1 : Int32)))))
set_option maxHeartbeats 4000000 in
set_option maxRecDepth 100000 in
theorem t_X5_member {p0 : Nat} {p1 : Nat} {p2 : Int32} {p3 : Int32} {p4 : Int32} {r : Int32} (h : f_X5_member S I F p0 p1 p2 p3 p4 = some r) : v_R l B D ac (v_EE B wa wb wt sb sL sx) yX5_member cX5_member 7 (some .int) 2 0 0 [.ref (B + p0), .ref (B + p1), .int p2, .int p3, .int p4] S I J F (v_D (some (.int r)) S I J F) := by
  refine v_R.of (by decide) (Nat.le_of_ble_eq_true rfl) fun d hd => ?_
  generalize hQ : v_D (some (.int r)) S I J F = Q
  have b25 : ∀ (w0 : Nat) (w1 : Nat) (w3 : Int32) (w4 : Int32) (s25 : Int32 × Int32) (rx25 : (Int32 × Int32) ⊕ (Int32 × Int32)), f_X5_member_B25 S I F w0 w1 w3 w4 s25 = some rx25 → v_K (fun (sP : Int32 × Int32) => V l B D ac (v_EE B wa wb wt sb sL sx) yX5_member cX5_member 7 (some .int) d 0 0 0 0 S I J F 25 [(0, .ref (B + w0)), (1, .ref (B + w1)), (3, .int w3), (4, .int w4), (5, .int sP.1), (6, .int sP.2)] [] Q) (fun (rE : Int32 × Int32) => V l B D ac (v_EE B wa wb wt sb sL sx) yX5_member cX5_member 7 (some .int) d 0 0 0 0 S I J F 57 [(5, .int rE.1)] [] Q) rx25 → V l B D ac (v_EE B wa wb wt sb sL sx) yX5_member cX5_member 7 (some .int) d 0 0 0 0 S I J F 25 [(0, .ref (B + w0)), (1, .ref (B + w1)), (3, .int w3), (4, .int w4), (5, .int s25.1), (6, .int s25.2)] [] Q := by
    intro w0 w1 w3 w4 s25 rx25 h hk
    unfold f_X5_member_B25 at h
    refine v_iload dX5_member_25 rfl ?_
    refine v_iload dX5_member_27 rfl ?_
    refine v_icmp_gt 57 dX5_member_29 (by decide) (fun c_4 => ?_) (fun c_4 => ?_)
    · rw [if_pos c_4] at h
      cases h
      refine v_sub [(5, .int s25.1)] ⟨rfl, trivial⟩ ?_
      exact hk
    · rw [if_neg c_4] at h
      refine v_aload_n dX5_member_32 rfl ?_
      refine v_aload_n dX5_member_33 rfl ?_
      replace h := p_bind_elim h
      obtain ⟨_, q_5, h⟩ := h
      have q_5 := p_ob_spec q_5
      replace h := p_bind_elim h
      obtain ⟨a_6, q_7, h⟩ := h
      refine v_getR q_7 rfl fl_X5_9 dX5_member_34 q_5 ?_
      refine v_iload_n dX5_member_37 rfl ?_
      refine v_iconstE (1 : Int32) dX5_member_38 (by decide) ?_
      refine v_isub dX5_member_39 ?_
      refine v_iload dX5_member_40 rfl ?_
      refine v_isub dX5_member_42 ?_
      replace h := p_bind_elim h
      obtain ⟨j_8, q_9, h⟩ := h
      refine v_ialdP dX5_member_43 q_9 ?_
      refine v_iload dX5_member_44 rfl ?_
      replace h := p_bind_elim h
      obtain ⟨r_10, q_11, h⟩ := h
      refine v_cSr (t_X5_lowestWatcher q_11) cal_X5_lowestWatcher ml_X5_22 sta_X5_lowestWatcher dX5_member_46 (by omega) (by decide) (by decide) (Nat.le_of_ble_eq_true rfl) rfl ?_
      refine v_istore dX5_member_49 (by decide) ?_
      refine v_sub [(0, .ref (B + w0)), (1, .ref (B + w1)), (3, .int w3), (4, .int w4), (5, .int r_10), (6, .int s25.2)] ⟨rfl, rfl, rfl, rfl, rfl, rfl, trivial⟩ ?_
      replace h := p_let_elim h
      obtain ⟨x_12, h_13, h⟩ := h
      refine v_iincE (1 : Int32) dX5_member_51 (by decide) rfl (by decide) ?_
      rw [← h_13]
      refine v_sub [(0, .ref (B + w0)), (1, .ref (B + w1)), (3, .int w3), (4, .int w4), (5, .int r_10), (6, .int x_12)] ⟨rfl, rfl, rfl, rfl, rfl, rfl, trivial⟩ ?_
      refine v_goto 25 dX5_member_54 (by decide) ?_
      cases h
      refine v_sub [(0, .ref (B + w0)), (1, .ref (B + w1)), (3, .int w3), (4, .int w4), (5, .int r_10), (6, .int x_12)] ⟨rfl, rfl, rfl, rfl, rfl, rfl, trivial⟩ ?_
      exact hk
  unfold f_X5_member at h
  refine v_sub [(0, .ref (B + p0)), (1, .ref (B + p1)), (2, .int p2), (3, .int p3), (4, .int p4)] ⟨rfl, rfl, rfl, rfl, rfl, trivial⟩ ?_
  refine v_iload dX5_member_0 rfl ?_
  refine v_if_lt 17 dX5_member_2 (by decide) (fun c_1 => ?_) (fun c_1 => ?_)
  · rw [if_pos c_1] at h
    refine v_iconstE (-1 : Int32) dX5_member_17 (by decide) ?_
    cases h
    exact v_iret dX5_member_18 rfl (by decide) (by decide) (by rw [← hQ]; exact ⟨rfl, rfl, rfl, rfl, rfl⟩)
  · rw [if_neg c_1] at h
    refine v_iload dX5_member_5 rfl ?_
    refine v_iload_n dX5_member_7 rfl ?_
    refine v_icmp_ge 17 dX5_member_8 (by decide) (fun c_2 => ?_) (fun c_2 => ?_)
    · rw [if_pos c_2] at h
      refine v_iconstE (-1 : Int32) dX5_member_17 (by decide) ?_
      cases h
      exact v_iret dX5_member_18 rfl (by decide) (by decide) (by rw [← hQ]; exact ⟨rfl, rfl, rfl, rfl, rfl⟩)
    · rw [if_neg c_2] at h
      refine v_iload_n dX5_member_11 rfl ?_
      refine v_bipush (8 : Int32) dX5_member_12 (by decide) ?_
      refine v_icmp_le 19 dX5_member_14 (by decide) (fun c_3 => ?_) (fun c_3 => ?_)
      · rw [if_pos c_3] at h
        refine v_iload_n dX5_member_19 rfl ?_
        refine v_istore dX5_member_20 (by decide) ?_
        refine v_sub [(0, .ref (B + p0)), (1, .ref (B + p1)), (3, .int p3), (4, .int p4), (5, .int p2)] ⟨rfl, rfl, rfl, rfl, rfl, trivial⟩ ?_
        refine v_iconstE (0 : Int32) dX5_member_22 (by decide) ?_
        refine v_istore dX5_member_23 (by decide) ?_
        refine v_sub [(0, .ref (B + p0)), (1, .ref (B + p1)), (3, .int p3), (4, .int p4), (5, .int p2), (6, .int (0 : Int32))] ⟨rfl, rfl, rfl, rfl, rfl, rfl, trivial⟩ ?_
        replace h := p_bind_elim h
        obtain ⟨q_14, h_15, h⟩ := h
        refine v_sub [(0, .ref (B + p0)), (1, .ref (B + p1)), (3, .int p3), (4, .int p4), (5, .int p2), (6, .int (0 : Int32))] ⟨rfl, rfl, rfl, rfl, rfl, rfl, trivial⟩ ?_
        refine v_loopV (fun (sP : Int32 × Int32) => V l B D ac (v_EE B wa wb wt sb sL sx) yX5_member cX5_member 7 (some .int) d 0 0 0 0 S I J F 25 [(0, .ref (B + p0)), (1, .ref (B + p1)), (3, .int p3), (4, .int p4), (5, .int sP.1), (6, .int sP.2)] [] Q) (fun (rE : Int32 × Int32) => V l B D ac (v_EE B wa wb wt sb sL sx) yX5_member cX5_member 7 (some .int) d 0 0 0 0 S I J F 57 [(5, .int rE.1)] [] Q) (fun s_ x_ hb hk => b25 _ _ _ _ s_ x_ hb hk) (r := q_14) ?_ h_15
        try dsimp only
        refine v_iload dX5_member_57 rfl ?_
        cases h
        exact v_iret dX5_member_59 rfl (by decide) (by decide) (by rw [← hQ]; exact ⟨rfl, rfl, rfl, rfl, rfl⟩)
      · rw [if_neg c_3] at h
        refine v_iconstE (-1 : Int32) dX5_member_17 (by decide) ?_
        cases h
        exact v_iret dX5_member_18 rfl (by decide) (by decide) (by rw [← hQ]; exact ⟨rfl, rfl, rfl, rfl, rfl⟩)

def f_X9_chain (S : v_S) (I : v_I) (F : v_F) (p0 : Nat) (p1 : Int32) (p2 : Int32) (p3 : Int32) : Option (Int32 × v_I) :=
(p_ob S 9 p0).bind fun _ =>
(F p0 0).bind fun a_2 =>
(p_ob S 0 a_2).bind fun _ =>
(f_X0_has S I a_2 p1.toInt64).bind fun r_4 =>
if r_4 = (0 : Int32) then (
some ((-1 : Int32), I))
else (
(F p0 0).bind fun a_8 =>
(p_ob S 0 a_8).bind fun _ =>
(f_X0_has S I a_8 p2.toInt64).bind fun r_10 =>
if r_10 = (0 : Int32) then (
some ((-1 : Int32), I))
else (
(F p0 4).bind fun a_14 =>
(F p0 0).bind fun a_16 =>
(p_ob S 5 a_14).bind fun _ =>
(f_X5_measure S I F a_14 a_16 p1 p2).bind fun r_18 =>
if p3 = (-1 : Int32) then (
some (r_18.1, r_18.2))
else (
(F p0 4).bind fun a_22 =>
(F p0 0).bind fun a_24 =>
(p_ob S 5 a_22).bind fun _ =>
(f_X5_member S r_18.2 F a_22 a_24 p1 r_18.1 p3).bind fun r_26 =>
some (r_26, r_18.2))))
set_option maxHeartbeats 4000000 in
set_option maxRecDepth 100000 in
theorem t_X9_chain {p0 : Nat} {p1 : Int32} {p2 : Int32} {p3 : Int32} {r : Int32 × v_I} (h : f_X9_chain S I F p0 p1 p2 p3 = some r) : v_R l B D ac (v_EE B wa wb wt sb sL sx) yX9_chain cX9_chain 5 (some .int) 3 0 0 [.ref (B + p0), .int p1, .int p2, .int p3] S I J F (v_D (some (.int r.1)) S r.2 J F) := by
  refine v_R.of (by decide) (Nat.le_of_ble_eq_true rfl) fun d hd => ?_
  generalize hQ : v_D (some (.int r.1)) S r.2 J F = Q
  unfold f_X9_chain at h
  refine v_sub [(0, .ref (B + p0)), (1, .int p1), (2, .int p2), (3, .int p3)] ⟨rfl, rfl, rfl, rfl, trivial⟩ ?_
  refine v_aload_n dX9_chain_0 rfl ?_
  replace h := p_bind_elim h
  obtain ⟨_, q_1, h⟩ := h
  have q_1 := p_ob_spec q_1
  replace h := p_bind_elim h
  obtain ⟨a_2, q_3, h⟩ := h
  refine v_getR q_3 rfl fl_X9_12 dX9_chain_1 q_1 ?_
  refine v_iload_n dX9_chain_4 rfl ?_
  refine v_i2l dX9_chain_5 ?_
  replace h := p_bind_elim h
  obtain ⟨_, q_6, h⟩ := h
  have q_6 := p_ob_spec q_6
  replace h := p_bind_elim h
  obtain ⟨r_4, q_5, h⟩ := h
  refine v_cVr (t_X0_has q_5) cal_X0_has ml_X9_116 sel_X0_has q_6 kk_0 dX9_chain_6 (by omega) (by decide) (by decide) (Nat.le_of_ble_eq_true rfl) rfl ?_
  refine v_if_eq 24 dX9_chain_9 (by decide) (fun c_7 => ?_) (fun c_7 => ?_)
  · rw [if_pos c_7] at h
    refine v_iconstE (-1 : Int32) dX9_chain_24 (by decide) ?_
    cases h
    exact v_iret dX9_chain_25 rfl (by decide) (by decide) (by rw [← hQ]; exact ⟨rfl, rfl, rfl, rfl, rfl⟩)
  · rw [if_neg c_7] at h
    refine v_aload_n dX9_chain_12 rfl ?_
    replace h := p_bind_elim h
    obtain ⟨a_8, q_9, h⟩ := h
    refine v_getR q_9 rfl fl_X9_12 dX9_chain_13 q_1 ?_
    refine v_iload_n dX9_chain_16 rfl ?_
    refine v_i2l dX9_chain_17 ?_
    replace h := p_bind_elim h
    obtain ⟨_, q_12, h⟩ := h
    have q_12 := p_ob_spec q_12
    replace h := p_bind_elim h
    obtain ⟨r_10, q_11, h⟩ := h
    refine v_cVr (t_X0_has q_11) cal_X0_has ml_X9_116 sel_X0_has q_12 kk_0 dX9_chain_18 (by omega) (by decide) (by decide) (Nat.le_of_ble_eq_true rfl) rfl ?_
    refine v_if_ne 26 dX9_chain_21 (by decide) (fun c_13 => ?_) (fun c_13 => ?_)
    · rw [if_neg c_13] at h
      refine v_aload_n dX9_chain_26 rfl ?_
      replace h := p_bind_elim h
      obtain ⟨a_14, q_15, h⟩ := h
      refine v_getR q_15 rfl fl_X9_37 dX9_chain_27 q_1 ?_
      refine v_aload_n dX9_chain_30 rfl ?_
      replace h := p_bind_elim h
      obtain ⟨a_16, q_17, h⟩ := h
      refine v_getR q_17 rfl fl_X9_12 dX9_chain_31 q_1 ?_
      refine v_iload_n dX9_chain_34 rfl ?_
      refine v_iload_n dX9_chain_35 rfl ?_
      replace h := p_bind_elim h
      obtain ⟨_, q_20, h⟩ := h
      have q_20 := p_ob_spec q_20
      replace h := p_bind_elim h
      obtain ⟨r_18, q_19, h⟩ := h
      refine v_cVr (t_X5_measure q_19) cal_X5_measure ml_X9_241 sel_X5_measure q_20 kk_5 dX9_chain_36 (by omega) (by decide) (by decide) (Nat.le_of_ble_eq_true rfl) rfl ?_
      refine v_istore dX9_chain_39 (by decide) ?_
      refine v_sub [(0, .ref (B + p0)), (1, .int p1), (3, .int p3), (4, .int r_18.1)] ⟨rfl, rfl, rfl, rfl, trivial⟩ ?_
      refine v_iload_n dX9_chain_41 rfl ?_
      refine v_iconstE (-1 : Int32) dX9_chain_42 (by decide) ?_
      refine v_icmp_ne 51 dX9_chain_43 (by decide) (fun c_21 => ?_) (fun c_21 => ?_)
      · rw [if_neg c_21] at h
        refine v_aload_n dX9_chain_51 rfl ?_
        replace h := p_bind_elim h
        obtain ⟨a_22, q_23, h⟩ := h
        refine v_getR q_23 rfl fl_X9_37 dX9_chain_52 q_1 ?_
        refine v_aload_n dX9_chain_55 rfl ?_
        replace h := p_bind_elim h
        obtain ⟨a_24, q_25, h⟩ := h
        refine v_getR q_25 rfl fl_X9_12 dX9_chain_56 q_1 ?_
        refine v_iload_n dX9_chain_59 rfl ?_
        refine v_iload dX9_chain_60 rfl ?_
        refine v_iload_n dX9_chain_62 rfl ?_
        replace h := p_bind_elim h
        obtain ⟨_, q_28, h⟩ := h
        have q_28 := p_ob_spec q_28
        replace h := p_bind_elim h
        obtain ⟨r_26, q_27, h⟩ := h
        refine v_cVr (t_X5_member q_27) cal_X5_member ml_X9_244 sel_X5_member q_28 kk_5 dX9_chain_63 (by omega) (by decide) (by decide) (Nat.le_of_ble_eq_true rfl) rfl ?_
        cases h
        exact v_iret dX9_chain_66 rfl (by decide) (by decide) (by rw [← hQ]; exact ⟨rfl, rfl, rfl, rfl, rfl⟩)
      · rw [if_pos c_21] at h
        refine v_iload dX9_chain_46 rfl ?_
        refine v_goto 66 dX9_chain_48 (by decide) ?_
        cases h
        exact v_iret dX9_chain_66 rfl (by decide) (by decide) (by rw [← hQ]; exact ⟨rfl, rfl, rfl, rfl, rfl⟩)
    · rw [if_pos c_13] at h
      refine v_iconstE (-1 : Int32) dX9_chain_24 (by decide) ?_
      cases h
      exact v_iret dX9_chain_25 rfl (by decide) (by decide) (by rw [← hQ]; exact ⟨rfl, rfl, rfl, rfl, rfl⟩)

def f_J6_lowestOneBit_0f7a4 (p0 : Int32) : Option (Int32) :=
some (p0 &&& (-p0))
set_option maxHeartbeats 4000000 in
set_option maxRecDepth 100000 in
theorem t_J6_lowestOneBit_0f7a4 {p0 : Int32} {r : Int32} (h : f_J6_lowestOneBit_0f7a4 p0 = some r) : v_R l B D ac (v_EE B wa wb wt sb sL sx) yJ6_lowestOneBit_0f7a4 cJ6_lowestOneBit_0f7a4 1 (some .int) 1 0 0 [.int p0] S I J F (v_D (some (.int r)) S I J F) := by
  refine v_R.of (by decide) (Nat.le_of_ble_eq_true rfl) fun d hd => ?_
  generalize hQ : v_D (some (.int r)) S I J F = Q
  unfold f_J6_lowestOneBit_0f7a4 at h
  refine v_sub [(0, .int p0)] ⟨rfl, trivial⟩ ?_
  refine v_iload_n dJ6_lowestOneBit_0f7a4_0 rfl ?_
  refine v_iload_n dJ6_lowestOneBit_0f7a4_1 rfl ?_
  refine v_ineg dJ6_lowestOneBit_0f7a4_2 ?_
  refine v_iand dJ6_lowestOneBit_0f7a4_3 ?_
  cases h
  exact v_iret dJ6_lowestOneBit_0f7a4_4 rfl (by decide) (by decide) (by rw [← hQ]; exact ⟨rfl, rfl, rfl, rfl, rfl⟩)

def f_X5_findSources_B15 (S : v_S) (F : v_F) (I : v_I) (w0 : Nat) (w1 : Nat) (w2 : Int32) (s15 : Int32 × Int32) : Option ((Int32 × Int32) ⊕ (Int32 × Int32)) :=
if (8 : Int32) ≤ s15.2 then (
some (.inr (s15.1, s15.2)))
else (
(f_X5_watchedBy S I F w1 s15.1).bind fun r_5 =>
p_let (s15.1 ||| r_5) fun x_7 =>
p_let (s15.2 + (1 : Int32)) fun x_9 =>
some (.inl (x_7, x_9)))
def f_X5_findSources_B2 (S : v_S) (F : v_F) (w0 : Nat) (w1 : Nat) (s2 : Int32 × v_I) : Option ((Int32 × v_I) ⊕ (Int32 × v_I)) :=
if (8 : Int32) ≤ s2.1 then (
some (.inr (s2.1, s2.2)))
else (
p_let ((1 : Int32) <<< (s2.1 &&& 31)) fun x_2 =>
(v_loop (f_X5_findSources_B15 S F s2.2 w0 w1 s2.1) FU (x_2, (0 : Int32))).bind fun q_11 =>
(p_ob S 5 w0).bind fun _ =>
(F w0 1).bind fun a_14 =>
(p_ix S 20 a_14 s2.1).bind fun j_16 =>
p_let (v_up s2.2 a_14 j_16 q_11.1) fun I_18 =>
p_let (s2.1 + (1 : Int32)) fun x_20 =>
some (.inl (x_20, I_18)))
def f_X5_findSources (S : v_S) (I : v_I) (F : v_F) (p0 : Nat) (p1 : Nat) : Option (v_I) :=
(v_loop (f_X5_findSources_B2 S F p0 p1) FU ((0 : Int32), I)).bind fun q_22 =>
some (q_22.2)
set_option maxHeartbeats 4000000 in
set_option maxRecDepth 100000 in
theorem t_X5_findSources {p0 : Nat} {p1 : Nat} {r : v_I} (h : f_X5_findSources S I F p0 p1 = some r) : v_R l B D ac (v_EE B wa wb wt sb sL sx) yX5_findSources cX5_findSources 5 none 2 0 0 [.ref (B + p0), .ref (B + p1)] S I J F (v_D none S r J F) := by
  refine v_R.of (by decide) (Nat.le_of_ble_eq_true rfl) fun d hd => ?_
  generalize hQ : v_D none S r J F = Q
  have b2 : ∀ (w0 : Nat) (w1 : Nat) (s2 : Int32 × v_I) (rx2 : (Int32 × v_I) ⊕ (Int32 × v_I)), f_X5_findSources_B2 S F w0 w1 s2 = some rx2 → v_K (fun (sP : Int32 × v_I) => V l B D ac (v_EE B wa wb wt sb sL sx) yX5_findSources cX5_findSources 5 none d 0 0 0 0 S sP.2 J F 2 [(0, .ref (B + w0)), (1, .ref (B + w1)), (2, .int sP.1)] [] Q) (fun (rE : Int32 × v_I) => V l B D ac (v_EE B wa wb wt sb sL sx) yX5_findSources cX5_findSources 5 none d 0 0 0 0 S rE.2 J F 49 [] [] Q) rx2 → V l B D ac (v_EE B wa wb wt sb sL sx) yX5_findSources cX5_findSources 5 none d 0 0 0 0 S s2.2 J F 2 [(0, .ref (B + w0)), (1, .ref (B + w1)), (2, .int s2.1)] [] Q := by
    intro w0 w1 s2 rx2 h hk
    have b15 : ∀ (I : v_I) (w0 : Nat) (w1 : Nat) (w2 : Int32) (s15 : Int32 × Int32) (rx15 : (Int32 × Int32) ⊕ (Int32 × Int32)), f_X5_findSources_B15 S F I w0 w1 w2 s15 = some rx15 → v_K (fun (sP : Int32 × Int32) => V l B D ac (v_EE B wa wb wt sb sL sx) yX5_findSources cX5_findSources 5 none d 0 0 0 0 S I J F 15 [(0, .ref (B + w0)), (1, .ref (B + w1)), (2, .int w2), (3, .int sP.1), (4, .int sP.2)] [] Q) (fun (rE : Int32 × Int32) => V l B D ac (v_EE B wa wb wt sb sL sx) yX5_findSources cX5_findSources 5 none d 0 0 0 0 S I J F 36 [(0, .ref (B + w0)), (1, .ref (B + w1)), (2, .int w2), (3, .int rE.1)] [] Q) rx15 → V l B D ac (v_EE B wa wb wt sb sL sx) yX5_findSources cX5_findSources 5 none d 0 0 0 0 S I J F 15 [(0, .ref (B + w0)), (1, .ref (B + w1)), (2, .int w2), (3, .int s15.1), (4, .int s15.2)] [] Q := by
      intro I w0 w1 w2 s15 rx15 h hk
      unfold f_X5_findSources_B15 at h
      refine v_iload dX5_findSources_15 rfl ?_
      refine v_bipush (8 : Int32) dX5_findSources_17 (by decide) ?_
      refine v_icmp_ge 36 dX5_findSources_19 (by decide) (fun c_4 => ?_) (fun c_4 => ?_)
      · rw [if_pos c_4] at h
        cases h
        refine v_sub [(0, .ref (B + w0)), (1, .ref (B + w1)), (2, .int w2), (3, .int s15.1)] ⟨rfl, rfl, rfl, rfl, trivial⟩ ?_
        exact hk
      · rw [if_neg c_4] at h
        refine v_iload_n dX5_findSources_22 rfl ?_
        refine v_aload_n dX5_findSources_23 rfl ?_
        refine v_iload_n dX5_findSources_24 rfl ?_
        replace h := p_bind_elim h
        obtain ⟨r_5, q_6, h⟩ := h
        refine v_cSr (t_X5_watchedBy q_6) cal_X5_watchedBy ml_X5_18 sta_X5_watchedBy dX5_findSources_25 (by omega) (by decide) (by decide) (Nat.le_of_ble_eq_true rfl) rfl ?_
        refine v_ior dX5_findSources_28 ?_
        replace h := p_let_elim h
        obtain ⟨x_7, h_8, h⟩ := h
        rw [← h_8]
        refine v_istore_n dX5_findSources_29 (by decide) ?_
        refine v_sub [(0, .ref (B + w0)), (1, .ref (B + w1)), (2, .int w2), (3, .int x_7), (4, .int s15.2)] ⟨rfl, rfl, rfl, rfl, rfl, trivial⟩ ?_
        replace h := p_let_elim h
        obtain ⟨x_9, h_10, h⟩ := h
        refine v_iincE (1 : Int32) dX5_findSources_30 (by decide) rfl (by decide) ?_
        rw [← h_10]
        refine v_sub [(0, .ref (B + w0)), (1, .ref (B + w1)), (2, .int w2), (3, .int x_7), (4, .int x_9)] ⟨rfl, rfl, rfl, rfl, rfl, trivial⟩ ?_
        refine v_goto 15 dX5_findSources_33 (by decide) ?_
        cases h
        refine v_sub [(0, .ref (B + w0)), (1, .ref (B + w1)), (2, .int w2), (3, .int x_7), (4, .int x_9)] ⟨rfl, rfl, rfl, rfl, rfl, trivial⟩ ?_
        exact hk
    unfold f_X5_findSources_B2 at h
    refine v_iload_n dX5_findSources_2 rfl ?_
    refine v_bipush (8 : Int32) dX5_findSources_3 (by decide) ?_
    refine v_icmp_ge 49 dX5_findSources_5 (by decide) (fun c_1 => ?_) (fun c_1 => ?_)
    · rw [if_pos c_1] at h
      cases h
      refine v_sub [] trivial ?_
      exact hk
    · rw [if_neg c_1] at h
      refine v_iconstE (1 : Int32) dX5_findSources_8 (by decide) ?_
      refine v_iload_n dX5_findSources_9 rfl ?_
      refine v_ishl dX5_findSources_10 ?_
      replace h := p_let_elim h
      obtain ⟨x_2, h_3, h⟩ := h
      rw [← h_3]
      refine v_istore_n dX5_findSources_11 (by decide) ?_
      refine v_sub [(0, .ref (B + w0)), (1, .ref (B + w1)), (2, .int s2.1), (3, .int x_2)] ⟨rfl, rfl, rfl, rfl, trivial⟩ ?_
      refine v_iconstE (0 : Int32) dX5_findSources_12 (by decide) ?_
      refine v_istore dX5_findSources_13 (by decide) ?_
      refine v_sub [(0, .ref (B + w0)), (1, .ref (B + w1)), (2, .int s2.1), (3, .int x_2), (4, .int (0 : Int32))] ⟨rfl, rfl, rfl, rfl, rfl, trivial⟩ ?_
      replace h := p_bind_elim h
      obtain ⟨q_11, h_12, h⟩ := h
      refine v_sub [(0, .ref (B + w0)), (1, .ref (B + w1)), (2, .int s2.1), (3, .int x_2), (4, .int (0 : Int32))] ⟨rfl, rfl, rfl, rfl, rfl, trivial⟩ ?_
      refine v_loopV (fun (sP : Int32 × Int32) => V l B D ac (v_EE B wa wb wt sb sL sx) yX5_findSources cX5_findSources 5 none d 0 0 0 0 S s2.2 J F 15 [(0, .ref (B + w0)), (1, .ref (B + w1)), (2, .int s2.1), (3, .int sP.1), (4, .int sP.2)] [] Q) (fun (rE : Int32 × Int32) => V l B D ac (v_EE B wa wb wt sb sL sx) yX5_findSources cX5_findSources 5 none d 0 0 0 0 S s2.2 J F 36 [(0, .ref (B + w0)), (1, .ref (B + w1)), (2, .int s2.1), (3, .int rE.1)] [] Q) (fun s_ x_ hb hk => b15 _ _ _ _ s_ x_ hb hk) (r := q_11) ?_ h_12
      try dsimp only
      refine v_aload_n dX5_findSources_36 rfl ?_
      replace h := p_bind_elim h
      obtain ⟨_, q_13, h⟩ := h
      have q_13 := p_ob_spec q_13
      replace h := p_bind_elim h
      obtain ⟨a_14, q_15, h⟩ := h
      refine v_getR q_15 rfl fl_X5_15 dX5_findSources_37 q_13 ?_
      refine v_iload_n dX5_findSources_40 rfl ?_
      refine v_iload_n dX5_findSources_41 rfl ?_
      replace h := p_bind_elim h
      obtain ⟨j_16, q_17, h⟩ := h
      refine v_iastP dX5_findSources_42 q_17 ?_
      replace h := p_let_elim h
      obtain ⟨I_18, h_19, h⟩ := h
      rw [← h_19]
      replace h := p_let_elim h
      obtain ⟨x_20, h_21, h⟩ := h
      refine v_iincE (1 : Int32) dX5_findSources_43 (by decide) rfl (by decide) ?_
      rw [← h_21]
      refine v_sub [(0, .ref (B + w0)), (1, .ref (B + w1)), (2, .int x_20)] ⟨rfl, rfl, rfl, trivial⟩ ?_
      refine v_goto 2 dX5_findSources_46 (by decide) ?_
      cases h
      refine v_sub [(0, .ref (B + w0)), (1, .ref (B + w1)), (2, .int x_20)] ⟨rfl, rfl, rfl, trivial⟩ ?_
      exact hk
  unfold f_X5_findSources at h
  refine v_sub [(0, .ref (B + p0)), (1, .ref (B + p1))] ⟨rfl, rfl, trivial⟩ ?_
  refine v_iconstE (0 : Int32) dX5_findSources_0 (by decide) ?_
  refine v_istore_n dX5_findSources_1 (by decide) ?_
  refine v_sub [(0, .ref (B + p0)), (1, .ref (B + p1)), (2, .int (0 : Int32))] ⟨rfl, rfl, rfl, trivial⟩ ?_
  replace h := p_bind_elim h
  obtain ⟨q_22, h_23, h⟩ := h
  refine v_sub [(0, .ref (B + p0)), (1, .ref (B + p1)), (2, .int (0 : Int32))] ⟨rfl, rfl, rfl, trivial⟩ ?_
  refine v_loopV (fun (sP : Int32 × v_I) => V l B D ac (v_EE B wa wb wt sb sL sx) yX5_findSources cX5_findSources 5 none d 0 0 0 0 S sP.2 J F 2 [(0, .ref (B + p0)), (1, .ref (B + p1)), (2, .int sP.1)] [] Q) (fun (rE : Int32 × v_I) => V l B D ac (v_EE B wa wb wt sb sL sx) yX5_findSources cX5_findSources 5 none d 0 0 0 0 S rE.2 J F 49 [] [] Q) (fun s_ x_ hb hk => b2 _ _ s_ x_ hb hk) (r := q_22) ?_ h_23
  try dsimp only
  cases h
  exact v_vret dX5_findSources_49 rfl (by decide) (by decide) (by rw [← hQ]; exact ⟨rfl, rfl, rfl, rfl, rfl⟩)

def f_X5_knotOf_J4_54 (S : v_S) (I : v_I) (F : v_F) (w0 : Nat) (w1 : Int32) (y2 : Int32) (y3 : Int32) : Option ((Int32 × Int32) ⊕ (Int32 × Int32)) :=
p_let (y3 + (1 : Int32)) fun x_3 =>
some (.inl (y2, x_3))
def f_X5_knotOf_B4 (S : v_S) (I : v_I) (F : v_F) (w0 : Nat) (w1 : Int32) (s4 : Int32 × Int32) : Option ((Int32 × Int32) ⊕ (Int32 × Int32)) :=
if (8 : Int32) ≤ s4.2 then (
some (.inr (s4.1, s4.2)))
else (
if w1 < (0 : Int32) then (
f_X5_knotOf_J4_54 S I F w0 w1 s4.1 s4.2)
else (
if (8 : Int32) ≤ w1 then (
f_X5_knotOf_J4_54 S I F w0 w1 s4.1 s4.2)
else (
(p_ob S 5 w0).bind fun _ =>
(F w0 1).bind fun a_7 =>
(p_ix S 20 a_7 w1).bind fun j_9 =>
if (((I a_7 j_9) >>> (s4.2 &&& 31)) &&& (1 : Int32)) = (1 : Int32) then (
(F w0 1).bind fun a_12 =>
(p_ix S 20 a_12 s4.2).bind fun j_14 =>
if (((I a_12 j_14) >>> (w1 &&& 31)) &&& (1 : Int32)) = (1 : Int32) then (
p_let (s4.1 ||| ((1 : Int32) <<< (s4.2 &&& 31))) fun x_17 =>
f_X5_knotOf_J4_54 S I F w0 w1 x_17 s4.2)
else (
f_X5_knotOf_J4_54 S I F w0 w1 s4.1 s4.2))
else (
f_X5_knotOf_J4_54 S I F w0 w1 s4.1 s4.2))))
def f_X5_knotOf (S : v_S) (I : v_I) (F : v_F) (p0 : Nat) (p1 : Int32) : Option (Int32) :=
(v_loop (f_X5_knotOf_B4 S I F p0 p1) FU ((0 : Int32), (0 : Int32))).bind fun q_19 =>
some (q_19.1)
set_option maxHeartbeats 4000000 in
set_option maxRecDepth 100000 in
theorem t_X5_knotOf {p0 : Nat} {p1 : Int32} {r : Int32} (h : f_X5_knotOf S I F p0 p1 = some r) : v_R l B D ac (v_EE B wa wb wt sb sL sx) yX5_knotOf cX5_knotOf 4 (some .int) 1 0 0 [.ref (B + p0), .int p1] S I J F (v_D (some (.int r)) S I J F) := by
  refine v_R.of (by decide) (Nat.le_of_ble_eq_true rfl) fun d hd => ?_
  generalize hQ : v_D (some (.int r)) S I J F = Q
  have b4 : ∀ (w0 : Nat) (w1 : Int32) (s4 : Int32 × Int32) (rx4 : (Int32 × Int32) ⊕ (Int32 × Int32)), f_X5_knotOf_B4 S I F w0 w1 s4 = some rx4 → v_K (fun (sP : Int32 × Int32) => V l B D ac (v_EE B wa wb wt sb sL sx) yX5_knotOf cX5_knotOf 4 (some .int) d 0 0 0 0 S I J F 4 [(0, .ref (B + w0)), (1, .int w1), (2, .int sP.1), (3, .int sP.2)] [] Q) (fun (rE : Int32 × Int32) => V l B D ac (v_EE B wa wb wt sb sL sx) yX5_knotOf cX5_knotOf 4 (some .int) d 0 0 0 0 S I J F 60 [(2, .int rE.1)] [] Q) rx4 → V l B D ac (v_EE B wa wb wt sb sL sx) yX5_knotOf cX5_knotOf 4 (some .int) d 0 0 0 0 S I J F 4 [(0, .ref (B + w0)), (1, .int w1), (2, .int s4.1), (3, .int s4.2)] [] Q := by
    intro w0 w1 s4 rx4 h hk
    have j54 : ∀ (y2 : Int32) (y3 : Int32), f_X5_knotOf_J4_54 S I F w0 w1 y2 y3 = some rx4 → V l B D ac (v_EE B wa wb wt sb sL sx) yX5_knotOf cX5_knotOf 4 (some .int) d 0 0 0 0 S I J F 54 [(0, .ref (B + w0)), (1, .int w1), (2, .int y2), (3, .int y3)] [] Q := by
      intro y2 y3 h
      unfold f_X5_knotOf_J4_54 at h
      replace h := p_let_elim h
      obtain ⟨x_3, h_4, h⟩ := h
      refine v_iincE (1 : Int32) dX5_knotOf_54 (by decide) rfl (by decide) ?_
      rw [← h_4]
      refine v_sub [(0, .ref (B + w0)), (1, .int w1), (2, .int y2), (3, .int x_3)] ⟨rfl, rfl, rfl, rfl, trivial⟩ ?_
      refine v_goto 4 dX5_knotOf_57 (by decide) ?_
      cases h
      refine v_sub [(0, .ref (B + w0)), (1, .int w1), (2, .int y2), (3, .int x_3)] ⟨rfl, rfl, rfl, rfl, trivial⟩ ?_
      exact hk
    unfold f_X5_knotOf_B4 at h
    refine v_iload_n dX5_knotOf_4 rfl ?_
    refine v_bipush (8 : Int32) dX5_knotOf_5 (by decide) ?_
    refine v_icmp_ge 60 dX5_knotOf_7 (by decide) (fun c_1 => ?_) (fun c_1 => ?_)
    · rw [if_pos c_1] at h
      cases h
      refine v_sub [(2, .int s4.1)] ⟨rfl, trivial⟩ ?_
      exact hk
    · rw [if_neg c_1] at h
      refine v_iload_n dX5_knotOf_10 rfl ?_
      refine v_if_lt 54 dX5_knotOf_11 (by decide) (fun c_2 => ?_) (fun c_2 => ?_)
      · rw [if_pos c_2] at h
        refine v_sub [(0, .ref (B + w0)), (1, .int w1), (2, .int s4.1), (3, .int s4.2)] ⟨rfl, rfl, rfl, rfl, trivial⟩ ?_
        exact j54 _ _ h
      · rw [if_neg c_2] at h
        refine v_iload_n dX5_knotOf_14 rfl ?_
        refine v_bipush (8 : Int32) dX5_knotOf_15 (by decide) ?_
        refine v_icmp_ge 54 dX5_knotOf_17 (by decide) (fun c_5 => ?_) (fun c_5 => ?_)
        · rw [if_pos c_5] at h
          refine v_sub [(0, .ref (B + w0)), (1, .int w1), (2, .int s4.1), (3, .int s4.2)] ⟨rfl, rfl, rfl, rfl, trivial⟩ ?_
          exact j54 _ _ h
        · rw [if_neg c_5] at h
          refine v_aload_n dX5_knotOf_20 rfl ?_
          replace h := p_bind_elim h
          obtain ⟨_, q_6, h⟩ := h
          have q_6 := p_ob_spec q_6
          replace h := p_bind_elim h
          obtain ⟨a_7, q_8, h⟩ := h
          refine v_getR q_8 rfl fl_X5_15 dX5_knotOf_21 q_6 ?_
          refine v_iload_n dX5_knotOf_24 rfl ?_
          replace h := p_bind_elim h
          obtain ⟨j_9, q_10, h⟩ := h
          refine v_ialdP dX5_knotOf_25 q_10 ?_
          refine v_iload_n dX5_knotOf_26 rfl ?_
          refine v_ishr dX5_knotOf_27 ?_
          refine v_iconstE (1 : Int32) dX5_knotOf_28 (by decide) ?_
          refine v_iand dX5_knotOf_29 ?_
          refine v_iconstE (1 : Int32) dX5_knotOf_30 (by decide) ?_
          refine v_icmp_ne 54 dX5_knotOf_31 (by decide) (fun c_11 => ?_) (fun c_11 => ?_)
          · rw [if_neg c_11] at h
            refine v_sub [(0, .ref (B + w0)), (1, .int w1), (2, .int s4.1), (3, .int s4.2)] ⟨rfl, rfl, rfl, rfl, trivial⟩ ?_
            exact j54 _ _ h
          · rw [if_pos c_11] at h
            refine v_aload_n dX5_knotOf_34 rfl ?_
            replace h := p_bind_elim h
            obtain ⟨a_12, q_13, h⟩ := h
            refine v_getR q_13 rfl fl_X5_15 dX5_knotOf_35 q_6 ?_
            refine v_iload_n dX5_knotOf_38 rfl ?_
            replace h := p_bind_elim h
            obtain ⟨j_14, q_15, h⟩ := h
            refine v_ialdP dX5_knotOf_39 q_15 ?_
            refine v_iload_n dX5_knotOf_40 rfl ?_
            refine v_ishr dX5_knotOf_41 ?_
            refine v_iconstE (1 : Int32) dX5_knotOf_42 (by decide) ?_
            refine v_iand dX5_knotOf_43 ?_
            refine v_iconstE (1 : Int32) dX5_knotOf_44 (by decide) ?_
            refine v_icmp_ne 54 dX5_knotOf_45 (by decide) (fun c_16 => ?_) (fun c_16 => ?_)
            · rw [if_neg c_16] at h
              refine v_sub [(0, .ref (B + w0)), (1, .int w1), (2, .int s4.1), (3, .int s4.2)] ⟨rfl, rfl, rfl, rfl, trivial⟩ ?_
              exact j54 _ _ h
            · rw [if_pos c_16] at h
              refine v_iload_n dX5_knotOf_48 rfl ?_
              refine v_iconstE (1 : Int32) dX5_knotOf_49 (by decide) ?_
              refine v_iload_n dX5_knotOf_50 rfl ?_
              refine v_ishl dX5_knotOf_51 ?_
              refine v_ior dX5_knotOf_52 ?_
              replace h := p_let_elim h
              obtain ⟨x_17, h_18, h⟩ := h
              rw [← h_18]
              refine v_istore_n dX5_knotOf_53 (by decide) ?_
              refine v_sub [(0, .ref (B + w0)), (1, .int w1), (2, .int x_17), (3, .int s4.2)] ⟨rfl, rfl, rfl, rfl, trivial⟩ ?_
              refine v_sub [(0, .ref (B + w0)), (1, .int w1), (2, .int x_17), (3, .int s4.2)] ⟨rfl, rfl, rfl, rfl, trivial⟩ ?_
              exact j54 _ _ h
  unfold f_X5_knotOf at h
  refine v_sub [(0, .ref (B + p0)), (1, .int p1)] ⟨rfl, rfl, trivial⟩ ?_
  refine v_iconstE (0 : Int32) dX5_knotOf_0 (by decide) ?_
  refine v_istore_n dX5_knotOf_1 (by decide) ?_
  refine v_sub [(0, .ref (B + p0)), (1, .int p1), (2, .int (0 : Int32))] ⟨rfl, rfl, rfl, trivial⟩ ?_
  refine v_iconstE (0 : Int32) dX5_knotOf_2 (by decide) ?_
  refine v_istore_n dX5_knotOf_3 (by decide) ?_
  refine v_sub [(0, .ref (B + p0)), (1, .int p1), (2, .int (0 : Int32)), (3, .int (0 : Int32))] ⟨rfl, rfl, rfl, rfl, trivial⟩ ?_
  replace h := p_bind_elim h
  obtain ⟨q_19, h_20, h⟩ := h
  refine v_sub [(0, .ref (B + p0)), (1, .int p1), (2, .int (0 : Int32)), (3, .int (0 : Int32))] ⟨rfl, rfl, rfl, rfl, trivial⟩ ?_
  refine v_loopV (fun (sP : Int32 × Int32) => V l B D ac (v_EE B wa wb wt sb sL sx) yX5_knotOf cX5_knotOf 4 (some .int) d 0 0 0 0 S I J F 4 [(0, .ref (B + p0)), (1, .int p1), (2, .int sP.1), (3, .int sP.2)] [] Q) (fun (rE : Int32 × Int32) => V l B D ac (v_EE B wa wb wt sb sL sx) yX5_knotOf cX5_knotOf 4 (some .int) d 0 0 0 0 S I J F 60 [(2, .int rE.1)] [] Q) (fun s_ x_ hb hk => b4 _ _ s_ x_ hb hk) (r := q_19) ?_ h_20
  try dsimp only
  refine v_iload_n dX5_knotOf_60 rfl ?_
  cases h
  exact v_iret dX5_knotOf_61 rfl (by decide) (by decide) (by rw [← hQ]; exact ⟨rfl, rfl, rfl, rfl, rfl⟩)

def f_X5_lowestOfKnots_J9_43 (S : v_S) (I : v_I) (F : v_F) (w0 : Nat) (w1 : Nat) (y2 : Int32) (y3 : Int32) : Option ((Int32 × Int32) ⊕ (Int32 × Int32)) :=
p_let (y3 + (1 : Int32)) fun x_13 =>
some (.inl (y2, x_13))
def f_X5_lowestOfKnots_B9 (S : v_S) (F : v_F) (I : v_I) (w0 : Nat) (w1 : Nat) (s9 : Int32 × Int32) : Option ((Int32 × Int32) ⊕ (Int32 × Int32)) :=
(p_ob S 0 w1).bind fun _ =>
if (I w1 0) ≤ s9.2 then (
some (.inr (s9.1, s9.2)))
else (
if (8 : Int32) ≤ s9.2 then (
some (.inr (s9.1, s9.2)))
else (
(p_ob S 5 w0).bind fun _ =>
(f_X5_knotOf S I F w0 s9.2).bind fun r_7 =>
(f_J6_lowestOneBit_0f7a4 r_7).bind fun r_10 =>
if r_10 = ((1 : Int32) <<< (s9.2 &&& 31)) then (
p_let (s9.1 ||| ((1 : Int32) <<< (s9.2 &&& 31))) fun x_15 =>
f_X5_lowestOfKnots_J9_43 S I F w0 w1 x_15 s9.2)
else (
f_X5_lowestOfKnots_J9_43 S I F w0 w1 s9.1 s9.2)))
def f_X5_lowestOfKnots (S : v_S) (I : v_I) (F : v_F) (p0 : Nat) (p1 : Nat) : Option (Int32 × v_I) :=
(p_ob S 5 p0).bind fun _ =>
(f_X5_findSources S I F p0 p1).bind fun r_1 =>
(v_loop (f_X5_lowestOfKnots_B9 S F r_1 p0 p1) FU ((0 : Int32), (0 : Int32))).bind fun q_17 =>
some (q_17.1, r_1)
set_option maxHeartbeats 4000000 in
set_option maxRecDepth 100000 in
theorem t_X5_lowestOfKnots {p0 : Nat} {p1 : Nat} {r : Int32 × v_I} (h : f_X5_lowestOfKnots S I F p0 p1 = some r) : v_R l B D ac (v_EE B wa wb wt sb sL sx) yX5_lowestOfKnots cX5_lowestOfKnots 4 (some .int) 3 0 0 [.ref (B + p0), .ref (B + p1)] S I J F (v_D (some (.int r.1)) S r.2 J F) := by
  refine v_R.of (by decide) (Nat.le_of_ble_eq_true rfl) fun d hd => ?_
  generalize hQ : v_D (some (.int r.1)) S r.2 J F = Q
  have b9 : ∀ (I : v_I) (w0 : Nat) (w1 : Nat) (s9 : Int32 × Int32) (rx9 : (Int32 × Int32) ⊕ (Int32 × Int32)), f_X5_lowestOfKnots_B9 S F I w0 w1 s9 = some rx9 → v_K (fun (sP : Int32 × Int32) => V l B D ac (v_EE B wa wb wt sb sL sx) yX5_lowestOfKnots cX5_lowestOfKnots 4 (some .int) d 0 0 0 0 S I J F 9 [(0, .ref (B + w0)), (1, .ref (B + w1)), (2, .int sP.1), (3, .int sP.2)] [] Q) (fun (rE : Int32 × Int32) => V l B D ac (v_EE B wa wb wt sb sL sx) yX5_lowestOfKnots cX5_lowestOfKnots 4 (some .int) d 0 0 0 0 S I J F 49 [(2, .int rE.1)] [] Q) rx9 → V l B D ac (v_EE B wa wb wt sb sL sx) yX5_lowestOfKnots cX5_lowestOfKnots 4 (some .int) d 0 0 0 0 S I J F 9 [(0, .ref (B + w0)), (1, .ref (B + w1)), (2, .int s9.1), (3, .int s9.2)] [] Q := by
    intro I w0 w1 s9 rx9 h hk
    have j43 : ∀ (y2 : Int32) (y3 : Int32), f_X5_lowestOfKnots_J9_43 S I F w0 w1 y2 y3 = some rx9 → V l B D ac (v_EE B wa wb wt sb sL sx) yX5_lowestOfKnots cX5_lowestOfKnots 4 (some .int) d 0 0 0 0 S I J F 43 [(0, .ref (B + w0)), (1, .ref (B + w1)), (2, .int y2), (3, .int y3)] [] Q := by
      intro y2 y3 h
      unfold f_X5_lowestOfKnots_J9_43 at h
      replace h := p_let_elim h
      obtain ⟨x_13, h_14, h⟩ := h
      refine v_iincE (1 : Int32) dX5_lowestOfKnots_43 (by decide) rfl (by decide) ?_
      rw [← h_14]
      refine v_sub [(0, .ref (B + w0)), (1, .ref (B + w1)), (2, .int y2), (3, .int x_13)] ⟨rfl, rfl, rfl, rfl, trivial⟩ ?_
      refine v_goto 9 dX5_lowestOfKnots_46 (by decide) ?_
      cases h
      refine v_sub [(0, .ref (B + w0)), (1, .ref (B + w1)), (2, .int y2), (3, .int x_13)] ⟨rfl, rfl, rfl, rfl, trivial⟩ ?_
      exact hk
    unfold f_X5_lowestOfKnots_B9 at h
    refine v_iload_n dX5_lowestOfKnots_9 rfl ?_
    refine v_aload_n dX5_lowestOfKnots_10 rfl ?_
    replace h := p_bind_elim h
    obtain ⟨_, q_4, h⟩ := h
    have q_4 := p_ob_spec q_4
    refine v_getI rfl fl_X5_35 dX5_lowestOfKnots_11 q_4 ?_
    refine v_icmp_ge 49 dX5_lowestOfKnots_14 (by decide) (fun c_5 => ?_) (fun c_5 => ?_)
    · rw [if_pos c_5] at h
      cases h
      refine v_sub [(2, .int s9.1)] ⟨rfl, trivial⟩ ?_
      exact hk
    · rw [if_neg c_5] at h
      refine v_iload_n dX5_lowestOfKnots_17 rfl ?_
      refine v_bipush (8 : Int32) dX5_lowestOfKnots_18 (by decide) ?_
      refine v_icmp_ge 49 dX5_lowestOfKnots_20 (by decide) (fun c_6 => ?_) (fun c_6 => ?_)
      · rw [if_pos c_6] at h
        cases h
        refine v_sub [(2, .int s9.1)] ⟨rfl, trivial⟩ ?_
        exact hk
      · rw [if_neg c_6] at h
        refine v_aload_n dX5_lowestOfKnots_23 rfl ?_
        refine v_iload_n dX5_lowestOfKnots_24 rfl ?_
        replace h := p_bind_elim h
        obtain ⟨_, q_9, h⟩ := h
        have q_9 := p_ob_spec q_9
        replace h := p_bind_elim h
        obtain ⟨r_7, q_8, h⟩ := h
        refine v_cVr (t_X5_knotOf q_8) cal_X5_knotOf ml_X5_39 sel_X5_knotOf q_9 kk_5 dX5_lowestOfKnots_25 (by omega) (by decide) (by decide) (Nat.le_of_ble_eq_true rfl) rfl ?_
        replace h := p_bind_elim h
        obtain ⟨r_10, q_11, h⟩ := h
        refine v_cSr (t_J6_lowestOneBit_0f7a4 q_11) cal_J6_lowestOneBit_0f7a4 ml_X5_43 sta_J6_lowestOneBit_0f7a4 dX5_lowestOfKnots_28 (by omega) (by decide) (by decide) (Nat.le_of_ble_eq_true rfl) rfl ?_
        refine v_iconstE (1 : Int32) dX5_lowestOfKnots_31 (by decide) ?_
        refine v_iload_n dX5_lowestOfKnots_32 rfl ?_
        refine v_ishl dX5_lowestOfKnots_33 ?_
        refine v_icmp_ne 43 dX5_lowestOfKnots_34 (by decide) (fun c_12 => ?_) (fun c_12 => ?_)
        · rw [if_neg c_12] at h
          refine v_sub [(0, .ref (B + w0)), (1, .ref (B + w1)), (2, .int s9.1), (3, .int s9.2)] ⟨rfl, rfl, rfl, rfl, trivial⟩ ?_
          exact j43 _ _ h
        · rw [if_pos c_12] at h
          refine v_iload_n dX5_lowestOfKnots_37 rfl ?_
          refine v_iconstE (1 : Int32) dX5_lowestOfKnots_38 (by decide) ?_
          refine v_iload_n dX5_lowestOfKnots_39 rfl ?_
          refine v_ishl dX5_lowestOfKnots_40 ?_
          refine v_ior dX5_lowestOfKnots_41 ?_
          replace h := p_let_elim h
          obtain ⟨x_15, h_16, h⟩ := h
          rw [← h_16]
          refine v_istore_n dX5_lowestOfKnots_42 (by decide) ?_
          refine v_sub [(0, .ref (B + w0)), (1, .ref (B + w1)), (2, .int x_15), (3, .int s9.2)] ⟨rfl, rfl, rfl, rfl, trivial⟩ ?_
          refine v_sub [(0, .ref (B + w0)), (1, .ref (B + w1)), (2, .int x_15), (3, .int s9.2)] ⟨rfl, rfl, rfl, rfl, trivial⟩ ?_
          exact j43 _ _ h
  unfold f_X5_lowestOfKnots at h
  refine v_sub [(0, .ref (B + p0)), (1, .ref (B + p1))] ⟨rfl, rfl, trivial⟩ ?_
  refine v_aload_n dX5_lowestOfKnots_0 rfl ?_
  refine v_aload_n dX5_lowestOfKnots_1 rfl ?_
  replace h := p_bind_elim h
  obtain ⟨_, q_3, h⟩ := h
  have q_3 := p_ob_spec q_3
  replace h := p_bind_elim h
  obtain ⟨r_1, q_2, h⟩ := h
  refine v_cVn (t_X5_findSources q_2) cal_X5_findSources ml_X5_31 sel_X5_findSources q_3 kk_5 dX5_lowestOfKnots_2 (by omega) (by decide) (by decide) (Nat.le_of_ble_eq_true rfl) rfl ?_
  refine v_iconstE (0 : Int32) dX5_lowestOfKnots_5 (by decide) ?_
  refine v_istore_n dX5_lowestOfKnots_6 (by decide) ?_
  refine v_sub [(0, .ref (B + p0)), (1, .ref (B + p1)), (2, .int (0 : Int32))] ⟨rfl, rfl, rfl, trivial⟩ ?_
  refine v_iconstE (0 : Int32) dX5_lowestOfKnots_7 (by decide) ?_
  refine v_istore_n dX5_lowestOfKnots_8 (by decide) ?_
  refine v_sub [(0, .ref (B + p0)), (1, .ref (B + p1)), (2, .int (0 : Int32)), (3, .int (0 : Int32))] ⟨rfl, rfl, rfl, rfl, trivial⟩ ?_
  replace h := p_bind_elim h
  obtain ⟨q_17, h_18, h⟩ := h
  refine v_sub [(0, .ref (B + p0)), (1, .ref (B + p1)), (2, .int (0 : Int32)), (3, .int (0 : Int32))] ⟨rfl, rfl, rfl, rfl, trivial⟩ ?_
  refine v_loopV (fun (sP : Int32 × Int32) => V l B D ac (v_EE B wa wb wt sb sL sx) yX5_lowestOfKnots cX5_lowestOfKnots 4 (some .int) d 0 0 0 0 S r_1 J F 9 [(0, .ref (B + p0)), (1, .ref (B + p1)), (2, .int sP.1), (3, .int sP.2)] [] Q) (fun (rE : Int32 × Int32) => V l B D ac (v_EE B wa wb wt sb sL sx) yX5_lowestOfKnots cX5_lowestOfKnots 4 (some .int) d 0 0 0 0 S r_1 J F 49 [(2, .int rE.1)] [] Q) (fun s_ x_ hb hk => b9 _ _ _ s_ x_ hb hk) (r := q_17) ?_ h_18
  try dsimp only
  refine v_iload_n dX5_lowestOfKnots_49 rfl ?_
  cases h
  exact v_iret dX5_lowestOfKnots_50 rfl (by decide) (by decide) (by rw [← hQ]; exact ⟨rfl, rfl, rfl, rfl, rfl⟩)

def f_X9_knots (S : v_S) (I : v_I) (F : v_F) (p0 : Nat) : Option (Int32 × v_I) :=
(p_ob S 9 p0).bind fun _ =>
(F p0 4).bind fun a_2 =>
(F p0 0).bind fun a_4 =>
(p_ob S 5 a_2).bind fun _ =>
(f_X5_lowestOfKnots S I F a_2 a_4).bind fun r_6 =>
(f_J6_bitCount_0f7a4 r_6.1).bind fun r_9 =>
some (r_9, r_6.2)
set_option maxHeartbeats 4000000 in
set_option maxRecDepth 100000 in
theorem t_X9_knots {p0 : Nat} {r : Int32 × v_I} (h : f_X9_knots S I F p0 = some r) : v_R l B D ac (v_EE B wa wb wt sb sL sx) yX9_knots cX9_knots 1 (some .int) 4 0 0 [.ref (B + p0)] S I J F (v_D (some (.int r.1)) S r.2 J F) := by
  refine v_R.of (by decide) (Nat.le_of_ble_eq_true rfl) fun d hd => ?_
  generalize hQ : v_D (some (.int r.1)) S r.2 J F = Q
  unfold f_X9_knots at h
  refine v_sub [(0, .ref (B + p0))] ⟨rfl, trivial⟩ ?_
  refine v_aload_n dX9_knots_0 rfl ?_
  replace h := p_bind_elim h
  obtain ⟨_, q_1, h⟩ := h
  have q_1 := p_ob_spec q_1
  replace h := p_bind_elim h
  obtain ⟨a_2, q_3, h⟩ := h
  refine v_getR q_3 rfl fl_X9_37 dX9_knots_1 q_1 ?_
  refine v_aload_n dX9_knots_4 rfl ?_
  replace h := p_bind_elim h
  obtain ⟨a_4, q_5, h⟩ := h
  refine v_getR q_5 rfl fl_X9_12 dX9_knots_5 q_1 ?_
  replace h := p_bind_elim h
  obtain ⟨_, q_8, h⟩ := h
  have q_8 := p_ob_spec q_8
  replace h := p_bind_elim h
  obtain ⟨r_6, q_7, h⟩ := h
  refine v_cVr (t_X5_lowestOfKnots q_7) cal_X5_lowestOfKnots ml_X9_247 sel_X5_lowestOfKnots q_8 kk_5 dX9_knots_8 (by omega) (by decide) (by decide) (Nat.le_of_ble_eq_true rfl) rfl ?_
  replace h := p_bind_elim h
  obtain ⟨r_9, q_10, h⟩ := h
  refine v_cSr (t_J6_bitCount_0f7a4 q_10) cal_J6_bitCount_0f7a4 ml_X9_251 sta_J6_bitCount_0f7a4 dX9_knots_11 (by omega) (by decide) (by decide) (Nat.le_of_ble_eq_true rfl) rfl ?_
  cases h
  exact v_iret dX9_knots_14 rfl (by decide) (by decide) (by rw [← hQ]; exact ⟨rfl, rfl, rfl, rfl, rfl⟩)

def f_X5_fewestHeads_J11_51 (S : v_S) (I : v_I) (F : v_F) (w0 : Nat) (w2 : Int32) (y3 : Int32) (y4 : Int32) : Option ((Int32 × Int32) ⊕ (Int32 × Int32)) :=
p_let (y4 + (1 : Int32)) fun x_6 =>
some (.inl (y3, x_6))
def f_X5_fewestHeads_B11 (S : v_S) (F : v_F) (I : v_I) (w0 : Nat) (w2 : Int32) (s11 : Int32 × Int32) : Option ((Int32 × Int32) ⊕ (Int32 × Int32)) :=
if (8 : Int32) ≤ s11.2 then (
some (.inr (s11.1, s11.2)))
else (
if ((w2 >>> (s11.2 &&& 31)) &&& (1 : Int32)) = (1 : Int32) then (
(p_ob S 5 w0).bind fun _ =>
(F w0 1).bind fun a_9 =>
(p_ix S 20 a_9 s11.2).bind fun j_11 =>
(f_X5_knotOf S I F w0 s11.2).bind fun r_13 =>
if (I a_9 j_11) = r_13 then (
p_let (s11.1 ||| ((1 : Int32) <<< (s11.2 &&& 31))) fun x_16 =>
f_X5_fewestHeads_J11_51 S I F w0 w2 x_16 s11.2)
else (
f_X5_fewestHeads_J11_51 S I F w0 w2 s11.1 s11.2))
else (
f_X5_fewestHeads_J11_51 S I F w0 w2 s11.1 s11.2))
def f_X5_fewestHeads (S : v_S) (I : v_I) (F : v_F) (p0 : Nat) (p1 : Nat) : Option (Int32 × v_I) :=
(p_ob S 5 p0).bind fun _ =>
(f_X5_lowestOfKnots S I F p0 p1).bind fun r_1 =>
(v_loop (f_X5_fewestHeads_B11 S F r_1.2 p0 r_1.1) FU ((0 : Int32), (0 : Int32))).bind fun q_18 =>
some (q_18.1, r_1.2)
set_option maxHeartbeats 4000000 in
set_option maxRecDepth 100000 in
theorem t_X5_fewestHeads {p0 : Nat} {p1 : Nat} {r : Int32 × v_I} (h : f_X5_fewestHeads S I F p0 p1 = some r) : v_R l B D ac (v_EE B wa wb wt sb sL sx) yX5_fewestHeads cX5_fewestHeads 5 (some .int) 4 0 0 [.ref (B + p0), .ref (B + p1)] S I J F (v_D (some (.int r.1)) S r.2 J F) := by
  refine v_R.of (by decide) (Nat.le_of_ble_eq_true rfl) fun d hd => ?_
  generalize hQ : v_D (some (.int r.1)) S r.2 J F = Q
  have b11 : ∀ (I : v_I) (w0 : Nat) (w2 : Int32) (s11 : Int32 × Int32) (rx11 : (Int32 × Int32) ⊕ (Int32 × Int32)), f_X5_fewestHeads_B11 S F I w0 w2 s11 = some rx11 → v_K (fun (sP : Int32 × Int32) => V l B D ac (v_EE B wa wb wt sb sL sx) yX5_fewestHeads cX5_fewestHeads 5 (some .int) d 0 0 0 0 S I J F 11 [(0, .ref (B + w0)), (2, .int w2), (3, .int sP.1), (4, .int sP.2)] [] Q) (fun (rE : Int32 × Int32) => V l B D ac (v_EE B wa wb wt sb sL sx) yX5_fewestHeads cX5_fewestHeads 5 (some .int) d 0 0 0 0 S I J F 57 [(3, .int rE.1)] [] Q) rx11 → V l B D ac (v_EE B wa wb wt sb sL sx) yX5_fewestHeads cX5_fewestHeads 5 (some .int) d 0 0 0 0 S I J F 11 [(0, .ref (B + w0)), (2, .int w2), (3, .int s11.1), (4, .int s11.2)] [] Q := by
    intro I w0 w2 s11 rx11 h hk
    have j51 : ∀ (y3 : Int32) (y4 : Int32), f_X5_fewestHeads_J11_51 S I F w0 w2 y3 y4 = some rx11 → V l B D ac (v_EE B wa wb wt sb sL sx) yX5_fewestHeads cX5_fewestHeads 5 (some .int) d 0 0 0 0 S I J F 51 [(0, .ref (B + w0)), (2, .int w2), (3, .int y3), (4, .int y4)] [] Q := by
      intro y3 y4 h
      unfold f_X5_fewestHeads_J11_51 at h
      replace h := p_let_elim h
      obtain ⟨x_6, h_7, h⟩ := h
      refine v_iincE (1 : Int32) dX5_fewestHeads_51 (by decide) rfl (by decide) ?_
      rw [← h_7]
      refine v_sub [(0, .ref (B + w0)), (2, .int w2), (3, .int y3), (4, .int x_6)] ⟨rfl, rfl, rfl, rfl, trivial⟩ ?_
      refine v_goto 11 dX5_fewestHeads_54 (by decide) ?_
      cases h
      refine v_sub [(0, .ref (B + w0)), (2, .int w2), (3, .int y3), (4, .int x_6)] ⟨rfl, rfl, rfl, rfl, trivial⟩ ?_
      exact hk
    unfold f_X5_fewestHeads_B11 at h
    refine v_iload dX5_fewestHeads_11 rfl ?_
    refine v_bipush (8 : Int32) dX5_fewestHeads_13 (by decide) ?_
    refine v_icmp_ge 57 dX5_fewestHeads_15 (by decide) (fun c_4 => ?_) (fun c_4 => ?_)
    · rw [if_pos c_4] at h
      cases h
      refine v_sub [(3, .int s11.1)] ⟨rfl, trivial⟩ ?_
      exact hk
    · rw [if_neg c_4] at h
      refine v_iload_n dX5_fewestHeads_18 rfl ?_
      refine v_iload dX5_fewestHeads_19 rfl ?_
      refine v_ishr dX5_fewestHeads_21 ?_
      refine v_iconstE (1 : Int32) dX5_fewestHeads_22 (by decide) ?_
      refine v_iand dX5_fewestHeads_23 ?_
      refine v_iconstE (1 : Int32) dX5_fewestHeads_24 (by decide) ?_
      refine v_icmp_ne 51 dX5_fewestHeads_25 (by decide) (fun c_5 => ?_) (fun c_5 => ?_)
      · rw [if_neg c_5] at h
        refine v_sub [(0, .ref (B + w0)), (2, .int w2), (3, .int s11.1), (4, .int s11.2)] ⟨rfl, rfl, rfl, rfl, trivial⟩ ?_
        exact j51 _ _ h
      · rw [if_pos c_5] at h
        refine v_aload_n dX5_fewestHeads_28 rfl ?_
        replace h := p_bind_elim h
        obtain ⟨_, q_8, h⟩ := h
        have q_8 := p_ob_spec q_8
        replace h := p_bind_elim h
        obtain ⟨a_9, q_10, h⟩ := h
        refine v_getR q_10 rfl fl_X5_15 dX5_fewestHeads_29 q_8 ?_
        refine v_iload dX5_fewestHeads_32 rfl ?_
        replace h := p_bind_elim h
        obtain ⟨j_11, q_12, h⟩ := h
        refine v_ialdP dX5_fewestHeads_34 q_12 ?_
        refine v_aload_n dX5_fewestHeads_35 rfl ?_
        refine v_iload dX5_fewestHeads_36 rfl ?_
        replace h := p_bind_elim h
        obtain ⟨r_13, q_14, h⟩ := h
        refine v_cVr (t_X5_knotOf q_14) cal_X5_knotOf ml_X5_39 sel_X5_knotOf q_8 kk_5 dX5_fewestHeads_38 (by omega) (by decide) (by decide) (Nat.le_of_ble_eq_true rfl) rfl ?_
        refine v_icmp_ne 51 dX5_fewestHeads_41 (by decide) (fun c_15 => ?_) (fun c_15 => ?_)
        · rw [if_neg c_15] at h
          refine v_sub [(0, .ref (B + w0)), (2, .int w2), (3, .int s11.1), (4, .int s11.2)] ⟨rfl, rfl, rfl, rfl, trivial⟩ ?_
          exact j51 _ _ h
        · rw [if_pos c_15] at h
          refine v_iload_n dX5_fewestHeads_44 rfl ?_
          refine v_iconstE (1 : Int32) dX5_fewestHeads_45 (by decide) ?_
          refine v_iload dX5_fewestHeads_46 rfl ?_
          refine v_ishl dX5_fewestHeads_48 ?_
          refine v_ior dX5_fewestHeads_49 ?_
          replace h := p_let_elim h
          obtain ⟨x_16, h_17, h⟩ := h
          rw [← h_17]
          refine v_istore_n dX5_fewestHeads_50 (by decide) ?_
          refine v_sub [(0, .ref (B + w0)), (2, .int w2), (3, .int x_16), (4, .int s11.2)] ⟨rfl, rfl, rfl, rfl, trivial⟩ ?_
          refine v_sub [(0, .ref (B + w0)), (2, .int w2), (3, .int x_16), (4, .int s11.2)] ⟨rfl, rfl, rfl, rfl, trivial⟩ ?_
          exact j51 _ _ h
  unfold f_X5_fewestHeads at h
  refine v_sub [(0, .ref (B + p0)), (1, .ref (B + p1))] ⟨rfl, rfl, trivial⟩ ?_
  refine v_aload_n dX5_fewestHeads_0 rfl ?_
  refine v_aload_n dX5_fewestHeads_1 rfl ?_
  replace h := p_bind_elim h
  obtain ⟨_, q_3, h⟩ := h
  have q_3 := p_ob_spec q_3
  replace h := p_bind_elim h
  obtain ⟨r_1, q_2, h⟩ := h
  refine v_cVr (t_X5_lowestOfKnots q_2) cal_X5_lowestOfKnots ml_X5_48 sel_X5_lowestOfKnots q_3 kk_5 dX5_fewestHeads_2 (by omega) (by decide) (by decide) (Nat.le_of_ble_eq_true rfl) rfl ?_
  refine v_istore_n dX5_fewestHeads_5 (by decide) ?_
  refine v_sub [(0, .ref (B + p0)), (2, .int r_1.1)] ⟨rfl, rfl, trivial⟩ ?_
  refine v_iconstE (0 : Int32) dX5_fewestHeads_6 (by decide) ?_
  refine v_istore_n dX5_fewestHeads_7 (by decide) ?_
  refine v_sub [(0, .ref (B + p0)), (2, .int r_1.1), (3, .int (0 : Int32))] ⟨rfl, rfl, rfl, trivial⟩ ?_
  refine v_iconstE (0 : Int32) dX5_fewestHeads_8 (by decide) ?_
  refine v_istore dX5_fewestHeads_9 (by decide) ?_
  refine v_sub [(0, .ref (B + p0)), (2, .int r_1.1), (3, .int (0 : Int32)), (4, .int (0 : Int32))] ⟨rfl, rfl, rfl, rfl, trivial⟩ ?_
  replace h := p_bind_elim h
  obtain ⟨q_18, h_19, h⟩ := h
  refine v_sub [(0, .ref (B + p0)), (2, .int r_1.1), (3, .int (0 : Int32)), (4, .int (0 : Int32))] ⟨rfl, rfl, rfl, rfl, trivial⟩ ?_
  refine v_loopV (fun (sP : Int32 × Int32) => V l B D ac (v_EE B wa wb wt sb sL sx) yX5_fewestHeads cX5_fewestHeads 5 (some .int) d 0 0 0 0 S r_1.2 J F 11 [(0, .ref (B + p0)), (2, .int r_1.1), (3, .int sP.1), (4, .int sP.2)] [] Q) (fun (rE : Int32 × Int32) => V l B D ac (v_EE B wa wb wt sb sL sx) yX5_fewestHeads cX5_fewestHeads 5 (some .int) d 0 0 0 0 S r_1.2 J F 57 [(3, .int rE.1)] [] Q) (fun s_ x_ hb hk => b11 _ _ _ s_ x_ hb hk) (r := q_18) ?_ h_19
  try dsimp only
  refine v_iload_n dX5_fewestHeads_57 rfl ?_
  cases h
  exact v_iret dX5_fewestHeads_58 rfl (by decide) (by decide) (by rw [← hQ]; exact ⟨rfl, rfl, rfl, rfl, rfl⟩)

def f_X9_heads (S : v_S) (I : v_I) (F : v_F) (p0 : Nat) (p1 : Int32) : Option (Int32 × v_I) :=
(f_X9_isUpTo p1.toInt64 (1 : Int32)).bind fun r_1 =>
if r_1 = (0 : Int32) then (
some ((-1 : Int32), I))
else (
(p_ob S 9 p0).bind fun _ =>
(F p0 4).bind fun a_5 =>
(F p0 0).bind fun a_7 =>
(p_ob S 5 a_5).bind fun _ =>
(f_X5_fewestHeads S I F a_5 a_7).bind fun r_9 =>
(f_X9_tellSet r_9.1 p1).bind fun r_12 =>
some (r_12, r_9.2))
set_option maxHeartbeats 4000000 in
set_option maxRecDepth 100000 in
theorem t_X9_heads {p0 : Nat} {p1 : Int32} {r : Int32 × v_I} (h : f_X9_heads S I F p0 p1 = some r) : v_R l B D ac (v_EE B wa wb wt sb sL sx) yX9_heads cX9_heads 2 (some .int) 5 0 0 [.ref (B + p0), .int p1] S I J F (v_D (some (.int r.1)) S r.2 J F) := by
  refine v_R.of (by decide) (Nat.le_of_ble_eq_true rfl) fun d hd => ?_
  generalize hQ : v_D (some (.int r.1)) S r.2 J F = Q
  unfold f_X9_heads at h
  refine v_sub [(0, .ref (B + p0)), (1, .int p1)] ⟨rfl, rfl, trivial⟩ ?_
  refine v_iload_n dX9_heads_0 rfl ?_
  refine v_i2l dX9_heads_1 ?_
  refine v_iconstE (1 : Int32) dX9_heads_2 (by decide) ?_
  replace h := p_bind_elim h
  obtain ⟨r_1, q_2, h⟩ := h
  refine v_cSr (t_X9_isUpTo q_2) cal_X9_isUpTo ml_X9_95 sta_X9_isUpTo dX9_heads_3 (by omega) (by decide) (by decide) (Nat.le_of_ble_eq_true rfl) rfl ?_
  refine v_if_eq 27 dX9_heads_6 (by decide) (fun c_3 => ?_) (fun c_3 => ?_)
  · rw [if_pos c_3] at h
    refine v_iconstE (-1 : Int32) dX9_heads_27 (by decide) ?_
    cases h
    exact v_iret dX9_heads_28 rfl (by decide) (by decide) (by rw [← hQ]; exact ⟨rfl, rfl, rfl, rfl, rfl⟩)
  · rw [if_neg c_3] at h
    refine v_aload_n dX9_heads_9 rfl ?_
    replace h := p_bind_elim h
    obtain ⟨_, q_4, h⟩ := h
    have q_4 := p_ob_spec q_4
    replace h := p_bind_elim h
    obtain ⟨a_5, q_6, h⟩ := h
    refine v_getR q_6 rfl fl_X9_37 dX9_heads_10 q_4 ?_
    refine v_aload_n dX9_heads_13 rfl ?_
    replace h := p_bind_elim h
    obtain ⟨a_7, q_8, h⟩ := h
    refine v_getR q_8 rfl fl_X9_12 dX9_heads_14 q_4 ?_
    replace h := p_bind_elim h
    obtain ⟨_, q_11, h⟩ := h
    have q_11 := p_ob_spec q_11
    replace h := p_bind_elim h
    obtain ⟨r_9, q_10, h⟩ := h
    refine v_cVr (t_X5_fewestHeads q_10) cal_X5_fewestHeads ml_X9_256 sel_X5_fewestHeads q_11 kk_5 dX9_heads_17 (by omega) (by decide) (by decide) (Nat.le_of_ble_eq_true rfl) rfl ?_
    refine v_iload_n dX9_heads_20 rfl ?_
    replace h := p_bind_elim h
    obtain ⟨r_12, q_13, h⟩ := h
    refine v_cSr (t_X9_tellSet q_13) cal_X9_tellSet ml_X9_233 sta_X9_tellSet dX9_heads_21 (by omega) (by decide) (by decide) (Nat.le_of_ble_eq_true rfl) rfl ?_
    refine v_goto 28 dX9_heads_24 (by decide) ?_
    cases h
    exact v_iret dX9_heads_28 rfl (by decide) (by decide) (by rw [← hQ]; exact ⟨rfl, rfl, rfl, rfl, rfl⟩)

def f_X0_addSeen (S : v_S) (I : v_I) (F : v_F) (p0 : Nat) (p1 : Int32) (p2 : Int32) : Option (Int32 × v_I) :=
(p_ob S 0 p0).bind fun _ =>
if (6 : Int32) ≤ (I p0 7) then (
some (I p0 7, I))
else (
(F p0 8).bind fun a_3 =>
(p_ix S 20 a_3 (I p0 7)).bind fun j_5 =>
p_let (v_up I a_3 j_5 p1) fun I_7 =>
(F p0 9).bind fun a_9 =>
(p_ix S 20 a_9 (I_7 p0 7)).bind fun j_11 =>
p_let (v_up I_7 a_9 j_11 p2) fun I_13 =>
p_let (v_up I_13 p0 7 ((I_13 p0 7) + (1 : Int32))) fun I_15 =>
some (I_15 p0 7, I_15))
set_option maxHeartbeats 4000000 in
set_option maxRecDepth 100000 in
theorem t_X0_addSeen {p0 : Nat} {p1 : Int32} {p2 : Int32} {r : Int32 × v_I} (h : f_X0_addSeen S I F p0 p1 p2 = some r) : v_R l B D ac (v_EE B wa wb wt sb sL sx) yX0_addSeen cX0_addSeen 3 (some .int) 1 0 0 [.ref (B + p0), .int p1, .int p2] S I J F (v_D (some (.int r.1)) S r.2 J F) := by
  refine v_R.of (by decide) (Nat.le_of_ble_eq_true rfl) fun d hd => ?_
  generalize hQ : v_D (some (.int r.1)) S r.2 J F = Q
  unfold f_X0_addSeen at h
  refine v_sub [(0, .ref (B + p0)), (1, .int p1), (2, .int p2)] ⟨rfl, rfl, rfl, trivial⟩ ?_
  refine v_aload_n dX0_addSeen_0 rfl ?_
  replace h := p_bind_elim h
  obtain ⟨_, q_1, h⟩ := h
  have q_1 := p_ob_spec q_1
  refine v_getI rfl fl_X0_38 dX0_addSeen_1 q_1 ?_
  refine v_bipush (6 : Int32) dX0_addSeen_4 (by decide) ?_
  refine v_icmp_ge 39 dX0_addSeen_6 (by decide) (fun c_2 => ?_) (fun c_2 => ?_)
  · rw [if_pos c_2] at h
    refine v_aload_n dX0_addSeen_39 rfl ?_
    refine v_getI rfl fl_X0_38 dX0_addSeen_40 q_1 ?_
    cases h
    exact v_iret dX0_addSeen_43 rfl (by decide) (by decide) (by rw [← hQ]; exact ⟨rfl, rfl, rfl, rfl, rfl⟩)
  · rw [if_neg c_2] at h
    refine v_aload_n dX0_addSeen_9 rfl ?_
    replace h := p_bind_elim h
    obtain ⟨a_3, q_4, h⟩ := h
    refine v_getR q_4 rfl fl_X0_41 dX0_addSeen_10 q_1 ?_
    refine v_aload_n dX0_addSeen_13 rfl ?_
    refine v_getI rfl fl_X0_38 dX0_addSeen_14 q_1 ?_
    refine v_iload_n dX0_addSeen_17 rfl ?_
    replace h := p_bind_elim h
    obtain ⟨j_5, q_6, h⟩ := h
    refine v_iastP dX0_addSeen_18 q_6 ?_
    replace h := p_let_elim h
    obtain ⟨I_7, h_8, h⟩ := h
    rw [← h_8]
    refine v_aload_n dX0_addSeen_19 rfl ?_
    replace h := p_bind_elim h
    obtain ⟨a_9, q_10, h⟩ := h
    refine v_getR q_10 rfl fl_X0_44 dX0_addSeen_20 q_1 ?_
    refine v_aload_n dX0_addSeen_23 rfl ?_
    refine v_getI rfl fl_X0_38 dX0_addSeen_24 q_1 ?_
    refine v_iload_n dX0_addSeen_27 rfl ?_
    replace h := p_bind_elim h
    obtain ⟨j_11, q_12, h⟩ := h
    refine v_iastP dX0_addSeen_28 q_12 ?_
    replace h := p_let_elim h
    obtain ⟨I_13, h_14, h⟩ := h
    rw [← h_14]
    refine v_aload_n dX0_addSeen_29 rfl ?_
    refine v_dup dX0_addSeen_30 rfl ?_
    refine v_getI rfl fl_X0_38 dX0_addSeen_31 q_1 ?_
    refine v_iconstE (1 : Int32) dX0_addSeen_34 (by decide) ?_
    refine v_iadd dX0_addSeen_35 ?_
    refine v_putI rfl fl_X0_38 dX0_addSeen_36 q_1 rfl rfl ?_
    replace h := p_let_elim h
    obtain ⟨I_15, h_16, h⟩ := h
    rw [← h_16]
    refine v_aload_n dX0_addSeen_39 rfl ?_
    refine v_getI rfl fl_X0_38 dX0_addSeen_40 q_1 ?_
    cases h
    exact v_iret dX0_addSeen_43 rfl (by decide) (by decide) (by rw [← hQ]; exact ⟨rfl, rfl, rfl, rfl, rfl⟩)

def f_X9_seen_J19 (S : v_S) (F : v_F) (I : v_I) (y0 : Nat) : Option (Int32 × v_I) :=
(p_ob S 9 y0).bind fun _ =>
(f_X9_refuse S I F y0 (-1 : Int32)).bind fun r_4 =>
some (r_4.1, r_4.2)
def f_X9_seen (S : v_S) (I : v_I) (F : v_F) (p0 : Nat) (p1 : Int32) (p2 : Int32) : Option (Int32 × v_I) :=
(f_X9_isUpTo p1.toInt64 (60 : Int32)).bind fun r_1 =>
if r_1 = (0 : Int32) then (
f_X9_seen_J19 S F I p0)
else (
(f_X9_isUpTo p2.toInt64 (1 : Int32)).bind fun r_7 =>
if r_7 = (0 : Int32) then (
f_X9_seen_J19 S F I p0)
else (
(p_ob S 9 p0).bind fun _ =>
(F p0 0).bind fun a_11 =>
(p_ob S 0 a_11).bind fun _ =>
if (I a_11 7) < (6 : Int32) then (
(F p0 0).bind fun a_15 =>
(p_ob S 0 a_15).bind fun _ =>
(f_X0_addSeen S I F a_15 p1 p2).bind fun r_17 =>
(f_X9_accept S r_17.2 p0 r_17.1).bind fun r_20 =>
some (r_20.1, r_20.2))
else (
(f_X9_refuse S I F p0 (-5 : Int32)).bind fun r_22 =>
some (r_22.1, r_22.2))))
set_option maxHeartbeats 4000000 in
set_option maxRecDepth 100000 in
theorem t_X9_seen {p0 : Nat} {p1 : Int32} {p2 : Int32} {r : Int32 × v_I} (h : f_X9_seen S I F p0 p1 p2 = some r) : v_R l B D ac (v_EE B wa wb wt sb sL sx) yX9_seen cX9_seen 3 (some .int) 2 0 0 [.ref (B + p0), .int p1, .int p2] S I J F (v_D (some (.int r.1)) S r.2 J F) := by
  refine v_R.of (by decide) (Nat.le_of_ble_eq_true rfl) fun d hd => ?_
  generalize hQ : v_D (some (.int r.1)) S r.2 J F = Q
  have j19 : ∀ (I : v_I) (y0 : Nat), f_X9_seen_J19 S F I y0 = some r → V l B D ac (v_EE B wa wb wt sb sL sx) yX9_seen cX9_seen 3 (some .int) d 0 0 0 0 S I J F 19 [(0, .ref (B + y0))] [] Q := by
    intro I y0 h
    unfold f_X9_seen_J19 at h
    refine v_aload_n dX9_seen_19 rfl ?_
    refine v_iconstE (-1 : Int32) dX9_seen_20 (by decide) ?_
    replace h := p_bind_elim h
    obtain ⟨_, q_6, h⟩ := h
    have q_6 := p_ob_spec q_6
    replace h := p_bind_elim h
    obtain ⟨r_4, q_5, h⟩ := h
    refine v_cVr (t_X9_refuse q_5) cal_X9_refuse ml_X9_99 sel_X9_refuse q_6 kk_9 dX9_seen_21 (by omega) (by decide) (by decide) (Nat.le_of_ble_eq_true rfl) rfl ?_
    cases h
    exact v_iret dX9_seen_24 rfl (by decide) (by decide) (by rw [← hQ]; exact ⟨rfl, rfl, rfl, rfl, rfl⟩)
  unfold f_X9_seen at h
  refine v_sub [(0, .ref (B + p0)), (1, .int p1), (2, .int p2)] ⟨rfl, rfl, rfl, trivial⟩ ?_
  refine v_iload_n dX9_seen_0 rfl ?_
  refine v_i2l dX9_seen_1 ?_
  refine v_bipush (60 : Int32) dX9_seen_2 (by decide) ?_
  replace h := p_bind_elim h
  obtain ⟨r_1, q_2, h⟩ := h
  refine v_cSr (t_X9_isUpTo q_2) cal_X9_isUpTo ml_X9_95 sta_X9_isUpTo dX9_seen_4 (by omega) (by decide) (by decide) (Nat.le_of_ble_eq_true rfl) rfl ?_
  refine v_if_eq 19 dX9_seen_7 (by decide) (fun c_3 => ?_) (fun c_3 => ?_)
  · rw [if_pos c_3] at h
    refine v_sub [(0, .ref (B + p0))] ⟨rfl, trivial⟩ ?_
    exact j19 _ _ h
  · rw [if_neg c_3] at h
    refine v_iload_n dX9_seen_10 rfl ?_
    refine v_i2l dX9_seen_11 ?_
    refine v_iconstE (1 : Int32) dX9_seen_12 (by decide) ?_
    replace h := p_bind_elim h
    obtain ⟨r_7, q_8, h⟩ := h
    refine v_cSr (t_X9_isUpTo q_8) cal_X9_isUpTo ml_X9_95 sta_X9_isUpTo dX9_seen_13 (by omega) (by decide) (by decide) (Nat.le_of_ble_eq_true rfl) rfl ?_
    refine v_if_ne 25 dX9_seen_16 (by decide) (fun c_9 => ?_) (fun c_9 => ?_)
    · rw [if_neg c_9] at h
      refine v_aload_n dX9_seen_25 rfl ?_
      replace h := p_bind_elim h
      obtain ⟨_, q_10, h⟩ := h
      have q_10 := p_ob_spec q_10
      replace h := p_bind_elim h
      obtain ⟨a_11, q_12, h⟩ := h
      refine v_getR q_12 rfl fl_X9_12 dX9_seen_26 q_10 ?_
      replace h := p_bind_elim h
      obtain ⟨_, q_13, h⟩ := h
      have q_13 := p_ob_spec q_13
      refine v_getI rfl fl_X9_259 dX9_seen_29 q_13 ?_
      refine v_bipush (6 : Int32) dX9_seen_32 (by decide) ?_
      refine v_icmp_lt 44 dX9_seen_34 (by decide) (fun c_14 => ?_) (fun c_14 => ?_)
      · rw [if_pos c_14] at h
        refine v_aload_n dX9_seen_44 rfl ?_
        refine v_aload_n dX9_seen_45 rfl ?_
        replace h := p_bind_elim h
        obtain ⟨a_15, q_16, h⟩ := h
        refine v_getR q_16 rfl fl_X9_12 dX9_seen_46 q_10 ?_
        refine v_iload_n dX9_seen_49 rfl ?_
        refine v_iload_n dX9_seen_50 rfl ?_
        replace h := p_bind_elim h
        obtain ⟨_, q_19, h⟩ := h
        have q_19 := p_ob_spec q_19
        replace h := p_bind_elim h
        obtain ⟨r_17, q_18, h⟩ := h
        refine v_cVr (t_X0_addSeen q_18) cal_X0_addSeen ml_X9_262 sel_X0_addSeen q_19 kk_0 dX9_seen_51 (by omega) (by decide) (by decide) (Nat.le_of_ble_eq_true rfl) rfl ?_
        replace h := p_bind_elim h
        obtain ⟨r_20, q_21, h⟩ := h
        refine v_cVr (t_X9_accept q_21) cal_X9_accept ml_X9_113 sel_X9_accept q_10 kk_9 dX9_seen_54 (by omega) (by decide) (by decide) (Nat.le_of_ble_eq_true rfl) rfl ?_
        cases h
        exact v_iret dX9_seen_57 rfl (by decide) (by decide) (by rw [← hQ]; exact ⟨rfl, rfl, rfl, rfl, rfl⟩)
      · rw [if_neg c_14] at h
        refine v_aload_n dX9_seen_37 rfl ?_
        refine v_bipush (-5 : Int32) dX9_seen_38 (by decide) ?_
        replace h := p_bind_elim h
        obtain ⟨r_22, q_23, h⟩ := h
        refine v_cVr (t_X9_refuse q_23) cal_X9_refuse ml_X9_99 sel_X9_refuse q_10 kk_9 dX9_seen_40 (by omega) (by decide) (by decide) (Nat.le_of_ble_eq_true rfl) rfl ?_
        cases h
        exact v_iret dX9_seen_43 rfl (by decide) (by decide) (by rw [← hQ]; exact ⟨rfl, rfl, rfl, rfl, rfl⟩)
    · rw [if_pos c_9] at h
      refine v_sub [(0, .ref (B + p0))] ⟨rfl, trivial⟩ ?_
      exact j19 _ _ h

def f_X9_forget (S : v_S) (I : v_I) (F : v_F) (p0 : Nat) : Option (Int32 × v_I) :=
(p_ob S 9 p0).bind fun _ =>
(F p0 0).bind fun a_2 =>
(p_ob S 0 a_2).bind fun _ =>
p_let (I a_2 7) fun x_5 =>
(F p0 0).bind fun a_7 =>
(p_ob S 0 a_7).bind fun _ =>
p_let (v_up I a_7 7 (0 : Int32)) fun I_10 =>
some (x_5, I_10)
set_option maxHeartbeats 4000000 in
set_option maxRecDepth 100000 in
theorem t_X9_forget {p0 : Nat} {r : Int32 × v_I} (h : f_X9_forget S I F p0 = some r) : v_R l B D ac (v_EE B wa wb wt sb sL sx) yX9_forget cX9_forget 2 (some .int) 1 0 0 [.ref (B + p0)] S I J F (v_D (some (.int r.1)) S r.2 J F) := by
  refine v_R.of (by decide) (Nat.le_of_ble_eq_true rfl) fun d hd => ?_
  generalize hQ : v_D (some (.int r.1)) S r.2 J F = Q
  unfold f_X9_forget at h
  refine v_sub [(0, .ref (B + p0))] ⟨rfl, trivial⟩ ?_
  refine v_aload_n dX9_forget_0 rfl ?_
  replace h := p_bind_elim h
  obtain ⟨_, q_1, h⟩ := h
  have q_1 := p_ob_spec q_1
  replace h := p_bind_elim h
  obtain ⟨a_2, q_3, h⟩ := h
  refine v_getR q_3 rfl fl_X9_12 dX9_forget_1 q_1 ?_
  replace h := p_bind_elim h
  obtain ⟨_, q_4, h⟩ := h
  have q_4 := p_ob_spec q_4
  refine v_getI rfl fl_X9_259 dX9_forget_4 q_4 ?_
  replace h := p_let_elim h
  obtain ⟨x_5, h_6, h⟩ := h
  rw [← h_6]
  refine v_istore_n dX9_forget_7 (by decide) ?_
  refine v_sub [(0, .ref (B + p0)), (1, .int x_5)] ⟨rfl, rfl, trivial⟩ ?_
  refine v_aload_n dX9_forget_8 rfl ?_
  replace h := p_bind_elim h
  obtain ⟨a_7, q_8, h⟩ := h
  refine v_getR q_8 rfl fl_X9_12 dX9_forget_9 q_1 ?_
  refine v_iconstE (0 : Int32) dX9_forget_12 (by decide) ?_
  replace h := p_bind_elim h
  obtain ⟨_, q_9, h⟩ := h
  have q_9 := p_ob_spec q_9
  refine v_putI rfl fl_X9_259 dX9_forget_13 q_9 rfl rfl ?_
  replace h := p_let_elim h
  obtain ⟨I_10, h_11, h⟩ := h
  rw [← h_11]
  refine v_iload_n dX9_forget_16 rfl ?_
  cases h
  exact v_iret dX9_forget_17 rfl (by decide) (by decide) (by rw [← hQ]; exact ⟨rfl, rfl, rfl, rfl, rfl⟩)

def f_X1_likeSeen_J7_74 (S : v_S) (I : v_I) (F : v_F) (w0 : Nat) (w1 : Nat) (y3 : Int32) (z0 : Int32) (z1 : Int32) : Option ((Int32 × Int32) ⊕ (Int32 × Int32)) :=
p_let (z1 &&& z0) fun x_20 =>
p_let (y3 + (1 : Int32)) fun x_22 =>
some (.inl (x_20, x_22))
def f_X1_likeSeen_J7_52 (S : v_S) (I : v_I) (F : v_F) (w0 : Nat) (w1 : Nat) (y2 : Int32) (y3 : Int32) (z0 : Int32) : Option ((Int32 × Int32) ⊕ (Int32 × Int32)) :=
(p_ob S 0 w1).bind fun _ =>
(F w1 9).bind fun a_15 =>
(p_ix S 20 a_15 y3).bind fun j_17 =>
if (I a_15 j_17) = (1 : Int32) then (
f_X1_likeSeen_J7_74 S I F w0 w1 y3 z0 y2)
else (
f_X1_likeSeen_J7_74 S I F w0 w1 y3 (z0 ^^^ (-1 : Int32)) y2)
def f_X1_likeSeen_J7_51 (S : v_S) (I : v_I) (F : v_F) (w0 : Nat) (w1 : Nat) (y2 : Int32) (y3 : Int32) : Option ((Int32 × Int32) ⊕ (Int32 × Int32)) :=
f_X1_likeSeen_J7_52 S I F w0 w1 y2 y3 (0 : Int32)
def f_X1_likeSeen_B7 (S : v_S) (I : v_I) (F : v_F) (w0 : Nat) (w1 : Nat) (s7 : Int32 × Int32) : Option ((Int32 × Int32) ⊕ (Int32 × Int32)) :=
(p_ob S 0 w1).bind fun _ =>
if (I w1 7) ≤ s7.2 then (
some (.inr (s7.1, s7.2)))
else (
if (6 : Int32) ≤ s7.2 then (
some (.inr (s7.1, s7.2)))
else (
(F w1 8).bind fun a_7 =>
(p_ix S 20 a_7 s7.2).bind fun j_9 =>
p_let (I a_7 j_9) fun x_11 =>
if x_11 < (0 : Int32) then (
f_X1_likeSeen_J7_51 S I F w0 w1 s7.1 s7.2)
else (
if (60 : Int32) < x_11 then (
f_X1_likeSeen_J7_51 S I F w0 w1 s7.1 s7.2)
else (
(p_ob S 1 w0).bind fun _ =>
(F w0 3).bind fun a_26 =>
(p_ix S 20 a_26 x_11).bind fun j_28 =>
f_X1_likeSeen_J7_52 S I F w0 w1 s7.1 s7.2 (I a_26 j_28)))))
def f_X1_likeSeen (S : v_S) (I : v_I) (F : v_F) (p0 : Nat) (p1 : Nat) : Option (Int32) :=
(p_ob S 0 p1).bind fun _ =>
(f_X0_everyone S I p1).bind fun r_1 =>
(v_loop (f_X1_likeSeen_B7 S I F p0 p1) FU (r_1, (0 : Int32))).bind fun q_30 =>
some (q_30.1)
set_option maxHeartbeats 4000000 in
set_option maxRecDepth 100000 in
theorem t_X1_likeSeen {p0 : Nat} {p1 : Nat} {r : Int32} (h : f_X1_likeSeen S I F p0 p1 = some r) : v_R l B D ac (v_EE B wa wb wt sb sL sx) yX1_likeSeen cX1_likeSeen 6 (some .int) 2 0 0 [.ref (B + p0), .ref (B + p1)] S I J F (v_D (some (.int r)) S I J F) := by
  refine v_R.of (by decide) (Nat.le_of_ble_eq_true rfl) fun d hd => ?_
  generalize hQ : v_D (some (.int r)) S I J F = Q
  have b7 : ∀ (w0 : Nat) (w1 : Nat) (s7 : Int32 × Int32) (rx7 : (Int32 × Int32) ⊕ (Int32 × Int32)), f_X1_likeSeen_B7 S I F w0 w1 s7 = some rx7 → v_K (fun (sP : Int32 × Int32) => V l B D ac (v_EE B wa wb wt sb sL sx) yX1_likeSeen cX1_likeSeen 6 (some .int) d 0 0 0 0 S I J F 7 [(0, .ref (B + w0)), (1, .ref (B + w1)), (2, .int sP.1), (3, .int sP.2)] [] Q) (fun (rE : Int32 × Int32) => V l B D ac (v_EE B wa wb wt sb sL sx) yX1_likeSeen cX1_likeSeen 6 (some .int) d 0 0 0 0 S I J F 82 [(2, .int rE.1)] [] Q) rx7 → V l B D ac (v_EE B wa wb wt sb sL sx) yX1_likeSeen cX1_likeSeen 6 (some .int) d 0 0 0 0 S I J F 7 [(0, .ref (B + w0)), (1, .ref (B + w1)), (2, .int s7.1), (3, .int s7.2)] [] Q := by
    intro w0 w1 s7 rx7 h hk
    have j74 : ∀ (y3 : Int32) (z0 : Int32) (z1 : Int32), f_X1_likeSeen_J7_74 S I F w0 w1 y3 z0 z1 = some rx7 → V l B D ac (v_EE B wa wb wt sb sL sx) yX1_likeSeen cX1_likeSeen 6 (some .int) d 0 0 0 0 S I J F 74 [(0, .ref (B + w0)), (1, .ref (B + w1)), (3, .int y3)] [.int z0, .int z1] Q := by
      intro y3 z0 z1 h
      unfold f_X1_likeSeen_J7_74 at h
      refine v_iand dX1_likeSeen_74 ?_
      replace h := p_let_elim h
      obtain ⟨x_20, h_21, h⟩ := h
      rw [← h_21]
      refine v_istore_n dX1_likeSeen_75 (by decide) ?_
      refine v_sub [(0, .ref (B + w0)), (1, .ref (B + w1)), (2, .int x_20), (3, .int y3)] ⟨rfl, rfl, rfl, rfl, trivial⟩ ?_
      replace h := p_let_elim h
      obtain ⟨x_22, h_23, h⟩ := h
      refine v_iincE (1 : Int32) dX1_likeSeen_76 (by decide) rfl (by decide) ?_
      rw [← h_23]
      refine v_sub [(0, .ref (B + w0)), (1, .ref (B + w1)), (2, .int x_20), (3, .int x_22)] ⟨rfl, rfl, rfl, rfl, trivial⟩ ?_
      refine v_goto 7 dX1_likeSeen_79 (by decide) ?_
      cases h
      refine v_sub [(0, .ref (B + w0)), (1, .ref (B + w1)), (2, .int x_20), (3, .int x_22)] ⟨rfl, rfl, rfl, rfl, trivial⟩ ?_
      exact hk
    have j52 : ∀ (y2 : Int32) (y3 : Int32) (z0 : Int32), f_X1_likeSeen_J7_52 S I F w0 w1 y2 y3 z0 = some rx7 → V l B D ac (v_EE B wa wb wt sb sL sx) yX1_likeSeen cX1_likeSeen 6 (some .int) d 0 0 0 0 S I J F 52 [(0, .ref (B + w0)), (1, .ref (B + w1)), (2, .int y2), (3, .int y3)] [.int z0] Q := by
      intro y2 y3 z0 h
      unfold f_X1_likeSeen_J7_52 at h
      refine v_istore dX1_likeSeen_52 (by decide) ?_
      refine v_sub [(0, .ref (B + w0)), (1, .ref (B + w1)), (2, .int y2), (3, .int y3), (5, .int z0)] ⟨rfl, rfl, rfl, rfl, rfl, trivial⟩ ?_
      refine v_iload_n dX1_likeSeen_54 rfl ?_
      refine v_aload_n dX1_likeSeen_55 rfl ?_
      replace h := p_bind_elim h
      obtain ⟨_, q_14, h⟩ := h
      have q_14 := p_ob_spec q_14
      replace h := p_bind_elim h
      obtain ⟨a_15, q_16, h⟩ := h
      refine v_getR q_16 rfl fl_X1_179 dX1_likeSeen_56 q_14 ?_
      refine v_iload_n dX1_likeSeen_59 rfl ?_
      replace h := p_bind_elim h
      obtain ⟨j_17, q_18, h⟩ := h
      refine v_ialdP dX1_likeSeen_60 q_18 ?_
      refine v_iconstE (1 : Int32) dX1_likeSeen_61 (by decide) ?_
      refine v_icmp_ne 70 dX1_likeSeen_62 (by decide) (fun c_19 => ?_) (fun c_19 => ?_)
      · rw [if_neg c_19] at h
        refine v_iload dX1_likeSeen_70 rfl ?_
        refine v_iconstE (-1 : Int32) dX1_likeSeen_72 (by decide) ?_
        refine v_ixor dX1_likeSeen_73 ?_
        refine v_sub [(0, .ref (B + w0)), (1, .ref (B + w1)), (3, .int y3)] ⟨rfl, rfl, rfl, trivial⟩ ?_
        exact j74 _ _ _ h
      · rw [if_pos c_19] at h
        refine v_iload dX1_likeSeen_65 rfl ?_
        refine v_goto 74 dX1_likeSeen_67 (by decide) ?_
        refine v_sub [(0, .ref (B + w0)), (1, .ref (B + w1)), (3, .int y3)] ⟨rfl, rfl, rfl, trivial⟩ ?_
        exact j74 _ _ _ h
    have j51 : ∀ (y2 : Int32) (y3 : Int32), f_X1_likeSeen_J7_51 S I F w0 w1 y2 y3 = some rx7 → V l B D ac (v_EE B wa wb wt sb sL sx) yX1_likeSeen cX1_likeSeen 6 (some .int) d 0 0 0 0 S I J F 51 [(0, .ref (B + w0)), (1, .ref (B + w1)), (2, .int y2), (3, .int y3)] [] Q := by
      intro y2 y3 h
      unfold f_X1_likeSeen_J7_51 at h
      refine v_iconstE (0 : Int32) dX1_likeSeen_51 (by decide) ?_
      refine v_sub [(0, .ref (B + w0)), (1, .ref (B + w1)), (2, .int y2), (3, .int y3)] ⟨rfl, rfl, rfl, rfl, trivial⟩ ?_
      exact j52 _ _ _ h
    unfold f_X1_likeSeen_B7 at h
    refine v_iload_n dX1_likeSeen_7 rfl ?_
    refine v_aload_n dX1_likeSeen_8 rfl ?_
    replace h := p_bind_elim h
    obtain ⟨_, q_4, h⟩ := h
    have q_4 := p_ob_spec q_4
    refine v_getI rfl fl_X1_173 dX1_likeSeen_9 q_4 ?_
    refine v_icmp_ge 82 dX1_likeSeen_12 (by decide) (fun c_5 => ?_) (fun c_5 => ?_)
    · rw [if_pos c_5] at h
      cases h
      refine v_sub [(2, .int s7.1)] ⟨rfl, trivial⟩ ?_
      exact hk
    · rw [if_neg c_5] at h
      refine v_iload_n dX1_likeSeen_15 rfl ?_
      refine v_bipush (6 : Int32) dX1_likeSeen_16 (by decide) ?_
      refine v_icmp_ge 82 dX1_likeSeen_18 (by decide) (fun c_6 => ?_) (fun c_6 => ?_)
      · rw [if_pos c_6] at h
        cases h
        refine v_sub [(2, .int s7.1)] ⟨rfl, trivial⟩ ?_
        exact hk
      · rw [if_neg c_6] at h
        refine v_aload_n dX1_likeSeen_21 rfl ?_
        replace h := p_bind_elim h
        obtain ⟨a_7, q_8, h⟩ := h
        refine v_getR q_8 rfl fl_X1_176 dX1_likeSeen_22 q_4 ?_
        refine v_iload_n dX1_likeSeen_25 rfl ?_
        replace h := p_bind_elim h
        obtain ⟨j_9, q_10, h⟩ := h
        refine v_ialdP dX1_likeSeen_26 q_10 ?_
        replace h := p_let_elim h
        obtain ⟨x_11, h_12, h⟩ := h
        rw [← h_12]
        refine v_istore dX1_likeSeen_27 (by decide) ?_
        refine v_sub [(0, .ref (B + w0)), (1, .ref (B + w1)), (2, .int s7.1), (3, .int s7.2), (4, .int x_11)] ⟨rfl, rfl, rfl, rfl, rfl, trivial⟩ ?_
        refine v_iload dX1_likeSeen_29 rfl ?_
        refine v_if_lt 51 dX1_likeSeen_31 (by decide) (fun c_13 => ?_) (fun c_13 => ?_)
        · rw [if_pos c_13] at h
          refine v_sub [(0, .ref (B + w0)), (1, .ref (B + w1)), (2, .int s7.1), (3, .int s7.2)] ⟨rfl, rfl, rfl, rfl, trivial⟩ ?_
          exact j51 _ _ h
        · rw [if_neg c_13] at h
          refine v_iload dX1_likeSeen_34 rfl ?_
          refine v_bipush (60 : Int32) dX1_likeSeen_36 (by decide) ?_
          refine v_icmp_gt 51 dX1_likeSeen_38 (by decide) (fun c_24 => ?_) (fun c_24 => ?_)
          · rw [if_pos c_24] at h
            refine v_sub [(0, .ref (B + w0)), (1, .ref (B + w1)), (2, .int s7.1), (3, .int s7.2)] ⟨rfl, rfl, rfl, rfl, trivial⟩ ?_
            exact j51 _ _ h
          · rw [if_neg c_24] at h
            refine v_aload_n dX1_likeSeen_41 rfl ?_
            replace h := p_bind_elim h
            obtain ⟨_, q_25, h⟩ := h
            have q_25 := p_ob_spec q_25
            replace h := p_bind_elim h
            obtain ⟨a_26, q_27, h⟩ := h
            refine v_getR q_27 rfl fl_X1_29 dX1_likeSeen_42 q_25 ?_
            refine v_iload dX1_likeSeen_45 rfl ?_
            replace h := p_bind_elim h
            obtain ⟨j_28, q_29, h⟩ := h
            refine v_ialdP dX1_likeSeen_47 q_29 ?_
            refine v_goto 52 dX1_likeSeen_48 (by decide) ?_
            refine v_sub [(0, .ref (B + w0)), (1, .ref (B + w1)), (2, .int s7.1), (3, .int s7.2)] ⟨rfl, rfl, rfl, rfl, trivial⟩ ?_
            exact j52 _ _ _ h
  unfold f_X1_likeSeen at h
  refine v_sub [(0, .ref (B + p0)), (1, .ref (B + p1))] ⟨rfl, rfl, trivial⟩ ?_
  refine v_aload_n dX1_likeSeen_0 rfl ?_
  replace h := p_bind_elim h
  obtain ⟨_, q_3, h⟩ := h
  have q_3 := p_ob_spec q_3
  replace h := p_bind_elim h
  obtain ⟨r_1, q_2, h⟩ := h
  refine v_cVr (t_X0_everyone q_2) cal_X0_everyone ml_X1_170 sel_X0_everyone q_3 kk_0 dX1_likeSeen_1 (by omega) (by decide) (by decide) (Nat.le_of_ble_eq_true rfl) rfl ?_
  refine v_istore_n dX1_likeSeen_4 (by decide) ?_
  refine v_sub [(0, .ref (B + p0)), (1, .ref (B + p1)), (2, .int r_1)] ⟨rfl, rfl, rfl, trivial⟩ ?_
  refine v_iconstE (0 : Int32) dX1_likeSeen_5 (by decide) ?_
  refine v_istore_n dX1_likeSeen_6 (by decide) ?_
  refine v_sub [(0, .ref (B + p0)), (1, .ref (B + p1)), (2, .int r_1), (3, .int (0 : Int32))] ⟨rfl, rfl, rfl, rfl, trivial⟩ ?_
  replace h := p_bind_elim h
  obtain ⟨q_30, h_31, h⟩ := h
  refine v_sub [(0, .ref (B + p0)), (1, .ref (B + p1)), (2, .int r_1), (3, .int (0 : Int32))] ⟨rfl, rfl, rfl, rfl, trivial⟩ ?_
  refine v_loopV (fun (sP : Int32 × Int32) => V l B D ac (v_EE B wa wb wt sb sL sx) yX1_likeSeen cX1_likeSeen 6 (some .int) d 0 0 0 0 S I J F 7 [(0, .ref (B + p0)), (1, .ref (B + p1)), (2, .int sP.1), (3, .int sP.2)] [] Q) (fun (rE : Int32 × Int32) => V l B D ac (v_EE B wa wb wt sb sL sx) yX1_likeSeen cX1_likeSeen 6 (some .int) d 0 0 0 0 S I J F 82 [(2, .int rE.1)] [] Q) (fun s_ x_ hb hk => b7 _ _ s_ x_ hb hk) (r := q_30) ?_ h_31
  try dsimp only
  refine v_iload_n dX1_likeSeen_82 rfl ?_
  cases h
  exact v_iret dX1_likeSeen_83 rfl (by decide) (by decide) (by rw [← hQ]; exact ⟨rfl, rfl, rfl, rfl, rfl⟩)

def f_X9_canBe (S : v_S) (I : v_I) (J : v_J) (F : v_F) (p0 : Nat) : Option (Int32 × v_I × v_J) :=
(p_ob S 9 p0).bind fun _ =>
(F p0 3).bind fun a_2 =>
(F p0 0).bind fun a_4 =>
(p_ob S 1 a_2).bind fun _ =>
(f_X1_follow S I J F a_2 a_4).bind fun r_6 =>
(F p0 3).bind fun a_9 =>
(F p0 0).bind fun a_11 =>
(p_ob S 1 a_9).bind fun _ =>
(f_X1_likeSeen S r_6.1 F a_9 a_11).bind fun r_13 =>
some (r_13, r_6.1, r_6.2)
set_option maxHeartbeats 4000000 in
set_option maxRecDepth 100000 in
theorem t_X9_canBe {p0 : Nat} {r : Int32 × v_I × v_J} (h : f_X9_canBe S I J F p0 = some r) : v_R l B D ac (v_EE B wa wb wt sb sL sx) yX9_canBe cX9_canBe 1 (some .int) 6 0 0 [.ref (B + p0)] S I J F (v_D (some (.int r.1)) S r.2.1 r.2.2 F) := by
  refine v_R.of (by decide) (Nat.le_of_ble_eq_true rfl) fun d hd => ?_
  generalize hQ : v_D (some (.int r.1)) S r.2.1 r.2.2 F = Q
  unfold f_X9_canBe at h
  refine v_sub [(0, .ref (B + p0))] ⟨rfl, trivial⟩ ?_
  refine v_aload_n dX9_canBe_0 rfl ?_
  replace h := p_bind_elim h
  obtain ⟨_, q_1, h⟩ := h
  have q_1 := p_ob_spec q_1
  replace h := p_bind_elim h
  obtain ⟨a_2, q_3, h⟩ := h
  refine v_getR q_3 rfl fl_X9_30 dX9_canBe_1 q_1 ?_
  refine v_aload_n dX9_canBe_4 rfl ?_
  replace h := p_bind_elim h
  obtain ⟨a_4, q_5, h⟩ := h
  refine v_getR q_5 rfl fl_X9_12 dX9_canBe_5 q_1 ?_
  replace h := p_bind_elim h
  obtain ⟨_, q_8, h⟩ := h
  have q_8 := p_ob_spec q_8
  replace h := p_bind_elim h
  obtain ⟨r_6, q_7, h⟩ := h
  refine v_cVn (t_X1_follow q_7) cal_X1_follow ml_X9_223 sel_X1_follow q_8 kk_1 dX9_canBe_8 (by omega) (by decide) (by decide) (Nat.le_of_ble_eq_true rfl) rfl ?_
  refine v_aload_n dX9_canBe_11 rfl ?_
  replace h := p_bind_elim h
  obtain ⟨a_9, q_10, h⟩ := h
  refine v_getR q_10 rfl fl_X9_30 dX9_canBe_12 q_1 ?_
  refine v_aload_n dX9_canBe_15 rfl ?_
  replace h := p_bind_elim h
  obtain ⟨a_11, q_12, h⟩ := h
  refine v_getR q_12 rfl fl_X9_12 dX9_canBe_16 q_1 ?_
  replace h := p_bind_elim h
  obtain ⟨_, q_15, h⟩ := h
  have q_15 := p_ob_spec q_15
  replace h := p_bind_elim h
  obtain ⟨r_13, q_14, h⟩ := h
  refine v_cVr (t_X1_likeSeen q_14) cal_X1_likeSeen ml_X9_265 sel_X1_likeSeen q_15 kk_1 dX9_canBe_19 (by omega) (by decide) (by decide) (Nat.le_of_ble_eq_true rfl) rfl ?_
  cases h
  exact v_iret dX9_canBe_22 rfl (by decide) (by decide) (by rw [← hQ]; exact ⟨rfl, rfl, rfl, rfl, rfl⟩)

def f_X1_leftAt (S : v_S) (I : v_I) (F : v_F) (p0 : Nat) (p1 : Int32) (p2 : Int32) : Option (Int32) :=
if p2 < (0 : Int32) then (
some ((-1 : Int32)))
else (
if p2 ≤ (60 : Int32) then (
(p_ob S 1 p0).bind fun _ =>
(F p0 3).bind fun a_4 =>
(p_ix S 20 a_4 p2).bind fun j_6 =>
(f_J6_bitCount_0f7a4 (p1 &&& (I a_4 j_6))).bind fun r_8 =>
(F p0 3).bind fun a_10 =>
(p_ix S 20 a_10 p2).bind fun j_12 =>
(f_J6_bitCount_0f7a4 (p1 &&& ((I a_10 j_12) ^^^ (-1 : Int32)))).bind fun r_14 =>
some (p_max r_8 r_14))
else (
some ((-1 : Int32))))
set_option maxHeartbeats 4000000 in
set_option maxRecDepth 100000 in
theorem t_X1_leftAt {p0 : Nat} {p1 : Int32} {p2 : Int32} {r : Int32} (h : f_X1_leftAt S I F p0 p1 p2 = some r) : v_R l B D ac (v_EE B wa wb wt sb sL sx) yX1_leftAt cX1_leftAt 3 (some .int) 2 0 0 [.ref (B + p0), .int p1, .int p2] S I J F (v_D (some (.int r)) S I J F) := by
  refine v_R.of (by decide) (Nat.le_of_ble_eq_true rfl) fun d hd => ?_
  generalize hQ : v_D (some (.int r)) S I J F = Q
  unfold f_X1_leftAt at h
  refine v_sub [(0, .ref (B + p0)), (1, .int p1), (2, .int p2)] ⟨rfl, rfl, rfl, trivial⟩ ?_
  refine v_iload_n dX1_leftAt_0 rfl ?_
  refine v_if_lt 10 dX1_leftAt_1 (by decide) (fun c_1 => ?_) (fun c_1 => ?_)
  · rw [if_pos c_1] at h
    refine v_iconstE (-1 : Int32) dX1_leftAt_10 (by decide) ?_
    cases h
    exact v_iret dX1_leftAt_11 rfl (by decide) (by decide) (by rw [← hQ]; exact ⟨rfl, rfl, rfl, rfl, rfl⟩)
  · rw [if_neg c_1] at h
    refine v_iload_n dX1_leftAt_4 rfl ?_
    refine v_bipush (60 : Int32) dX1_leftAt_5 (by decide) ?_
    refine v_icmp_le 12 dX1_leftAt_7 (by decide) (fun c_2 => ?_) (fun c_2 => ?_)
    · rw [if_pos c_2] at h
      refine v_iload_n dX1_leftAt_12 rfl ?_
      refine v_aload_n dX1_leftAt_13 rfl ?_
      replace h := p_bind_elim h
      obtain ⟨_, q_3, h⟩ := h
      have q_3 := p_ob_spec q_3
      replace h := p_bind_elim h
      obtain ⟨a_4, q_5, h⟩ := h
      refine v_getR q_5 rfl fl_X1_29 dX1_leftAt_14 q_3 ?_
      refine v_iload_n dX1_leftAt_17 rfl ?_
      replace h := p_bind_elim h
      obtain ⟨j_6, q_7, h⟩ := h
      refine v_ialdP dX1_leftAt_18 q_7 ?_
      refine v_iand dX1_leftAt_19 ?_
      replace h := p_bind_elim h
      obtain ⟨r_8, q_9, h⟩ := h
      refine v_cSr (t_J6_bitCount_0f7a4 q_9) cal_J6_bitCount_0f7a4 ml_X1_117 sta_J6_bitCount_0f7a4 dX1_leftAt_20 (by omega) (by decide) (by decide) (Nat.le_of_ble_eq_true rfl) rfl ?_
      refine v_iload_n dX1_leftAt_23 rfl ?_
      refine v_aload_n dX1_leftAt_24 rfl ?_
      replace h := p_bind_elim h
      obtain ⟨a_10, q_11, h⟩ := h
      refine v_getR q_11 rfl fl_X1_29 dX1_leftAt_25 q_3 ?_
      refine v_iload_n dX1_leftAt_28 rfl ?_
      replace h := p_bind_elim h
      obtain ⟨j_12, q_13, h⟩ := h
      refine v_ialdP dX1_leftAt_29 q_13 ?_
      refine v_iconstE (-1 : Int32) dX1_leftAt_30 (by decide) ?_
      refine v_ixor dX1_leftAt_31 ?_
      refine v_iand dX1_leftAt_32 ?_
      replace h := p_bind_elim h
      obtain ⟨r_14, q_15, h⟩ := h
      refine v_cSr (t_J6_bitCount_0f7a4 q_15) cal_J6_bitCount_0f7a4 ml_X1_117 sta_J6_bitCount_0f7a4 dX1_leftAt_33 (by omega) (by decide) (by decide) (Nat.le_of_ble_eq_true rfl) rfl ?_
      refine v_max dX1_leftAt_36 ml_X1_185 (by omega) (by decide) (by decide) (Nat.le_of_ble_eq_true rfl) ?_
      cases h
      exact v_iret dX1_leftAt_39 rfl (by decide) (by decide) (by rw [← hQ]; exact ⟨rfl, rfl, rfl, rfl, rfl⟩)
    · rw [if_neg c_2] at h
      refine v_iconstE (-1 : Int32) dX1_leftAt_10 (by decide) ?_
      cases h
      exact v_iret dX1_leftAt_11 rfl (by decide) (by decide) (by rw [← hQ]; exact ⟨rfl, rfl, rfl, rfl, rfl⟩)

def f_X1_bestLook_J4_27 (S : v_S) (I : v_I) (F : v_F) (w0 : Nat) (w1 : Int32) (y2 : Int32) (y3 : Int32) : Option ((Int32 × Int32) ⊕ (Int32 × Int32)) :=
p_let (y3 + (1 : Int32)) fun x_8 =>
some (.inl (y2, x_8))
def f_X1_bestLook_B4 (S : v_S) (I : v_I) (F : v_F) (w0 : Nat) (w1 : Int32) (s4 : Int32 × Int32) : Option ((Int32 × Int32) ⊕ (Int32 × Int32)) :=
if (60 : Int32) < s4.2 then (
some (.inr (s4.1, s4.2)))
else (
(p_ob S 1 w0).bind fun _ =>
(f_X1_leftAt S I F w0 w1 s4.2).bind fun r_2 =>
(f_X1_leftAt S I F w0 w1 s4.1).bind fun r_5 =>
if r_5 ≤ r_2 then (
f_X1_bestLook_J4_27 S I F w0 w1 s4.1 s4.2)
else (
f_X1_bestLook_J4_27 S I F w0 w1 s4.2 s4.2))
def f_X1_bestLook (S : v_S) (I : v_I) (F : v_F) (p0 : Nat) (p1 : Int32) : Option (Int32) :=
(v_loop (f_X1_bestLook_B4 S I F p0 p1) FU ((0 : Int32), (1 : Int32))).bind fun q_10 =>
some (q_10.1)
set_option maxHeartbeats 4000000 in
set_option maxRecDepth 100000 in
theorem t_X1_bestLook {p0 : Nat} {p1 : Int32} {r : Int32} (h : f_X1_bestLook S I F p0 p1 = some r) : v_R l B D ac (v_EE B wa wb wt sb sL sx) yX1_bestLook cX1_bestLook 4 (some .int) 3 0 0 [.ref (B + p0), .int p1] S I J F (v_D (some (.int r)) S I J F) := by
  refine v_R.of (by decide) (Nat.le_of_ble_eq_true rfl) fun d hd => ?_
  generalize hQ : v_D (some (.int r)) S I J F = Q
  have b4 : ∀ (w0 : Nat) (w1 : Int32) (s4 : Int32 × Int32) (rx4 : (Int32 × Int32) ⊕ (Int32 × Int32)), f_X1_bestLook_B4 S I F w0 w1 s4 = some rx4 → v_K (fun (sP : Int32 × Int32) => V l B D ac (v_EE B wa wb wt sb sL sx) yX1_bestLook cX1_bestLook 4 (some .int) d 0 0 0 0 S I J F 4 [(0, .ref (B + w0)), (1, .int w1), (2, .int sP.1), (3, .int sP.2)] [] Q) (fun (rE : Int32 × Int32) => V l B D ac (v_EE B wa wb wt sb sL sx) yX1_bestLook cX1_bestLook 4 (some .int) d 0 0 0 0 S I J F 33 [(2, .int rE.1)] [] Q) rx4 → V l B D ac (v_EE B wa wb wt sb sL sx) yX1_bestLook cX1_bestLook 4 (some .int) d 0 0 0 0 S I J F 4 [(0, .ref (B + w0)), (1, .int w1), (2, .int s4.1), (3, .int s4.2)] [] Q := by
    intro w0 w1 s4 rx4 h hk
    have j27 : ∀ (y2 : Int32) (y3 : Int32), f_X1_bestLook_J4_27 S I F w0 w1 y2 y3 = some rx4 → V l B D ac (v_EE B wa wb wt sb sL sx) yX1_bestLook cX1_bestLook 4 (some .int) d 0 0 0 0 S I J F 27 [(0, .ref (B + w0)), (1, .int w1), (2, .int y2), (3, .int y3)] [] Q := by
      intro y2 y3 h
      unfold f_X1_bestLook_J4_27 at h
      replace h := p_let_elim h
      obtain ⟨x_8, h_9, h⟩ := h
      refine v_iincE (1 : Int32) dX1_bestLook_27 (by decide) rfl (by decide) ?_
      rw [← h_9]
      refine v_sub [(0, .ref (B + w0)), (1, .int w1), (2, .int y2), (3, .int x_8)] ⟨rfl, rfl, rfl, rfl, trivial⟩ ?_
      refine v_goto 4 dX1_bestLook_30 (by decide) ?_
      cases h
      refine v_sub [(0, .ref (B + w0)), (1, .int w1), (2, .int y2), (3, .int x_8)] ⟨rfl, rfl, rfl, rfl, trivial⟩ ?_
      exact hk
    unfold f_X1_bestLook_B4 at h
    refine v_iload_n dX1_bestLook_4 rfl ?_
    refine v_bipush (60 : Int32) dX1_bestLook_5 (by decide) ?_
    refine v_icmp_gt 33 dX1_bestLook_7 (by decide) (fun c_1 => ?_) (fun c_1 => ?_)
    · rw [if_pos c_1] at h
      cases h
      refine v_sub [(2, .int s4.1)] ⟨rfl, trivial⟩ ?_
      exact hk
    · rw [if_neg c_1] at h
      refine v_aload_n dX1_bestLook_10 rfl ?_
      refine v_iload_n dX1_bestLook_11 rfl ?_
      refine v_iload_n dX1_bestLook_12 rfl ?_
      replace h := p_bind_elim h
      obtain ⟨_, q_4, h⟩ := h
      have q_4 := p_ob_spec q_4
      replace h := p_bind_elim h
      obtain ⟨r_2, q_3, h⟩ := h
      refine v_cVr (t_X1_leftAt q_3) cal_X1_leftAt ml_X1_182 sel_X1_leftAt q_4 kk_1 dX1_bestLook_13 (by omega) (by decide) (by decide) (Nat.le_of_ble_eq_true rfl) rfl ?_
      refine v_aload_n dX1_bestLook_16 rfl ?_
      refine v_iload_n dX1_bestLook_17 rfl ?_
      refine v_iload_n dX1_bestLook_18 rfl ?_
      replace h := p_bind_elim h
      obtain ⟨r_5, q_6, h⟩ := h
      refine v_cVr (t_X1_leftAt q_6) cal_X1_leftAt ml_X1_182 sel_X1_leftAt q_4 kk_1 dX1_bestLook_19 (by omega) (by decide) (by decide) (Nat.le_of_ble_eq_true rfl) rfl ?_
      refine v_icmp_ge 27 dX1_bestLook_22 (by decide) (fun c_7 => ?_) (fun c_7 => ?_)
      · rw [if_pos c_7] at h
        refine v_sub [(0, .ref (B + w0)), (1, .int w1), (2, .int s4.1), (3, .int s4.2)] ⟨rfl, rfl, rfl, rfl, trivial⟩ ?_
        exact j27 _ _ h
      · rw [if_neg c_7] at h
        refine v_iload_n dX1_bestLook_25 rfl ?_
        refine v_istore_n dX1_bestLook_26 (by decide) ?_
        refine v_sub [(0, .ref (B + w0)), (1, .int w1), (2, .int s4.2), (3, .int s4.2)] ⟨rfl, rfl, rfl, rfl, trivial⟩ ?_
        refine v_sub [(0, .ref (B + w0)), (1, .int w1), (2, .int s4.2), (3, .int s4.2)] ⟨rfl, rfl, rfl, rfl, trivial⟩ ?_
        exact j27 _ _ h
  unfold f_X1_bestLook at h
  refine v_sub [(0, .ref (B + p0)), (1, .int p1)] ⟨rfl, rfl, trivial⟩ ?_
  refine v_iconstE (0 : Int32) dX1_bestLook_0 (by decide) ?_
  refine v_istore_n dX1_bestLook_1 (by decide) ?_
  refine v_sub [(0, .ref (B + p0)), (1, .int p1), (2, .int (0 : Int32))] ⟨rfl, rfl, rfl, trivial⟩ ?_
  refine v_iconstE (1 : Int32) dX1_bestLook_2 (by decide) ?_
  refine v_istore_n dX1_bestLook_3 (by decide) ?_
  refine v_sub [(0, .ref (B + p0)), (1, .int p1), (2, .int (0 : Int32)), (3, .int (1 : Int32))] ⟨rfl, rfl, rfl, rfl, trivial⟩ ?_
  replace h := p_bind_elim h
  obtain ⟨q_10, h_11, h⟩ := h
  refine v_sub [(0, .ref (B + p0)), (1, .int p1), (2, .int (0 : Int32)), (3, .int (1 : Int32))] ⟨rfl, rfl, rfl, rfl, trivial⟩ ?_
  refine v_loopV (fun (sP : Int32 × Int32) => V l B D ac (v_EE B wa wb wt sb sL sx) yX1_bestLook cX1_bestLook 4 (some .int) d 0 0 0 0 S I J F 4 [(0, .ref (B + p0)), (1, .int p1), (2, .int sP.1), (3, .int sP.2)] [] Q) (fun (rE : Int32 × Int32) => V l B D ac (v_EE B wa wb wt sb sL sx) yX1_bestLook cX1_bestLook 4 (some .int) d 0 0 0 0 S I J F 33 [(2, .int rE.1)] [] Q) (fun s_ x_ hb hk => b4 _ _ s_ x_ hb hk) (r := q_10) ?_ h_11
  try dsimp only
  refine v_iload_n dX1_bestLook_33 rfl ?_
  cases h
  exact v_iret dX1_bestLook_34 rfl (by decide) (by decide) (by rw [← hQ]; exact ⟨rfl, rfl, rfl, rfl, rfl⟩)

def f_X9_look (S : v_S) (I : v_I) (J : v_J) (F : v_F) (p0 : Nat) (p1 : Int32) : Option (Int32 × v_I × v_J) :=
(f_X9_isUpTo p1.toInt64 (1 : Int32)).bind fun r_1 =>
if r_1 = (0 : Int32) then (
some ((-1 : Int32), I, J))
else (
(p_ob S 9 p0).bind fun _ =>
(F p0 3).bind fun a_5 =>
(F p0 0).bind fun a_7 =>
(p_ob S 1 a_5).bind fun _ =>
(f_X1_follow S I J F a_5 a_7).bind fun r_9 =>
(F p0 3).bind fun a_12 =>
(F p0 0).bind fun a_14 =>
(p_ob S 1 a_12).bind fun _ =>
(f_X1_likeSeen S r_9.1 F a_12 a_14).bind fun r_16 =>
if r_16 = (0 : Int32) then (
some ((-1 : Int32), r_9.1, r_9.2))
else (
(F p0 3).bind fun a_20 =>
(p_ob S 1 a_20).bind fun _ =>
(f_X1_bestLook S r_9.1 F a_20 r_16).bind fun r_22 =>
if p1 = (0 : Int32) then (
some (r_22, r_9.1, r_9.2))
else (
(F p0 3).bind fun a_26 =>
(p_ob S 1 a_26).bind fun _ =>
(f_X1_leftAt S r_9.1 F a_26 r_16 r_22).bind fun r_28 =>
some (r_28, r_9.1, r_9.2))))
set_option maxHeartbeats 4000000 in
set_option maxRecDepth 100000 in
theorem t_X9_look {p0 : Nat} {p1 : Int32} {r : Int32 × v_I × v_J} (h : f_X9_look S I J F p0 p1 = some r) : v_R l B D ac (v_EE B wa wb wt sb sL sx) yX9_look cX9_look 4 (some .int) 6 0 0 [.ref (B + p0), .int p1] S I J F (v_D (some (.int r.1)) S r.2.1 r.2.2 F) := by
  refine v_R.of (by decide) (Nat.le_of_ble_eq_true rfl) fun d hd => ?_
  generalize hQ : v_D (some (.int r.1)) S r.2.1 r.2.2 F = Q
  unfold f_X9_look at h
  refine v_sub [(0, .ref (B + p0)), (1, .int p1)] ⟨rfl, rfl, trivial⟩ ?_
  refine v_iload_n dX9_look_0 rfl ?_
  refine v_i2l dX9_look_1 ?_
  refine v_iconstE (1 : Int32) dX9_look_2 (by decide) ?_
  replace h := p_bind_elim h
  obtain ⟨r_1, q_2, h⟩ := h
  refine v_cSr (t_X9_isUpTo q_2) cal_X9_isUpTo ml_X9_95 sta_X9_isUpTo dX9_look_3 (by omega) (by decide) (by decide) (Nat.le_of_ble_eq_true rfl) rfl ?_
  refine v_if_ne 11 dX9_look_6 (by decide) (fun c_3 => ?_) (fun c_3 => ?_)
  · rw [if_neg c_3] at h
    refine v_aload_n dX9_look_11 rfl ?_
    replace h := p_bind_elim h
    obtain ⟨_, q_4, h⟩ := h
    have q_4 := p_ob_spec q_4
    replace h := p_bind_elim h
    obtain ⟨a_5, q_6, h⟩ := h
    refine v_getR q_6 rfl fl_X9_30 dX9_look_12 q_4 ?_
    refine v_aload_n dX9_look_15 rfl ?_
    replace h := p_bind_elim h
    obtain ⟨a_7, q_8, h⟩ := h
    refine v_getR q_8 rfl fl_X9_12 dX9_look_16 q_4 ?_
    replace h := p_bind_elim h
    obtain ⟨_, q_11, h⟩ := h
    have q_11 := p_ob_spec q_11
    replace h := p_bind_elim h
    obtain ⟨r_9, q_10, h⟩ := h
    refine v_cVn (t_X1_follow q_10) cal_X1_follow ml_X9_223 sel_X1_follow q_11 kk_1 dX9_look_19 (by omega) (by decide) (by decide) (Nat.le_of_ble_eq_true rfl) rfl ?_
    refine v_aload_n dX9_look_22 rfl ?_
    replace h := p_bind_elim h
    obtain ⟨a_12, q_13, h⟩ := h
    refine v_getR q_13 rfl fl_X9_30 dX9_look_23 q_4 ?_
    refine v_aload_n dX9_look_26 rfl ?_
    replace h := p_bind_elim h
    obtain ⟨a_14, q_15, h⟩ := h
    refine v_getR q_15 rfl fl_X9_12 dX9_look_27 q_4 ?_
    replace h := p_bind_elim h
    obtain ⟨_, q_18, h⟩ := h
    have q_18 := p_ob_spec q_18
    replace h := p_bind_elim h
    obtain ⟨r_16, q_17, h⟩ := h
    refine v_cVr (t_X1_likeSeen q_17) cal_X1_likeSeen ml_X9_265 sel_X1_likeSeen q_18 kk_1 dX9_look_30 (by omega) (by decide) (by decide) (Nat.le_of_ble_eq_true rfl) rfl ?_
    refine v_istore_n dX9_look_33 (by decide) ?_
    refine v_sub [(0, .ref (B + p0)), (1, .int p1), (2, .int r_16)] ⟨rfl, rfl, rfl, trivial⟩ ?_
    refine v_iload_n dX9_look_34 rfl ?_
    refine v_if_ne 40 dX9_look_35 (by decide) (fun c_19 => ?_) (fun c_19 => ?_)
    · rw [if_neg c_19] at h
      refine v_aload_n dX9_look_40 rfl ?_
      replace h := p_bind_elim h
      obtain ⟨a_20, q_21, h⟩ := h
      refine v_getR q_21 rfl fl_X9_30 dX9_look_41 q_4 ?_
      refine v_iload_n dX9_look_44 rfl ?_
      replace h := p_bind_elim h
      obtain ⟨_, q_24, h⟩ := h
      have q_24 := p_ob_spec q_24
      replace h := p_bind_elim h
      obtain ⟨r_22, q_23, h⟩ := h
      refine v_cVr (t_X1_bestLook q_23) cal_X1_bestLook ml_X9_268 sel_X1_bestLook q_24 kk_1 dX9_look_45 (by omega) (by decide) (by decide) (Nat.le_of_ble_eq_true rfl) rfl ?_
      refine v_istore_n dX9_look_48 (by decide) ?_
      refine v_sub [(0, .ref (B + p0)), (1, .int p1), (2, .int r_16), (3, .int r_22)] ⟨rfl, rfl, rfl, rfl, trivial⟩ ?_
      refine v_iload_n dX9_look_49 rfl ?_
      refine v_if_ne 57 dX9_look_50 (by decide) (fun c_25 => ?_) (fun c_25 => ?_)
      · rw [if_neg c_25] at h
        refine v_aload_n dX9_look_57 rfl ?_
        replace h := p_bind_elim h
        obtain ⟨a_26, q_27, h⟩ := h
        refine v_getR q_27 rfl fl_X9_30 dX9_look_58 q_4 ?_
        refine v_iload_n dX9_look_61 rfl ?_
        refine v_iload_n dX9_look_62 rfl ?_
        replace h := p_bind_elim h
        obtain ⟨_, q_30, h⟩ := h
        have q_30 := p_ob_spec q_30
        replace h := p_bind_elim h
        obtain ⟨r_28, q_29, h⟩ := h
        refine v_cVr (t_X1_leftAt q_29) cal_X1_leftAt ml_X9_271 sel_X1_leftAt q_30 kk_1 dX9_look_63 (by omega) (by decide) (by decide) (Nat.le_of_ble_eq_true rfl) rfl ?_
        cases h
        exact v_iret dX9_look_66 rfl (by decide) (by decide) (by rw [← hQ]; exact ⟨rfl, rfl, rfl, rfl, rfl⟩)
      · rw [if_pos c_25] at h
        refine v_iload_n dX9_look_53 rfl ?_
        refine v_goto 66 dX9_look_54 (by decide) ?_
        cases h
        exact v_iret dX9_look_66 rfl (by decide) (by decide) (by rw [← hQ]; exact ⟨rfl, rfl, rfl, rfl, rfl⟩)
    · rw [if_pos c_19] at h
      refine v_iconstE (-1 : Int32) dX9_look_38 (by decide) ?_
      cases h
      exact v_iret dX9_look_39 rfl (by decide) (by decide) (by rw [← hQ]; exact ⟨rfl, rfl, rfl, rfl, rfl⟩)
  · rw [if_pos c_3] at h
    refine v_iconstE (-1 : Int32) dX9_look_9 (by decide) ?_
    cases h
    exact v_iret dX9_look_10 rfl (by decide) (by decide) (by rw [← hQ]; exact ⟨rfl, rfl, rfl, rfl, rfl⟩)

end p02
