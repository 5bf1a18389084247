noncomputable section p00
variable {l : Launch} {B : Nat} {D : va_G} {ac : Nat → ClassId} {wa wb wt sb sL : Nat} {sx : Nat → Int32} {S : v_S} {I : v_I} {J : v_J} {F : v_F}
def f_X3_init (S : v_S) (I : v_I) (F : v_F) (p0 : Nat) : Option (v_S × v_I × v_F) :=
(p_ob S 3 p0).bind fun _ =>
p_let (v_up I p0 0 (0 : Int32)) fun I_2 =>
p_let (v_up I_2 p0 1 (0 : Int32)) fun I_4 =>
p_let (S ++ [(20, 8)]) fun S_6 =>
p_let (v_up F p0 2 (some S.length)) fun F_9 =>
p_let (S_6 ++ [(20, 8)]) fun S_11 =>
p_let (v_up F_9 p0 3 (some S_6.length)) fun F_14 =>
some (S_11, I_4, F_14)
set_option maxHeartbeats 4000000 in
set_option maxRecDepth 100000 in
theorem t_X3_init {p0 : Nat} {r : v_S × v_I × v_F} (h : f_X3_init S I F p0 = some r) : v_R l B D ac (v_EE B wa wb wt sb sL sx) yX3_init cX3_init 1 none 2 2 16 [.ref (B + p0)] S I J F (v_D none r.1 r.2.1 J r.2.2) := by
  refine v_R.of (by decide) (Nat.le_of_ble_eq_true rfl) fun d hd => ?_
  generalize hQ : v_D none r.1 r.2.1 J r.2.2 = Q
  unfold f_X3_init at h
  refine v_sub [(0, .ref (B + p0))] ⟨rfl, trivial⟩ ?_
  refine v_aload_n dX3_init_0 rfl ?_
  refine v_objInit dX3_init_1 ml_X3_3 oi_i oi_c (by omega) (Nat.le_of_ble_eq_true rfl) ?_
  refine v_aload_n dX3_init_4 rfl ?_
  refine v_iconstE (0 : Int32) dX3_init_5 (by decide) ?_
  replace h := p_bind_elim h
  obtain ⟨_, q_1, h⟩ := h
  have q_1 := p_ob_spec q_1
  refine v_putI rfl fl_X3_9 dX3_init_6 q_1 rfl rfl ?_
  replace h := p_let_elim h
  obtain ⟨I_2, h_3, h⟩ := h
  rw [← h_3]
  refine v_aload_n dX3_init_9 rfl ?_
  refine v_iconstE (0 : Int32) dX3_init_10 (by decide) ?_
  refine v_putI rfl fl_X3_15 dX3_init_11 q_1 rfl rfl ?_
  replace h := p_let_elim h
  obtain ⟨I_4, h_5, h⟩ := h
  rw [← h_5]
  refine v_aload_n dX3_init_14 rfl ?_
  refine v_bipush (8 : Int32) dX3_init_15 (by decide) ?_
  refine v_newa0 8 dX3_init_17 ka_int (by decide) (by decide) (by decide) (by decide) (by decide) ?_
  replace h := p_let_elim h
  obtain ⟨S_6, h_7, h⟩ := h
  rw [← h_7]
  have q_8 := p_app h_7 q_1
  refine v_putRF rfl fl_X3_18 rfl (fun _ _ h => by cases h; rfl) dX3_init_19 q_8 rfl rfl ?_
  replace h := p_let_elim h
  obtain ⟨F_9, h_10, h⟩ := h
  rw [← h_10]
  refine v_aload_n dX3_init_22 rfl ?_
  refine v_bipush (8 : Int32) dX3_init_23 (by decide) ?_
  refine v_newa0 8 dX3_init_25 ka_int (by decide) (by decide) (by decide) (by decide) (by decide) ?_
  replace h := p_let_elim h
  obtain ⟨S_11, h_12, h⟩ := h
  rw [← h_12]
  have q_13 := p_app h_12 q_8
  refine v_putRF rfl fl_X3_22 rfl (fun _ _ h => by cases h; rfl) dX3_init_27 q_13 rfl rfl ?_
  replace h := p_let_elim h
  obtain ⟨F_14, h_15, h⟩ := h
  rw [← h_15]
  cases h
  exact v_vret dX3_init_30 rfl (by decide) (by decide) (by rw [← hQ]; exact ⟨rfl, rfl, rfl, rfl, rfl⟩)

def f_X0_init (S : v_S) (I : v_I) (F : v_F) (p0 : Nat) : Option (v_S × v_I × v_F) :=
(p_ob S 0 p0).bind fun _ =>
p_let (v_up I p0 0 (0 : Int32)) fun I_2 =>
p_let (S ++ [(3, v_n 3)]) fun S_4 =>
(f_X3_init S_4 I_2 F S.length).bind fun r_8 =>
(p_ob r_8.1 0 p0).bind fun _ =>
p_let (v_up r_8.2.2 p0 1 (some S.length)) fun F_11 =>
p_let (r_8.1 ++ [(20, 8)]) fun S_13 =>
p_let (v_up F_11 p0 2 (some r_8.1.length)) fun F_16 =>
p_let (S_13 ++ [(20, 8)]) fun S_18 =>
p_let (v_up F_16 p0 3 (some S_13.length)) fun F_21 =>
p_let (v_up r_8.2.1 p0 4 (1 : Int32)) fun I_23 =>
p_let (v_up I_23 p0 5 (0 : Int32)) fun I_25 =>
p_let (v_up I_25 p0 6 (0 : Int32)) fun I_27 =>
p_let (v_up I_27 p0 7 (0 : Int32)) fun I_29 =>
p_let (S_18 ++ [(20, 6)]) fun S_31 =>
p_let (v_up F_21 p0 8 (some S_18.length)) fun F_34 =>
p_let (S_31 ++ [(20, 6)]) fun S_36 =>
p_let (v_up F_34 p0 9 (some S_31.length)) fun F_39 =>
p_let (v_up I_29 p0 10 (0 : Int32)) fun I_41 =>
p_let (S_36 ++ [(24, 6)]) fun S_43 =>
p_let (v_up F_39 p0 11 (some S_36.length)) fun F_46 =>
p_let (v_up I_41 p0 12 (-1 : Int32)) fun I_48 =>
some (S_43, I_48, F_46)
set_option maxHeartbeats 4000000 in
set_option maxRecDepth 100000 in
theorem t_X0_init {p0 : Nat} {r : v_S × v_I × v_F} (h : f_X0_init S I F p0 = some r) : v_R l B D ac (v_EE B wa wb wt sb sL sx) yX0_init cX0_init 1 none 3 8 54 [.ref (B + p0)] S I J F (v_D none r.1 r.2.1 J r.2.2) := by
  refine v_R.of (by decide) (Nat.le_of_ble_eq_true rfl) fun d hd => ?_
  generalize hQ : v_D none r.1 r.2.1 J r.2.2 = Q
  unfold f_X0_init at h
  refine v_sub [(0, .ref (B + p0))] ⟨rfl, trivial⟩ ?_
  refine v_aload_n dX0_init_0 rfl ?_
  refine v_objInit dX0_init_1 ml_X0_3 oi_i oi_c (by omega) (Nat.le_of_ble_eq_true rfl) ?_
  refine v_aload_n dX0_init_4 rfl ?_
  refine v_iconstE (0 : Int32) dX0_init_5 (by decide) ?_
  replace h := p_bind_elim h
  obtain ⟨_, q_1, h⟩ := h
  have q_1 := p_ob_spec q_1
  refine v_putI rfl fl_X0_9 dX0_init_6 q_1 rfl rfl ?_
  replace h := p_let_elim h
  obtain ⟨I_2, h_3, h⟩ := h
  rw [← h_3]
  refine v_aload_n dX0_init_9 rfl ?_
  refine v_new dX0_init_10 kc_3 cl_X0_15 knt_3 kni_3 kdf_3 (by decide) (by decide) ?_
  replace h := p_let_elim h
  obtain ⟨S_4, h_5, h⟩ := h
  rw [← h_5]
  have q_6 := p_app h_5 q_1
  have q_7 := p_fresh h_5
  refine v_dup dX0_init_13 rfl ?_
  replace h := p_bind_elim h
  obtain ⟨r_8, q_9, h⟩ := h
  refine v_cINnc (t_X3_init q_9) cal_X3_init ml_X0_17 ins_X3_init rfl dX0_init_14 (by omega) (by decide) (by decide) (Nat.le_of_ble_eq_true rfl) rfl ?_
  replace h := p_bind_elim h
  obtain ⟨_, q_10, h⟩ := h
  have q_10 := p_ob_spec q_10
  refine v_putRF rfl fl_X0_18 rfl (fun _ _ h => by cases h; rfl) dX0_init_17 q_10 rfl rfl ?_
  replace h := p_let_elim h
  obtain ⟨F_11, h_12, h⟩ := h
  rw [← h_12]
  refine v_aload_n dX0_init_20 rfl ?_
  refine v_bipush (8 : Int32) dX0_init_21 (by decide) ?_
  refine v_newa0 8 dX0_init_23 ka_int (by decide) (by decide) (by decide) (by decide) (by decide) ?_
  replace h := p_let_elim h
  obtain ⟨S_13, h_14, h⟩ := h
  rw [← h_14]
  have q_15 := p_app h_14 q_10
  refine v_putRF rfl fl_X0_22 rfl (fun _ _ h => by cases h; rfl) dX0_init_25 q_15 rfl rfl ?_
  replace h := p_let_elim h
  obtain ⟨F_16, h_17, h⟩ := h
  rw [← h_17]
  refine v_aload_n dX0_init_28 rfl ?_
  refine v_bipush (8 : Int32) dX0_init_29 (by decide) ?_
  refine v_newa0 8 dX0_init_31 ka_int (by decide) (by decide) (by decide) (by decide) (by decide) ?_
  replace h := p_let_elim h
  obtain ⟨S_18, h_19, h⟩ := h
  rw [← h_19]
  have q_20 := p_app h_19 q_15
  refine v_putRF rfl fl_X0_26 rfl (fun _ _ h => by cases h; rfl) dX0_init_33 q_20 rfl rfl ?_
  replace h := p_let_elim h
  obtain ⟨F_21, h_22, h⟩ := h
  rw [← h_22]
  refine v_aload_n dX0_init_36 rfl ?_
  refine v_iconstE (1 : Int32) dX0_init_37 (by decide) ?_
  refine v_putI rfl fl_X0_29 dX0_init_38 q_20 rfl rfl ?_
  replace h := p_let_elim h
  obtain ⟨I_23, h_24, h⟩ := h
  rw [← h_24]
  refine v_aload_n dX0_init_41 rfl ?_
  refine v_iconstE (0 : Int32) dX0_init_42 (by decide) ?_
  refine v_putI rfl fl_X0_32 dX0_init_43 q_20 rfl rfl ?_
  replace h := p_let_elim h
  obtain ⟨I_25, h_26, h⟩ := h
  rw [← h_26]
  refine v_aload_n dX0_init_46 rfl ?_
  refine v_iconstE (0 : Int32) dX0_init_47 (by decide) ?_
  refine v_putI rfl fl_X0_35 dX0_init_48 q_20 rfl rfl ?_
  replace h := p_let_elim h
  obtain ⟨I_27, h_28, h⟩ := h
  rw [← h_28]
  refine v_aload_n dX0_init_51 rfl ?_
  refine v_iconstE (0 : Int32) dX0_init_52 (by decide) ?_
  refine v_putI rfl fl_X0_38 dX0_init_53 q_20 rfl rfl ?_
  replace h := p_let_elim h
  obtain ⟨I_29, h_30, h⟩ := h
  rw [← h_30]
  refine v_aload_n dX0_init_56 rfl ?_
  refine v_bipush (6 : Int32) dX0_init_57 (by decide) ?_
  refine v_newa0 6 dX0_init_59 ka_int (by decide) (by decide) (by decide) (by decide) (by decide) ?_
  replace h := p_let_elim h
  obtain ⟨S_31, h_32, h⟩ := h
  rw [← h_32]
  have q_33 := p_app h_32 q_20
  refine v_putRF rfl fl_X0_41 rfl (fun _ _ h => by cases h; rfl) dX0_init_61 q_33 rfl rfl ?_
  replace h := p_let_elim h
  obtain ⟨F_34, h_35, h⟩ := h
  rw [← h_35]
  refine v_aload_n dX0_init_64 rfl ?_
  refine v_bipush (6 : Int32) dX0_init_65 (by decide) ?_
  refine v_newa0 6 dX0_init_67 ka_int (by decide) (by decide) (by decide) (by decide) (by decide) ?_
  replace h := p_let_elim h
  obtain ⟨S_36, h_37, h⟩ := h
  rw [← h_37]
  have q_38 := p_app h_37 q_33
  refine v_putRF rfl fl_X0_44 rfl (fun _ _ h => by cases h; rfl) dX0_init_69 q_38 rfl rfl ?_
  replace h := p_let_elim h
  obtain ⟨F_39, h_40, h⟩ := h
  rw [← h_40]
  refine v_aload_n dX0_init_72 rfl ?_
  refine v_iconstE (0 : Int32) dX0_init_73 (by decide) ?_
  refine v_putI rfl fl_X0_47 dX0_init_74 q_38 rfl rfl ?_
  replace h := p_let_elim h
  obtain ⟨I_41, h_42, h⟩ := h
  rw [← h_42]
  refine v_aload_n dX0_init_77 rfl ?_
  refine v_bipush (6 : Int32) dX0_init_78 (by decide) ?_
  refine v_newq4 6 dX0_init_80 cl_X0_50 ko_RX8 (by decide) (by decide) (by decide) (by decide) (by decide) ?_
  replace h := p_let_elim h
  obtain ⟨S_43, h_44, h⟩ := h
  rw [← h_44]
  have q_45 := p_app h_44 q_38
  refine v_putRF rfl fl_X0_52 rfl (fun _ _ h => by cases h; rfl) dX0_init_83 q_45 rfl rfl ?_
  replace h := p_let_elim h
  obtain ⟨F_46, h_47, h⟩ := h
  rw [← h_47]
  refine v_aload_n dX0_init_86 rfl ?_
  refine v_iconstE (-1 : Int32) dX0_init_87 (by decide) ?_
  refine v_putI rfl fl_X0_56 dX0_init_88 q_45 rfl rfl ?_
  replace h := p_let_elim h
  obtain ⟨I_48, h_49, h⟩ := h
  rw [← h_49]
  cases h
  exact v_vret dX0_init_91 rfl (by decide) (by decide) (by rw [← hQ]; exact ⟨rfl, rfl, rfl, rfl, rfl⟩)

def f_X7_init (S : v_S) (F : v_F) (p0 : Nat) : Option (v_S × v_F) :=
p_let (S ++ [(20, 36)]) fun S_1 =>
(p_ob S_1 7 p0).bind fun _ =>
p_let (v_up F p0 0 (some S.length)) fun F_4 =>
p_let (S_1 ++ [(23, 32)]) fun S_6 =>
p_let (v_up F_4 p0 1 (some S_1.length)) fun F_9 =>
some (S_6, F_9)
set_option maxHeartbeats 4000000 in
set_option maxRecDepth 100000 in
theorem t_X7_init {p0 : Nat} {r : v_S × v_F} (h : f_X7_init S F p0 = some r) : v_R l B D ac (v_EE B wa wb wt sb sL sx) yX7_init cX7_init 1 none 2 2 68 [.ref (B + p0)] S I J F (v_D none r.1 I J r.2) := by
  refine v_R.of (by decide) (Nat.le_of_ble_eq_true rfl) fun d hd => ?_
  generalize hQ : v_D none r.1 I J r.2 = Q
  unfold f_X7_init at h
  refine v_sub [(0, .ref (B + p0))] ⟨rfl, trivial⟩ ?_
  refine v_aload_n dX7_init_0 rfl ?_
  refine v_objInit dX7_init_1 ml_X7_3 oi_i oi_c (by omega) (Nat.le_of_ble_eq_true rfl) ?_
  refine v_aload_n dX7_init_4 rfl ?_
  refine v_bipush (36 : Int32) dX7_init_5 (by decide) ?_
  refine v_newa0 36 dX7_init_7 ka_int (by decide) (by decide) (by decide) (by decide) (by decide) ?_
  replace h := p_let_elim h
  obtain ⟨S_1, h_2, h⟩ := h
  rw [← h_2]
  replace h := p_bind_elim h
  obtain ⟨_, q_3, h⟩ := h
  have q_3 := p_ob_spec q_3
  refine v_putRF rfl fl_X7_9 rfl (fun _ _ h => by cases h; rfl) dX7_init_9 q_3 rfl rfl ?_
  replace h := p_let_elim h
  obtain ⟨F_4, h_5, h⟩ := h
  rw [← h_5]
  refine v_aload_n dX7_init_12 rfl ?_
  refine v_bipush (32 : Int32) dX7_init_13 (by decide) ?_
  refine v_newa3 32 dX7_init_15 ka_long (by decide) (by decide) (by decide) (by decide) (by decide) ?_
  replace h := p_let_elim h
  obtain ⟨S_6, h_7, h⟩ := h
  rw [← h_7]
  have q_8 := p_app h_7 q_3
  refine v_putRF rfl fl_X7_15 rfl (fun _ _ h => by cases h; rfl) dX7_init_17 q_8 rfl rfl ?_
  replace h := p_let_elim h
  obtain ⟨F_9, h_10, h⟩ := h
  rw [← h_10]
  cases h
  exact v_vret dX7_init_20 rfl (by decide) (by decide) (by rw [← hQ]; exact ⟨rfl, rfl, rfl, rfl, rfl⟩)

def f_X1_init (S : v_S) (I : v_I) (F : v_F) (p0 : Nat) : Option (v_S × v_I × v_F) :=
p_let (S ++ [(7, v_n 7)]) fun S_1 =>
(f_X7_init S_1 F S.length).bind fun r_4 =>
(p_ob r_4.1 1 p0).bind fun _ =>
p_let (v_up r_4.2 p0 0 (some S.length)) fun F_7 =>
p_let (r_4.1 ++ [(3, v_n 3)]) fun S_9 =>
(f_X3_init S_9 I F_7 r_4.1.length).bind fun r_13 =>
(p_ob r_13.1 1 p0).bind fun _ =>
p_let (v_up r_13.2.2 p0 1 (some r_4.1.length)) fun F_16 =>
p_let (r_13.1 ++ [(20, 8)]) fun S_18 =>
p_let (v_up F_16 p0 2 (some r_13.1.length)) fun F_21 =>
p_let (S_18 ++ [(20, 61)]) fun S_23 =>
p_let (v_up F_21 p0 3 (some S_18.length)) fun F_26 =>
some (S_23, r_13.2.1, F_26)
set_option maxHeartbeats 4000000 in
set_option maxRecDepth 100000 in
theorem t_X1_init {p0 : Nat} {r : v_S × v_I × v_F} (h : f_X1_init S I F p0 = some r) : v_R l B D ac (v_EE B wa wb wt sb sL sx) yX1_init cX1_init 1 none 3 8 159 [.ref (B + p0)] S I J F (v_D none r.1 r.2.1 J r.2.2) := by
  refine v_R.of (by decide) (Nat.le_of_ble_eq_true rfl) fun d hd => ?_
  generalize hQ : v_D none r.1 r.2.1 J r.2.2 = Q
  unfold f_X1_init at h
  refine v_sub [(0, .ref (B + p0))] ⟨rfl, trivial⟩ ?_
  refine v_aload_n dX1_init_0 rfl ?_
  refine v_objInit dX1_init_1 ml_X1_3 oi_i oi_c (by omega) (Nat.le_of_ble_eq_true rfl) ?_
  refine v_aload_n dX1_init_4 rfl ?_
  refine v_new dX1_init_5 kc_7 cl_X1_9 knt_7 kni_7 kdf_7 (by decide) (by decide) ?_
  replace h := p_let_elim h
  obtain ⟨S_1, h_2, h⟩ := h
  rw [← h_2]
  have q_3 := p_fresh h_2
  refine v_dup dX1_init_8 rfl ?_
  replace h := p_bind_elim h
  obtain ⟨r_4, q_5, h⟩ := h
  refine v_cINnc (t_X7_init q_5) cal_X7_init ml_X1_11 ins_X7_init rfl dX1_init_9 (by omega) (by decide) (by decide) (Nat.le_of_ble_eq_true rfl) rfl ?_
  replace h := p_bind_elim h
  obtain ⟨_, q_6, h⟩ := h
  have q_6 := p_ob_spec q_6
  refine v_putRF rfl fl_X1_12 rfl (fun _ _ h => by cases h; rfl) dX1_init_12 q_6 rfl rfl ?_
  replace h := p_let_elim h
  obtain ⟨F_7, h_8, h⟩ := h
  rw [← h_8]
  refine v_aload_n dX1_init_15 rfl ?_
  refine v_new dX1_init_16 kc_3 cl_X1_18 knt_3 kni_3 kdf_3 (by decide) (by decide) ?_
  replace h := p_let_elim h
  obtain ⟨S_9, h_10, h⟩ := h
  rw [← h_10]
  have q_11 := p_app h_10 q_6
  have q_12 := p_fresh h_10
  refine v_dup dX1_init_19 rfl ?_
  replace h := p_bind_elim h
  obtain ⟨r_13, q_14, h⟩ := h
  refine v_cINnc (t_X3_init q_14) cal_X3_init ml_X1_20 ins_X3_init rfl dX1_init_20 (by omega) (by decide) (by decide) (Nat.le_of_ble_eq_true rfl) rfl ?_
  replace h := p_bind_elim h
  obtain ⟨_, q_15, h⟩ := h
  have q_15 := p_ob_spec q_15
  refine v_putRF rfl fl_X1_21 rfl (fun _ _ h => by cases h; rfl) dX1_init_23 q_15 rfl rfl ?_
  replace h := p_let_elim h
  obtain ⟨F_16, h_17, h⟩ := h
  rw [← h_17]
  refine v_aload_n dX1_init_26 rfl ?_
  refine v_bipush (8 : Int32) dX1_init_27 (by decide) ?_
  refine v_newa0 8 dX1_init_29 ka_int (by decide) (by decide) (by decide) (by decide) (by decide) ?_
  replace h := p_let_elim h
  obtain ⟨S_18, h_19, h⟩ := h
  rw [← h_19]
  have q_20 := p_app h_19 q_15
  refine v_putRF rfl fl_X1_25 rfl (fun _ _ h => by cases h; rfl) dX1_init_31 q_20 rfl rfl ?_
  replace h := p_let_elim h
  obtain ⟨F_21, h_22, h⟩ := h
  rw [← h_22]
  refine v_aload_n dX1_init_34 rfl ?_
  refine v_bipush (61 : Int32) dX1_init_35 (by decide) ?_
  refine v_newa0 61 dX1_init_37 ka_int (by decide) (by decide) (by decide) (by decide) (by decide) ?_
  replace h := p_let_elim h
  obtain ⟨S_23, h_24, h⟩ := h
  rw [← h_24]
  have q_25 := p_app h_24 q_20
  refine v_putRF rfl fl_X1_29 rfl (fun _ _ h => by cases h; rfl) dX1_init_39 q_25 rfl rfl ?_
  replace h := p_let_elim h
  obtain ⟨F_26, h_27, h⟩ := h
  rw [← h_27]
  cases h
  exact v_vret dX1_init_42 rfl (by decide) (by decide) (by rw [← hQ]; exact ⟨rfl, rfl, rfl, rfl, rfl⟩)

def f_X2_init (S : v_S) (I : v_I) (F : v_F) (p0 : Nat) : Option (v_S × v_I × v_F) :=
(p_ob S 2 p0).bind fun _ =>
p_let (v_up I p0 0 (0 : Int32)) fun I_2 =>
p_let (v_up I_2 p0 1 (-1 : Int32)) fun I_4 =>
p_let (S ++ [(7, v_n 7)]) fun S_6 =>
(f_X7_init S_6 F S.length).bind fun r_10 =>
(p_ob r_10.1 2 p0).bind fun _ =>
p_let (v_up r_10.2 p0 2 (some S.length)) fun F_13 =>
some (r_10.1, I_4, F_13)
set_option maxHeartbeats 4000000 in
set_option maxRecDepth 100000 in
theorem t_X2_init {p0 : Nat} {r : v_S × v_I × v_F} (h : f_X2_init S I F p0 = some r) : v_R l B D ac (v_EE B wa wb wt sb sL sx) yX2_init cX2_init 1 none 3 3 70 [.ref (B + p0)] S I J F (v_D none r.1 r.2.1 J r.2.2) := by
  refine v_R.of (by decide) (Nat.le_of_ble_eq_true rfl) fun d hd => ?_
  generalize hQ : v_D none r.1 r.2.1 J r.2.2 = Q
  unfold f_X2_init at h
  refine v_sub [(0, .ref (B + p0))] ⟨rfl, trivial⟩ ?_
  refine v_aload_n dX2_init_0 rfl ?_
  refine v_objInit dX2_init_1 ml_X2_3 oi_i oi_c (by omega) (Nat.le_of_ble_eq_true rfl) ?_
  refine v_aload_n dX2_init_4 rfl ?_
  refine v_iconstE (0 : Int32) dX2_init_5 (by decide) ?_
  replace h := p_bind_elim h
  obtain ⟨_, q_1, h⟩ := h
  have q_1 := p_ob_spec q_1
  refine v_putI rfl fl_X2_9 dX2_init_6 q_1 rfl rfl ?_
  replace h := p_let_elim h
  obtain ⟨I_2, h_3, h⟩ := h
  rw [← h_3]
  refine v_aload_n dX2_init_9 rfl ?_
  refine v_iconstE (-1 : Int32) dX2_init_10 (by decide) ?_
  refine v_putI rfl fl_X2_15 dX2_init_11 q_1 rfl rfl ?_
  replace h := p_let_elim h
  obtain ⟨I_4, h_5, h⟩ := h
  rw [← h_5]
  refine v_aload_n dX2_init_14 rfl ?_
  refine v_new dX2_init_15 kc_7 cl_X2_18 knt_7 kni_7 kdf_7 (by decide) (by decide) ?_
  replace h := p_let_elim h
  obtain ⟨S_6, h_7, h⟩ := h
  rw [← h_7]
  have q_8 := p_app h_7 q_1
  have q_9 := p_fresh h_7
  refine v_dup dX2_init_18 rfl ?_
  replace h := p_bind_elim h
  obtain ⟨r_10, q_11, h⟩ := h
  refine v_cINnc (t_X7_init q_11) cal_X7_init ml_X2_20 ins_X7_init rfl dX2_init_19 (by omega) (by decide) (by decide) (Nat.le_of_ble_eq_true rfl) rfl ?_
  replace h := p_bind_elim h
  obtain ⟨_, q_12, h⟩ := h
  have q_12 := p_ob_spec q_12
  refine v_putRF rfl fl_X2_21 rfl (fun _ _ h => by cases h; rfl) dX2_init_22 q_12 rfl rfl ?_
  replace h := p_let_elim h
  obtain ⟨F_13, h_14, h⟩ := h
  rw [← h_14]
  cases h
  exact v_vret dX2_init_25 rfl (by decide) (by decide) (by rw [← hQ]; exact ⟨rfl, rfl, rfl, rfl, rfl⟩)

def f_X4_init (S : v_S) (I : v_I) (F : v_F) (p0 : Nat) : Option (v_S × v_I × v_F) :=
(p_ob S 4 p0).bind fun _ =>
p_let (v_up I p0 0 (0 : Int32)) fun I_2 =>
p_let (v_up I_2 p0 1 (0 : Int32)) fun I_4 =>
p_let (S ++ [(20, 16)]) fun S_6 =>
p_let (v_up F p0 2 (some S.length)) fun F_9 =>
p_let (S_6 ++ [(25, 16)]) fun S_11 =>
p_let (v_up F_9 p0 3 (some S_6.length)) fun F_14 =>
some (S_11, I_4, F_14)
set_option maxHeartbeats 4000000 in
set_option maxRecDepth 100000 in
theorem t_X4_init {p0 : Nat} {r : v_S × v_I × v_F} (h : f_X4_init S I F p0 = some r) : v_R l B D ac (v_EE B wa wb wt sb sL sx) yX4_init cX4_init 1 none 2 2 32 [.ref (B + p0)] S I J F (v_D none r.1 r.2.1 J r.2.2) := by
  refine v_R.of (by decide) (Nat.le_of_ble_eq_true rfl) fun d hd => ?_
  generalize hQ : v_D none r.1 r.2.1 J r.2.2 = Q
  unfold f_X4_init at h
  refine v_sub [(0, .ref (B + p0))] ⟨rfl, trivial⟩ ?_
  refine v_aload_n dX4_init_0 rfl ?_
  refine v_objInit dX4_init_1 ml_X4_3 oi_i oi_c (by omega) (Nat.le_of_ble_eq_true rfl) ?_
  refine v_aload_n dX4_init_4 rfl ?_
  refine v_iconstE (0 : Int32) dX4_init_5 (by decide) ?_
  replace h := p_bind_elim h
  obtain ⟨_, q_1, h⟩ := h
  have q_1 := p_ob_spec q_1
  refine v_putI rfl fl_X4_9 dX4_init_6 q_1 rfl rfl ?_
  replace h := p_let_elim h
  obtain ⟨I_2, h_3, h⟩ := h
  rw [← h_3]
  refine v_aload_n dX4_init_9 rfl ?_
  refine v_iconstE (0 : Int32) dX4_init_10 (by decide) ?_
  refine v_putI rfl fl_X4_15 dX4_init_11 q_1 rfl rfl ?_
  replace h := p_let_elim h
  obtain ⟨I_4, h_5, h⟩ := h
  rw [← h_5]
  refine v_aload_n dX4_init_14 rfl ?_
  refine v_bipush (16 : Int32) dX4_init_15 (by decide) ?_
  refine v_newa0 16 dX4_init_17 ka_int (by decide) (by decide) (by decide) (by decide) (by decide) ?_
  replace h := p_let_elim h
  obtain ⟨S_6, h_7, h⟩ := h
  rw [← h_7]
  have q_8 := p_app h_7 q_1
  refine v_putRF rfl fl_X4_18 rfl (fun _ _ h => by cases h; rfl) dX4_init_19 q_8 rfl rfl ?_
  replace h := p_let_elim h
  obtain ⟨F_9, h_10, h⟩ := h
  rw [← h_10]
  refine v_aload_n dX4_init_22 rfl ?_
  refine v_bipush (16 : Int32) dX4_init_23 (by decide) ?_
  refine v_newq5 16 dX4_init_25 cl_X4_22 ko_RX3 (by decide) (by decide) (by decide) (by decide) (by decide) ?_
  replace h := p_let_elim h
  obtain ⟨S_11, h_12, h⟩ := h
  rw [← h_12]
  have q_13 := p_app h_12 q_8
  refine v_putRF rfl fl_X4_24 rfl (fun _ _ h => by cases h; rfl) dX4_init_28 q_13 rfl rfl ?_
  replace h := p_let_elim h
  obtain ⟨F_14, h_15, h⟩ := h
  rw [← h_15]
  cases h
  exact v_vret dX4_init_31 rfl (by decide) (by decide) (by rw [← hQ]; exact ⟨rfl, rfl, rfl, rfl, rfl⟩)

def f_X5_init (S : v_S) (F : v_F) (p0 : Nat) : Option (v_S × v_F) :=
p_let (S ++ [(20, 8)]) fun S_1 =>
(p_ob S_1 5 p0).bind fun _ =>
p_let (v_up F p0 0 (some S.length)) fun F_4 =>
p_let (S_1 ++ [(20, 8)]) fun S_6 =>
p_let (v_up F_4 p0 1 (some S_1.length)) fun F_9 =>
some (S_6, F_9)
set_option maxHeartbeats 4000000 in
set_option maxRecDepth 100000 in
theorem t_X5_init {p0 : Nat} {r : v_S × v_F} (h : f_X5_init S F p0 = some r) : v_R l B D ac (v_EE B wa wb wt sb sL sx) yX5_init cX5_init 1 none 2 2 16 [.ref (B + p0)] S I J F (v_D none r.1 I J r.2) := by
  refine v_R.of (by decide) (Nat.le_of_ble_eq_true rfl) fun d hd => ?_
  generalize hQ : v_D none r.1 I J r.2 = Q
  unfold f_X5_init at h
  refine v_sub [(0, .ref (B + p0))] ⟨rfl, trivial⟩ ?_
  refine v_aload_n dX5_init_0 rfl ?_
  refine v_objInit dX5_init_1 ml_X5_3 oi_i oi_c (by omega) (Nat.le_of_ble_eq_true rfl) ?_
  refine v_aload_n dX5_init_4 rfl ?_
  refine v_bipush (8 : Int32) dX5_init_5 (by decide) ?_
  refine v_newa0 8 dX5_init_7 ka_int (by decide) (by decide) (by decide) (by decide) (by decide) ?_
  replace h := p_let_elim h
  obtain ⟨S_1, h_2, h⟩ := h
  rw [← h_2]
  replace h := p_bind_elim h
  obtain ⟨_, q_3, h⟩ := h
  have q_3 := p_ob_spec q_3
  refine v_putRF rfl fl_X5_9 rfl (fun _ _ h => by cases h; rfl) dX5_init_9 q_3 rfl rfl ?_
  replace h := p_let_elim h
  obtain ⟨F_4, h_5, h⟩ := h
  rw [← h_5]
  refine v_aload_n dX5_init_12 rfl ?_
  refine v_bipush (8 : Int32) dX5_init_13 (by decide) ?_
  refine v_newa0 8 dX5_init_15 ka_int (by decide) (by decide) (by decide) (by decide) (by decide) ?_
  replace h := p_let_elim h
  obtain ⟨S_6, h_7, h⟩ := h
  rw [← h_7]
  have q_8 := p_app h_7 q_3
  refine v_putRF rfl fl_X5_15 rfl (fun _ _ h => by cases h; rfl) dX5_init_17 q_8 rfl rfl ?_
  replace h := p_let_elim h
  obtain ⟨F_9, h_10, h⟩ := h
  rw [← h_10]
  cases h
  exact v_vret dX5_init_20 rfl (by decide) (by decide) (by rw [← hQ]; exact ⟨rfl, rfl, rfl, rfl, rfl⟩)

def f_X8_init (S : v_S) (I : v_I) (F : v_F) (p0 : Nat) (p1 : Int32) (p2 : Int32) : Option (v_S × v_I × v_F) :=
(p_ob S 8 p0).bind fun _ =>
p_let (v_up I p0 0 (0 : Int32)) fun I_2 =>
p_let (v_up I_2 p0 1 (0 : Int32)) fun I_4 =>
p_let (v_up I_4 p0 2 (0 : Int32)) fun I_6 =>
(p_nn p1 12).bind fun n_8 =>
p_let (S ++ [(20, n_8)]) fun S_10 =>
p_let (v_up F p0 3 (some S.length)) fun F_13 =>
(p_nn p1 12).bind fun n_15 =>
p_let (S_10 ++ [(20, n_15)]) fun S_17 =>
p_let (v_up F_13 p0 4 (some S_10.length)) fun F_20 =>
(p_nn p1 12).bind fun n_22 =>
p_let (S_17 ++ [(20, n_22)]) fun S_24 =>
p_let (v_up F_20 p0 5 (some S_17.length)) fun F_27 =>
(p_nn p1 12).bind fun n_29 =>
p_let (S_24 ++ [(20, n_29)]) fun S_31 =>
p_let (v_up F_27 p0 6 (some S_24.length)) fun F_34 =>
(p_nn p1 12).bind fun n_36 =>
p_let (S_31 ++ [(20, n_36)]) fun S_38 =>
p_let (v_up F_34 p0 7 (some S_31.length)) fun F_41 =>
(p_nn p2 436).bind fun n_43 =>
p_let (S_38 ++ [(20, n_43)]) fun S_45 =>
p_let (v_up F_41 p0 8 (some S_38.length)) fun F_48 =>
some (S_45, I_6, F_48)
set_option maxHeartbeats 4000000 in
set_option maxRecDepth 100000 in
theorem t_X8_init {p0 : Nat} {p1 : Int32} {p2 : Int32} {r : v_S × v_I × v_F} (h : f_X8_init S I F p0 p1 p2 = some r) : v_R l B D ac (v_EE B wa wb wt sb sL sx) yX8_init cX8_init 3 none 2 6 496 [.ref (B + p0), .int p1, .int p2] S I J F (v_D none r.1 r.2.1 J r.2.2) := by
  refine v_R.of (by decide) (Nat.le_of_ble_eq_true rfl) fun d hd => ?_
  generalize hQ : v_D none r.1 r.2.1 J r.2.2 = Q
  unfold f_X8_init at h
  refine v_sub [(0, .ref (B + p0)), (1, .int p1), (2, .int p2)] ⟨rfl, rfl, rfl, trivial⟩ ?_
  refine v_aload_n dX8_init_0 rfl ?_
  refine v_objInit dX8_init_1 ml_X8_3 oi_i oi_c (by omega) (Nat.le_of_ble_eq_true rfl) ?_
  refine v_aload_n dX8_init_4 rfl ?_
  refine v_iconstE (0 : Int32) dX8_init_5 (by decide) ?_
  replace h := p_bind_elim h
  obtain ⟨_, q_1, h⟩ := h
  have q_1 := p_ob_spec q_1
  refine v_putI rfl fl_X8_9 dX8_init_6 q_1 rfl rfl ?_
  replace h := p_let_elim h
  obtain ⟨I_2, h_3, h⟩ := h
  rw [← h_3]
  refine v_aload_n dX8_init_9 rfl ?_
  refine v_iconstE (0 : Int32) dX8_init_10 (by decide) ?_
  refine v_putI rfl fl_X8_15 dX8_init_11 q_1 rfl rfl ?_
  replace h := p_let_elim h
  obtain ⟨I_4, h_5, h⟩ := h
  rw [← h_5]
  refine v_aload_n dX8_init_14 rfl ?_
  refine v_iconstE (0 : Int32) dX8_init_15 (by decide) ?_
  refine v_putI rfl fl_X8_18 dX8_init_16 q_1 rfl rfl ?_
  replace h := p_let_elim h
  obtain ⟨I_6, h_7, h⟩ := h
  rw [← h_7]
  refine v_aload_n dX8_init_19 rfl ?_
  refine v_iload_n dX8_init_20 rfl ?_
  replace h := p_bind_elim h
  obtain ⟨n_8, q_9, h⟩ := h
  have q_9 := p_nn_spec q_9
  refine v_newa0 n_8 dX8_init_21 ka_int q_9.1 q_9.2.1 (by omega) (by (try simp only [v_n]); omega) (by (try simp only [v_n]); omega) ?_
  replace h := p_let_elim h
  obtain ⟨S_10, h_11, h⟩ := h
  rw [← h_11]
  have q_12 := p_app h_11 q_1
  refine v_putRF rfl fl_X8_22 rfl (fun _ _ h => by cases h; rfl) dX8_init_23 q_12 rfl rfl ?_
  replace h := p_let_elim h
  obtain ⟨F_13, h_14, h⟩ := h
  rw [← h_14]
  refine v_aload_n dX8_init_26 rfl ?_
  refine v_iload_n dX8_init_27 rfl ?_
  replace h := p_bind_elim h
  obtain ⟨n_15, q_16, h⟩ := h
  have q_16 := p_nn_spec q_16
  refine v_newa0 n_15 dX8_init_28 ka_int q_16.1 q_16.2.1 (by omega) (by (try simp only [v_n]); omega) (by (try simp only [v_n]); omega) ?_
  replace h := p_let_elim h
  obtain ⟨S_17, h_18, h⟩ := h
  rw [← h_18]
  have q_19 := p_app h_18 q_12
  refine v_putRF rfl fl_X8_26 rfl (fun _ _ h => by cases h; rfl) dX8_init_30 q_19 rfl rfl ?_
  replace h := p_let_elim h
  obtain ⟨F_20, h_21, h⟩ := h
  rw [← h_21]
  refine v_aload_n dX8_init_33 rfl ?_
  refine v_iload_n dX8_init_34 rfl ?_
  replace h := p_bind_elim h
  obtain ⟨n_22, q_23, h⟩ := h
  have q_23 := p_nn_spec q_23
  refine v_newa0 n_22 dX8_init_35 ka_int q_23.1 q_23.2.1 (by omega) (by (try simp only [v_n]); omega) (by (try simp only [v_n]); omega) ?_
  replace h := p_let_elim h
  obtain ⟨S_24, h_25, h⟩ := h
  rw [← h_25]
  have q_26 := p_app h_25 q_19
  refine v_putRF rfl fl_X8_29 rfl (fun _ _ h => by cases h; rfl) dX8_init_37 q_26 rfl rfl ?_
  replace h := p_let_elim h
  obtain ⟨F_27, h_28, h⟩ := h
  rw [← h_28]
  refine v_aload_n dX8_init_40 rfl ?_
  refine v_iload_n dX8_init_41 rfl ?_
  replace h := p_bind_elim h
  obtain ⟨n_29, q_30, h⟩ := h
  have q_30 := p_nn_spec q_30
  refine v_newa0 n_29 dX8_init_42 ka_int q_30.1 q_30.2.1 (by omega) (by (try simp only [v_n]); omega) (by (try simp only [v_n]); omega) ?_
  replace h := p_let_elim h
  obtain ⟨S_31, h_32, h⟩ := h
  rw [← h_32]
  have q_33 := p_app h_32 q_26
  refine v_putRF rfl fl_X8_32 rfl (fun _ _ h => by cases h; rfl) dX8_init_44 q_33 rfl rfl ?_
  replace h := p_let_elim h
  obtain ⟨F_34, h_35, h⟩ := h
  rw [← h_35]
  refine v_aload_n dX8_init_47 rfl ?_
  refine v_iload_n dX8_init_48 rfl ?_
  replace h := p_bind_elim h
  obtain ⟨n_36, q_37, h⟩ := h
  have q_37 := p_nn_spec q_37
  refine v_newa0 n_36 dX8_init_49 ka_int q_37.1 q_37.2.1 (by omega) (by (try simp only [v_n]); omega) (by (try simp only [v_n]); omega) ?_
  replace h := p_let_elim h
  obtain ⟨S_38, h_39, h⟩ := h
  rw [← h_39]
  have q_40 := p_app h_39 q_33
  refine v_putRF rfl fl_X8_35 rfl (fun _ _ h => by cases h; rfl) dX8_init_51 q_40 rfl rfl ?_
  replace h := p_let_elim h
  obtain ⟨F_41, h_42, h⟩ := h
  rw [← h_42]
  refine v_aload_n dX8_init_54 rfl ?_
  refine v_iload_n dX8_init_55 rfl ?_
  replace h := p_bind_elim h
  obtain ⟨n_43, q_44, h⟩ := h
  have q_44 := p_nn_spec q_44
  refine v_newa0 n_43 dX8_init_56 ka_int q_44.1 q_44.2.1 (by omega) (by (try simp only [v_n]); omega) (by (try simp only [v_n]); omega) ?_
  replace h := p_let_elim h
  obtain ⟨S_45, h_46, h⟩ := h
  rw [← h_46]
  have q_47 := p_app h_46 q_40
  refine v_putRF rfl fl_X8_38 rfl (fun _ _ h => by cases h; rfl) dX8_init_58 q_47 rfl rfl ?_
  replace h := p_let_elim h
  obtain ⟨F_48, h_49, h⟩ := h
  rw [← h_49]
  cases h
  exact v_vret dX8_init_61 rfl (by (try simp only [v_n]); omega) (by (try simp only [v_n]); omega) (by rw [← hQ]; exact ⟨rfl, rfl, rfl, rfl, rfl⟩)

def f_X6_init (S : v_S) (I : v_I) (F : v_F) (p0 : Nat) : Option (v_S × v_I × v_F) :=
p_let (S ++ [(8, v_n 8)]) fun S_1 =>
(f_X8_init S_1 I F S.length (12 : Int32) (436 : Int32)).bind fun r_4 =>
(p_ob r_4.1 6 p0).bind fun _ =>
p_let (v_up r_4.2.2 p0 0 (some S.length)) fun F_7 =>
p_let (r_4.1 ++ [(20, 401)]) fun S_9 =>
p_let (v_up F_7 p0 1 (some r_4.1.length)) fun F_12 =>
p_let (S_9 ++ [(20, 401)]) fun S_14 =>
p_let (v_up F_12 p0 2 (some S_9.length)) fun F_17 =>
p_let (v_up r_4.2.1 p0 3 (0 : Int32)) fun I_19 =>
p_let (v_up I_19 p0 4 (0 : Int32)) fun I_21 =>
p_let (v_up I_21 p0 5 (-2 : Int32)) fun I_23 =>
p_let (v_up I_23 p0 6 (0 : Int32)) fun I_25 =>
p_let (v_up I_25 p0 7 (0 : Int32)) fun I_27 =>
p_let (v_up I_27 p0 8 (0 : Int32)) fun I_29 =>
p_let (v_up I_29 p0 9 (-1 : Int32)) fun I_31 =>
some (S_14, I_31, F_17)
set_option maxHeartbeats 4000000 in
set_option maxRecDepth 100000 in
theorem t_X6_init {p0 : Nat} {r : v_S × v_I × v_F} (h : f_X6_init S I F p0 = some r) : v_R l B D ac (v_EE B wa wb wt sb sL sx) yX6_init cX6_init 1 none 3 9 1307 [.ref (B + p0)] S I J F (v_D none r.1 r.2.1 J r.2.2) := by
  refine v_R.of (by decide) (Nat.le_of_ble_eq_true rfl) fun d hd => ?_
  generalize hQ : v_D none r.1 r.2.1 J r.2.2 = Q
  unfold f_X6_init at h
  refine v_sub [(0, .ref (B + p0))] ⟨rfl, trivial⟩ ?_
  refine v_aload_n dX6_init_0 rfl ?_
  refine v_objInit dX6_init_1 ml_X6_3 oi_i oi_c (by omega) (Nat.le_of_ble_eq_true rfl) ?_
  refine v_aload_n dX6_init_4 rfl ?_
  refine v_new dX6_init_5 kc_8 cl_X6_9 knt_8 kni_8 kdf_8 (by decide) (by decide) ?_
  replace h := p_let_elim h
  obtain ⟨S_1, h_2, h⟩ := h
  rw [← h_2]
  have q_3 := p_fresh h_2
  refine v_dup dX6_init_8 rfl ?_
  refine v_bipush (12 : Int32) dX6_init_9 (by decide) ?_
  refine v_sipush (436 : Int32) dX6_init_11 (by decide) ?_
  replace h := p_bind_elim h
  obtain ⟨r_4, q_5, h⟩ := h
  refine v_cInc (t_X8_init q_5) cal_X8_init ml_X6_11 ins_X8_init rfl dX6_init_14 (by omega) (by decide) (by decide) (Nat.le_of_ble_eq_true rfl) rfl ?_
  replace h := p_bind_elim h
  obtain ⟨_, q_6, h⟩ := h
  have q_6 := p_ob_spec q_6
  refine v_putRF rfl fl_X6_14 rfl (fun _ _ h => by cases h; rfl) dX6_init_17 q_6 rfl rfl ?_
  replace h := p_let_elim h
  obtain ⟨F_7, h_8, h⟩ := h
  rw [← h_8]
  refine v_aload_n dX6_init_20 rfl ?_
  refine v_sipush (401 : Int32) dX6_init_21 (by decide) ?_
  refine v_newa0 401 dX6_init_24 ka_int (by decide) (by decide) (by decide) (by decide) (by decide) ?_
  replace h := p_let_elim h
  obtain ⟨S_9, h_10, h⟩ := h
  rw [← h_10]
  have q_11 := p_app h_10 q_6
  refine v_putRF rfl fl_X6_20 rfl (fun _ _ h => by cases h; rfl) dX6_init_26 q_11 rfl rfl ?_
  replace h := p_let_elim h
  obtain ⟨F_12, h_13, h⟩ := h
  rw [← h_13]
  refine v_aload_n dX6_init_29 rfl ?_
  refine v_sipush (401 : Int32) dX6_init_30 (by decide) ?_
  refine v_newa0 401 dX6_init_33 ka_int (by decide) (by decide) (by decide) (by decide) (by decide) ?_
  replace h := p_let_elim h
  obtain ⟨S_14, h_15, h⟩ := h
  rw [← h_15]
  have q_16 := p_app h_15 q_11
  refine v_putRF rfl fl_X6_24 rfl (fun _ _ h => by cases h; rfl) dX6_init_35 q_16 rfl rfl ?_
  replace h := p_let_elim h
  obtain ⟨F_17, h_18, h⟩ := h
  rw [← h_18]
  refine v_aload_n dX6_init_38 rfl ?_
  refine v_iconstE (0 : Int32) dX6_init_39 (by decide) ?_
  refine v_putI rfl fl_X6_27 dX6_init_40 q_16 rfl rfl ?_
  replace h := p_let_elim h
  obtain ⟨I_19, h_20, h⟩ := h
  rw [← h_20]
  refine v_aload_n dX6_init_43 rfl ?_
  refine v_iconstE (0 : Int32) dX6_init_44 (by decide) ?_
  refine v_putI rfl fl_X6_31 dX6_init_45 q_16 rfl rfl ?_
  replace h := p_let_elim h
  obtain ⟨I_21, h_22, h⟩ := h
  rw [← h_22]
  refine v_aload_n dX6_init_48 rfl ?_
  refine v_bipush (-2 : Int32) dX6_init_49 (by decide) ?_
  refine v_putI rfl fl_X6_34 dX6_init_51 q_16 rfl rfl ?_
  replace h := p_let_elim h
  obtain ⟨I_23, h_24, h⟩ := h
  rw [← h_24]
  refine v_aload_n dX6_init_54 rfl ?_
  refine v_iconstE (0 : Int32) dX6_init_55 (by decide) ?_
  refine v_putI rfl fl_X6_37 dX6_init_56 q_16 rfl rfl ?_
  replace h := p_let_elim h
  obtain ⟨I_25, h_26, h⟩ := h
  rw [← h_26]
  refine v_aload_n dX6_init_59 rfl ?_
  refine v_iconstE (0 : Int32) dX6_init_60 (by decide) ?_
  refine v_putI rfl fl_X6_41 dX6_init_61 q_16 rfl rfl ?_
  replace h := p_let_elim h
  obtain ⟨I_27, h_28, h⟩ := h
  rw [← h_28]
  refine v_aload_n dX6_init_64 rfl ?_
  refine v_iconstE (0 : Int32) dX6_init_65 (by decide) ?_
  refine v_putI rfl fl_X6_44 dX6_init_66 q_16 rfl rfl ?_
  replace h := p_let_elim h
  obtain ⟨I_29, h_30, h⟩ := h
  rw [← h_30]
  refine v_aload_n dX6_init_69 rfl ?_
  refine v_iconstE (-1 : Int32) dX6_init_70 (by decide) ?_
  refine v_putI rfl fl_X6_47 dX6_init_71 q_16 rfl rfl ?_
  replace h := p_let_elim h
  obtain ⟨I_31, h_32, h⟩ := h
  rw [← h_32]
  cases h
  exact v_vret dX6_init_74 rfl (by decide) (by decide) (by rw [← hQ]; exact ⟨rfl, rfl, rfl, rfl, rfl⟩)

def f_X9_init (S : v_S) (I : v_I) (F : v_F) (p0 : Nat) : Option (v_S × v_I × v_F) :=
p_let (S ++ [(0, v_n 0)]) fun S_1 =>
(f_X0_init S_1 I F S.length).bind fun r_4 =>
(p_ob r_4.1 9 p0).bind fun _ =>
p_let (v_up r_4.2.2 p0 0 (some S.length)) fun F_7 =>
p_let (r_4.1 ++ [(26, 2)]) fun S_9 =>
p_let (v_up F_7 p0 1 (some r_4.1.length)) fun F_12 =>
p_let (S_9 ++ [(4, v_n 4)]) fun S_14 =>
(f_X4_init S_14 r_4.2.1 F_12 S_9.length).bind fun r_18 =>
(p_ob r_18.1 9 p0).bind fun _ =>
p_let (v_up r_18.2.2 p0 2 (some S_9.length)) fun F_21 =>
p_let (r_18.1 ++ [(1, v_n 1)]) fun S_23 =>
(f_X1_init S_23 r_18.2.1 F_21 r_18.1.length).bind fun r_27 =>
(p_ob r_27.1 9 p0).bind fun _ =>
p_let (v_up r_27.2.2 p0 3 (some r_18.1.length)) fun F_30 =>
p_let (r_27.1 ++ [(5, v_n 5)]) fun S_32 =>
(f_X5_init S_32 F_30 r_27.1.length).bind fun r_36 =>
(p_ob r_36.1 9 p0).bind fun _ =>
p_let (v_up r_36.2 p0 4 (some r_27.1.length)) fun F_39 =>
p_let (r_36.1 ++ [(3, v_n 3)]) fun S_41 =>
(f_X3_init S_41 r_27.2.1 F_39 r_36.1.length).bind fun r_45 =>
(p_ob r_45.1 9 p0).bind fun _ =>
p_let (v_up r_45.2.2 p0 5 (some r_36.1.length)) fun F_48 =>
p_let (v_up r_45.2.1 p0 6 (0 : Int32)) fun I_50 =>
p_let (r_45.1 ++ [(20, 400)]) fun S_52 =>
p_let (v_up F_48 p0 7 (some r_45.1.length)) fun F_55 =>
p_let (v_up I_50 p0 8 (0 : Int32)) fun I_57 =>
p_let (S_52 ++ [(6, v_n 6)]) fun S_59 =>
(f_X6_init S_59 I_57 F_55 S_52.length).bind fun r_63 =>
(p_ob r_63.1 9 p0).bind fun _ =>
p_let (v_up r_63.2.2 p0 9 (some S_52.length)) fun F_66 =>
p_let (r_63.1 ++ [(2, v_n 2)]) fun S_68 =>
(f_X2_init S_68 r_63.2.1 F_66 r_63.1.length).bind fun r_72 =>
(p_ob r_72.1 9 p0).bind fun _ =>
p_let (v_up r_72.2.2 p0 10 (some r_63.1.length)) fun F_75 =>
p_let (r_72.1 ++ [(3, v_n 3)]) fun S_77 =>
(f_X3_init S_77 r_72.2.1 F_75 r_72.1.length).bind fun r_81 =>
(p_ob r_81.1 9 p0).bind fun _ =>
p_let (v_up r_81.2.2 p0 11 (some r_72.1.length)) fun F_84 =>
p_let (r_81.1 ++ [(23, 20)]) fun S_86 =>
p_let (v_up F_84 p0 12 (some r_81.1.length)) fun F_89 =>
p_let (S_86 ++ [(20, 5)]) fun S_91 =>
p_let (v_up F_89 p0 13 (some S_86.length)) fun F_94 =>
p_let (v_up r_81.2.1 p0 14 (0 : Int32)) fun I_96 =>
p_let (v_up I_96 p0 15 (0 : Int32)) fun I_98 =>
p_let (v_up I_98 p0 16 (-1 : Int32)) fun I_100 =>
p_let (v_up I_100 p0 17 (-1 : Int32)) fun I_102 =>
some (S_91, I_102, F_94)
set_option maxHeartbeats 4000000 in
set_option maxRecDepth 100000 in
theorem t_X9_init {p0 : Nat} {r : v_S × v_I × v_F} (h : f_X9_init S I F p0 = some r) : v_R l B D ac (v_EE B wa wb wt sb sL sx) yX9_init cX9_init 1 none 4 48 2141 [.ref (B + p0)] S I J F (v_D none r.1 r.2.1 J r.2.2) := by
  refine v_R.of (by decide) (Nat.le_of_ble_eq_true rfl) fun d hd => ?_
  generalize hQ : v_D none r.1 r.2.1 J r.2.2 = Q
  unfold f_X9_init at h
  refine v_sub [(0, .ref (B + p0))] ⟨rfl, trivial⟩ ?_
  refine v_aload_n dX9_init_0 rfl ?_
  refine v_objInit dX9_init_1 ml_X9_3 oi_i oi_c (by omega) (Nat.le_of_ble_eq_true rfl) ?_
  refine v_aload_n dX9_init_4 rfl ?_
  refine v_new dX9_init_5 kc_0 cl_X9_9 knt_0 kni_0 kdf_0 (by decide) (by decide) ?_
  replace h := p_let_elim h
  obtain ⟨S_1, h_2, h⟩ := h
  rw [← h_2]
  have q_3 := p_fresh h_2
  refine v_dup dX9_init_8 rfl ?_
  replace h := p_bind_elim h
  obtain ⟨r_4, q_5, h⟩ := h
  refine v_cINnc (t_X0_init q_5) cal_X0_init ml_X9_11 ins_X0_init rfl dX9_init_9 (by omega) (by decide) (by decide) (Nat.le_of_ble_eq_true rfl) rfl ?_
  replace h := p_bind_elim h
  obtain ⟨_, q_6, h⟩ := h
  have q_6 := p_ob_spec q_6
  refine v_putRF rfl fl_X9_12 rfl (fun _ _ h => by cases h; rfl) dX9_init_12 q_6 rfl rfl ?_
  replace h := p_let_elim h
  obtain ⟨F_7, h_8, h⟩ := h
  rw [← h_8]
  refine v_aload_n dX9_init_15 rfl ?_
  refine v_iconstE (2 : Int32) dX9_init_16 (by decide) ?_
  refine v_newq6 2 dX9_init_17 cl_X9_9 ko_RX0 (by decide) (by decide) (by decide) (by decide) (by decide) ?_
  replace h := p_let_elim h
  obtain ⟨S_9, h_10, h⟩ := h
  rw [← h_10]
  have q_11 := p_app h_10 q_6
  refine v_putRF rfl fl_X9_16 rfl (fun _ _ h => by cases h; rfl) dX9_init_20 q_11 rfl rfl ?_
  replace h := p_let_elim h
  obtain ⟨F_12, h_13, h⟩ := h
  rw [← h_13]
  refine v_aload_n dX9_init_23 rfl ?_
  refine v_new dX9_init_24 kc_4 cl_X9_20 knt_4 kni_4 kdf_4 (by decide) (by decide) ?_
  replace h := p_let_elim h
  obtain ⟨S_14, h_15, h⟩ := h
  rw [← h_15]
  have q_16 := p_app h_15 q_11
  have q_17 := p_fresh h_15
  refine v_dup dX9_init_27 rfl ?_
  replace h := p_bind_elim h
  obtain ⟨r_18, q_19, h⟩ := h
  refine v_cINnc (t_X4_init q_19) cal_X4_init ml_X9_22 ins_X4_init rfl dX9_init_28 (by omega) (by decide) (by decide) (Nat.le_of_ble_eq_true rfl) rfl ?_
  replace h := p_bind_elim h
  obtain ⟨_, q_20, h⟩ := h
  have q_20 := p_ob_spec q_20
  refine v_putRF rfl fl_X9_23 rfl (fun _ _ h => by cases h; rfl) dX9_init_31 q_20 rfl rfl ?_
  replace h := p_let_elim h
  obtain ⟨F_21, h_22, h⟩ := h
  rw [← h_22]
  refine v_aload_n dX9_init_34 rfl ?_
  refine v_new dX9_init_35 kc_1 cl_X9_27 knt_1 kni_1 kdf_1 (by decide) (by decide) ?_
  replace h := p_let_elim h
  obtain ⟨S_23, h_24, h⟩ := h
  rw [← h_24]
  have q_25 := p_app h_24 q_20
  have q_26 := p_fresh h_24
  refine v_dup dX9_init_38 rfl ?_
  replace h := p_bind_elim h
  obtain ⟨r_27, q_28, h⟩ := h
  refine v_cINnc (t_X1_init q_28) cal_X1_init ml_X9_29 ins_X1_init rfl dX9_init_39 (by omega) (by decide) (by decide) (Nat.le_of_ble_eq_true rfl) rfl ?_
  replace h := p_bind_elim h
  obtain ⟨_, q_29, h⟩ := h
  have q_29 := p_ob_spec q_29
  refine v_putRF rfl fl_X9_30 rfl (fun _ _ h => by cases h; rfl) dX9_init_42 q_29 rfl rfl ?_
  replace h := p_let_elim h
  obtain ⟨F_30, h_31, h⟩ := h
  rw [← h_31]
  refine v_aload_n dX9_init_45 rfl ?_
  refine v_new dX9_init_46 kc_5 cl_X9_34 knt_5 kni_5 kdf_5 (by decide) (by decide) ?_
  replace h := p_let_elim h
  obtain ⟨S_32, h_33, h⟩ := h
  rw [← h_33]
  have q_34 := p_app h_33 q_29
  have q_35 := p_fresh h_33
  refine v_dup dX9_init_49 rfl ?_
  replace h := p_bind_elim h
  obtain ⟨r_36, q_37, h⟩ := h
  refine v_cINnc (t_X5_init q_37) cal_X5_init ml_X9_36 ins_X5_init rfl dX9_init_50 (by omega) (by decide) (by decide) (Nat.le_of_ble_eq_true rfl) rfl ?_
  replace h := p_bind_elim h
  obtain ⟨_, q_38, h⟩ := h
  have q_38 := p_ob_spec q_38
  refine v_putRF rfl fl_X9_37 rfl (fun _ _ h => by cases h; rfl) dX9_init_53 q_38 rfl rfl ?_
  replace h := p_let_elim h
  obtain ⟨F_39, h_40, h⟩ := h
  rw [← h_40]
  refine v_aload_n dX9_init_56 rfl ?_
  refine v_new dX9_init_57 kc_3 cl_X9_41 knt_3 kni_3 kdf_3 (by decide) (by decide) ?_
  replace h := p_let_elim h
  obtain ⟨S_41, h_42, h⟩ := h
  rw [← h_42]
  have q_43 := p_app h_42 q_38
  have q_44 := p_fresh h_42
  refine v_dup dX9_init_60 rfl ?_
  replace h := p_bind_elim h
  obtain ⟨r_45, q_46, h⟩ := h
  refine v_cINnc (t_X3_init q_46) cal_X3_init ml_X9_43 ins_X3_init rfl dX9_init_61 (by omega) (by decide) (by decide) (Nat.le_of_ble_eq_true rfl) rfl ?_
  replace h := p_bind_elim h
  obtain ⟨_, q_47, h⟩ := h
  have q_47 := p_ob_spec q_47
  refine v_putRF rfl fl_X9_44 rfl (fun _ _ h => by cases h; rfl) dX9_init_64 q_47 rfl rfl ?_
  replace h := p_let_elim h
  obtain ⟨F_48, h_49, h⟩ := h
  rw [← h_49]
  refine v_aload_n dX9_init_67 rfl ?_
  refine v_iconstE (0 : Int32) dX9_init_68 (by decide) ?_
  refine v_putI rfl fl_X9_48 dX9_init_69 q_47 rfl rfl ?_
  replace h := p_let_elim h
  obtain ⟨I_50, h_51, h⟩ := h
  rw [← h_51]
  refine v_aload_n dX9_init_72 rfl ?_
  refine v_sipush (400 : Int32) dX9_init_73 (by decide) ?_
  refine v_newa0 400 dX9_init_76 ka_int (by decide) (by decide) (by decide) (by decide) (by decide) ?_
  replace h := p_let_elim h
  obtain ⟨S_52, h_53, h⟩ := h
  rw [← h_53]
  have q_54 := p_app h_53 q_47
  refine v_putRF rfl fl_X9_52 rfl (fun _ _ h => by cases h; rfl) dX9_init_78 q_54 rfl rfl ?_
  replace h := p_let_elim h
  obtain ⟨F_55, h_56, h⟩ := h
  rw [← h_56]
  refine v_aload_n dX9_init_81 rfl ?_
  refine v_iconstE (0 : Int32) dX9_init_82 (by decide) ?_
  refine v_putI rfl fl_X9_56 dX9_init_83 q_54 rfl rfl ?_
  replace h := p_let_elim h
  obtain ⟨I_57, h_58, h⟩ := h
  rw [← h_58]
  refine v_aload_n dX9_init_86 rfl ?_
  refine v_new dX9_init_87 kc_6 cl_X9_59 knt_6 kni_6 kdf_6 (by decide) (by decide) ?_
  replace h := p_let_elim h
  obtain ⟨S_59, h_60, h⟩ := h
  rw [← h_60]
  have q_61 := p_app h_60 q_54
  have q_62 := p_fresh h_60
  refine v_dup dX9_init_90 rfl ?_
  replace h := p_bind_elim h
  obtain ⟨r_63, q_64, h⟩ := h
  refine v_cINnc (t_X6_init q_64) cal_X6_init ml_X9_61 ins_X6_init rfl dX9_init_91 (by omega) (by decide) (by decide) (Nat.le_of_ble_eq_true rfl) rfl ?_
  replace h := p_bind_elim h
  obtain ⟨_, q_65, h⟩ := h
  have q_65 := p_ob_spec q_65
  refine v_putRF rfl fl_X9_62 rfl (fun _ _ h => by cases h; rfl) dX9_init_94 q_65 rfl rfl ?_
  replace h := p_let_elim h
  obtain ⟨F_66, h_67, h⟩ := h
  rw [← h_67]
  refine v_aload_n dX9_init_97 rfl ?_
  refine v_new dX9_init_98 kc_2 cl_X9_66 knt_2 kni_2 kdf_2 (by decide) (by decide) ?_
  replace h := p_let_elim h
  obtain ⟨S_68, h_69, h⟩ := h
  rw [← h_69]
  have q_70 := p_app h_69 q_65
  have q_71 := p_fresh h_69
  refine v_dup dX9_init_101 rfl ?_
  replace h := p_bind_elim h
  obtain ⟨r_72, q_73, h⟩ := h
  refine v_cINnc (t_X2_init q_73) cal_X2_init ml_X9_68 ins_X2_init rfl dX9_init_102 (by omega) (by decide) (by decide) (Nat.le_of_ble_eq_true rfl) rfl ?_
  replace h := p_bind_elim h
  obtain ⟨_, q_74, h⟩ := h
  have q_74 := p_ob_spec q_74
  refine v_putRF rfl fl_X9_69 rfl (fun _ _ h => by cases h; rfl) dX9_init_105 q_74 rfl rfl ?_
  replace h := p_let_elim h
  obtain ⟨F_75, h_76, h⟩ := h
  rw [← h_76]
  refine v_aload_n dX9_init_108 rfl ?_
  refine v_new dX9_init_109 kc_3 cl_X9_41 knt_3 kni_3 kdf_3 (by decide) (by decide) ?_
  replace h := p_let_elim h
  obtain ⟨S_77, h_78, h⟩ := h
  rw [← h_78]
  have q_79 := p_app h_78 q_74
  have q_80 := p_fresh h_78
  refine v_dup dX9_init_112 rfl ?_
  replace h := p_bind_elim h
  obtain ⟨r_81, q_82, h⟩ := h
  refine v_cINnc (t_X3_init q_82) cal_X3_init ml_X9_43 ins_X3_init rfl dX9_init_113 (by omega) (by decide) (by decide) (Nat.le_of_ble_eq_true rfl) rfl ?_
  replace h := p_bind_elim h
  obtain ⟨_, q_83, h⟩ := h
  have q_83 := p_ob_spec q_83
  refine v_putRF rfl fl_X9_73 rfl (fun _ _ h => by cases h; rfl) dX9_init_116 q_83 rfl rfl ?_
  replace h := p_let_elim h
  obtain ⟨F_84, h_85, h⟩ := h
  rw [← h_85]
  refine v_aload_n dX9_init_119 rfl ?_
  refine v_bipush (20 : Int32) dX9_init_120 (by decide) ?_
  refine v_newa3 20 dX9_init_122 ka_long (by decide) (by decide) (by decide) (by decide) (by decide) ?_
  replace h := p_let_elim h
  obtain ⟨S_86, h_87, h⟩ := h
  rw [← h_87]
  have q_88 := p_app h_87 q_83
  refine v_putRF rfl fl_X9_76 rfl (fun _ _ h => by cases h; rfl) dX9_init_124 q_88 rfl rfl ?_
  replace h := p_let_elim h
  obtain ⟨F_89, h_90, h⟩ := h
  rw [← h_90]
  refine v_aload_n dX9_init_127 rfl ?_
  refine v_iconstE (5 : Int32) dX9_init_128 (by decide) ?_
  refine v_newa0 5 dX9_init_129 ka_int (by decide) (by decide) (by decide) (by decide) (by decide) ?_
  replace h := p_let_elim h
  obtain ⟨S_91, h_92, h⟩ := h
  rw [← h_92]
  have q_93 := p_app h_92 q_88
  refine v_putRF rfl fl_X9_80 rfl (fun _ _ h => by cases h; rfl) dX9_init_131 q_93 rfl rfl ?_
  replace h := p_let_elim h
  obtain ⟨F_94, h_95, h⟩ := h
  rw [← h_95]
  refine v_aload_n dX9_init_134 rfl ?_
  refine v_iconstE (0 : Int32) dX9_init_135 (by decide) ?_
  refine v_putI rfl fl_X9_83 dX9_init_136 q_93 rfl rfl ?_
  replace h := p_let_elim h
  obtain ⟨I_96, h_97, h⟩ := h
  rw [← h_97]
  refine v_aload_n dX9_init_139 rfl ?_
  refine v_iconstE (0 : Int32) dX9_init_140 (by decide) ?_
  refine v_putI rfl fl_X9_86 dX9_init_141 q_93 rfl rfl ?_
  replace h := p_let_elim h
  obtain ⟨I_98, h_99, h⟩ := h
  rw [← h_99]
  refine v_aload_n dX9_init_144 rfl ?_
  refine v_iconstE (-1 : Int32) dX9_init_145 (by decide) ?_
  refine v_putI rfl fl_X9_89 dX9_init_146 q_93 rfl rfl ?_
  replace h := p_let_elim h
  obtain ⟨I_100, h_101, h⟩ := h
  rw [← h_101]
  refine v_aload_n dX9_init_149 rfl ?_
  refine v_iconstE (-1 : Int32) dX9_init_150 (by decide) ?_
  refine v_putI rfl fl_X9_92 dX9_init_151 q_93 rfl rfl ?_
  replace h := p_let_elim h
  obtain ⟨I_102, h_103, h⟩ := h
  rw [← h_103]
  cases h
  exact v_vret dX9_init_154 rfl (by decide) (by decide) (by rw [← hQ]; exact ⟨rfl, rfl, rfl, rfl, rfl⟩)

def f_X3_isOpen (S : v_S) (I : v_I) (p0 : Nat) (p1 : Int32) : Option (Int32) :=
(p_ob S 3 p0).bind fun _ =>
if (((I p0 0) >>> (p1 &&& 31)) &&& (1 : Int32)) = (1 : Int32) then (
some ((1 : Int32)))
else (
some ((0 : Int32)))
set_option maxHeartbeats 4000000 in
set_option maxRecDepth 100000 in
theorem t_X3_isOpen {p0 : Nat} {p1 : Int32} {r : Int32} (h : f_X3_isOpen S I p0 p1 = some r) : v_R l B D ac (v_EE B wa wb wt sb sL sx) yX3_isOpen cX3_isOpen 2 (some .boolean) 1 0 0 [.ref (B + p0), .int p1] S I J F (v_D (some (.int r)) S I J F) := by
  refine v_R.of (by decide) (Nat.le_of_ble_eq_true rfl) fun d hd => ?_
  generalize hQ : v_D (some (.int r)) S I J F = Q
  unfold f_X3_isOpen at h
  refine v_sub [(0, .ref (B + p0)), (1, .int p1)] ⟨rfl, rfl, trivial⟩ ?_
  refine v_aload_n dX3_isOpen_0 rfl ?_
  replace h := p_bind_elim h
  obtain ⟨_, q_1, h⟩ := h
  have q_1 := p_ob_spec q_1
  refine v_getI rfl fl_X3_9 dX3_isOpen_1 q_1 ?_
  refine v_iload_n dX3_isOpen_4 rfl ?_
  refine v_ishr dX3_isOpen_5 ?_
  refine v_iconstE (1 : Int32) dX3_isOpen_6 (by decide) ?_
  refine v_iand dX3_isOpen_7 ?_
  refine v_iconstE (1 : Int32) dX3_isOpen_8 (by decide) ?_
  refine v_icmp_ne 16 dX3_isOpen_9 (by decide) (fun c_2 => ?_) (fun c_2 => ?_)
  · rw [if_neg c_2] at h
    refine v_iconstE (0 : Int32) dX3_isOpen_16 (by decide) ?_
    cases h
    exact v_zret dX3_isOpen_17 rfl rfl (by decide) (by decide) (by rw [← hQ]; exact ⟨rfl, rfl, rfl, rfl, rfl⟩)
  · rw [if_pos c_2] at h
    refine v_iconstE (1 : Int32) dX3_isOpen_12 (by decide) ?_
    refine v_goto 17 dX3_isOpen_13 (by decide) ?_
    cases h
    exact v_zret dX3_isOpen_17 rfl rfl (by decide) (by decide) (by rw [← hQ]; exact ⟨rfl, rfl, rfl, rfl, rfl⟩)

def f_X3_shutOne_J13 (S : v_S) (F : v_F) (I : v_I) (y0 : Nat) (y1 : Int32) (z0 : Int32) : Option (Int32 × v_I) :=
(p_ob S 3 y0).bind fun _ =>
p_let (v_up I y0 0 ((I y0 0) &&& (((1 : Int32) <<< (y1 &&& 31)) ^^^ (-1 : Int32)))) fun I_6 =>
if y1 < (0 : Int32) then (
some (z0, I_6))
else (
if (8 : Int32) ≤ y1 then (
some (z0, I_6))
else (
(F y0 3).bind fun a_10 =>
(p_ix S 20 a_10 y1).bind fun j_12 =>
p_let (v_up I_6 a_10 j_12 (0 : Int32)) fun I_14 =>
some (z0, I_14)))
def f_X3_shutOne (S : v_S) (I : v_I) (F : v_F) (p0 : Nat) (p1 : Int32) : Option (Int32 × v_I) :=
(p_ob S 3 p0).bind fun _ =>
(f_X3_isOpen S I p0 p1).bind fun r_1 =>
if r_1 = (0 : Int32) then (
f_X3_shutOne_J13 S F I p0 p1 (0 : Int32))
else (
f_X3_shutOne_J13 S F I p0 p1 (1 : Int32))
set_option maxHeartbeats 4000000 in
set_option maxRecDepth 100000 in
theorem t_X3_shutOne {p0 : Nat} {p1 : Int32} {r : Int32 × v_I} (h : f_X3_shutOne S I F p0 p1 = some r) : v_R l B D ac (v_EE B wa wb wt sb sL sx) yX3_shutOne cX3_shutOne 3 (some .int) 2 0 0 [.ref (B + p0), .int p1] S I J F (v_D (some (.int r.1)) S r.2 J F) := by
  refine v_R.of (by decide) (Nat.le_of_ble_eq_true rfl) fun d hd => ?_
  generalize hQ : v_D (some (.int r.1)) S r.2 J F = Q
  have j13 : ∀ (I : v_I) (y0 : Nat) (y1 : Int32) (z0 : Int32), f_X3_shutOne_J13 S F I y0 y1 z0 = some r → V l B D ac (v_EE B wa wb wt sb sL sx) yX3_shutOne cX3_shutOne 3 (some .int) d 0 0 0 0 S I J F 13 [(0, .ref (B + y0)), (1, .int y1)] [.int z0] Q := by
    intro I y0 y1 z0 h
    unfold f_X3_shutOne_J13 at h
    refine v_istore_n dX3_shutOne_13 (by decide) ?_
    refine v_sub [(0, .ref (B + y0)), (1, .int y1), (2, .int z0)] ⟨rfl, rfl, rfl, trivial⟩ ?_
    refine v_aload_n dX3_shutOne_14 rfl ?_
    refine v_dup dX3_shutOne_15 rfl ?_
    replace h := p_bind_elim h
    obtain ⟨_, q_5, h⟩ := h
    have q_5 := p_ob_spec q_5
    refine v_getI rfl fl_X3_9 dX3_shutOne_16 q_5 ?_
    refine v_iconstE (1 : Int32) dX3_shutOne_19 (by decide) ?_
    refine v_iload_n dX3_shutOne_20 rfl ?_
    refine v_ishl dX3_shutOne_21 ?_
    refine v_iconstE (-1 : Int32) dX3_shutOne_22 (by decide) ?_
    refine v_ixor dX3_shutOne_23 ?_
    refine v_iand dX3_shutOne_24 ?_
    refine v_putI rfl fl_X3_9 dX3_shutOne_25 q_5 rfl rfl ?_
    replace h := p_let_elim h
    obtain ⟨I_6, h_7, h⟩ := h
    rw [← h_7]
    refine v_iload_n dX3_shutOne_28 rfl ?_
    refine v_if_lt 45 dX3_shutOne_29 (by decide) (fun c_8 => ?_) (fun c_8 => ?_)
    · rw [if_pos c_8] at h
      refine v_iload_n dX3_shutOne_45 rfl ?_
      cases h
      exact v_iret dX3_shutOne_46 rfl (by decide) (by decide) (by rw [← hQ]; exact ⟨rfl, rfl, rfl, rfl, rfl⟩)
    · rw [if_neg c_8] at h
      refine v_iload_n dX3_shutOne_32 rfl ?_
      refine v_bipush (8 : Int32) dX3_shutOne_33 (by decide) ?_
      refine v_icmp_ge 45 dX3_shutOne_35 (by decide) (fun c_9 => ?_) (fun c_9 => ?_)
      · rw [if_pos c_9] at h
        refine v_iload_n dX3_shutOne_45 rfl ?_
        cases h
        exact v_iret dX3_shutOne_46 rfl (by decide) (by decide) (by rw [← hQ]; exact ⟨rfl, rfl, rfl, rfl, rfl⟩)
      · rw [if_neg c_9] at h
        refine v_aload_n dX3_shutOne_38 rfl ?_
        replace h := p_bind_elim h
        obtain ⟨a_10, q_11, h⟩ := h
        refine v_getR q_11 rfl fl_X3_22 dX3_shutOne_39 q_5 ?_
        refine v_iload_n dX3_shutOne_42 rfl ?_
        refine v_iconstE (0 : Int32) dX3_shutOne_43 (by decide) ?_
        replace h := p_bind_elim h
        obtain ⟨j_12, q_13, h⟩ := h
        refine v_iastP dX3_shutOne_44 q_13 ?_
        replace h := p_let_elim h
        obtain ⟨I_14, h_15, h⟩ := h
        rw [← h_15]
        refine v_iload_n dX3_shutOne_45 rfl ?_
        cases h
        exact v_iret dX3_shutOne_46 rfl (by decide) (by decide) (by rw [← hQ]; exact ⟨rfl, rfl, rfl, rfl, rfl⟩)
  unfold f_X3_shutOne at h
  refine v_sub [(0, .ref (B + p0)), (1, .int p1)] ⟨rfl, rfl, trivial⟩ ?_
  refine v_aload_n dX3_shutOne_0 rfl ?_
  refine v_iload_n dX3_shutOne_1 rfl ?_
  replace h := p_bind_elim h
  obtain ⟨_, q_3, h⟩ := h
  have q_3 := p_ob_spec q_3
  replace h := p_bind_elim h
  obtain ⟨r_1, q_2, h⟩ := h
  refine v_cVr (t_X3_isOpen q_2) cal_X3_isOpen ml_X3_37 sel_X3_isOpen q_3 kk_3 dX3_shutOne_2 (by omega) (by decide) (by decide) (Nat.le_of_ble_eq_true rfl) rfl ?_
  refine v_if_eq 12 dX3_shutOne_5 (by decide) (fun c_4 => ?_) (fun c_4 => ?_)
  · rw [if_pos c_4] at h
    refine v_iconstE (0 : Int32) dX3_shutOne_12 (by decide) ?_
    refine v_sub [(0, .ref (B + p0)), (1, .int p1)] ⟨rfl, rfl, trivial⟩ ?_
    exact j13 _ _ _ _ h
  · rw [if_neg c_4] at h
    refine v_iconstE (1 : Int32) dX3_shutOne_8 (by decide) ?_
    refine v_goto 13 dX3_shutOne_9 (by decide) ?_
    refine v_sub [(0, .ref (B + p0)), (1, .int p1)] ⟨rfl, rfl, trivial⟩ ?_
    exact j13 _ _ _ _ h

def f_X0_add (S : v_S) (I : v_I) (F : v_F) (p0 : Nat) (p1 : Int32) (p2 : Int32) (p3 : Int32) : Option (Int32 × v_I) :=
(p_ob S 0 p0).bind fun _ =>
p_let (I p0 0) fun x_2 =>
if x_2 < (8 : Int32) then (
p_let (v_up I p0 0 ((I p0 0) + (1 : Int32))) fun I_5 =>
(F p0 1).bind fun a_7 =>
(p_ob S 3 a_7).bind fun _ =>
(F a_7 2).bind fun a_10 =>
(p_ix S 20 a_10 x_2).bind fun j_12 =>
p_let (v_up I_5 a_10 j_12 p1) fun I_14 =>
(F p0 1).bind fun a_16 =>
(p_ob S 3 a_16).bind fun _ =>
(f_X3_shutOne S I_14 F a_16 x_2).bind fun r_18 =>
(F p0 2).bind fun a_21 =>
(p_ix S 20 a_21 x_2).bind fun j_23 =>
p_let (v_up r_18.2 a_21 j_23 p2) fun I_25 =>
(F p0 3).bind fun a_27 =>
(p_ix S 20 a_27 x_2).bind fun j_29 =>
p_let (v_up I_25 a_27 j_29 p3) fun I_31 =>
some (x_2, I_31))
else (
some ((-1 : Int32), I))
set_option maxHeartbeats 4000000 in
set_option maxRecDepth 100000 in
theorem t_X0_add {p0 : Nat} {p1 : Int32} {p2 : Int32} {p3 : Int32} {r : Int32 × v_I} (h : f_X0_add S I F p0 p1 p2 p3 = some r) : v_R l B D ac (v_EE B wa wb wt sb sL sx) yX0_add cX0_add 5 (some .int) 3 0 0 [.ref (B + p0), .int p1, .int p2, .int p3] S I J F (v_D (some (.int r.1)) S r.2 J F) := by
  refine v_R.of (by decide) (Nat.le_of_ble_eq_true rfl) fun d hd => ?_
  generalize hQ : v_D (some (.int r.1)) S r.2 J F = Q
  unfold f_X0_add at h
  refine v_sub [(0, .ref (B + p0)), (1, .int p1), (2, .int p2), (3, .int p3)] ⟨rfl, rfl, rfl, rfl, trivial⟩ ?_
  refine v_aload_n dX0_add_0 rfl ?_
  replace h := p_bind_elim h
  obtain ⟨_, q_1, h⟩ := h
  have q_1 := p_ob_spec q_1
  refine v_getI rfl fl_X0_9 dX0_add_1 q_1 ?_
  replace h := p_let_elim h
  obtain ⟨x_2, h_3, h⟩ := h
  rw [← h_3]
  refine v_istore dX0_add_4 (by decide) ?_
  refine v_sub [(0, .ref (B + p0)), (1, .int p1), (2, .int p2), (3, .int p3), (4, .int x_2)] ⟨rfl, rfl, rfl, rfl, rfl, trivial⟩ ?_
  refine v_iload dX0_add_6 rfl ?_
  refine v_bipush (8 : Int32) dX0_add_8 (by decide) ?_
  refine v_icmp_lt 15 dX0_add_10 (by decide) (fun c_4 => ?_) (fun c_4 => ?_)
  · rw [if_pos c_4] at h
    refine v_aload_n dX0_add_15 rfl ?_
    refine v_dup dX0_add_16 rfl ?_
    refine v_getI rfl fl_X0_9 dX0_add_17 q_1 ?_
    refine v_iconstE (1 : Int32) dX0_add_20 (by decide) ?_
    refine v_iadd dX0_add_21 ?_
    refine v_putI rfl fl_X0_9 dX0_add_22 q_1 rfl rfl ?_
    replace h := p_let_elim h
    obtain ⟨I_5, h_6, h⟩ := h
    rw [← h_6]
    refine v_aload_n dX0_add_25 rfl ?_
    replace h := p_bind_elim h
    obtain ⟨a_7, q_8, h⟩ := h
    refine v_getR q_8 rfl fl_X0_18 dX0_add_26 q_1 ?_
    replace h := p_bind_elim h
    obtain ⟨_, q_9, h⟩ := h
    have q_9 := p_ob_spec q_9
    replace h := p_bind_elim h
    obtain ⟨a_10, q_11, h⟩ := h
    refine v_getR q_11 rfl fl_X0_71 dX0_add_29 q_9 ?_
    refine v_iload dX0_add_32 rfl ?_
    refine v_iload_n dX0_add_34 rfl ?_
    replace h := p_bind_elim h
    obtain ⟨j_12, q_13, h⟩ := h
    refine v_iastP dX0_add_35 q_13 ?_
    replace h := p_let_elim h
    obtain ⟨I_14, h_15, h⟩ := h
    rw [← h_15]
    refine v_aload_n dX0_add_36 rfl ?_
    replace h := p_bind_elim h
    obtain ⟨a_16, q_17, h⟩ := h
    refine v_getR q_17 rfl fl_X0_18 dX0_add_37 q_1 ?_
    refine v_iload dX0_add_40 rfl ?_
    replace h := p_bind_elim h
    obtain ⟨_, q_20, h⟩ := h
    have q_20 := p_ob_spec q_20
    replace h := p_bind_elim h
    obtain ⟨r_18, q_19, h⟩ := h
    refine v_cVr (t_X3_shutOne q_19) cal_X3_shutOne ml_X0_74 sel_X3_shutOne q_20 kk_3 dX0_add_42 (by omega) (by decide) (by decide) (Nat.le_of_ble_eq_true rfl) rfl ?_
    refine v_pop dX0_add_45 rfl ?_
    refine v_aload_n dX0_add_46 rfl ?_
    replace h := p_bind_elim h
    obtain ⟨a_21, q_22, h⟩ := h
    refine v_getR q_22 rfl fl_X0_22 dX0_add_47 q_1 ?_
    refine v_iload dX0_add_50 rfl ?_
    refine v_iload_n dX0_add_52 rfl ?_
    replace h := p_bind_elim h
    obtain ⟨j_23, q_24, h⟩ := h
    refine v_iastP dX0_add_53 q_24 ?_
    replace h := p_let_elim h
    obtain ⟨I_25, h_26, h⟩ := h
    rw [← h_26]
    refine v_aload_n dX0_add_54 rfl ?_
    replace h := p_bind_elim h
    obtain ⟨a_27, q_28, h⟩ := h
    refine v_getR q_28 rfl fl_X0_26 dX0_add_55 q_1 ?_
    refine v_iload dX0_add_58 rfl ?_
    refine v_iload_n dX0_add_60 rfl ?_
    replace h := p_bind_elim h
    obtain ⟨j_29, q_30, h⟩ := h
    refine v_iastP dX0_add_61 q_30 ?_
    replace h := p_let_elim h
    obtain ⟨I_31, h_32, h⟩ := h
    rw [← h_32]
    refine v_iload dX0_add_62 rfl ?_
    cases h
    exact v_iret dX0_add_64 rfl (by decide) (by decide) (by rw [← hQ]; exact ⟨rfl, rfl, rfl, rfl, rfl⟩)
  · rw [if_neg c_4] at h
    refine v_iconstE (-1 : Int32) dX0_add_13 (by decide) ?_
    cases h
    exact v_iret dX0_add_14 rfl (by decide) (by decide) (by rw [← hQ]; exact ⟨rfl, rfl, rfl, rfl, rfl⟩)

def f_X4_clear (S : v_S) (I : v_I) (p0 : Nat) : Option (v_I) :=
(p_ob S 4 p0).bind fun _ =>
p_let (v_up I p0 0 (0 : Int32)) fun I_2 =>
some (I_2)
set_option maxHeartbeats 4000000 in
set_option maxRecDepth 100000 in
theorem t_X4_clear {p0 : Nat} {r : v_I} (h : f_X4_clear S I p0 = some r) : v_R l B D ac (v_EE B wa wb wt sb sL sx) yX4_clear cX4_clear 1 none 1 0 0 [.ref (B + p0)] S I J F (v_D none S r J F) := by
  refine v_R.of (by decide) (Nat.le_of_ble_eq_true rfl) fun d hd => ?_
  generalize hQ : v_D none S r J F = Q
  unfold f_X4_clear at h
  refine v_sub [(0, .ref (B + p0))] ⟨rfl, trivial⟩ ?_
  refine v_aload_n dX4_clear_0 rfl ?_
  refine v_iconstE (0 : Int32) dX4_clear_1 (by decide) ?_
  replace h := p_bind_elim h
  obtain ⟨_, q_1, h⟩ := h
  have q_1 := p_ob_spec q_1
  refine v_putI rfl fl_X4_9 dX4_clear_2 q_1 rfl rfl ?_
  replace h := p_let_elim h
  obtain ⟨I_2, h_3, h⟩ := h
  rw [← h_3]
  cases h
  exact v_vret dX4_clear_5 rfl (by decide) (by decide) (by rw [← hQ]; exact ⟨rfl, rfl, rfl, rfl, rfl⟩)

def f_X9_accept (S : v_S) (I : v_I) (p0 : Nat) (p1 : Int32) : Option (Int32 × v_I) :=
(p_ob S 9 p0).bind fun _ =>
p_let (v_up I p0 14 (0 : Int32)) fun I_2 =>
some (p1, I_2)
set_option maxHeartbeats 4000000 in
set_option maxRecDepth 100000 in
theorem t_X9_accept {p0 : Nat} {p1 : Int32} {r : Int32 × v_I} (h : f_X9_accept S I p0 p1 = some r) : v_R l B D ac (v_EE B wa wb wt sb sL sx) yX9_accept cX9_accept 2 (some .int) 1 0 0 [.ref (B + p0), .int p1] S I J F (v_D (some (.int r.1)) S r.2 J F) := by
  refine v_R.of (by decide) (Nat.le_of_ble_eq_true rfl) fun d hd => ?_
  generalize hQ : v_D (some (.int r.1)) S r.2 J F = Q
  unfold f_X9_accept at h
  refine v_sub [(0, .ref (B + p0)), (1, .int p1)] ⟨rfl, rfl, trivial⟩ ?_
  refine v_aload_n dX9_accept_0 rfl ?_
  refine v_iconstE (0 : Int32) dX9_accept_1 (by decide) ?_
  replace h := p_bind_elim h
  obtain ⟨_, q_1, h⟩ := h
  have q_1 := p_ob_spec q_1
  refine v_putI rfl fl_X9_83 dX9_accept_2 q_1 rfl rfl ?_
  replace h := p_let_elim h
  obtain ⟨I_2, h_3, h⟩ := h
  rw [← h_3]
  refine v_iload_n dX9_accept_5 rfl ?_
  cases h
  exact v_iret dX9_accept_6 rfl (by decide) (by decide) (by rw [← hQ]; exact ⟨rfl, rfl, rfl, rfl, rfl⟩)

def f_X9_isUpTo (p0 : Int64) (p2 : Int32) : Option (Int32) :=
if (lg_cmp p0 (0 : Int64)) < (0 : Int32) then (
some ((0 : Int32)))
else (
if (0 : Int32) < (lg_cmp p0 p2.toInt64) then (
some ((0 : Int32)))
else (
some ((1 : Int32))))
set_option maxHeartbeats 4000000 in
set_option maxRecDepth 100000 in
theorem t_X9_isUpTo {p0 : Int64} {p2 : Int32} {r : Int32} (h : f_X9_isUpTo p0 p2 = some r) : v_R l B D ac (v_EE B wa wb wt sb sL sx) yX9_isUpTo cX9_isUpTo 3 (some .boolean) 1 0 0 [.long p0, .int p2] S I J F (v_D (some (.int r)) S I J F) := by
  refine v_R.of (by decide) (Nat.le_of_ble_eq_true rfl) fun d hd => ?_
  generalize hQ : v_D (some (.int r)) S I J F = Q
  unfold f_X9_isUpTo at h
  refine v_sub [(0, .long p0), (2, .int p2)] ⟨rfl, rfl, trivial⟩ ?_
  refine v_lload_n dX9_isUpTo_0 rfl ?_
  refine v_lconst (0 : Int64) dX9_isUpTo_1 (by decide) ?_
  refine v_lcmp dX9_isUpTo_2 ?_
  refine v_if_lt 17 dX9_isUpTo_3 (by decide) (fun c_1 => ?_) (fun c_1 => ?_)
  · rw [if_pos c_1] at h
    refine v_iconstE (0 : Int32) dX9_isUpTo_17 (by decide) ?_
    cases h
    exact v_zret dX9_isUpTo_18 rfl rfl (by decide) (by decide) (by rw [← hQ]; exact ⟨rfl, rfl, rfl, rfl, rfl⟩)
  · rw [if_neg c_1] at h
    refine v_lload_n dX9_isUpTo_6 rfl ?_
    refine v_iload_n dX9_isUpTo_7 rfl ?_
    refine v_i2l dX9_isUpTo_8 ?_
    refine v_lcmp dX9_isUpTo_9 ?_
    refine v_if_gt 17 dX9_isUpTo_10 (by decide) (fun c_2 => ?_) (fun c_2 => ?_)
    · rw [if_pos c_2] at h
      refine v_iconstE (0 : Int32) dX9_isUpTo_17 (by decide) ?_
      cases h
      exact v_zret dX9_isUpTo_18 rfl rfl (by decide) (by decide) (by rw [← hQ]; exact ⟨rfl, rfl, rfl, rfl, rfl⟩)
    · rw [if_neg c_2] at h
      refine v_iconstE (1 : Int32) dX9_isUpTo_13 (by decide) ?_
      refine v_goto 18 dX9_isUpTo_14 (by decide) ?_
      cases h
      exact v_zret dX9_isUpTo_18 rfl rfl (by decide) (by decide) (by rw [← hQ]; exact ⟨rfl, rfl, rfl, rfl, rfl⟩)

def f_X9_refuse_J22 (S : v_S) (F : v_F) (I : v_I) (y0 : Nat) (y1 : Int32) (z0 : Int32) : Option (Int32 × v_I) :=
if z0 < (0 : Int32) then (
some (y1, I))
else (
(p_ob S 9 y0).bind fun _ =>
(F y0 13).bind fun a_7 =>
(p_len S 20 a_7).bind fun x_9 =>
if x_9 ≤ z0 then (
some (y1, I))
else (
(F y0 13).bind fun a_12 =>
(p_ix S 20 a_12 z0).bind fun j_14 =>
(p_ix S 20 a_12 z0).bind fun j_16 =>
p_let (v_up I a_12 j_16 ((I a_12 j_14) + (1 : Int32))) fun I_18 =>
some (y1, I_18)))
def f_X9_refuse (S : v_S) (I : v_I) (F : v_F) (p0 : Nat) (p1 : Int32) : Option (Int32 × v_I) :=
(p_ob S 9 p0).bind fun _ =>
p_let (v_up I p0 14 p1) fun I_2 =>
if p1 < (-3 : Int32) then (
f_X9_refuse_J22 S F I_2 p0 p1 ((-p1) - (2 : Int32)))
else (
f_X9_refuse_J22 S F I_2 p0 p1 ((-p1) - (1 : Int32)))
set_option maxHeartbeats 4000000 in
set_option maxRecDepth 100000 in
theorem t_X9_refuse {p0 : Nat} {p1 : Int32} {r : Int32 × v_I} (h : f_X9_refuse S I F p0 p1 = some r) : v_R l B D ac (v_EE B wa wb wt sb sL sx) yX9_refuse cX9_refuse 3 (some .int) 1 0 0 [.ref (B + p0), .int p1] S I J F (v_D (some (.int r.1)) S r.2 J F) := by
  refine v_R.of (by decide) (Nat.le_of_ble_eq_true rfl) fun d hd => ?_
  generalize hQ : v_D (some (.int r.1)) S r.2 J F = Q
  have j22 : ∀ (I : v_I) (y0 : Nat) (y1 : Int32) (z0 : Int32), f_X9_refuse_J22 S F I y0 y1 z0 = some r → V l B D ac (v_EE B wa wb wt sb sL sx) yX9_refuse cX9_refuse 3 (some .int) d 0 0 0 0 S I J F 22 [(0, .ref (B + y0)), (1, .int y1)] [.int z0] Q := by
    intro I y0 y1 z0 h
    unfold f_X9_refuse_J22 at h
    refine v_istore_n dX9_refuse_22 (by decide) ?_
    refine v_sub [(0, .ref (B + y0)), (1, .int y1), (2, .int z0)] ⟨rfl, rfl, rfl, trivial⟩ ?_
    refine v_iload_n dX9_refuse_23 rfl ?_
    refine v_if_lt 46 dX9_refuse_24 (by decide) (fun c_5 => ?_) (fun c_5 => ?_)
    · rw [if_pos c_5] at h
      refine v_iload_n dX9_refuse_46 rfl ?_
      cases h
      exact v_iret dX9_refuse_47 rfl (by decide) (by decide) (by rw [← hQ]; exact ⟨rfl, rfl, rfl, rfl, rfl⟩)
    · rw [if_neg c_5] at h
      refine v_iload_n dX9_refuse_27 rfl ?_
      refine v_aload_n dX9_refuse_28 rfl ?_
      replace h := p_bind_elim h
      obtain ⟨_, q_6, h⟩ := h
      have q_6 := p_ob_spec q_6
      replace h := p_bind_elim h
      obtain ⟨a_7, q_8, h⟩ := h
      refine v_getR q_8 rfl fl_X9_80 dX9_refuse_29 q_6 ?_
      replace h := p_bind_elim h
      obtain ⟨x_9, q_10, h⟩ := h
      refine v_alenPI dX9_refuse_32 q_10 ?_
      refine v_icmp_ge 46 dX9_refuse_33 (by decide) (fun c_11 => ?_) (fun c_11 => ?_)
      · rw [if_pos c_11] at h
        refine v_iload_n dX9_refuse_46 rfl ?_
        cases h
        exact v_iret dX9_refuse_47 rfl (by decide) (by decide) (by rw [← hQ]; exact ⟨rfl, rfl, rfl, rfl, rfl⟩)
      · rw [if_neg c_11] at h
        refine v_aload_n dX9_refuse_36 rfl ?_
        replace h := p_bind_elim h
        obtain ⟨a_12, q_13, h⟩ := h
        refine v_getR q_13 rfl fl_X9_80 dX9_refuse_37 q_6 ?_
        refine v_iload_n dX9_refuse_40 rfl ?_
        refine v_dup2 dX9_refuse_41 rfl rfl ?_
        replace h := p_bind_elim h
        obtain ⟨j_14, q_15, h⟩ := h
        refine v_ialdP dX9_refuse_42 q_15 ?_
        refine v_iconstE (1 : Int32) dX9_refuse_43 (by decide) ?_
        refine v_iadd dX9_refuse_44 ?_
        replace h := p_bind_elim h
        obtain ⟨j_16, q_17, h⟩ := h
        refine v_iastP dX9_refuse_45 q_17 ?_
        replace h := p_let_elim h
        obtain ⟨I_18, h_19, h⟩ := h
        rw [← h_19]
        refine v_iload_n dX9_refuse_46 rfl ?_
        cases h
        exact v_iret dX9_refuse_47 rfl (by decide) (by decide) (by rw [← hQ]; exact ⟨rfl, rfl, rfl, rfl, rfl⟩)
  unfold f_X9_refuse at h
  refine v_sub [(0, .ref (B + p0)), (1, .int p1)] ⟨rfl, rfl, trivial⟩ ?_
  refine v_aload_n dX9_refuse_0 rfl ?_
  refine v_iload_n dX9_refuse_1 rfl ?_
  replace h := p_bind_elim h
  obtain ⟨_, q_1, h⟩ := h
  have q_1 := p_ob_spec q_1
  refine v_putI rfl fl_X9_83 dX9_refuse_2 q_1 rfl rfl ?_
  replace h := p_let_elim h
  obtain ⟨I_2, h_3, h⟩ := h
  rw [← h_3]
  refine v_iload_n dX9_refuse_5 rfl ?_
  refine v_bipush (-3 : Int32) dX9_refuse_6 (by decide) ?_
  refine v_icmp_lt 18 dX9_refuse_8 (by decide) (fun c_4 => ?_) (fun c_4 => ?_)
  · rw [if_pos c_4] at h
    refine v_iload_n dX9_refuse_18 rfl ?_
    refine v_ineg dX9_refuse_19 ?_
    refine v_iconstE (2 : Int32) dX9_refuse_20 (by decide) ?_
    refine v_isub dX9_refuse_21 ?_
    refine v_sub [(0, .ref (B + p0)), (1, .int p1)] ⟨rfl, rfl, trivial⟩ ?_
    exact j22 _ _ _ _ h
  · rw [if_neg c_4] at h
    refine v_iload_n dX9_refuse_11 rfl ?_
    refine v_ineg dX9_refuse_12 ?_
    refine v_iconstE (1 : Int32) dX9_refuse_13 (by decide) ?_
    refine v_isub dX9_refuse_14 ?_
    refine v_goto 22 dX9_refuse_15 (by decide) ?_
    refine v_sub [(0, .ref (B + p0)), (1, .int p1)] ⟨rfl, rfl, trivial⟩ ?_
    exact j22 _ _ _ _ h

def f_X9_hedgehog_J20 (S : v_S) (F : v_F) (I : v_I) (y0 : Nat) : Option (Int32 × v_I) :=
(p_ob S 9 y0).bind fun _ =>
(f_X9_refuse S I F y0 (-1 : Int32)).bind fun r_4 =>
some (r_4.1, r_4.2)
def f_X9_hedgehog (S : v_S) (I : v_I) (F : v_F) (p0 : Nat) (p1 : Int32) (p2 : Int32) : Option (Int32 × v_I) :=
(f_X9_isUpTo p1.toInt64 (9 : Int32)).bind fun r_1 =>
if r_1 = (0 : Int32) then (
f_X9_hedgehog_J20 S F I p0)
else (
(f_X9_isUpTo p2.toInt64 (9 : Int32)).bind fun r_7 =>
if r_7 = (0 : Int32) then (
f_X9_hedgehog_J20 S F I p0)
else (
(p_ob S 9 p0).bind fun _ =>
(F p0 0).bind fun a_11 =>
(p_ob S 0 a_11).bind fun _ =>
if (I a_11 0) < (8 : Int32) then (
(F p0 2).bind fun a_15 =>
(p_ob S 4 a_15).bind fun _ =>
(f_X4_clear S I a_15).bind fun r_17 =>
(F p0 0).bind fun a_20 =>
(p_ob S 0 a_20).bind fun _ =>
(f_X0_add S r_17 F a_20 p1 p2 (0 : Int32)).bind fun r_22 =>
(f_X9_accept S r_22.2 p0 r_22.1).bind fun r_25 =>
some (r_25.1, r_25.2))
else (
(f_X9_refuse S I F p0 (-5 : Int32)).bind fun r_27 =>
some (r_27.1, r_27.2))))
set_option maxHeartbeats 4000000 in
set_option maxRecDepth 100000 in
theorem t_X9_hedgehog {p0 : Nat} {p1 : Int32} {p2 : Int32} {r : Int32 × v_I} (h : f_X9_hedgehog S I F p0 p1 p2 = some r) : v_R l B D ac (v_EE B wa wb wt sb sL sx) yX9_hedgehog cX9_hedgehog 3 (some .int) 4 0 0 [.ref (B + p0), .int p1, .int p2] S I J F (v_D (some (.int r.1)) S r.2 J F) := by
  refine v_R.of (by decide) (Nat.le_of_ble_eq_true rfl) fun d hd => ?_
  generalize hQ : v_D (some (.int r.1)) S r.2 J F = Q
  have j20 : ∀ (I : v_I) (y0 : Nat), f_X9_hedgehog_J20 S F I y0 = some r → V l B D ac (v_EE B wa wb wt sb sL sx) yX9_hedgehog cX9_hedgehog 3 (some .int) d 0 0 0 0 S I J F 20 [(0, .ref (B + y0))] [] Q := by
    intro I y0 h
    unfold f_X9_hedgehog_J20 at h
    refine v_aload_n dX9_hedgehog_20 rfl ?_
    refine v_iconstE (-1 : Int32) dX9_hedgehog_21 (by decide) ?_
    replace h := p_bind_elim h
    obtain ⟨_, q_6, h⟩ := h
    have q_6 := p_ob_spec q_6
    replace h := p_bind_elim h
    obtain ⟨r_4, q_5, h⟩ := h
    refine v_cVr (t_X9_refuse q_5) cal_X9_refuse ml_X9_99 sel_X9_refuse q_6 kk_9 dX9_hedgehog_22 (by omega) (by decide) (by decide) (Nat.le_of_ble_eq_true rfl) rfl ?_
    cases h
    exact v_iret dX9_hedgehog_25 rfl (by decide) (by decide) (by rw [← hQ]; exact ⟨rfl, rfl, rfl, rfl, rfl⟩)
  unfold f_X9_hedgehog at h
  refine v_sub [(0, .ref (B + p0)), (1, .int p1), (2, .int p2)] ⟨rfl, rfl, rfl, trivial⟩ ?_
  refine v_iload_n dX9_hedgehog_0 rfl ?_
  refine v_i2l dX9_hedgehog_1 ?_
  refine v_bipush (9 : Int32) dX9_hedgehog_2 (by decide) ?_
  replace h := p_bind_elim h
  obtain ⟨r_1, q_2, h⟩ := h
  refine v_cSr (t_X9_isUpTo q_2) cal_X9_isUpTo ml_X9_95 sta_X9_isUpTo dX9_hedgehog_4 (by omega) (by decide) (by decide) (Nat.le_of_ble_eq_true rfl) rfl ?_
  refine v_if_eq 20 dX9_hedgehog_7 (by decide) (fun c_3 => ?_) (fun c_3 => ?_)
  · rw [if_pos c_3] at h
    refine v_sub [(0, .ref (B + p0))] ⟨rfl, trivial⟩ ?_
    exact j20 _ _ h
  · rw [if_neg c_3] at h
    refine v_iload_n dX9_hedgehog_10 rfl ?_
    refine v_i2l dX9_hedgehog_11 ?_
    refine v_bipush (9 : Int32) dX9_hedgehog_12 (by decide) ?_
    replace h := p_bind_elim h
    obtain ⟨r_7, q_8, h⟩ := h
    refine v_cSr (t_X9_isUpTo q_8) cal_X9_isUpTo ml_X9_95 sta_X9_isUpTo dX9_hedgehog_14 (by omega) (by decide) (by decide) (Nat.le_of_ble_eq_true rfl) rfl ?_
    refine v_if_ne 26 dX9_hedgehog_17 (by decide) (fun c_9 => ?_) (fun c_9 => ?_)
    · rw [if_neg c_9] at h
      refine v_aload_n dX9_hedgehog_26 rfl ?_
      replace h := p_bind_elim h
      obtain ⟨_, q_10, h⟩ := h
      have q_10 := p_ob_spec q_10
      replace h := p_bind_elim h
      obtain ⟨a_11, q_12, h⟩ := h
      refine v_getR q_12 rfl fl_X9_12 dX9_hedgehog_27 q_10 ?_
      replace h := p_bind_elim h
      obtain ⟨_, q_13, h⟩ := h
      have q_13 := p_ob_spec q_13
      refine v_getI rfl fl_X9_103 dX9_hedgehog_30 q_13 ?_
      refine v_bipush (8 : Int32) dX9_hedgehog_33 (by decide) ?_
      refine v_icmp_lt 45 dX9_hedgehog_35 (by decide) (fun c_14 => ?_) (fun c_14 => ?_)
      · rw [if_pos c_14] at h
        refine v_aload_n dX9_hedgehog_45 rfl ?_
        replace h := p_bind_elim h
        obtain ⟨a_15, q_16, h⟩ := h
        refine v_getR q_16 rfl fl_X9_23 dX9_hedgehog_46 q_10 ?_
        replace h := p_bind_elim h
        obtain ⟨_, q_19, h⟩ := h
        have q_19 := p_ob_spec q_19
        replace h := p_bind_elim h
        obtain ⟨r_17, q_18, h⟩ := h
        refine v_cVn (t_X4_clear q_18) cal_X4_clear ml_X9_106 sel_X4_clear q_19 kk_4 dX9_hedgehog_49 (by omega) (by decide) (by decide) (Nat.le_of_ble_eq_true rfl) rfl ?_
        refine v_aload_n dX9_hedgehog_52 rfl ?_
        refine v_aload_n dX9_hedgehog_53 rfl ?_
        replace h := p_bind_elim h
        obtain ⟨a_20, q_21, h⟩ := h
        refine v_getR q_21 rfl fl_X9_12 dX9_hedgehog_54 q_10 ?_
        refine v_iload_n dX9_hedgehog_57 rfl ?_
        refine v_iload_n dX9_hedgehog_58 rfl ?_
        refine v_iconstE (0 : Int32) dX9_hedgehog_59 (by decide) ?_
        replace h := p_bind_elim h
        obtain ⟨_, q_24, h⟩ := h
        have q_24 := p_ob_spec q_24
        replace h := p_bind_elim h
        obtain ⟨r_22, q_23, h⟩ := h
        refine v_cVr (t_X0_add q_23) cal_X0_add ml_X9_109 sel_X0_add q_24 kk_0 dX9_hedgehog_60 (by omega) (by decide) (by decide) (Nat.le_of_ble_eq_true rfl) rfl ?_
        replace h := p_bind_elim h
        obtain ⟨r_25, q_26, h⟩ := h
        refine v_cVr (t_X9_accept q_26) cal_X9_accept ml_X9_113 sel_X9_accept q_10 kk_9 dX9_hedgehog_63 (by omega) (by decide) (by decide) (Nat.le_of_ble_eq_true rfl) rfl ?_
        cases h
        exact v_iret dX9_hedgehog_66 rfl (by decide) (by decide) (by rw [← hQ]; exact ⟨rfl, rfl, rfl, rfl, rfl⟩)
      · rw [if_neg c_14] at h
        refine v_aload_n dX9_hedgehog_38 rfl ?_
        refine v_bipush (-5 : Int32) dX9_hedgehog_39 (by decide) ?_
        replace h := p_bind_elim h
        obtain ⟨r_27, q_28, h⟩ := h
        refine v_cVr (t_X9_refuse q_28) cal_X9_refuse ml_X9_99 sel_X9_refuse q_10 kk_9 dX9_hedgehog_41 (by omega) (by decide) (by decide) (Nat.le_of_ble_eq_true rfl) rfl ?_
        cases h
        exact v_iret dX9_hedgehog_44 rfl (by decide) (by decide) (by rw [← hQ]; exact ⟨rfl, rfl, rfl, rfl, rfl⟩)
    · rw [if_pos c_9] at h
      refine v_sub [(0, .ref (B + p0))] ⟨rfl, trivial⟩ ?_
      exact j20 _ _ h

def f_X0_has (S : v_S) (I : v_I) (p0 : Nat) (p1 : Int64) : Option (Int32) :=
if (lg_cmp p1 (0 : Int64)) < (0 : Int32) then (
some ((0 : Int32)))
else (
(p_ob S 0 p0).bind fun _ =>
if (0 : Int32) ≤ (lg_cmp p1 ((I p0 0).toInt64)) then (
some ((0 : Int32)))
else (
if (0 : Int32) ≤ (lg_cmp p1 (8 : Int64)) then (
some ((0 : Int32)))
else (
some ((1 : Int32)))))
set_option maxHeartbeats 4000000 in
set_option maxRecDepth 100000 in
theorem t_X0_has {p0 : Nat} {p1 : Int64} {r : Int32} (h : f_X0_has S I p0 p1 = some r) : v_R l B D ac (v_EE B wa wb wt sb sL sx) yX0_has cX0_has 3 (some .boolean) 1 0 0 [.ref (B + p0), .long p1] S I J F (v_D (some (.int r)) S I J F) := by
  refine v_R.of (by decide) (Nat.le_of_ble_eq_true rfl) fun d hd => ?_
  generalize hQ : v_D (some (.int r)) S I J F = Q
  unfold f_X0_has at h
  refine v_sub [(0, .ref (B + p0)), (1, .long p1)] ⟨rfl, rfl, trivial⟩ ?_
  refine v_lload_n dX0_has_0 rfl ?_
  refine v_lconst (0 : Int64) dX0_has_1 (by decide) ?_
  refine v_lcmp dX0_has_2 ?_
  refine v_if_lt 28 dX0_has_3 (by decide) (fun c_1 => ?_) (fun c_1 => ?_)
  · rw [if_pos c_1] at h
    refine v_iconstE (0 : Int32) dX0_has_28 (by decide) ?_
    cases h
    exact v_zret dX0_has_29 rfl rfl (by decide) (by decide) (by rw [← hQ]; exact ⟨rfl, rfl, rfl, rfl, rfl⟩)
  · rw [if_neg c_1] at h
    refine v_lload_n dX0_has_6 rfl ?_
    refine v_aload_n dX0_has_7 rfl ?_
    replace h := p_bind_elim h
    obtain ⟨_, q_2, h⟩ := h
    have q_2 := p_ob_spec q_2
    refine v_getI rfl fl_X0_9 dX0_has_8 q_2 ?_
    refine v_i2l dX0_has_11 ?_
    refine v_lcmp dX0_has_12 ?_
    refine v_if_ge 28 dX0_has_13 (by decide) (fun c_3 => ?_) (fun c_3 => ?_)
    · rw [if_pos c_3] at h
      refine v_iconstE (0 : Int32) dX0_has_28 (by decide) ?_
      cases h
      exact v_zret dX0_has_29 rfl rfl (by decide) (by decide) (by rw [← hQ]; exact ⟨rfl, rfl, rfl, rfl, rfl⟩)
    · rw [if_neg c_3] at h
      refine v_lload_n dX0_has_16 rfl ?_
      refine v_ldc2 (8 : Int64) dX0_has_17 kn_X0_69 ?_
      refine v_lcmp dX0_has_20 ?_
      refine v_if_ge 28 dX0_has_21 (by decide) (fun c_4 => ?_) (fun c_4 => ?_)
      · rw [if_pos c_4] at h
        refine v_iconstE (0 : Int32) dX0_has_28 (by decide) ?_
        cases h
        exact v_zret dX0_has_29 rfl rfl (by decide) (by decide) (by rw [← hQ]; exact ⟨rfl, rfl, rfl, rfl, rfl⟩)
      · rw [if_neg c_4] at h
        refine v_iconstE (1 : Int32) dX0_has_24 (by decide) ?_
        refine v_goto 29 dX0_has_25 (by decide) ?_
        cases h
        exact v_zret dX0_has_29 rfl rfl (by decide) (by decide) (by rw [← hQ]; exact ⟨rfl, rfl, rfl, rfl, rfl⟩)

def f_X0_setWatching (S : v_S) (I : v_I) (F : v_F) (p0 : Nat) (p1 : Int32) (p2 : Int32) (p3 : Int32) : Option (Int32 × v_I) :=
(p_ob S 0 p0).bind fun _ =>
(f_X0_has S I p0 p1.toInt64).bind fun r_1 =>
if r_1 = (0 : Int32) then (
some ((-1 : Int32), I))
else (
(f_X0_has S I p0 p2.toInt64).bind fun r_5 =>
if r_5 = (0 : Int32) then (
some ((-1 : Int32), I))
else (
(F p0 3).bind fun a_8 =>
(p_ix S 20 a_8 p1).bind fun j_10 =>
p_let (((I a_8 j_10) >>> (p2 &&& 31)) &&& (1 : Int32)) fun x_12 =>
(F p0 3).bind fun a_14 =>
(F p0 3).bind fun a_16 =>
(p_ix S 20 a_16 p1).bind fun j_18 =>
(p_ix S 20 a_14 p1).bind fun j_20 =>
p_let (v_up I a_14 j_20 (((I a_16 j_18) &&& (((1 : Int32) <<< (p2 &&& 31)) ^^^ (-1 : Int32))) ||| (p3 <<< (p2 &&& 31)))) fun I_22 =>
some (x_12, I_22)))
set_option maxHeartbeats 4000000 in
set_option maxRecDepth 100000 in
theorem t_X0_setWatching {p0 : Nat} {p1 : Int32} {p2 : Int32} {p3 : Int32} {r : Int32 × v_I} (h : f_X0_setWatching S I F p0 p1 p2 p3 = some r) : v_R l B D ac (v_EE B wa wb wt sb sL sx) yX0_setWatching cX0_setWatching 5 (some .int) 2 0 0 [.ref (B + p0), .int p1, .int p2, .int p3] S I J F (v_D (some (.int r.1)) S r.2 J F) := by
  refine v_R.of (by decide) (Nat.le_of_ble_eq_true rfl) fun d hd => ?_
  generalize hQ : v_D (some (.int r.1)) S r.2 J F = Q
  unfold f_X0_setWatching at h
  refine v_sub [(0, .ref (B + p0)), (1, .int p1), (2, .int p2), (3, .int p3)] ⟨rfl, rfl, rfl, rfl, trivial⟩ ?_
  refine v_aload_n dX0_setWatching_0 rfl ?_
  refine v_iload_n dX0_setWatching_1 rfl ?_
  refine v_i2l dX0_setWatching_2 ?_
  replace h := p_bind_elim h
  obtain ⟨_, q_3, h⟩ := h
  have q_3 := p_ob_spec q_3
  replace h := p_bind_elim h
  obtain ⟨r_1, q_2, h⟩ := h
  refine v_cVr (t_X0_has q_2) cal_X0_has ml_X0_78 sel_X0_has q_3 kk_0 dX0_setWatching_3 (by omega) (by decide) (by decide) (Nat.le_of_ble_eq_true rfl) rfl ?_
  refine v_if_eq 18 dX0_setWatching_6 (by decide) (fun c_4 => ?_) (fun c_4 => ?_)
  · rw [if_pos c_4] at h
    refine v_iconstE (-1 : Int32) dX0_setWatching_18 (by decide) ?_
    cases h
    exact v_iret dX0_setWatching_19 rfl (by decide) (by decide) (by rw [← hQ]; exact ⟨rfl, rfl, rfl, rfl, rfl⟩)
  · rw [if_neg c_4] at h
    refine v_aload_n dX0_setWatching_9 rfl ?_
    refine v_iload_n dX0_setWatching_10 rfl ?_
    refine v_i2l dX0_setWatching_11 ?_
    replace h := p_bind_elim h
    obtain ⟨r_5, q_6, h⟩ := h
    refine v_cVr (t_X0_has q_6) cal_X0_has ml_X0_78 sel_X0_has q_3 kk_0 dX0_setWatching_12 (by omega) (by decide) (by decide) (Nat.le_of_ble_eq_true rfl) rfl ?_
    refine v_if_ne 20 dX0_setWatching_15 (by decide) (fun c_7 => ?_) (fun c_7 => ?_)
    · rw [if_neg c_7] at h
      refine v_aload_n dX0_setWatching_20 rfl ?_
      replace h := p_bind_elim h
      obtain ⟨a_8, q_9, h⟩ := h
      refine v_getR q_9 rfl fl_X0_26 dX0_setWatching_21 q_3 ?_
      refine v_iload_n dX0_setWatching_24 rfl ?_
      replace h := p_bind_elim h
      obtain ⟨j_10, q_11, h⟩ := h
      refine v_ialdP dX0_setWatching_25 q_11 ?_
      refine v_iload_n dX0_setWatching_26 rfl ?_
      refine v_ishr dX0_setWatching_27 ?_
      refine v_iconstE (1 : Int32) dX0_setWatching_28 (by decide) ?_
      refine v_iand dX0_setWatching_29 ?_
      replace h := p_let_elim h
      obtain ⟨x_12, h_13, h⟩ := h
      rw [← h_13]
      refine v_istore dX0_setWatching_30 (by decide) ?_
      refine v_sub [(0, .ref (B + p0)), (1, .int p1), (2, .int p2), (3, .int p3), (4, .int x_12)] ⟨rfl, rfl, rfl, rfl, rfl, trivial⟩ ?_
      refine v_aload_n dX0_setWatching_32 rfl ?_
      replace h := p_bind_elim h
      obtain ⟨a_14, q_15, h⟩ := h
      refine v_getR q_15 rfl fl_X0_26 dX0_setWatching_33 q_3 ?_
      refine v_iload_n dX0_setWatching_36 rfl ?_
      refine v_aload_n dX0_setWatching_37 rfl ?_
      replace h := p_bind_elim h
      obtain ⟨a_16, q_17, h⟩ := h
      refine v_getR q_17 rfl fl_X0_26 dX0_setWatching_38 q_3 ?_
      refine v_iload_n dX0_setWatching_41 rfl ?_
      replace h := p_bind_elim h
      obtain ⟨j_18, q_19, h⟩ := h
      refine v_ialdP dX0_setWatching_42 q_19 ?_
      refine v_iconstE (1 : Int32) dX0_setWatching_43 (by decide) ?_
      refine v_iload_n dX0_setWatching_44 rfl ?_
      refine v_ishl dX0_setWatching_45 ?_
      refine v_iconstE (-1 : Int32) dX0_setWatching_46 (by decide) ?_
      refine v_ixor dX0_setWatching_47 ?_
      refine v_iand dX0_setWatching_48 ?_
      refine v_iload_n dX0_setWatching_49 rfl ?_
      refine v_iload_n dX0_setWatching_50 rfl ?_
      refine v_ishl dX0_setWatching_51 ?_
      refine v_ior dX0_setWatching_52 ?_
      replace h := p_bind_elim h
      obtain ⟨j_20, q_21, h⟩ := h
      refine v_iastP dX0_setWatching_53 q_21 ?_
      replace h := p_let_elim h
      obtain ⟨I_22, h_23, h⟩ := h
      rw [← h_23]
      refine v_iload dX0_setWatching_54 rfl ?_
      cases h
      exact v_iret dX0_setWatching_56 rfl (by decide) (by decide) (by rw [← hQ]; exact ⟨rfl, rfl, rfl, rfl, rfl⟩)
    · rw [if_pos c_7] at h
      refine v_iconstE (-1 : Int32) dX0_setWatching_18 (by decide) ?_
      cases h
      exact v_iret dX0_setWatching_19 rfl (by decide) (by decide) (by rw [← hQ]; exact ⟨rfl, rfl, rfl, rfl, rfl⟩)

def f_X9_watch_J14 (S : v_S) (F : v_F) (I : v_I) (y0 : Nat) : Option (Int32 × v_I) :=
(p_ob S 9 y0).bind fun _ =>
(f_X9_refuse S I F y0 (-1 : Int32)).bind fun r_4 =>
some (r_4.1, r_4.2)
def f_X9_watch_J44 (S : v_S) (F : v_F) (I : v_I) (y0 : Nat) : Option (Int32 × v_I) :=
(p_ob S 9 y0).bind fun _ =>
(f_X9_refuse S I F y0 (-2 : Int32)).bind fun r_15 =>
some (r_15.1, r_15.2)
def f_X9_watch (S : v_S) (I : v_I) (F : v_F) (p0 : Nat) (p1 : Int32) (p2 : Int32) (p3 : Int32) : Option (Int32 × v_I) :=
(f_X9_isUpTo p3.toInt64 (1 : Int32)).bind fun r_1 =>
if r_1 = (0 : Int32) then (
f_X9_watch_J14 S F I p0)
else (
if p1 = p2 then (
f_X9_watch_J14 S F I p0)
else (
(p_ob S 9 p0).bind fun _ =>
(F p0 0).bind fun a_9 =>
(p_ob S 0 a_9).bind fun _ =>
(f_X0_has S I a_9 p1.toInt64).bind fun r_11 =>
if r_11 = (0 : Int32) then (
f_X9_watch_J44 S F I p0)
else (
(F p0 0).bind fun a_18 =>
(p_ob S 0 a_18).bind fun _ =>
(f_X0_has S I a_18 p2.toInt64).bind fun r_20 =>
if r_20 = (0 : Int32) then (
f_X9_watch_J44 S F I p0)
else (
(F p0 0).bind fun a_24 =>
(p_ob S 0 a_24).bind fun _ =>
(f_X0_setWatching S I F a_24 p1 p2 p3).bind fun r_26 =>
(f_X9_accept S r_26.2 p0 r_26.1).bind fun r_29 =>
some (r_29.1, r_29.2)))))
set_option maxHeartbeats 4000000 in
set_option maxRecDepth 100000 in
theorem t_X9_watch {p0 : Nat} {p1 : Int32} {p2 : Int32} {p3 : Int32} {r : Int32 × v_I} (h : f_X9_watch S I F p0 p1 p2 p3 = some r) : v_R l B D ac (v_EE B wa wb wt sb sL sx) yX9_watch cX9_watch 4 (some .int) 3 0 0 [.ref (B + p0), .int p1, .int p2, .int p3] S I J F (v_D (some (.int r.1)) S r.2 J F) := by
  refine v_R.of (by decide) (Nat.le_of_ble_eq_true rfl) fun d hd => ?_
  generalize hQ : v_D (some (.int r.1)) S r.2 J F = Q
  have j14 : ∀ (I : v_I) (y0 : Nat), f_X9_watch_J14 S F I y0 = some r → V l B D ac (v_EE B wa wb wt sb sL sx) yX9_watch cX9_watch 4 (some .int) d 0 0 0 0 S I J F 14 [(0, .ref (B + y0))] [] Q := by
    intro I y0 h
    unfold f_X9_watch_J14 at h
    refine v_aload_n dX9_watch_14 rfl ?_
    refine v_iconstE (-1 : Int32) dX9_watch_15 (by decide) ?_
    replace h := p_bind_elim h
    obtain ⟨_, q_6, h⟩ := h
    have q_6 := p_ob_spec q_6
    replace h := p_bind_elim h
    obtain ⟨r_4, q_5, h⟩ := h
    refine v_cVr (t_X9_refuse q_5) cal_X9_refuse ml_X9_99 sel_X9_refuse q_6 kk_9 dX9_watch_16 (by omega) (by decide) (by decide) (Nat.le_of_ble_eq_true rfl) rfl ?_
    cases h
    exact v_iret dX9_watch_19 rfl (by decide) (by decide) (by rw [← hQ]; exact ⟨rfl, rfl, rfl, rfl, rfl⟩)
  have j44 : ∀ (I : v_I) (y0 : Nat), f_X9_watch_J44 S F I y0 = some r → V l B D ac (v_EE B wa wb wt sb sL sx) yX9_watch cX9_watch 4 (some .int) d 0 0 0 0 S I J F 44 [(0, .ref (B + y0))] [] Q := by
    intro I y0 h
    unfold f_X9_watch_J44 at h
    refine v_aload_n dX9_watch_44 rfl ?_
    refine v_bipush (-2 : Int32) dX9_watch_45 (by decide) ?_
    replace h := p_bind_elim h
    obtain ⟨_, q_17, h⟩ := h
    have q_17 := p_ob_spec q_17
    replace h := p_bind_elim h
    obtain ⟨r_15, q_16, h⟩ := h
    refine v_cVr (t_X9_refuse q_16) cal_X9_refuse ml_X9_99 sel_X9_refuse q_17 kk_9 dX9_watch_47 (by omega) (by decide) (by decide) (Nat.le_of_ble_eq_true rfl) rfl ?_
    cases h
    exact v_iret dX9_watch_50 rfl (by decide) (by decide) (by rw [← hQ]; exact ⟨rfl, rfl, rfl, rfl, rfl⟩)
  unfold f_X9_watch at h
  refine v_sub [(0, .ref (B + p0)), (1, .int p1), (2, .int p2), (3, .int p3)] ⟨rfl, rfl, rfl, rfl, trivial⟩ ?_
  refine v_iload_n dX9_watch_0 rfl ?_
  refine v_i2l dX9_watch_1 ?_
  refine v_iconstE (1 : Int32) dX9_watch_2 (by decide) ?_
  replace h := p_bind_elim h
  obtain ⟨r_1, q_2, h⟩ := h
  refine v_cSr (t_X9_isUpTo q_2) cal_X9_isUpTo ml_X9_95 sta_X9_isUpTo dX9_watch_3 (by omega) (by decide) (by decide) (Nat.le_of_ble_eq_true rfl) rfl ?_
  refine v_if_eq 14 dX9_watch_6 (by decide) (fun c_3 => ?_) (fun c_3 => ?_)
  · rw [if_pos c_3] at h
    refine v_sub [(0, .ref (B + p0))] ⟨rfl, trivial⟩ ?_
    exact j14 _ _ h
  · rw [if_neg c_3] at h
    refine v_iload_n dX9_watch_9 rfl ?_
    refine v_iload_n dX9_watch_10 rfl ?_
    refine v_icmp_ne 20 dX9_watch_11 (by decide) (fun c_7 => ?_) (fun c_7 => ?_)
    · rw [if_neg c_7] at h
      refine v_aload_n dX9_watch_20 rfl ?_
      replace h := p_bind_elim h
      obtain ⟨_, q_8, h⟩ := h
      have q_8 := p_ob_spec q_8
      replace h := p_bind_elim h
      obtain ⟨a_9, q_10, h⟩ := h
      refine v_getR q_10 rfl fl_X9_12 dX9_watch_21 q_8 ?_
      refine v_iload_n dX9_watch_24 rfl ?_
      refine v_i2l dX9_watch_25 ?_
      replace h := p_bind_elim h
      obtain ⟨_, q_13, h⟩ := h
      have q_13 := p_ob_spec q_13
      replace h := p_bind_elim h
      obtain ⟨r_11, q_12, h⟩ := h
      refine v_cVr (t_X0_has q_12) cal_X0_has ml_X9_116 sel_X0_has q_13 kk_0 dX9_watch_26 (by omega) (by decide) (by decide) (Nat.le_of_ble_eq_true rfl) rfl ?_
      refine v_if_eq 44 dX9_watch_29 (by decide) (fun c_14 => ?_) (fun c_14 => ?_)
      · rw [if_pos c_14] at h
        refine v_sub [(0, .ref (B + p0))] ⟨rfl, trivial⟩ ?_
        exact j44 _ _ h
      · rw [if_neg c_14] at h
        refine v_aload_n dX9_watch_32 rfl ?_
        replace h := p_bind_elim h
        obtain ⟨a_18, q_19, h⟩ := h
        refine v_getR q_19 rfl fl_X9_12 dX9_watch_33 q_8 ?_
        refine v_iload_n dX9_watch_36 rfl ?_
        refine v_i2l dX9_watch_37 ?_
        replace h := p_bind_elim h
        obtain ⟨_, q_22, h⟩ := h
        have q_22 := p_ob_spec q_22
        replace h := p_bind_elim h
        obtain ⟨r_20, q_21, h⟩ := h
        refine v_cVr (t_X0_has q_21) cal_X0_has ml_X9_116 sel_X0_has q_22 kk_0 dX9_watch_38 (by omega) (by decide) (by decide) (Nat.le_of_ble_eq_true rfl) rfl ?_
        refine v_if_ne 51 dX9_watch_41 (by decide) (fun c_23 => ?_) (fun c_23 => ?_)
        · rw [if_neg c_23] at h
          refine v_aload_n dX9_watch_51 rfl ?_
          refine v_aload_n dX9_watch_52 rfl ?_
          replace h := p_bind_elim h
          obtain ⟨a_24, q_25, h⟩ := h
          refine v_getR q_25 rfl fl_X9_12 dX9_watch_53 q_8 ?_
          refine v_iload_n dX9_watch_56 rfl ?_
          refine v_iload_n dX9_watch_57 rfl ?_
          refine v_iload_n dX9_watch_58 rfl ?_
          replace h := p_bind_elim h
          obtain ⟨_, q_28, h⟩ := h
          have q_28 := p_ob_spec q_28
          replace h := p_bind_elim h
          obtain ⟨r_26, q_27, h⟩ := h
          refine v_cVr (t_X0_setWatching q_27) cal_X0_setWatching ml_X9_120 sel_X0_setWatching q_28 kk_0 dX9_watch_59 (by omega) (by decide) (by decide) (Nat.le_of_ble_eq_true rfl) rfl ?_
          replace h := p_bind_elim h
          obtain ⟨r_29, q_30, h⟩ := h
          refine v_cVr (t_X9_accept q_30) cal_X9_accept ml_X9_113 sel_X9_accept q_8 kk_9 dX9_watch_62 (by omega) (by decide) (by decide) (Nat.le_of_ble_eq_true rfl) rfl ?_
          cases h
          exact v_iret dX9_watch_65 rfl (by decide) (by decide) (by rw [← hQ]; exact ⟨rfl, rfl, rfl, rfl, rfl⟩)
        · rw [if_pos c_23] at h
          refine v_sub [(0, .ref (B + p0))] ⟨rfl, trivial⟩ ?_
          exact j44 _ _ h
    · rw [if_pos c_7] at h
      refine v_sub [(0, .ref (B + p0))] ⟨rfl, trivial⟩ ?_
      exact j14 _ _ h

def f_X0_lawAt (S : v_S) (I : v_I) (F : v_F) (p0 : Nat) (p1 : Int32) : Option (Option Nat) :=
if p1 < (0 : Int32) then (
some (none))
else (
(p_ob S 0 p0).bind fun _ =>
if (I p0 10) ≤ p1 then (
some (none))
else (
if (6 : Int32) ≤ p1 then (
some (none))
else (
(F p0 11).bind fun a_5 =>
(p_ix S 24 a_5 p1).bind fun j_7 =>
p_let (F a_5 j_7) fun x_9 =>
some (x_9))))
set_option maxHeartbeats 4000000 in
set_option maxRecDepth 100000 in
theorem t_X0_lawAt {p0 : Nat} {p1 : Int32} {r : Option Nat} (h : f_X0_lawAt S I F p0 p1 = some r) : v_R l B D ac (v_EE B wa wb wt sb sL sx) yX0_lawAt cX0_lawAt 2 (some (.object "HedgeCouncil$Text")) 1 0 0 [.ref (B + p0), .int p1] S I J F (v_D (some (v_rf B r)) S I J F) := by
  refine v_R.of (by decide) (Nat.le_of_ble_eq_true rfl) fun d hd => ?_
  generalize hQ : v_D (some (v_rf B r)) S I J F = Q
  unfold f_X0_lawAt at h
  refine v_sub [(0, .ref (B + p0)), (1, .int p1)] ⟨rfl, rfl, trivial⟩ ?_
  refine v_iload_n dX0_lawAt_0 rfl ?_
  refine v_if_lt 27 dX0_lawAt_1 (by decide) (fun c_1 => ?_) (fun c_1 => ?_)
  · rw [if_pos c_1] at h
    refine v_null dX0_lawAt_27 ?_
    cases h
    exact v_aretQ (e := none) dX0_lawAt_28 rfl (Or.inl ⟨_, rfl⟩) (by decide) (by decide) (by rw [← hQ]; exact ⟨rfl, rfl, rfl, rfl, rfl⟩)
  · rw [if_neg c_1] at h
    refine v_iload_n dX0_lawAt_4 rfl ?_
    refine v_aload_n dX0_lawAt_5 rfl ?_
    replace h := p_bind_elim h
    obtain ⟨_, q_2, h⟩ := h
    have q_2 := p_ob_spec q_2
    refine v_getI rfl fl_X0_47 dX0_lawAt_6 q_2 ?_
    refine v_icmp_ge 27 dX0_lawAt_9 (by decide) (fun c_3 => ?_) (fun c_3 => ?_)
    · rw [if_pos c_3] at h
      refine v_null dX0_lawAt_27 ?_
      cases h
      exact v_aretQ (e := none) dX0_lawAt_28 rfl (Or.inl ⟨_, rfl⟩) (by decide) (by decide) (by rw [← hQ]; exact ⟨rfl, rfl, rfl, rfl, rfl⟩)
    · rw [if_neg c_3] at h
      refine v_iload_n dX0_lawAt_12 rfl ?_
      refine v_bipush (6 : Int32) dX0_lawAt_13 (by decide) ?_
      refine v_icmp_ge 27 dX0_lawAt_15 (by decide) (fun c_4 => ?_) (fun c_4 => ?_)
      · rw [if_pos c_4] at h
        refine v_null dX0_lawAt_27 ?_
        cases h
        exact v_aretQ (e := none) dX0_lawAt_28 rfl (Or.inl ⟨_, rfl⟩) (by decide) (by decide) (by rw [← hQ]; exact ⟨rfl, rfl, rfl, rfl, rfl⟩)
      · rw [if_neg c_4] at h
        refine v_aload_n dX0_lawAt_18 rfl ?_
        replace h := p_bind_elim h
        obtain ⟨a_5, q_6, h⟩ := h
        refine v_getR q_6 rfl fl_X0_52 dX0_lawAt_19 q_2 ?_
        refine v_iload_n dX0_lawAt_22 rfl ?_
        replace h := p_bind_elim h
        obtain ⟨j_7, q_8, h⟩ := h
        refine v_aaldP4 dX0_lawAt_23 q_8 ?_
        replace h := p_let_elim h
        obtain ⟨x_9, h_10, h⟩ := h
        rw [← h_10]
        refine v_goto 28 dX0_lawAt_24 (by decide) ?_
        cases h
        exact v_aretQ dX0_lawAt_28 rfl (Or.inl ⟨_, rfl⟩) (by decide) (by decide) (by rw [← hQ]; exact ⟨rfl, rfl, rfl, rfl, rfl⟩)

def f_X0_lawInForce (S : v_S) (I : v_I) (F : v_F) (p0 : Nat) : Option (Option Nat) :=
(p_ob S 0 p0).bind fun _ =>
(f_X0_lawAt S I F p0 (I p0 12)).bind fun r_2 =>
some (r_2)
set_option maxHeartbeats 4000000 in
set_option maxRecDepth 100000 in
theorem t_X0_lawInForce {p0 : Nat} {r : Option Nat} (h : f_X0_lawInForce S I F p0 = some r) : v_R l B D ac (v_EE B wa wb wt sb sL sx) yX0_lawInForce cX0_lawInForce 1 (some (.object "HedgeCouncil$Text")) 2 0 0 [.ref (B + p0)] S I J F (v_D (some (v_rf B r)) S I J F) := by
  refine v_R.of (by decide) (Nat.le_of_ble_eq_true rfl) fun d hd => ?_
  generalize hQ : v_D (some (v_rf B r)) S I J F = Q
  unfold f_X0_lawInForce at h
  refine v_sub [(0, .ref (B + p0))] ⟨rfl, trivial⟩ ?_
  refine v_aload_n dX0_lawInForce_0 rfl ?_
  refine v_aload_n dX0_lawInForce_1 rfl ?_
  replace h := p_bind_elim h
  obtain ⟨_, q_1, h⟩ := h
  have q_1 := p_ob_spec q_1
  refine v_getI rfl fl_X0_56 dX0_lawInForce_2 q_1 ?_
  replace h := p_bind_elim h
  obtain ⟨r_2, q_3, h⟩ := h
  refine v_cVr (t_X0_lawAt q_3) cal_X0_lawAt ml_X0_85 sel_X0_lawAt q_1 kk_0 dX0_lawInForce_5 (by omega) (by decide) (by decide) (Nat.le_of_ble_eq_true rfl) rfl ?_
  cases h
  exact v_aretQ dX0_lawInForce_8 rfl (Or.inl ⟨_, rfl⟩) (by decide) (by decide) (by rw [← hQ]; exact ⟨rfl, rfl, rfl, rfl, rfl⟩)

def f_J6_bitCount_0f7a4 (p0 : Int32) : Option (Int32) :=
p_let (p0 - (((p0.toUInt32 >>> ((1 : Int32).toUInt32 &&& Int32.toUInt32 31)).toInt32) &&& (1431655765 : Int32))) fun x_1 =>
p_let ((x_1 &&& (858993459 : Int32)) + (((x_1.toUInt32 >>> ((2 : Int32).toUInt32 &&& Int32.toUInt32 31)).toInt32) &&& (858993459 : Int32))) fun x_3 =>
p_let ((x_3 + ((x_3.toUInt32 >>> ((4 : Int32).toUInt32 &&& Int32.toUInt32 31)).toInt32)) &&& (252645135 : Int32)) fun x_5 =>
p_let (x_5 + ((x_5.toUInt32 >>> ((8 : Int32).toUInt32 &&& Int32.toUInt32 31)).toInt32)) fun x_7 =>
p_let (x_7 + ((x_7.toUInt32 >>> ((16 : Int32).toUInt32 &&& Int32.toUInt32 31)).toInt32)) fun x_9 =>
some (x_9 &&& (63 : Int32))
set_option maxHeartbeats 4000000 in
set_option maxRecDepth 100000 in
theorem t_J6_bitCount_0f7a4 {p0 : Int32} {r : Int32} (h : f_J6_bitCount_0f7a4 p0 = some r) : v_R l B D ac (v_EE B wa wb wt sb sL sx) yJ6_bitCount_0f7a4 cJ6_bitCount_0f7a4 1 (some .int) 1 0 0 [.int p0] S I J F (v_D (some (.int r)) S I J F) := by
  refine v_R.of (by decide) (Nat.le_of_ble_eq_true rfl) fun d hd => ?_
  generalize hQ : v_D (some (.int r)) S I J F = Q
  unfold f_J6_bitCount_0f7a4 at h
  refine v_sub [(0, .int p0)] ⟨rfl, trivial⟩ ?_
  refine v_iload_n dJ6_bitCount_0f7a4_0 rfl ?_
  refine v_iload_n dJ6_bitCount_0f7a4_1 rfl ?_
  refine v_iconstE (1 : Int32) dJ6_bitCount_0f7a4_2 (by decide) ?_
  refine v_iushr dJ6_bitCount_0f7a4_3 ?_
  refine v_ldcw (1431655765 : Int32) dJ6_bitCount_0f7a4_4 kn_J6_265 ?_
  refine v_iand dJ6_bitCount_0f7a4_7 ?_
  refine v_isub dJ6_bitCount_0f7a4_8 ?_
  replace h := p_let_elim h
  obtain ⟨x_1, h_2, h⟩ := h
  rw [← h_2]
  refine v_istore_n dJ6_bitCount_0f7a4_9 (by decide) ?_
  refine v_sub [(0, .int x_1)] ⟨rfl, trivial⟩ ?_
  refine v_iload_n dJ6_bitCount_0f7a4_10 rfl ?_
  refine v_ldcw (858993459 : Int32) dJ6_bitCount_0f7a4_11 kn_J6_266 ?_
  refine v_iand dJ6_bitCount_0f7a4_14 ?_
  refine v_iload_n dJ6_bitCount_0f7a4_15 rfl ?_
  refine v_iconstE (2 : Int32) dJ6_bitCount_0f7a4_16 (by decide) ?_
  refine v_iushr dJ6_bitCount_0f7a4_17 ?_
  refine v_ldcw (858993459 : Int32) dJ6_bitCount_0f7a4_18 kn_J6_266 ?_
  refine v_iand dJ6_bitCount_0f7a4_21 ?_
  refine v_iadd dJ6_bitCount_0f7a4_22 ?_
  replace h := p_let_elim h
  obtain ⟨x_3, h_4, h⟩ := h
  rw [← h_4]
  refine v_istore_n dJ6_bitCount_0f7a4_23 (by decide) ?_
  refine v_sub [(0, .int x_3)] ⟨rfl, trivial⟩ ?_
  refine v_iload_n dJ6_bitCount_0f7a4_24 rfl ?_
  refine v_iload_n dJ6_bitCount_0f7a4_25 rfl ?_
  refine v_iconstE (4 : Int32) dJ6_bitCount_0f7a4_26 (by decide) ?_
  refine v_iushr dJ6_bitCount_0f7a4_27 ?_
  refine v_iadd dJ6_bitCount_0f7a4_28 ?_
  refine v_ldcw (252645135 : Int32) dJ6_bitCount_0f7a4_29 kn_J6_267 ?_
  refine v_iand dJ6_bitCount_0f7a4_32 ?_
  replace h := p_let_elim h
  obtain ⟨x_5, h_6, h⟩ := h
  rw [← h_6]
  refine v_istore_n dJ6_bitCount_0f7a4_33 (by decide) ?_
  refine v_sub [(0, .int x_5)] ⟨rfl, trivial⟩ ?_
  refine v_iload_n dJ6_bitCount_0f7a4_34 rfl ?_
  refine v_iload_n dJ6_bitCount_0f7a4_35 rfl ?_
  refine v_bipush (8 : Int32) dJ6_bitCount_0f7a4_36 (by decide) ?_
  refine v_iushr dJ6_bitCount_0f7a4_38 ?_
  refine v_iadd dJ6_bitCount_0f7a4_39 ?_
  replace h := p_let_elim h
  obtain ⟨x_7, h_8, h⟩ := h
  rw [← h_8]
  refine v_istore_n dJ6_bitCount_0f7a4_40 (by decide) ?_
  refine v_sub [(0, .int x_7)] ⟨rfl, trivial⟩ ?_
  refine v_iload_n dJ6_bitCount_0f7a4_41 rfl ?_
  refine v_iload_n dJ6_bitCount_0f7a4_42 rfl ?_
  refine v_bipush (16 : Int32) dJ6_bitCount_0f7a4_43 (by decide) ?_
  refine v_iushr dJ6_bitCount_0f7a4_45 ?_
  refine v_iadd dJ6_bitCount_0f7a4_46 ?_
  replace h := p_let_elim h
  obtain ⟨x_9, h_10, h⟩ := h
  rw [← h_10]
  refine v_istore_n dJ6_bitCount_0f7a4_47 (by decide) ?_
  refine v_sub [(0, .int x_9)] ⟨rfl, trivial⟩ ?_
  refine v_iload_n dJ6_bitCount_0f7a4_48 rfl ?_
  refine v_bipush (63 : Int32) dJ6_bitCount_0f7a4_49 (by decide) ?_
  refine v_iand dJ6_bitCount_0f7a4_51 ?_
  cases h
  exact v_iret dJ6_bitCount_0f7a4_52 rfl (by decide) (by decide) (by rw [← hQ]; exact ⟨rfl, rfl, rfl, rfl, rfl⟩)

def f_X3_openMany (S : v_S) (I : v_I) (p0 : Nat) : Option (Int32) :=
(p_ob S 3 p0).bind fun _ =>
(f_J6_bitCount_0f7a4 (I p0 0)).bind fun r_2 =>
some (r_2)
set_option maxHeartbeats 4000000 in
set_option maxRecDepth 100000 in
theorem t_X3_openMany {p0 : Nat} {r : Int32} (h : f_X3_openMany S I p0 = some r) : v_R l B D ac (v_EE B wa wb wt sb sL sx) yX3_openMany cX3_openMany 1 (some .int) 2 0 0 [.ref (B + p0)] S I J F (v_D (some (.int r)) S I J F) := by
  refine v_R.of (by decide) (Nat.le_of_ble_eq_true rfl) fun d hd => ?_
  generalize hQ : v_D (some (.int r)) S I J F = Q
  unfold f_X3_openMany at h
  refine v_sub [(0, .ref (B + p0))] ⟨rfl, trivial⟩ ?_
  refine v_aload_n dX3_openMany_0 rfl ?_
  replace h := p_bind_elim h
  obtain ⟨_, q_1, h⟩ := h
  have q_1 := p_ob_spec q_1
  refine v_getI rfl fl_X3_9 dX3_openMany_1 q_1 ?_
  replace h := p_bind_elim h
  obtain ⟨r_2, q_3, h⟩ := h
  refine v_cSr (t_J6_bitCount_0f7a4 q_3) cal_J6_bitCount_0f7a4 ml_X3_31 sta_J6_bitCount_0f7a4 dX3_openMany_4 (by omega) (by decide) (by decide) (Nat.le_of_ble_eq_true rfl) rfl ?_
  cases h
  exact v_iret dX3_openMany_7 rfl (by decide) (by decide) (by rw [← hQ]; exact ⟨rfl, rfl, rfl, rfl, rfl⟩)

def f_X1_hear (S : v_S) (I : v_I) (F : v_F) (p0 : Nat) (p1 : Nat) (p2 : Nat) (p3 : Int32) : Option (v_I) :=
(p_ob S 1 p0).bind fun _ =>
(F p0 0).bind fun a_2 =>
(p_ob S 7 a_2).bind fun _ =>
(F a_2 0).bind fun a_5 =>
(p_ix S 20 a_5 (0 : Int32)).bind fun j_7 =>
p_let (v_up I a_5 j_7 p3) fun I_9 =>
(p_ob S 3 p2).bind fun _ =>
(F p2 2).bind fun a_12 =>
(p_ix S 20 a_12 p3).bind fun j_14 =>
(p_ix S 20 a_5 (1 : Int32)).bind fun j_16 =>
p_let (v_up I_9 a_5 j_16 (I_9 a_12 j_14)) fun I_18 =>
(p_ob S 0 p1).bind fun _ =>
(F p1 2).bind fun a_21 =>
(p_ix S 20 a_21 p3).bind fun j_23 =>
(p_ix S 20 a_5 (2 : Int32)).bind fun j_25 =>
p_let (v_up I_18 a_5 j_25 (I_18 a_21 j_23)) fun I_27 =>
(F p1 3).bind fun a_29 =>
(p_ix S 20 a_29 p3).bind fun j_31 =>
(f_J6_bitCount_0f7a4 ((I_27 a_29 j_31) &&& (I_27 p2 0))).bind fun r_33 =>
(p_ix S 20 a_5 (3 : Int32)).bind fun j_35 =>
p_let (v_up I_27 a_5 j_35 r_33) fun I_37 =>
(f_X3_openMany S I_37 p2).bind fun r_39 =>
(p_ix S 20 a_5 (4 : Int32)).bind fun j_41 =>
p_let (v_up I_37 a_5 j_41 r_39) fun I_43 =>
(F p2 3).bind fun a_45 =>
(p_ix S 20 a_45 p3).bind fun j_47 =>
(p_ix S 20 a_5 (5 : Int32)).bind fun j_49 =>
p_let (v_up I_43 a_5 j_49 (I_43 a_45 j_47)) fun I_51 =>
(p_ix S 20 a_5 (6 : Int32)).bind fun j_53 =>
p_let (v_up I_51 a_5 j_53 (I_51 p2 1)) fun I_55 =>
(p_ix S 20 a_5 (7 : Int32)).bind fun j_57 =>
p_let (v_up I_55 a_5 j_57 (I_55 p1 5)) fun I_59 =>
(p_ix S 20 a_5 (8 : Int32)).bind fun j_61 =>
p_let (v_up I_59 a_5 j_61 (I_59 p1 6)) fun I_63 =>
some (I_63)
set_option maxHeartbeats 4000000 in
set_option maxRecDepth 100000 in
theorem t_X1_hear {p0 : Nat} {p1 : Nat} {p2 : Nat} {p3 : Int32} {r : v_I} (h : f_X1_hear S I F p0 p1 p2 p3 = some r) : v_R l B D ac (v_EE B wa wb wt sb sL sx) yX1_hear cX1_hear 5 none 3 0 0 [.ref (B + p0), .ref (B + p1), .ref (B + p2), .int p3] S I J F (v_D none S r J F) := by
  refine v_R.of (by decide) (Nat.le_of_ble_eq_true rfl) fun d hd => ?_
  generalize hQ : v_D none S r J F = Q
  unfold f_X1_hear at h
  refine v_sub [(0, .ref (B + p0)), (1, .ref (B + p1)), (2, .ref (B + p2)), (3, .int p3)] ⟨rfl, rfl, rfl, rfl, trivial⟩ ?_
  refine v_aload_n dX1_hear_0 rfl ?_
  replace h := p_bind_elim h
  obtain ⟨_, q_1, h⟩ := h
  have q_1 := p_ob_spec q_1
  replace h := p_bind_elim h
  obtain ⟨a_2, q_3, h⟩ := h
  refine v_getR q_3 rfl fl_X1_12 dX1_hear_1 q_1 ?_
  replace h := p_bind_elim h
  obtain ⟨_, q_4, h⟩ := h
  have q_4 := p_ob_spec q_4
  replace h := p_bind_elim h
  obtain ⟨a_5, q_6, h⟩ := h
  refine v_getR q_6 rfl fl_X1_97 dX1_hear_4 q_4 ?_
  refine v_astore dX1_hear_7 (by decide) ?_
  refine v_sub [(1, .ref (B + p1)), (2, .ref (B + p2)), (3, .int p3), (4, .ref (B + a_5))] ⟨rfl, rfl, rfl, rfl, trivial⟩ ?_
  refine v_aload dX1_hear_9 rfl ?_
  refine v_iconstE (0 : Int32) dX1_hear_11 (by decide) ?_
  refine v_iload_n dX1_hear_12 rfl ?_
  replace h := p_bind_elim h
  obtain ⟨j_7, q_8, h⟩ := h
  refine v_iastP dX1_hear_13 q_8 ?_
  replace h := p_let_elim h
  obtain ⟨I_9, h_10, h⟩ := h
  rw [← h_10]
  refine v_aload dX1_hear_14 rfl ?_
  refine v_iconstE (1 : Int32) dX1_hear_16 (by decide) ?_
  refine v_aload_n dX1_hear_17 rfl ?_
  replace h := p_bind_elim h
  obtain ⟨_, q_11, h⟩ := h
  have q_11 := p_ob_spec q_11
  replace h := p_bind_elim h
  obtain ⟨a_12, q_13, h⟩ := h
  refine v_getR q_13 rfl fl_X1_45 dX1_hear_18 q_11 ?_
  refine v_iload_n dX1_hear_21 rfl ?_
  replace h := p_bind_elim h
  obtain ⟨j_14, q_15, h⟩ := h
  refine v_ialdP dX1_hear_22 q_15 ?_
  replace h := p_bind_elim h
  obtain ⟨j_16, q_17, h⟩ := h
  refine v_iastP dX1_hear_23 q_17 ?_
  replace h := p_let_elim h
  obtain ⟨I_18, h_19, h⟩ := h
  rw [← h_19]
  refine v_aload dX1_hear_24 rfl ?_
  refine v_iconstE (2 : Int32) dX1_hear_26 (by decide) ?_
  refine v_aload_n dX1_hear_27 rfl ?_
  replace h := p_bind_elim h
  obtain ⟨_, q_20, h⟩ := h
  have q_20 := p_ob_spec q_20
  replace h := p_bind_elim h
  obtain ⟨a_21, q_22, h⟩ := h
  refine v_getR q_22 rfl fl_X1_111 dX1_hear_28 q_20 ?_
  refine v_iload_n dX1_hear_31 rfl ?_
  replace h := p_bind_elim h
  obtain ⟨j_23, q_24, h⟩ := h
  refine v_ialdP dX1_hear_32 q_24 ?_
  replace h := p_bind_elim h
  obtain ⟨j_25, q_26, h⟩ := h
  refine v_iastP dX1_hear_33 q_26 ?_
  replace h := p_let_elim h
  obtain ⟨I_27, h_28, h⟩ := h
  rw [← h_28]
  refine v_aload dX1_hear_34 rfl ?_
  refine v_iconstE (3 : Int32) dX1_hear_36 (by decide) ?_
  refine v_aload_n dX1_hear_37 rfl ?_
  replace h := p_bind_elim h
  obtain ⟨a_29, q_30, h⟩ := h
  refine v_getR q_30 rfl fl_X1_114 dX1_hear_38 q_20 ?_
  refine v_iload_n dX1_hear_41 rfl ?_
  replace h := p_bind_elim h
  obtain ⟨j_31, q_32, h⟩ := h
  refine v_ialdP dX1_hear_42 q_32 ?_
  refine v_aload_n dX1_hear_43 rfl ?_
  refine v_getI rfl fl_X1_56 dX1_hear_44 q_11 ?_
  refine v_iand dX1_hear_47 ?_
  replace h := p_bind_elim h
  obtain ⟨r_33, q_34, h⟩ := h
  refine v_cSr (t_J6_bitCount_0f7a4 q_34) cal_J6_bitCount_0f7a4 ml_X1_117 sta_J6_bitCount_0f7a4 dX1_hear_48 (by omega) (by decide) (by decide) (Nat.le_of_ble_eq_true rfl) rfl ?_
  replace h := p_bind_elim h
  obtain ⟨j_35, q_36, h⟩ := h
  refine v_iastP dX1_hear_51 q_36 ?_
  replace h := p_let_elim h
  obtain ⟨I_37, h_38, h⟩ := h
  rw [← h_38]
  refine v_aload dX1_hear_52 rfl ?_
  refine v_iconstE (4 : Int32) dX1_hear_54 (by decide) ?_
  refine v_aload_n dX1_hear_55 rfl ?_
  replace h := p_bind_elim h
  obtain ⟨r_39, q_40, h⟩ := h
  refine v_cVr (t_X3_openMany q_40) cal_X3_openMany ml_X1_72 sel_X3_openMany q_11 kk_3 dX1_hear_56 (by omega) (by decide) (by decide) (Nat.le_of_ble_eq_true rfl) rfl ?_
  replace h := p_bind_elim h
  obtain ⟨j_41, q_42, h⟩ := h
  refine v_iastP dX1_hear_59 q_42 ?_
  replace h := p_let_elim h
  obtain ⟨I_43, h_44, h⟩ := h
  rw [← h_44]
  refine v_aload dX1_hear_60 rfl ?_
  refine v_iconstE (5 : Int32) dX1_hear_62 (by decide) ?_
  refine v_aload_n dX1_hear_63 rfl ?_
  replace h := p_bind_elim h
  obtain ⟨a_45, q_46, h⟩ := h
  refine v_getR q_46 rfl fl_X1_100 dX1_hear_64 q_11 ?_
  refine v_iload_n dX1_hear_67 rfl ?_
  replace h := p_bind_elim h
  obtain ⟨j_47, q_48, h⟩ := h
  refine v_ialdP dX1_hear_68 q_48 ?_
  replace h := p_bind_elim h
  obtain ⟨j_49, q_50, h⟩ := h
  refine v_iastP dX1_hear_69 q_50 ?_
  replace h := p_let_elim h
  obtain ⟨I_51, h_52, h⟩ := h
  rw [← h_52]
  refine v_aload dX1_hear_70 rfl ?_
  refine v_bipush (6 : Int32) dX1_hear_72 (by decide) ?_
  refine v_aload_n dX1_hear_74 rfl ?_
  refine v_getI rfl fl_X1_108 dX1_hear_75 q_11 ?_
  replace h := p_bind_elim h
  obtain ⟨j_53, q_54, h⟩ := h
  refine v_iastP dX1_hear_78 q_54 ?_
  replace h := p_let_elim h
  obtain ⟨I_55, h_56, h⟩ := h
  rw [← h_56]
  refine v_aload dX1_hear_79 rfl ?_
  refine v_bipush (7 : Int32) dX1_hear_81 (by decide) ?_
  refine v_aload_n dX1_hear_83 rfl ?_
  refine v_getI rfl fl_X1_122 dX1_hear_84 q_20 ?_
  replace h := p_bind_elim h
  obtain ⟨j_57, q_58, h⟩ := h
  refine v_iastP dX1_hear_87 q_58 ?_
  replace h := p_let_elim h
  obtain ⟨I_59, h_60, h⟩ := h
  rw [← h_60]
  refine v_aload dX1_hear_88 rfl ?_
  refine v_bipush (8 : Int32) dX1_hear_90 (by decide) ?_
  refine v_aload_n dX1_hear_92 rfl ?_
  refine v_getI rfl fl_X1_125 dX1_hear_93 q_20 ?_
  replace h := p_bind_elim h
  obtain ⟨j_61, q_62, h⟩ := h
  refine v_iastP dX1_hear_96 q_62 ?_
  replace h := p_let_elim h
  obtain ⟨I_63, h_64, h⟩ := h
  rw [← h_64]
  cases h
  exact v_vret dX1_hear_97 rfl (by decide) (by decide) (by rw [← hQ]; exact ⟨rfl, rfl, rfl, rfl, rfl⟩)

def f_X3_copyFrom (S : v_S) (I : v_I) (F : v_F) (p0 : Nat) (p1 : Nat) : Option (v_I) :=
(p_ob S 3 p1).bind fun _ =>
(p_ob S 3 p0).bind fun _ =>
p_let (v_up I p0 0 (I p1 0)) fun I_3 =>
p_let (v_up I_3 p0 1 (I_3 p1 1)) fun I_5 =>
(F p1 2).bind fun a_7 =>
(F p0 2).bind fun a_9 =>
(p_cp S a_7 a_9 (0 : Int32) (0 : Int32) (8 : Int32)).bind fun _ =>
p_let (p_cpy I_5 a_7 a_9 (0 : Int32).toNatClampNeg (0 : Int32).toNatClampNeg (8 : Int32).toNatClampNeg) fun I_12 =>
(F p1 3).bind fun a_14 =>
(F p0 3).bind fun a_16 =>
(p_cp S a_14 a_16 (0 : Int32) (0 : Int32) (8 : Int32)).bind fun _ =>
p_let (p_cpy I_12 a_14 a_16 (0 : Int32).toNatClampNeg (0 : Int32).toNatClampNeg (8 : Int32).toNatClampNeg) fun I_19 =>
some (I_19)
set_option maxHeartbeats 4000000 in
set_option maxRecDepth 100000 in
theorem t_X3_copyFrom {p0 : Nat} {p1 : Nat} {r : v_I} (h : f_X3_copyFrom S I F p0 p1 = some r) : v_R l B D ac (v_EE B wa wb wt sb sL sx) yX3_copyFrom cX3_copyFrom 2 none 2 0 0 [.ref (B + p0), .ref (B + p1)] S I J F (v_D none S r J F) := by
  refine v_R.of (by decide) (Nat.le_of_ble_eq_true rfl) fun d hd => ?_
  generalize hQ : v_D none S r J F = Q
  unfold f_X3_copyFrom at h
  refine v_sub [(0, .ref (B + p0)), (1, .ref (B + p1))] ⟨rfl, rfl, trivial⟩ ?_
  refine v_aload_n dX3_copyFrom_0 rfl ?_
  refine v_aload_n dX3_copyFrom_1 rfl ?_
  replace h := p_bind_elim h
  obtain ⟨_, q_1, h⟩ := h
  have q_1 := p_ob_spec q_1
  refine v_getI rfl fl_X3_9 dX3_copyFrom_2 q_1 ?_
  replace h := p_bind_elim h
  obtain ⟨_, q_2, h⟩ := h
  have q_2 := p_ob_spec q_2
  refine v_putI rfl fl_X3_9 dX3_copyFrom_5 q_2 rfl rfl ?_
  replace h := p_let_elim h
  obtain ⟨I_3, h_4, h⟩ := h
  rw [← h_4]
  refine v_aload_n dX3_copyFrom_8 rfl ?_
  refine v_aload_n dX3_copyFrom_9 rfl ?_
  refine v_getI rfl fl_X3_15 dX3_copyFrom_10 q_1 ?_
  refine v_putI rfl fl_X3_15 dX3_copyFrom_13 q_2 rfl rfl ?_
  replace h := p_let_elim h
  obtain ⟨I_5, h_6, h⟩ := h
  rw [← h_6]
  refine v_aload_n dX3_copyFrom_16 rfl ?_
  replace h := p_bind_elim h
  obtain ⟨a_7, q_8, h⟩ := h
  refine v_getR q_8 rfl fl_X3_18 dX3_copyFrom_17 q_1 ?_
  refine v_iconstE (0 : Int32) dX3_copyFrom_20 (by decide) ?_
  refine v_aload_n dX3_copyFrom_21 rfl ?_
  replace h := p_bind_elim h
  obtain ⟨a_9, q_10, h⟩ := h
  refine v_getR q_10 rfl fl_X3_18 dX3_copyFrom_22 q_2 ?_
  refine v_iconstE (0 : Int32) dX3_copyFrom_25 (by decide) ?_
  refine v_bipush (8 : Int32) dX3_copyFrom_26 (by decide) ?_
  replace h := p_bind_elim h
  obtain ⟨_, q_11, h⟩ := h
  refine v_copy dX3_copyFrom_28 ml_X3_25 q_11 (by omega) (Nat.le_of_ble_eq_true rfl) ?_
  replace h := p_let_elim h
  obtain ⟨I_12, h_13, h⟩ := h
  rw [← h_13]
  refine v_aload_n dX3_copyFrom_31 rfl ?_
  replace h := p_bind_elim h
  obtain ⟨a_14, q_15, h⟩ := h
  refine v_getR q_15 rfl fl_X3_22 dX3_copyFrom_32 q_1 ?_
  refine v_iconstE (0 : Int32) dX3_copyFrom_35 (by decide) ?_
  refine v_aload_n dX3_copyFrom_36 rfl ?_
  replace h := p_bind_elim h
  obtain ⟨a_16, q_17, h⟩ := h
  refine v_getR q_17 rfl fl_X3_22 dX3_copyFrom_37 q_2 ?_
  refine v_iconstE (0 : Int32) dX3_copyFrom_40 (by decide) ?_
  refine v_bipush (8 : Int32) dX3_copyFrom_41 (by decide) ?_
  replace h := p_bind_elim h
  obtain ⟨_, q_18, h⟩ := h
  refine v_copy dX3_copyFrom_43 ml_X3_25 q_18 (by omega) (Nat.le_of_ble_eq_true rfl) ?_
  replace h := p_let_elim h
  obtain ⟨I_19, h_20, h⟩ := h
  rw [← h_20]
  cases h
  exact v_vret dX3_copyFrom_46 rfl (by decide) (by decide) (by rw [← hQ]; exact ⟨rfl, rfl, rfl, rfl, rfl⟩)

def f_X1_begin (S : v_S) (I : v_I) (F : v_F) (p0 : Nat) (p1 : Nat) (p2 : Int32) : Option (v_I) :=
(p_ob S 1 p0).bind fun _ =>
(F p0 1).bind fun a_2 =>
(p_ob S 0 p1).bind fun _ =>
(F p1 1).bind fun a_5 =>
(p_ob S 3 a_2).bind fun _ =>
(f_X3_copyFrom S I F a_2 a_5).bind fun r_7 =>
(F p0 1).bind fun a_10 =>
(p_ob S 3 a_10).bind fun _ =>
p_let (v_up r_7 a_10 0 p2) fun I_13 =>
some (I_13)
set_option maxHeartbeats 4000000 in
set_option maxRecDepth 100000 in
theorem t_X1_begin {p0 : Nat} {p1 : Nat} {p2 : Int32} {r : v_I} (h : f_X1_begin S I F p0 p1 p2 = some r) : v_R l B D ac (v_EE B wa wb wt sb sL sx) yX1_begin cX1_begin 3 none 3 0 0 [.ref (B + p0), .ref (B + p1), .int p2] S I J F (v_D none S r J F) := by
  refine v_R.of (by decide) (Nat.le_of_ble_eq_true rfl) fun d hd => ?_
  generalize hQ : v_D none S r J F = Q
  unfold f_X1_begin at h
  refine v_sub [(0, .ref (B + p0)), (1, .ref (B + p1)), (2, .int p2)] ⟨rfl, rfl, rfl, trivial⟩ ?_
  refine v_aload_n dX1_begin_0 rfl ?_
  replace h := p_bind_elim h
  obtain ⟨_, q_1, h⟩ := h
  have q_1 := p_ob_spec q_1
  replace h := p_bind_elim h
  obtain ⟨a_2, q_3, h⟩ := h
  refine v_getR q_3 rfl fl_X1_21 dX1_begin_1 q_1 ?_
  refine v_aload_n dX1_begin_4 rfl ?_
  replace h := p_bind_elim h
  obtain ⟨_, q_4, h⟩ := h
  have q_4 := p_ob_spec q_4
  replace h := p_bind_elim h
  obtain ⟨a_5, q_6, h⟩ := h
  refine v_getR q_6 rfl fl_X1_42 dX1_begin_5 q_4 ?_
  replace h := p_bind_elim h
  obtain ⟨_, q_9, h⟩ := h
  have q_9 := p_ob_spec q_9
  replace h := p_bind_elim h
  obtain ⟨r_7, q_8, h⟩ := h
  refine v_cVn (t_X3_copyFrom q_8) cal_X3_copyFrom ml_X1_154 sel_X3_copyFrom q_9 kk_3 dX1_begin_8 (by omega) (by decide) (by decide) (Nat.le_of_ble_eq_true rfl) rfl ?_
  refine v_aload_n dX1_begin_11 rfl ?_
  replace h := p_bind_elim h
  obtain ⟨a_10, q_11, h⟩ := h
  refine v_getR q_11 rfl fl_X1_21 dX1_begin_12 q_1 ?_
  refine v_iload_n dX1_begin_15 rfl ?_
  replace h := p_bind_elim h
  obtain ⟨_, q_12, h⟩ := h
  have q_12 := p_ob_spec q_12
  refine v_putI rfl fl_X1_56 dX1_begin_16 q_12 rfl rfl ?_
  replace h := p_let_elim h
  obtain ⟨I_13, h_14, h⟩ := h
  rw [← h_14]
  cases h
  exact v_vret dX1_begin_19 rfl (by decide) (by decide) (by rw [← hQ]; exact ⟨rfl, rfl, rfl, rfl, rfl⟩)

def f_X7_join_J152 (y5 : Int64) : Option (Int64) :=
if (0 : Int32) < (lg_cmp y5 (1000000000 : Int64)) then (
some ((-1000000000000000 : Int64)))
else (
if (0 : Int32) ≤ (lg_cmp y5 (-1000000000 : Int64)) then (
some (y5))
else (
some ((-1000000000000000 : Int64))))
def f_X7_join_J123 (z0 : Int64) : Option (Int64) :=
f_X7_join_J152 z0
def f_X7_join_J143 (z0 : Int64) : Option (Int64) :=
f_X7_join_J152 z0
def f_X7_join (p0 : Int32) (p1 : Int64) (p3 : Int64) : Option (Int64) :=
if p0 = (6 : Int32) then (
if (0 : Int32) ≤ (lg_cmp p1 p3) then (
some ((0 : Int64)))
else (
some ((1 : Int64))))
else if p0 = (7 : Int32) then (
if (lg_cmp p1 p3) ≤ (0 : Int32) then (
some ((0 : Int64)))
else (
some ((1 : Int64))))
else if p0 = (8 : Int32) then (
if (lg_cmp p1 p3) = (0 : Int32) then (
some ((1 : Int64)))
else (
some ((0 : Int64))))
else if p0 = (9 : Int32) then (
p_let (p1 + p3) fun x_4 =>
f_X7_join_J152 x_4)
else if p0 = (10 : Int32) then (
p_let (p1 - p3) fun x_8 =>
f_X7_join_J152 x_8)
else if p0 = (11 : Int32) then (
p_let (p1 * p3) fun x_10 =>
f_X7_join_J152 x_10)
else if p0 = (12 : Int32) then (
if (lg_cmp p3 (0 : Int64)) = (0 : Int32) then (
f_X7_join_J123 (-1000000000000000 : Int64))
else (
(p_nz64 p3).bind fun _ =>
f_X7_join_J123 (p1 / p3)))
else if p0 = (13 : Int32) then (
if (lg_cmp p3 (0 : Int64)) = (0 : Int32) then (
f_X7_join_J143 (-1000000000000000 : Int64))
else (
(p_nz64 p3).bind fun _ =>
f_X7_join_J143 (p1 - p1 / p3 * p3)))
else (
some ((-1000000000000000 : Int64)))
set_option maxHeartbeats 4000000 in
set_option maxRecDepth 100000 in
theorem t_X7_join {p0 : Int32} {p1 : Int64} {p3 : Int64} {r : Int64} (h : f_X7_join p0 p1 p3 = some r) : v_R l B D ac (v_EE B wa wb wt sb sL sx) yX7_join cX7_join 7 (some .long) 1 0 0 [.int p0, .long p1, .long p3] S I J F (v_D (some (.long r)) S I J F) := by
  refine v_R.of (by decide) (Nat.le_of_ble_eq_true rfl) fun d hd => ?_
  generalize hQ : v_D (some (.long r)) S I J F = Q
  have j152 : ∀ (y5 : Int64), f_X7_join_J152 y5 = some r → V l B D ac (v_EE B wa wb wt sb sL sx) yX7_join cX7_join 7 (some .long) d 0 0 0 0 S I J F 152 [(5, .long y5)] [] Q := by
    intro y5 h
    unfold f_X7_join_J152 at h
    refine v_lload dX7_join_152 rfl ?_
    refine v_ldc2 (1000000000 : Int64) dX7_join_154 kn_X7_30 ?_
    refine v_lcmp dX7_join_157 ?_
    refine v_if_gt 170 dX7_join_158 (by decide) (fun c_6 => ?_) (fun c_6 => ?_)
    · rw [if_pos c_6] at h
      refine v_ldc2 (-1000000000000000 : Int64) dX7_join_170 kn_X7_24 ?_
      refine v_goto 178 dX7_join_173 (by decide) ?_
      cases h
      exact v_lret dX7_join_178 rfl (by decide) (by decide) (by rw [← hQ]; exact ⟨rfl, rfl, rfl, rfl, rfl⟩)
    · rw [if_neg c_6] at h
      refine v_lload dX7_join_161 rfl ?_
      refine v_ldc2 (-1000000000 : Int64) dX7_join_163 kn_X7_32 ?_
      refine v_lcmp dX7_join_166 ?_
      refine v_if_ge 176 dX7_join_167 (by decide) (fun c_7 => ?_) (fun c_7 => ?_)
      · rw [if_pos c_7] at h
        refine v_lload dX7_join_176 rfl ?_
        cases h
        exact v_lret dX7_join_178 rfl (by decide) (by decide) (by rw [← hQ]; exact ⟨rfl, rfl, rfl, rfl, rfl⟩)
      · rw [if_neg c_7] at h
        refine v_ldc2 (-1000000000000000 : Int64) dX7_join_170 kn_X7_24 ?_
        refine v_goto 178 dX7_join_173 (by decide) ?_
        cases h
        exact v_lret dX7_join_178 rfl (by decide) (by decide) (by rw [← hQ]; exact ⟨rfl, rfl, rfl, rfl, rfl⟩)
  have j123 : ∀ (z0 : Int64), f_X7_join_J123 z0 = some r → V l B D ac (v_EE B wa wb wt sb sL sx) yX7_join cX7_join 7 (some .long) d 0 0 0 0 S I J F 123 [] [.long z0] Q := by
    intro z0 h
    unfold f_X7_join_J123 at h
    refine v_lstore dX7_join_123 (by decide) ?_
    refine v_sub [(5, .long z0)] ⟨rfl, trivial⟩ ?_
    refine v_goto 152 dX7_join_125 (by decide) ?_
    refine v_sub [(5, .long z0)] ⟨rfl, trivial⟩ ?_
    exact j152 _ h
  have j143 : ∀ (z0 : Int64), f_X7_join_J143 z0 = some r → V l B D ac (v_EE B wa wb wt sb sL sx) yX7_join cX7_join 7 (some .long) d 0 0 0 0 S I J F 143 [] [.long z0] Q := by
    intro z0 h
    unfold f_X7_join_J143 at h
    refine v_lstore dX7_join_143 (by decide) ?_
    refine v_sub [(5, .long z0)] ⟨rfl, trivial⟩ ?_
    refine v_goto 152 dX7_join_145 (by decide) ?_
    refine v_sub [(5, .long z0)] ⟨rfl, trivial⟩ ?_
    exact j152 _ h
  unfold f_X7_join at h
  refine v_sub [(0, .int p0), (1, .long p1), (3, .long p3)] ⟨rfl, rfl, rfl, trivial⟩ ?_
  refine v_iload_n dX7_join_0 rfl ?_
  by_cases c_16 : p0 = (6 : Int32)
  · rw [if_pos c_16] at h
    refine v_swIn 48 (6 : Int32) c_16 dX7_join_1 (by decide) (by decide) rfl (by decide) ?_
    refine v_lload_n dX7_join_48 rfl ?_
    refine v_lload_n dX7_join_49 rfl ?_
    refine v_lcmp dX7_join_50 ?_
    refine v_if_ge 58 dX7_join_51 (by decide) (fun c_1 => ?_) (fun c_1 => ?_)
    · rw [if_pos c_1] at h
      refine v_lconst (0 : Int64) dX7_join_58 (by decide) ?_
      cases h
      exact v_lret dX7_join_59 rfl (by decide) (by decide) (by rw [← hQ]; exact ⟨rfl, rfl, rfl, rfl, rfl⟩)
    · rw [if_neg c_1] at h
      refine v_lconst (1 : Int64) dX7_join_54 (by decide) ?_
      refine v_goto 59 dX7_join_55 (by decide) ?_
      cases h
      exact v_lret dX7_join_59 rfl (by decide) (by decide) (by rw [← hQ]; exact ⟨rfl, rfl, rfl, rfl, rfl⟩)
  · rw [if_neg c_16] at h
    by_cases c_17 : p0 = (7 : Int32)
    · rw [if_pos c_17] at h
      refine v_swIn 60 (7 : Int32) c_17 dX7_join_1 (by decide) (by decide) rfl (by decide) ?_
      refine v_lload_n dX7_join_60 rfl ?_
      refine v_lload_n dX7_join_61 rfl ?_
      refine v_lcmp dX7_join_62 ?_
      refine v_if_le 70 dX7_join_63 (by decide) (fun c_2 => ?_) (fun c_2 => ?_)
      · rw [if_pos c_2] at h
        refine v_lconst (0 : Int64) dX7_join_70 (by decide) ?_
        cases h
        exact v_lret dX7_join_71 rfl (by decide) (by decide) (by rw [← hQ]; exact ⟨rfl, rfl, rfl, rfl, rfl⟩)
      · rw [if_neg c_2] at h
        refine v_lconst (1 : Int64) dX7_join_66 (by decide) ?_
        refine v_goto 71 dX7_join_67 (by decide) ?_
        cases h
        exact v_lret dX7_join_71 rfl (by decide) (by decide) (by rw [← hQ]; exact ⟨rfl, rfl, rfl, rfl, rfl⟩)
    · rw [if_neg c_17] at h
      by_cases c_18 : p0 = (8 : Int32)
      · rw [if_pos c_18] at h
        refine v_swIn 72 (8 : Int32) c_18 dX7_join_1 (by decide) (by decide) rfl (by decide) ?_
        refine v_lload_n dX7_join_72 rfl ?_
        refine v_lload_n dX7_join_73 rfl ?_
        refine v_lcmp dX7_join_74 ?_
        refine v_if_ne 82 dX7_join_75 (by decide) (fun c_3 => ?_) (fun c_3 => ?_)
        · rw [if_neg c_3] at h
          refine v_lconst (0 : Int64) dX7_join_82 (by decide) ?_
          cases h
          exact v_lret dX7_join_83 rfl (by decide) (by decide) (by rw [← hQ]; exact ⟨rfl, rfl, rfl, rfl, rfl⟩)
        · rw [if_pos c_3] at h
          refine v_lconst (1 : Int64) dX7_join_78 (by decide) ?_
          refine v_goto 83 dX7_join_79 (by decide) ?_
          cases h
          exact v_lret dX7_join_83 rfl (by decide) (by decide) (by rw [← hQ]; exact ⟨rfl, rfl, rfl, rfl, rfl⟩)
      · rw [if_neg c_18] at h
        by_cases c_19 : p0 = (9 : Int32)
        · rw [if_pos c_19] at h
          refine v_swIn 84 (9 : Int32) c_19 dX7_join_1 (by decide) (by decide) rfl (by decide) ?_
          refine v_lload_n dX7_join_84 rfl ?_
          refine v_lload_n dX7_join_85 rfl ?_
          refine v_ladd dX7_join_86 ?_
          replace h := p_let_elim h
          obtain ⟨x_4, h_5, h⟩ := h
          rw [← h_5]
          refine v_lstore dX7_join_87 (by decide) ?_
          refine v_sub [(5, .long x_4)] ⟨rfl, trivial⟩ ?_
          refine v_goto 152 dX7_join_89 (by decide) ?_
          refine v_sub [(5, .long x_4)] ⟨rfl, trivial⟩ ?_
          exact j152 _ h
        · rw [if_neg c_19] at h
          by_cases c_20 : p0 = (10 : Int32)
          · rw [if_pos c_20] at h
            refine v_swIn 92 (10 : Int32) c_20 dX7_join_1 (by decide) (by decide) rfl (by decide) ?_
            refine v_lload_n dX7_join_92 rfl ?_
            refine v_lload_n dX7_join_93 rfl ?_
            refine v_lsub dX7_join_94 ?_
            replace h := p_let_elim h
            obtain ⟨x_8, h_9, h⟩ := h
            rw [← h_9]
            refine v_lstore dX7_join_95 (by decide) ?_
            refine v_sub [(5, .long x_8)] ⟨rfl, trivial⟩ ?_
            refine v_goto 152 dX7_join_97 (by decide) ?_
            refine v_sub [(5, .long x_8)] ⟨rfl, trivial⟩ ?_
            exact j152 _ h
          · rw [if_neg c_20] at h
            by_cases c_21 : p0 = (11 : Int32)
            · rw [if_pos c_21] at h
              refine v_swIn 100 (11 : Int32) c_21 dX7_join_1 (by decide) (by decide) rfl (by decide) ?_
              refine v_lload_n dX7_join_100 rfl ?_
              refine v_lload_n dX7_join_101 rfl ?_
              refine v_lmul dX7_join_102 ?_
              replace h := p_let_elim h
              obtain ⟨x_10, h_11, h⟩ := h
              rw [← h_11]
              refine v_lstore dX7_join_103 (by decide) ?_
              refine v_sub [(5, .long x_10)] ⟨rfl, trivial⟩ ?_
              refine v_goto 152 dX7_join_105 (by decide) ?_
              refine v_sub [(5, .long x_10)] ⟨rfl, trivial⟩ ?_
              exact j152 _ h
            · rw [if_neg c_21] at h
              by_cases c_22 : p0 = (12 : Int32)
              · rw [if_pos c_22] at h
                refine v_swIn 108 (12 : Int32) c_22 dX7_join_1 (by decide) (by decide) rfl (by decide) ?_
                refine v_lload_n dX7_join_108 rfl ?_
                refine v_lconst (0 : Int64) dX7_join_109 (by decide) ?_
                refine v_lcmp dX7_join_110 ?_
                refine v_if_ne 120 dX7_join_111 (by decide) (fun c_12 => ?_) (fun c_12 => ?_)
                · rw [if_neg c_12] at h
                  refine v_lload_n dX7_join_120 rfl ?_
                  refine v_lload_n dX7_join_121 rfl ?_
                  replace h := p_bind_elim h
                  obtain ⟨_, q_13, h⟩ := h
                  refine v_ldiv dX7_join_122 (p_nz64_spec q_13) ?_
                  refine v_sub [] trivial ?_
                  exact j123 _ h
                · rw [if_pos c_12] at h
                  refine v_ldc2 (-1000000000000000 : Int64) dX7_join_114 kn_X7_24 ?_
                  refine v_goto 123 dX7_join_117 (by decide) ?_
                  refine v_sub [] trivial ?_
                  exact j123 _ h
              · rw [if_neg c_22] at h
                by_cases c_23 : p0 = (13 : Int32)
                · rw [if_pos c_23] at h
                  refine v_swIn 128 (13 : Int32) c_23 dX7_join_1 (by decide) (by decide) rfl (by decide) ?_
                  refine v_lload_n dX7_join_128 rfl ?_
                  refine v_lconst (0 : Int64) dX7_join_129 (by decide) ?_
                  refine v_lcmp dX7_join_130 ?_
                  refine v_if_ne 140 dX7_join_131 (by decide) (fun c_14 => ?_) (fun c_14 => ?_)
                  · rw [if_neg c_14] at h
                    refine v_lload_n dX7_join_140 rfl ?_
                    refine v_lload_n dX7_join_141 rfl ?_
                    replace h := p_bind_elim h
                    obtain ⟨_, q_15, h⟩ := h
                    refine v_lrem dX7_join_142 (p_nz64_spec q_15) ?_
                    refine v_sub [] trivial ?_
                    exact j143 _ h
                  · rw [if_pos c_14] at h
                    refine v_ldc2 (-1000000000000000 : Int64) dX7_join_134 kn_X7_24 ?_
                    refine v_goto 143 dX7_join_137 (by decide) ?_
                    refine v_sub [] trivial ?_
                    exact j143 _ h
                · rw [if_neg c_23] at h
                  refine v_tableOut 148 dX7_join_1 (p_sw_out (fun k h1 h2 => by have h3 : k = 6 ∨ k = 7 ∨ k = 8 ∨ k = 9 ∨ k = 10 ∨ k = 11 ∨ k = 12 ∨ k = 13 := (by omega); rcases h3 with rfl | rfl | rfl | rfl | rfl | rfl | rfl | rfl <;> first | exact c_16 | exact c_17 | exact c_18 | exact c_19 | exact c_20 | exact c_21 | exact c_22 | exact c_23)) (by decide) ?_
                  refine v_ldc2 (-1000000000000000 : Int64) dX7_join_148 kn_X7_24 ?_
                  cases h
                  exact v_lret dX7_join_151 rfl (by decide) (by decide) (by rw [← hQ]; exact ⟨rfl, rfl, rfl, rfl, rfl⟩)

def f_X7_reckon_J14_301 (S : v_S) (I : v_I) (F : v_F) (w0 : Nat) (w3 : Nat) (J : v_J) (y4 : Int32) (y5 : Int32) (y6 : Int32) : Option ((Int32 × Int32 × Int32 × v_J) ⊕ (Nat × (Int32 × Int32 × Int32 × v_J))) :=
p_let (y6 + (1 : Int32)) fun x_38 =>
some (.inl (y4, y5, x_38, J))
def f_X7_reckon_J14_220 (S : v_S) (I : v_I) (F : v_F) (w0 : Nat) (w3 : Nat) (J : v_J) (y4 : Int32) (y5 : Int32) (y6 : Int32) (y8 : Int32) (z0 : Int32) (z1 : Int64) : Option ((Int32 × Int32 × Int32 × v_J) ⊕ (Nat × (Int32 × Int32 × Int32 × v_J))) :=
if (lg_cmp z1 z0.toInt64) = (0 : Int32) then (
f_X7_reckon_J14_301 S I F w0 w3 J y8 y5 y6)
else (
p_let (y5 + (-1 : Int32)) fun x_36 =>
f_X7_reckon_J14_301 S I F w0 w3 J y4 x_36 y6)
def f_X7_reckon_J14_200 (S : v_S) (I : v_I) (F : v_F) (w0 : Nat) (w3 : Nat) (J : v_J) (y4 : Int32) (y5 : Int32) (y6 : Int32) (y7 : Int32) (y8 : Int32) : Option ((Int32 × Int32 × Int32 × v_J) ⊕ (Nat × (Int32 × Int32 × Int32 × v_J))) :=
(p_ob S 7 w0).bind fun _ =>
(F w0 1).bind fun a_30 =>
(p_ix S 23 a_30 (y5 - (1 : Int32))).bind fun j_32 =>
if y7 = (5 : Int32) then (
f_X7_reckon_J14_220 S I F w0 w3 J y4 y5 y6 y8 (1 : Int32) (J a_30 j_32))
else (
f_X7_reckon_J14_220 S I F w0 w3 J y4 y5 y6 y8 (0 : Int32) (J a_30 j_32))
def f_X7_reckon_J14_127 (S : v_S) (I : v_I) (F : v_F) (w0 : Nat) (w3 : Nat) (J : v_J) (y4 : Int32) (y5 : Int32) (y6 : Int32) (z0 : Int64) (z1 : Int32) (z2 : Nat) : Option ((Int32 × Int32 × Int32 × v_J) ⊕ (Nat × (Int32 × Int32 × Int32 × v_J))) :=
(p_ix S 23 z2 z1).bind fun j_81 =>
p_let (v_up J z2 j_81 z0) fun J_83 =>
p_let (y5 + (1 : Int32)) fun x_85 =>
f_X7_reckon_J14_301 S I F w0 w3 J_83 y4 x_85 y6
def f_X7_reckon_J14_126 (S : v_S) (I : v_I) (F : v_F) (w0 : Nat) (w3 : Nat) (J : v_J) (y4 : Int32) (y5 : Int32) (y6 : Int32) (z0 : Int32) (z1 : Nat) : Option ((Int32 × Int32 × Int32 × v_J) ⊕ (Nat × (Int32 × Int32 × Int32 × v_J))) :=
f_X7_reckon_J14_127 S I F w0 w3 J y4 y5 y6 (0 : Int64) z0 z1
set_option maxRecDepth 100000 in
def f_X7_reckon_B14 (S : v_S) (I : v_I) (F : v_F) (w0 : Nat) (w3 : Nat) (s14 : Int32 × Int32 × Int32 × v_J) : Option ((Int32 × Int32 × Int32 × v_J) ⊕ (Nat × (Int32 × Int32 × Int32 × v_J))) :=
(p_len S 20 w3).bind fun x_4 =>
if x_4 ≤ s14.2.2.1 then (
some (.inr (5, (s14.1, s14.2.1, s14.2.2.1, s14.2.2.2))))
else (
if s14.1 < (0 : Int32) then (
some (.inr (0, (s14.1, s14.2.1, s14.2.2.1, s14.2.2.2))))
else (
(p_len S 20 w3).bind fun x_8 =>
if x_8 ≤ s14.1 then (
some (.inr (0, (s14.1, s14.2.1, s14.2.2.1, s14.2.2.2))))
else (
if s14.2.1 < (0 : Int32) then (
some (.inr (0, (s14.1, s14.2.1, s14.2.2.1, s14.2.2.2))))
else (
if s14.2.1 < (32 : Int32) then (
(p_ix S 20 w3 s14.1).bind fun j_13 =>
p_let ((I w3 j_13) &&& (15 : Int32)) fun x_15 =>
(p_ix S 20 w3 s14.1).bind fun j_17 =>
p_let ((I w3 j_17) >>> ((4 : Int32) &&& 31)) fun x_19 =>
p_let (s14.1 + (1 : Int32)) fun x_21 =>
if x_15 = (1 : Int32) then (
(p_ob S 7 w0).bind fun _ =>
(F w0 1).bind fun a_93 =>
(p_ix S 23 a_93 s14.2.1).bind fun j_95 =>
p_let (v_up s14.2.2.2 a_93 j_95 x_19.toInt64) fun J_97 =>
p_let (s14.2.1 + (1 : Int32)) fun x_99 =>
f_X7_reckon_J14_301 S I F w0 w3 J_97 x_21 x_99 s14.2.2.1)
else (
if x_15 = (2 : Int32) then (
(p_ob S 7 w0).bind fun _ =>
(F w0 1).bind fun a_78 =>
if x_19 < (0 : Int32) then (
f_X7_reckon_J14_126 S I F w0 w3 s14.2.2.2 x_21 s14.2.1 s14.2.2.1 s14.2.1 a_78)
else (
if (36 : Int32) ≤ x_19 then (
f_X7_reckon_J14_126 S I F w0 w3 s14.2.2.2 x_21 s14.2.1 s14.2.2.1 s14.2.1 a_78)
else (
(F w0 0).bind fun a_88 =>
(p_ix S 20 a_88 x_19).bind fun j_90 =>
f_X7_reckon_J14_127 S I F w0 w3 s14.2.2.2 x_21 s14.2.1 s14.2.2.1 ((I a_88 j_90).toInt64) s14.2.1 a_78)))
else (
if (1 : Int32) ≤ s14.2.1 then (
if x_15 = (0 : Int32) then (
some (.inr (2, (x_21, s14.2.1, s14.2.2.1, s14.2.2.2))))
else (
if x_15 = (3 : Int32) then (
(p_ob S 7 w0).bind fun _ =>
(F w0 1).bind fun a_67 =>
(F w0 1).bind fun a_69 =>
(p_ix S 23 a_69 (s14.2.1 - (1 : Int32))).bind fun j_71 =>
(p_ix S 23 a_67 (s14.2.1 - (1 : Int32))).bind fun j_73 =>
p_let (v_up s14.2.2.2 a_67 j_73 ((1 : Int64) - (s14.2.2.2 a_69 j_71))) fun J_75 =>
f_X7_reckon_J14_301 S I F w0 w3 J_75 x_21 s14.2.1 s14.2.2.1)
else (
if x_15 = (4 : Int32) then (
f_X7_reckon_J14_200 S I F w0 w3 s14.2.2.2 x_21 s14.2.1 s14.2.2.1 x_15 x_19)
else (
if x_15 = (5 : Int32) then (
f_X7_reckon_J14_200 S I F w0 w3 s14.2.2.2 x_21 s14.2.1 s14.2.2.1 x_15 x_19)
else (
if (2 : Int32) ≤ s14.2.1 then (
p_let (s14.2.1 + (-1 : Int32)) fun x_42 =>
(p_ob S 7 w0).bind fun _ =>
(F w0 1).bind fun a_45 =>
(F w0 1).bind fun a_47 =>
(p_ix S 23 a_47 (x_42 - (1 : Int32))).bind fun j_49 =>
(F w0 1).bind fun a_51 =>
(p_ix S 23 a_51 x_42).bind fun j_53 =>
(f_X7_join x_15 (s14.2.2.2 a_47 j_49) (s14.2.2.2 a_51 j_53)).bind fun r_55 =>
(p_ix S 23 a_45 (x_42 - (1 : Int32))).bind fun j_57 =>
p_let (v_up s14.2.2.2 a_45 j_57 r_55) fun J_59 =>
(F w0 1).bind fun a_61 =>
(p_ix S 23 a_61 (x_42 - (1 : Int32))).bind fun j_63 =>
if (lg_cmp (J_59 a_61 j_63) (-1000000000000000 : Int64)) = (0 : Int32) then (
some (.inr (4, (x_21, x_42, s14.2.2.1, J_59))))
else (
f_X7_reckon_J14_301 S I F w0 w3 J_59 x_21 x_42 s14.2.2.1))
else (
some (.inr (3, (x_21, s14.2.1, s14.2.2.1, s14.2.2.2)))))))))
else (
some (.inr (1, (x_21, s14.2.1, s14.2.2.1, s14.2.2.2)))))))
else (
some (.inr (0, (s14.1, s14.2.1, s14.2.2.1, s14.2.2.2))))))))
def f_X7_reckon (S : v_S) (I : v_I) (J : v_J) (F : v_F) (p0 : Nat) (p1 : Nat) (p2 : Int32) : Option (Int64 × v_J) :=
(p_ob S 8 p1).bind fun _ =>
(F p1 8).bind fun a_2 =>
(v_loop (f_X7_reckon_B14 S I F p0 a_2) FU (p2, (0 : Int32), (0 : Int32), J)).bind fun q_101 =>
if q_101.1 = 0 then (
some ((-1000000000000000 : Int64), q_101.2.2.2.2))
else if q_101.1 = 1 then (
some ((-1000000000000000 : Int64), q_101.2.2.2.2))
else if q_101.1 = 2 then (
(p_ob S 7 p0).bind fun _ =>
(F p0 1).bind fun a_104 =>
(p_ix S 23 a_104 (q_101.2.2.1 - (1 : Int32))).bind fun j_106 =>
some (q_101.2.2.2.2 a_104 j_106, q_101.2.2.2.2))
else if q_101.1 = 3 then (
some ((-1000000000000000 : Int64), q_101.2.2.2.2))
else if q_101.1 = 4 then (
some ((-1000000000000000 : Int64), q_101.2.2.2.2))
else (
some ((-1000000000000000 : Int64), q_101.2.2.2.2))
set_option maxHeartbeats 4000000 in
set_option maxRecDepth 100000 in
theorem t_X7_reckon {p0 : Nat} {p1 : Nat} {p2 : Int32} {r : Int64 × v_J} (h : f_X7_reckon S I J F p0 p1 p2 = some r) : v_R l B D ac (v_EE B wa wb wt sb sL sx) yX7_reckon cX7_reckon 9 (some .long) 2 0 0 [.ref (B + p0), .ref (B + p1), .int p2] S I J F (v_D (some (.long r.1)) S I r.2 F) := by
  refine v_R.of (by decide) (Nat.le_of_ble_eq_true rfl) fun d hd => ?_
  generalize hQ : v_D (some (.long r.1)) S I r.2 F = Q
  have b14 : ∀ (w0 : Nat) (w3 : Nat) (s14 : Int32 × Int32 × Int32 × v_J) (rx14 : (Int32 × Int32 × Int32 × v_J) ⊕ (Nat × (Int32 × Int32 × Int32 × v_J))), f_X7_reckon_B14 S I F w0 w3 s14 = some rx14 → v_K (fun (sP : Int32 × Int32 × Int32 × v_J) => V l B D ac (v_EE B wa wb wt sb sL sx) yX7_reckon cX7_reckon 9 (some .long) d 0 0 0 0 S I sP.2.2.2 F 14 [(0, .ref (B + w0)), (3, .ref (B + w3)), (4, .int sP.1), (5, .int sP.2.1), (6, .int sP.2.2.1)] [] Q) (fun (rE : Nat × (Int32 × Int32 × Int32 × v_J)) => (rE.1 = 0 → V l B D ac (v_EE B wa wb wt sb sL sx) yX7_reckon cX7_reckon 9 (some .long) d 0 0 0 0 S I rE.2.2.2.2 F 45 [] [] Q) ∧ (¬ rE.1 = 0 → (rE.1 = 1 → V l B D ac (v_EE B wa wb wt sb sL sx) yX7_reckon cX7_reckon 9 (some .long) d 0 0 0 0 S I rE.2.2.2.2 F 140 [] [] Q) ∧ (¬ rE.1 = 1 → (rE.1 = 2 → V l B D ac (v_EE B wa wb wt sb sL sx) yX7_reckon cX7_reckon 9 (some .long) d 0 0 0 0 S I rE.2.2.2.2 F 149 [(0, .ref (B + w0)), (5, .int rE.2.2.1)] [] Q) ∧ (¬ rE.1 = 2 → (rE.1 = 3 → V l B D ac (v_EE B wa wb wt sb sL sx) yX7_reckon cX7_reckon 9 (some .long) d 0 0 0 0 S I rE.2.2.2.2 F 244 [] [] Q) ∧ (¬ rE.1 = 3 → (rE.1 = 4 → V l B D ac (v_EE B wa wb wt sb sL sx) yX7_reckon cX7_reckon 9 (some .long) d 0 0 0 0 S I rE.2.2.2.2 F 297 [] [] Q) ∧ (¬ rE.1 = 4 → V l B D ac (v_EE B wa wb wt sb sL sx) yX7_reckon cX7_reckon 9 (some .long) d 0 0 0 0 S I rE.2.2.2.2 F 307 [] [] Q)))))) rx14 → V l B D ac (v_EE B wa wb wt sb sL sx) yX7_reckon cX7_reckon 9 (some .long) d 0 0 0 0 S I s14.2.2.2 F 14 [(0, .ref (B + w0)), (3, .ref (B + w3)), (4, .int s14.1), (5, .int s14.2.1), (6, .int s14.2.2.1)] [] Q := by
    intro w0 w3 s14 rx14 h hk
    have j301 : ∀ (J : v_J) (y4 : Int32) (y5 : Int32) (y6 : Int32), f_X7_reckon_J14_301 S I F w0 w3 J y4 y5 y6 = some rx14 → V l B D ac (v_EE B wa wb wt sb sL sx) yX7_reckon cX7_reckon 9 (some .long) d 0 0 0 0 S I J F 301 [(0, .ref (B + w0)), (3, .ref (B + w3)), (4, .int y4), (5, .int y5), (6, .int y6)] [] Q := by
      intro J y4 y5 y6 h
      unfold f_X7_reckon_J14_301 at h
      replace h := p_let_elim h
      obtain ⟨x_38, h_39, h⟩ := h
      refine v_iincE (1 : Int32) dX7_reckon_301 (by decide) rfl (by decide) ?_
      rw [← h_39]
      refine v_sub [(0, .ref (B + w0)), (3, .ref (B + w3)), (4, .int y4), (5, .int y5), (6, .int x_38)] ⟨rfl, rfl, rfl, rfl, rfl, trivial⟩ ?_
      refine v_goto 14 dX7_reckon_304 (by decide) ?_
      cases h
      refine v_sub [(0, .ref (B + w0)), (3, .ref (B + w3)), (4, .int y4), (5, .int y5), (6, .int x_38)] ⟨rfl, rfl, rfl, rfl, rfl, trivial⟩ ?_
      exact hk
    have j220 : ∀ (J : v_J) (y4 : Int32) (y5 : Int32) (y6 : Int32) (y8 : Int32) (z0 : Int32) (z1 : Int64), f_X7_reckon_J14_220 S I F w0 w3 J y4 y5 y6 y8 z0 z1 = some rx14 → V l B D ac (v_EE B wa wb wt sb sL sx) yX7_reckon cX7_reckon 9 (some .long) d 0 0 0 0 S I J F 220 [(0, .ref (B + w0)), (3, .ref (B + w3)), (4, .int y4), (5, .int y5), (6, .int y6), (8, .int y8)] [.int z0, .long z1] Q := by
      intro J y4 y5 y6 y8 z0 z1 h
      unfold f_X7_reckon_J14_220 at h
      refine v_i2l dX7_reckon_220 ?_
      refine v_lcmp dX7_reckon_221 ?_
      refine v_if_ne 232 dX7_reckon_222 (by decide) (fun c_35 => ?_) (fun c_35 => ?_)
      · rw [if_neg c_35] at h
        replace h := p_let_elim h
        obtain ⟨x_36, h_37, h⟩ := h
        refine v_iincE (-1 : Int32) dX7_reckon_232 (by decide) rfl (by decide) ?_
        rw [← h_37]
        refine v_sub [(0, .ref (B + w0)), (3, .ref (B + w3)), (4, .int y4), (5, .int x_36), (6, .int y6)] ⟨rfl, rfl, rfl, rfl, rfl, trivial⟩ ?_
        refine v_goto 301 dX7_reckon_235 (by decide) ?_
        refine v_sub [(0, .ref (B + w0)), (3, .ref (B + w3)), (4, .int y4), (5, .int x_36), (6, .int y6)] ⟨rfl, rfl, rfl, rfl, rfl, trivial⟩ ?_
        exact j301 _ _ _ _ h
      · rw [if_pos c_35] at h
        refine v_iload dX7_reckon_225 rfl ?_
        refine v_istore dX7_reckon_227 (by decide) ?_
        refine v_sub [(0, .ref (B + w0)), (3, .ref (B + w3)), (4, .int y8), (5, .int y5), (6, .int y6)] ⟨rfl, rfl, rfl, rfl, rfl, trivial⟩ ?_
        refine v_goto 301 dX7_reckon_229 (by decide) ?_
        refine v_sub [(0, .ref (B + w0)), (3, .ref (B + w3)), (4, .int y8), (5, .int y5), (6, .int y6)] ⟨rfl, rfl, rfl, rfl, rfl, trivial⟩ ?_
        exact j301 _ _ _ _ h
    have j200 : ∀ (J : v_J) (y4 : Int32) (y5 : Int32) (y6 : Int32) (y7 : Int32) (y8 : Int32), f_X7_reckon_J14_200 S I F w0 w3 J y4 y5 y6 y7 y8 = some rx14 → V l B D ac (v_EE B wa wb wt sb sL sx) yX7_reckon cX7_reckon 9 (some .long) d 0 0 0 0 S I J F 200 [(0, .ref (B + w0)), (3, .ref (B + w3)), (4, .int y4), (5, .int y5), (6, .int y6), (7, .int y7), (8, .int y8)] [] Q := by
      intro J y4 y5 y6 y7 y8 h
      unfold f_X7_reckon_J14_200 at h
      refine v_aload_n dX7_reckon_200 rfl ?_
      replace h := p_bind_elim h
      obtain ⟨_, q_29, h⟩ := h
      have q_29 := p_ob_spec q_29
      replace h := p_bind_elim h
      obtain ⟨a_30, q_31, h⟩ := h
      refine v_getR q_31 rfl fl_X7_15 dX7_reckon_201 q_29 ?_
      refine v_iload dX7_reckon_204 rfl ?_
      refine v_iconstE (1 : Int32) dX7_reckon_206 (by decide) ?_
      refine v_isub dX7_reckon_207 ?_
      replace h := p_bind_elim h
      obtain ⟨j_32, q_33, h⟩ := h
      refine v_laldP dX7_reckon_208 q_33 ?_
      refine v_iload dX7_reckon_209 rfl ?_
      refine v_iconstE (5 : Int32) dX7_reckon_211 (by decide) ?_
      refine v_icmp_ne 219 dX7_reckon_212 (by decide) (fun c_34 => ?_) (fun c_34 => ?_)
      · rw [if_neg c_34] at h
        refine v_iconstE (0 : Int32) dX7_reckon_219 (by decide) ?_
        refine v_sub [(0, .ref (B + w0)), (3, .ref (B + w3)), (4, .int y4), (5, .int y5), (6, .int y6), (8, .int y8)] ⟨rfl, rfl, rfl, rfl, rfl, rfl, trivial⟩ ?_
        exact j220 _ _ _ _ _ _ _ h
      · rw [if_pos c_34] at h
        refine v_iconstE (1 : Int32) dX7_reckon_215 (by decide) ?_
        refine v_goto 220 dX7_reckon_216 (by decide) ?_
        refine v_sub [(0, .ref (B + w0)), (3, .ref (B + w3)), (4, .int y4), (5, .int y5), (6, .int y6), (8, .int y8)] ⟨rfl, rfl, rfl, rfl, rfl, rfl, trivial⟩ ?_
        exact j220 _ _ _ _ _ _ _ h
    have j127 : ∀ (J : v_J) (y4 : Int32) (y5 : Int32) (y6 : Int32) (z0 : Int64) (z1 : Int32) (z2 : Nat), f_X7_reckon_J14_127 S I F w0 w3 J y4 y5 y6 z0 z1 z2 = some rx14 → V l B D ac (v_EE B wa wb wt sb sL sx) yX7_reckon cX7_reckon 9 (some .long) d 0 0 0 0 S I J F 127 [(0, .ref (B + w0)), (3, .ref (B + w3)), (4, .int y4), (5, .int y5), (6, .int y6)] [.long z0, .int z1, .ref (B + z2)] Q := by
      intro J y4 y5 y6 z0 z1 z2 h
      unfold f_X7_reckon_J14_127 at h
      replace h := p_bind_elim h
      obtain ⟨j_81, q_82, h⟩ := h
      refine v_lastP dX7_reckon_127 q_82 ?_
      replace h := p_let_elim h
      obtain ⟨J_83, h_84, h⟩ := h
      rw [← h_84]
      replace h := p_let_elim h
      obtain ⟨x_85, h_86, h⟩ := h
      refine v_iincE (1 : Int32) dX7_reckon_128 (by decide) rfl (by decide) ?_
      rw [← h_86]
      refine v_sub [(0, .ref (B + w0)), (3, .ref (B + w3)), (4, .int y4), (5, .int x_85), (6, .int y6)] ⟨rfl, rfl, rfl, rfl, rfl, trivial⟩ ?_
      refine v_goto 301 dX7_reckon_131 (by decide) ?_
      refine v_sub [(0, .ref (B + w0)), (3, .ref (B + w3)), (4, .int y4), (5, .int x_85), (6, .int y6)] ⟨rfl, rfl, rfl, rfl, rfl, trivial⟩ ?_
      exact j301 _ _ _ _ h
    have j126 : ∀ (J : v_J) (y4 : Int32) (y5 : Int32) (y6 : Int32) (z0 : Int32) (z1 : Nat), f_X7_reckon_J14_126 S I F w0 w3 J y4 y5 y6 z0 z1 = some rx14 → V l B D ac (v_EE B wa wb wt sb sL sx) yX7_reckon cX7_reckon 9 (some .long) d 0 0 0 0 S I J F 126 [(0, .ref (B + w0)), (3, .ref (B + w3)), (4, .int y4), (5, .int y5), (6, .int y6)] [.int z0, .ref (B + z1)] Q := by
      intro J y4 y5 y6 z0 z1 h
      unfold f_X7_reckon_J14_126 at h
      refine v_lconst (0 : Int64) dX7_reckon_126 (by decide) ?_
      refine v_sub [(0, .ref (B + w0)), (3, .ref (B + w3)), (4, .int y4), (5, .int y5), (6, .int y6)] ⟨rfl, rfl, rfl, rfl, rfl, trivial⟩ ?_
      exact j127 _ _ _ _ _ _ _ h
    unfold f_X7_reckon_B14 at h
    refine v_iload dX7_reckon_14 rfl ?_
    refine v_aload_n dX7_reckon_16 rfl ?_
    replace h := p_bind_elim h
    obtain ⟨x_4, q_5, h⟩ := h
    refine v_alenPI dX7_reckon_17 q_5 ?_
    refine v_icmp_ge 307 dX7_reckon_18 (by decide) (fun c_6 => ?_) (fun c_6 => ?_)
    · rw [if_pos c_6] at h
      cases h
      refine v_sub [] trivial ?_
      exact (((((hk.2 (Nat.succ_ne_zero _)).2 (by simp)).2 (by simp)).2 (by simp)).2 (by simp))
    · rw [if_neg c_6] at h
      refine v_iload dX7_reckon_21 rfl ?_
      refine v_if_lt 45 dX7_reckon_23 (by decide) (fun c_7 => ?_) (fun c_7 => ?_)
      · rw [if_pos c_7] at h
        cases h
        refine v_sub [] trivial ?_
        exact hk.1 rfl
      · rw [if_neg c_7] at h
        refine v_iload dX7_reckon_26 rfl ?_
        refine v_aload_n dX7_reckon_28 rfl ?_
        replace h := p_bind_elim h
        obtain ⟨x_8, q_9, h⟩ := h
        refine v_alenPI dX7_reckon_29 q_9 ?_
        refine v_icmp_ge 45 dX7_reckon_30 (by decide) (fun c_10 => ?_) (fun c_10 => ?_)
        · rw [if_pos c_10] at h
          cases h
          refine v_sub [] trivial ?_
          exact hk.1 rfl
        · rw [if_neg c_10] at h
          refine v_iload dX7_reckon_33 rfl ?_
          refine v_if_lt 45 dX7_reckon_35 (by decide) (fun c_11 => ?_) (fun c_11 => ?_)
          · rw [if_pos c_11] at h
            cases h
            refine v_sub [] trivial ?_
            exact hk.1 rfl
          · rw [if_neg c_11] at h
            refine v_iload dX7_reckon_38 rfl ?_
            refine v_bipush (32 : Int32) dX7_reckon_40 (by decide) ?_
            refine v_icmp_lt 49 dX7_reckon_42 (by decide) (fun c_12 => ?_) (fun c_12 => ?_)
            · rw [if_pos c_12] at h
              refine v_aload_n dX7_reckon_49 rfl ?_
              refine v_iload dX7_reckon_50 rfl ?_
              replace h := p_bind_elim h
              obtain ⟨j_13, q_14, h⟩ := h
              refine v_ialdP dX7_reckon_52 q_14 ?_
              refine v_bipush (15 : Int32) dX7_reckon_53 (by decide) ?_
              refine v_iand dX7_reckon_55 ?_
              replace h := p_let_elim h
              obtain ⟨x_15, h_16, h⟩ := h
              rw [← h_16]
              refine v_istore dX7_reckon_56 (by decide) ?_
              refine v_sub [(0, .ref (B + w0)), (3, .ref (B + w3)), (4, .int s14.1), (5, .int s14.2.1), (6, .int s14.2.2.1), (7, .int x_15)] ⟨rfl, rfl, rfl, rfl, rfl, rfl, trivial⟩ ?_
              refine v_aload_n dX7_reckon_58 rfl ?_
              refine v_iload dX7_reckon_59 rfl ?_
              replace h := p_bind_elim h
              obtain ⟨j_17, q_18, h⟩ := h
              refine v_ialdP dX7_reckon_61 q_18 ?_
              refine v_iconstE (4 : Int32) dX7_reckon_62 (by decide) ?_
              refine v_ishr dX7_reckon_63 ?_
              replace h := p_let_elim h
              obtain ⟨x_19, h_20, h⟩ := h
              rw [← h_20]
              refine v_istore dX7_reckon_64 (by decide) ?_
              refine v_sub [(0, .ref (B + w0)), (3, .ref (B + w3)), (4, .int s14.1), (5, .int s14.2.1), (6, .int s14.2.2.1), (7, .int x_15), (8, .int x_19)] ⟨rfl, rfl, rfl, rfl, rfl, rfl, rfl, trivial⟩ ?_
              replace h := p_let_elim h
              obtain ⟨x_21, h_22, h⟩ := h
              refine v_iincE (1 : Int32) dX7_reckon_66 (by decide) rfl (by decide) ?_
              rw [← h_22]
              refine v_sub [(0, .ref (B + w0)), (3, .ref (B + w3)), (4, .int x_21), (5, .int s14.2.1), (6, .int s14.2.2.1), (7, .int x_15), (8, .int x_19)] ⟨rfl, rfl, rfl, rfl, rfl, rfl, rfl, trivial⟩ ?_
              refine v_iload dX7_reckon_69 rfl ?_
              refine v_iconstE (1 : Int32) dX7_reckon_71 (by decide) ?_
              refine v_icmp_ne 91 dX7_reckon_72 (by decide) (fun c_23 => ?_) (fun c_23 => ?_)
              · rw [if_neg c_23] at h
                refine v_iload dX7_reckon_91 rfl ?_
                refine v_iconstE (2 : Int32) dX7_reckon_93 (by decide) ?_
                refine v_icmp_ne 134 dX7_reckon_94 (by decide) (fun c_24 => ?_) (fun c_24 => ?_)
                · rw [if_neg c_24] at h
                  refine v_iload dX7_reckon_134 rfl ?_
                  refine v_iconstE (1 : Int32) dX7_reckon_136 (by decide) ?_
                  refine v_icmp_ge 144 dX7_reckon_137 (by decide) (fun c_25 => ?_) (fun c_25 => ?_)
                  · rw [if_pos c_25] at h
                    refine v_iload dX7_reckon_144 rfl ?_
                    refine v_if_ne 159 dX7_reckon_146 (by decide) (fun c_26 => ?_) (fun c_26 => ?_)
                    · rw [if_neg c_26] at h
                      refine v_iload dX7_reckon_159 rfl ?_
                      refine v_iconstE (3 : Int32) dX7_reckon_161 (by decide) ?_
                      refine v_icmp_ne 188 dX7_reckon_162 (by decide) (fun c_27 => ?_) (fun c_27 => ?_)
                      · rw [if_neg c_27] at h
                        refine v_iload dX7_reckon_188 rfl ?_
                        refine v_iconstE (4 : Int32) dX7_reckon_190 (by decide) ?_
                        refine v_icmp_eq 200 dX7_reckon_191 (by decide) (fun c_28 => ?_) (fun c_28 => ?_)
                        · rw [if_pos c_28] at h
                          refine v_sub [(0, .ref (B + w0)), (3, .ref (B + w3)), (4, .int x_21), (5, .int s14.2.1), (6, .int s14.2.2.1), (7, .int x_15), (8, .int x_19)] ⟨rfl, rfl, rfl, rfl, rfl, rfl, rfl, trivial⟩ ?_
                          exact j200 _ _ _ _ _ _ h
                        · rw [if_neg c_28] at h
                          refine v_iload dX7_reckon_194 rfl ?_
                          refine v_iconstE (5 : Int32) dX7_reckon_196 (by decide) ?_
                          refine v_icmp_ne 238 dX7_reckon_197 (by decide) (fun c_40 => ?_) (fun c_40 => ?_)
                          · rw [if_neg c_40] at h
                            refine v_iload dX7_reckon_238 rfl ?_
                            refine v_iconstE (2 : Int32) dX7_reckon_240 (by decide) ?_
                            refine v_icmp_ge 248 dX7_reckon_241 (by decide) (fun c_41 => ?_) (fun c_41 => ?_)
                            · rw [if_pos c_41] at h
                              replace h := p_let_elim h
                              obtain ⟨x_42, h_43, h⟩ := h
                              refine v_iincE (-1 : Int32) dX7_reckon_248 (by decide) rfl (by decide) ?_
                              rw [← h_43]
                              refine v_sub [(0, .ref (B + w0)), (3, .ref (B + w3)), (4, .int x_21), (5, .int x_42), (6, .int s14.2.2.1), (7, .int x_15)] ⟨rfl, rfl, rfl, rfl, rfl, rfl, trivial⟩ ?_
                              refine v_aload_n dX7_reckon_251 rfl ?_
                              replace h := p_bind_elim h
                              obtain ⟨_, q_44, h⟩ := h
                              have q_44 := p_ob_spec q_44
                              replace h := p_bind_elim h
                              obtain ⟨a_45, q_46, h⟩ := h
                              refine v_getR q_46 rfl fl_X7_15 dX7_reckon_252 q_44 ?_
                              refine v_iload dX7_reckon_255 rfl ?_
                              refine v_iconstE (1 : Int32) dX7_reckon_257 (by decide) ?_
                              refine v_isub dX7_reckon_258 ?_
                              refine v_iload dX7_reckon_259 rfl ?_
                              refine v_aload_n dX7_reckon_261 rfl ?_
                              replace h := p_bind_elim h
                              obtain ⟨a_47, q_48, h⟩ := h
                              refine v_getR q_48 rfl fl_X7_15 dX7_reckon_262 q_44 ?_
                              refine v_iload dX7_reckon_265 rfl ?_
                              refine v_iconstE (1 : Int32) dX7_reckon_267 (by decide) ?_
                              refine v_isub dX7_reckon_268 ?_
                              replace h := p_bind_elim h
                              obtain ⟨j_49, q_50, h⟩ := h
                              refine v_laldP dX7_reckon_269 q_50 ?_
                              refine v_aload_n dX7_reckon_270 rfl ?_
                              replace h := p_bind_elim h
                              obtain ⟨a_51, q_52, h⟩ := h
                              refine v_getR q_52 rfl fl_X7_15 dX7_reckon_271 q_44 ?_
                              refine v_iload dX7_reckon_274 rfl ?_
                              replace h := p_bind_elim h
                              obtain ⟨j_53, q_54, h⟩ := h
                              refine v_laldP dX7_reckon_276 q_54 ?_
                              replace h := p_bind_elim h
                              obtain ⟨r_55, q_56, h⟩ := h
                              refine v_cSr (t_X7_join q_56) cal_X7_join ml_X7_26 sta_X7_join dX7_reckon_277 (by omega) (by decide) (by decide) (Nat.le_of_ble_eq_true rfl) rfl ?_
                              replace h := p_bind_elim h
                              obtain ⟨j_57, q_58, h⟩ := h
                              refine v_lastP dX7_reckon_280 q_58 ?_
                              replace h := p_let_elim h
                              obtain ⟨J_59, h_60, h⟩ := h
                              rw [← h_60]
                              refine v_aload_n dX7_reckon_281 rfl ?_
                              replace h := p_bind_elim h
                              obtain ⟨a_61, q_62, h⟩ := h
                              refine v_getR q_62 rfl fl_X7_15 dX7_reckon_282 q_44 ?_
                              refine v_iload dX7_reckon_285 rfl ?_
                              refine v_iconstE (1 : Int32) dX7_reckon_287 (by decide) ?_
                              refine v_isub dX7_reckon_288 ?_
                              replace h := p_bind_elim h
                              obtain ⟨j_63, q_64, h⟩ := h
                              refine v_laldP dX7_reckon_289 q_64 ?_
                              refine v_ldc2 (-1000000000000000 : Int64) dX7_reckon_290 kn_X7_24 ?_
                              refine v_lcmp dX7_reckon_293 ?_
                              refine v_if_ne 301 dX7_reckon_294 (by decide) (fun c_65 => ?_) (fun c_65 => ?_)
                              · rw [if_neg c_65] at h
                                refine v_sub [(0, .ref (B + w0)), (3, .ref (B + w3)), (4, .int x_21), (5, .int x_42), (6, .int s14.2.2.1)] ⟨rfl, rfl, rfl, rfl, rfl, trivial⟩ ?_
                                exact j301 _ _ _ _ h
                              · rw [if_pos c_65] at h
                                cases h
                                refine v_sub [] trivial ?_
                                exact ((((hk.2 (Nat.succ_ne_zero _)).2 (by simp)).2 (by simp)).2 (by simp)).1 rfl
                            · rw [if_neg c_41] at h
                              cases h
                              refine v_sub [] trivial ?_
                              exact (((hk.2 (Nat.succ_ne_zero _)).2 (by simp)).2 (by simp)).1 rfl
                          · rw [if_pos c_40] at h
                            refine v_sub [(0, .ref (B + w0)), (3, .ref (B + w3)), (4, .int x_21), (5, .int s14.2.1), (6, .int s14.2.2.1), (7, .int x_15), (8, .int x_19)] ⟨rfl, rfl, rfl, rfl, rfl, rfl, rfl, trivial⟩ ?_
                            exact j200 _ _ _ _ _ _ h
                      · rw [if_pos c_27] at h
                        refine v_aload_n dX7_reckon_165 rfl ?_
                        replace h := p_bind_elim h
                        obtain ⟨_, q_66, h⟩ := h
                        have q_66 := p_ob_spec q_66
                        replace h := p_bind_elim h
                        obtain ⟨a_67, q_68, h⟩ := h
                        refine v_getR q_68 rfl fl_X7_15 dX7_reckon_166 q_66 ?_
                        refine v_iload dX7_reckon_169 rfl ?_
                        refine v_iconstE (1 : Int32) dX7_reckon_171 (by decide) ?_
                        refine v_isub dX7_reckon_172 ?_
                        refine v_lconst (1 : Int64) dX7_reckon_173 (by decide) ?_
                        refine v_aload_n dX7_reckon_174 rfl ?_
                        replace h := p_bind_elim h
                        obtain ⟨a_69, q_70, h⟩ := h
                        refine v_getR q_70 rfl fl_X7_15 dX7_reckon_175 q_66 ?_
                        refine v_iload dX7_reckon_178 rfl ?_
                        refine v_iconstE (1 : Int32) dX7_reckon_180 (by decide) ?_
                        refine v_isub dX7_reckon_181 ?_
                        replace h := p_bind_elim h
                        obtain ⟨j_71, q_72, h⟩ := h
                        refine v_laldP dX7_reckon_182 q_72 ?_
                        refine v_lsub dX7_reckon_183 ?_
                        replace h := p_bind_elim h
                        obtain ⟨j_73, q_74, h⟩ := h
                        refine v_lastP dX7_reckon_184 q_74 ?_
                        replace h := p_let_elim h
                        obtain ⟨J_75, h_76, h⟩ := h
                        rw [← h_76]
                        refine v_goto 301 dX7_reckon_185 (by decide) ?_
                        refine v_sub [(0, .ref (B + w0)), (3, .ref (B + w3)), (4, .int x_21), (5, .int s14.2.1), (6, .int s14.2.2.1)] ⟨rfl, rfl, rfl, rfl, rfl, trivial⟩ ?_
                        exact j301 _ _ _ _ h
                    · rw [if_pos c_26] at h
                      cases h
                      refine v_sub [(0, .ref (B + w0)), (5, .int s14.2.1)] ⟨rfl, rfl, trivial⟩ ?_
                      exact ((hk.2 (Nat.succ_ne_zero _)).2 (by simp)).1 rfl
                  · rw [if_neg c_25] at h
                    cases h
                    refine v_sub [] trivial ?_
                    exact (hk.2 (Nat.succ_ne_zero _)).1 rfl
                · rw [if_pos c_24] at h
                  refine v_aload_n dX7_reckon_97 rfl ?_
                  replace h := p_bind_elim h
                  obtain ⟨_, q_77, h⟩ := h
                  have q_77 := p_ob_spec q_77
                  replace h := p_bind_elim h
                  obtain ⟨a_78, q_79, h⟩ := h
                  refine v_getR q_79 rfl fl_X7_15 dX7_reckon_98 q_77 ?_
                  refine v_iload dX7_reckon_101 rfl ?_
                  refine v_iload dX7_reckon_103 rfl ?_
                  refine v_if_lt 126 dX7_reckon_105 (by decide) (fun c_80 => ?_) (fun c_80 => ?_)
                  · rw [if_pos c_80] at h
                    refine v_sub [(0, .ref (B + w0)), (3, .ref (B + w3)), (4, .int x_21), (5, .int s14.2.1), (6, .int s14.2.2.1)] ⟨rfl, rfl, rfl, rfl, rfl, trivial⟩ ?_
                    exact j126 _ _ _ _ _ _ h
                  · rw [if_neg c_80] at h
                    refine v_iload dX7_reckon_108 rfl ?_
                    refine v_bipush (36 : Int32) dX7_reckon_110 (by decide) ?_
                    refine v_icmp_ge 126 dX7_reckon_112 (by decide) (fun c_87 => ?_) (fun c_87 => ?_)
                    · rw [if_pos c_87] at h
                      refine v_sub [(0, .ref (B + w0)), (3, .ref (B + w3)), (4, .int x_21), (5, .int s14.2.1), (6, .int s14.2.2.1)] ⟨rfl, rfl, rfl, rfl, rfl, trivial⟩ ?_
                      exact j126 _ _ _ _ _ _ h
                    · rw [if_neg c_87] at h
                      refine v_aload_n dX7_reckon_115 rfl ?_
                      replace h := p_bind_elim h
                      obtain ⟨a_88, q_89, h⟩ := h
                      refine v_getR q_89 rfl fl_X7_9 dX7_reckon_116 q_77 ?_
                      refine v_iload dX7_reckon_119 rfl ?_
                      replace h := p_bind_elim h
                      obtain ⟨j_90, q_91, h⟩ := h
                      refine v_ialdP dX7_reckon_121 q_91 ?_
                      refine v_i2l dX7_reckon_122 ?_
                      refine v_goto 127 dX7_reckon_123 (by decide) ?_
                      refine v_sub [(0, .ref (B + w0)), (3, .ref (B + w3)), (4, .int x_21), (5, .int s14.2.1), (6, .int s14.2.2.1)] ⟨rfl, rfl, rfl, rfl, rfl, trivial⟩ ?_
                      exact j127 _ _ _ _ _ _ _ h
              · rw [if_pos c_23] at h
                refine v_aload_n dX7_reckon_75 rfl ?_
                replace h := p_bind_elim h
                obtain ⟨_, q_92, h⟩ := h
                have q_92 := p_ob_spec q_92
                replace h := p_bind_elim h
                obtain ⟨a_93, q_94, h⟩ := h
                refine v_getR q_94 rfl fl_X7_15 dX7_reckon_76 q_92 ?_
                refine v_iload dX7_reckon_79 rfl ?_
                refine v_iload dX7_reckon_81 rfl ?_
                refine v_i2l dX7_reckon_83 ?_
                replace h := p_bind_elim h
                obtain ⟨j_95, q_96, h⟩ := h
                refine v_lastP dX7_reckon_84 q_96 ?_
                replace h := p_let_elim h
                obtain ⟨J_97, h_98, h⟩ := h
                rw [← h_98]
                replace h := p_let_elim h
                obtain ⟨x_99, h_100, h⟩ := h
                refine v_iincE (1 : Int32) dX7_reckon_85 (by decide) rfl (by decide) ?_
                rw [← h_100]
                refine v_sub [(0, .ref (B + w0)), (3, .ref (B + w3)), (4, .int x_21), (5, .int x_99), (6, .int s14.2.2.1)] ⟨rfl, rfl, rfl, rfl, rfl, trivial⟩ ?_
                refine v_goto 301 dX7_reckon_88 (by decide) ?_
                refine v_sub [(0, .ref (B + w0)), (3, .ref (B + w3)), (4, .int x_21), (5, .int x_99), (6, .int s14.2.2.1)] ⟨rfl, rfl, rfl, rfl, rfl, trivial⟩ ?_
                exact j301 _ _ _ _ h
            · rw [if_neg c_12] at h
              cases h
              refine v_sub [] trivial ?_
              exact hk.1 rfl
  unfold f_X7_reckon at h
  refine v_sub [(0, .ref (B + p0)), (1, .ref (B + p1)), (2, .int p2)] ⟨rfl, rfl, rfl, trivial⟩ ?_
  refine v_aload_n dX7_reckon_0 rfl ?_
  replace h := p_bind_elim h
  obtain ⟨_, q_1, h⟩ := h
  have q_1 := p_ob_spec q_1
  replace h := p_bind_elim h
  obtain ⟨a_2, q_3, h⟩ := h
  refine v_getR q_3 rfl fl_X7_19 dX7_reckon_1 q_1 ?_
  refine v_astore_n dX7_reckon_4 (by decide) ?_
  refine v_sub [(0, .ref (B + p0)), (2, .int p2), (3, .ref (B + a_2))] ⟨rfl, rfl, rfl, trivial⟩ ?_
  refine v_iload_n dX7_reckon_5 rfl ?_
  refine v_istore dX7_reckon_6 (by decide) ?_
  refine v_sub [(0, .ref (B + p0)), (3, .ref (B + a_2)), (4, .int p2)] ⟨rfl, rfl, rfl, trivial⟩ ?_
  refine v_iconstE (0 : Int32) dX7_reckon_8 (by decide) ?_
  refine v_istore dX7_reckon_9 (by decide) ?_
  refine v_sub [(0, .ref (B + p0)), (3, .ref (B + a_2)), (4, .int p2), (5, .int (0 : Int32))] ⟨rfl, rfl, rfl, rfl, trivial⟩ ?_
  refine v_iconstE (0 : Int32) dX7_reckon_11 (by decide) ?_
  refine v_istore dX7_reckon_12 (by decide) ?_
  refine v_sub [(0, .ref (B + p0)), (3, .ref (B + a_2)), (4, .int p2), (5, .int (0 : Int32)), (6, .int (0 : Int32))] ⟨rfl, rfl, rfl, rfl, rfl, trivial⟩ ?_
  replace h := p_bind_elim h
  obtain ⟨q_101, h_102, h⟩ := h
  refine v_sub [(0, .ref (B + p0)), (3, .ref (B + a_2)), (4, .int p2), (5, .int (0 : Int32)), (6, .int (0 : Int32))] ⟨rfl, rfl, rfl, rfl, rfl, trivial⟩ ?_
  refine v_loopV (fun (sP : Int32 × Int32 × Int32 × v_J) => V l B D ac (v_EE B wa wb wt sb sL sx) yX7_reckon cX7_reckon 9 (some .long) d 0 0 0 0 S I sP.2.2.2 F 14 [(0, .ref (B + p0)), (3, .ref (B + a_2)), (4, .int sP.1), (5, .int sP.2.1), (6, .int sP.2.2.1)] [] Q) (fun (rE : Nat × (Int32 × Int32 × Int32 × v_J)) => (rE.1 = 0 → V l B D ac (v_EE B wa wb wt sb sL sx) yX7_reckon cX7_reckon 9 (some .long) d 0 0 0 0 S I rE.2.2.2.2 F 45 [] [] Q) ∧ (¬ rE.1 = 0 → (rE.1 = 1 → V l B D ac (v_EE B wa wb wt sb sL sx) yX7_reckon cX7_reckon 9 (some .long) d 0 0 0 0 S I rE.2.2.2.2 F 140 [] [] Q) ∧ (¬ rE.1 = 1 → (rE.1 = 2 → V l B D ac (v_EE B wa wb wt sb sL sx) yX7_reckon cX7_reckon 9 (some .long) d 0 0 0 0 S I rE.2.2.2.2 F 149 [(0, .ref (B + p0)), (5, .int rE.2.2.1)] [] Q) ∧ (¬ rE.1 = 2 → (rE.1 = 3 → V l B D ac (v_EE B wa wb wt sb sL sx) yX7_reckon cX7_reckon 9 (some .long) d 0 0 0 0 S I rE.2.2.2.2 F 244 [] [] Q) ∧ (¬ rE.1 = 3 → (rE.1 = 4 → V l B D ac (v_EE B wa wb wt sb sL sx) yX7_reckon cX7_reckon 9 (some .long) d 0 0 0 0 S I rE.2.2.2.2 F 297 [] [] Q) ∧ (¬ rE.1 = 4 → V l B D ac (v_EE B wa wb wt sb sL sx) yX7_reckon cX7_reckon 9 (some .long) d 0 0 0 0 S I rE.2.2.2.2 F 307 [] [] Q)))))) (fun s_ x_ hb hk => b14 _ _ s_ x_ hb hk) (r := q_101) ?_ h_102
  try dsimp only
  refine ⟨fun c_112 => ?_, fun c_112 => ?_⟩
  · rw [if_pos c_112] at h
    refine v_ldc2 (-1000000000000000 : Int64) dX7_reckon_45 kn_X7_24 ?_
    cases h
    exact v_lret dX7_reckon_48 rfl (by decide) (by decide) (by rw [← hQ]; exact ⟨rfl, rfl, rfl, rfl, rfl⟩)
  · rw [if_neg c_112] at h
    refine ⟨fun c_111 => ?_, fun c_111 => ?_⟩
    · rw [if_pos c_111] at h
      refine v_ldc2 (-1000000000000000 : Int64) dX7_reckon_140 kn_X7_24 ?_
      cases h
      exact v_lret dX7_reckon_143 rfl (by decide) (by decide) (by rw [← hQ]; exact ⟨rfl, rfl, rfl, rfl, rfl⟩)
    · rw [if_neg c_111] at h
      refine ⟨fun c_110 => ?_, fun c_110 => ?_⟩
      · rw [if_pos c_110] at h
        refine v_aload_n dX7_reckon_149 rfl ?_
        replace h := p_bind_elim h
        obtain ⟨_, q_103, h⟩ := h
        have q_103 := p_ob_spec q_103
        replace h := p_bind_elim h
        obtain ⟨a_104, q_105, h⟩ := h
        refine v_getR q_105 rfl fl_X7_15 dX7_reckon_150 q_103 ?_
        refine v_iload dX7_reckon_153 rfl ?_
        refine v_iconstE (1 : Int32) dX7_reckon_155 (by decide) ?_
        refine v_isub dX7_reckon_156 ?_
        replace h := p_bind_elim h
        obtain ⟨j_106, q_107, h⟩ := h
        refine v_laldP dX7_reckon_157 q_107 ?_
        cases h
        exact v_lret dX7_reckon_158 rfl (by decide) (by decide) (by rw [← hQ]; exact ⟨rfl, rfl, rfl, rfl, rfl⟩)
      · rw [if_neg c_110] at h
        refine ⟨fun c_109 => ?_, fun c_109 => ?_⟩
        · rw [if_pos c_109] at h
          refine v_ldc2 (-1000000000000000 : Int64) dX7_reckon_244 kn_X7_24 ?_
          cases h
          exact v_lret dX7_reckon_247 rfl (by decide) (by decide) (by rw [← hQ]; exact ⟨rfl, rfl, rfl, rfl, rfl⟩)
        · rw [if_neg c_109] at h
          refine ⟨fun c_108 => ?_, fun c_108 => ?_⟩
          · rw [if_pos c_108] at h
            refine v_ldc2 (-1000000000000000 : Int64) dX7_reckon_297 kn_X7_24 ?_
            cases h
            exact v_lret dX7_reckon_300 rfl (by decide) (by decide) (by rw [← hQ]; exact ⟨rfl, rfl, rfl, rfl, rfl⟩)
          · rw [if_neg c_108] at h
            refine v_ldc2 (-1000000000000000 : Int64) dX7_reckon_307 kn_X7_24 ?_
            cases h
            exact v_lret dX7_reckon_310 rfl (by decide) (by decide) (by rw [← hQ]; exact ⟨rfl, rfl, rfl, rfl, rfl⟩)

def f_X1_told_J14_110 (S : v_S) (I : v_I) (F : v_F) (w0 : Nat) (w1 : Option Nat) (w2 : Int32) (w3 : Int32) (J : v_J) (y4 : Int32) : Option ((Int32 × v_J) ⊕ (Nat × (Int32 × v_J × Int64))) :=
p_let (y4 + (-1 : Int32)) fun x_15 =>
some (.inl (x_15, J))
def f_X1_told_J14_85 (S : v_S) (I : v_I) (F : v_F) (w0 : Nat) (w1 : Option Nat) (w2 : Int32) (w3 : Int32) (J : v_J) (y4 : Int32) (z0 : Int64) : Option ((Int32 × v_J) ⊕ (Nat × (Int32 × v_J × Int64))) :=
if (lg_cmp z0 (-1000000000000000 : Int64)) = (0 : Int32) then (
f_X1_told_J14_110 S I F w0 w1 w2 w3 J y4)
else (
some (.inr (0, (y4, J, z0))))
def f_X1_told_J14_61 (S : v_S) (I : v_I) (F : v_F) (w0 : Nat) (w1 : Option Nat) (w2 : Int32) (w3 : Int32) (J : v_J) (y4 : Int32) : Option ((Int32 × v_J) ⊕ (Nat × (Int32 × v_J × Int64))) :=
if w2 = (2 : Int32) then (
f_X1_told_J14_85 S I F w0 w1 w2 w3 J y4 (1 : Int64))
else (
(p_ob S 1 w0).bind fun _ =>
(F w0 0).bind fun a_24 =>
(w1).bind fun a_26 =>
(p_ob S 8 a_26).bind fun _ =>
(F a_26 4).bind fun a_29 =>
(p_ix S 20 a_29 y4).bind fun j_31 =>
(p_ob S 7 a_24).bind fun _ =>
(f_X7_reckon S I J F a_24 a_26 (I a_29 j_31)).bind fun r_33 =>
f_X1_told_J14_85 S I F w0 w1 w2 w3 r_33.2 y4 r_33.1)
def f_X1_told_B14 (S : v_S) (I : v_I) (F : v_F) (w0 : Nat) (w1 : Option Nat) (w2 : Int32) (w3 : Int32) (s14 : Int32 × v_J) : Option ((Int32 × v_J) ⊕ (Nat × (Int32 × v_J × Int64))) :=
if s14.1 < (0 : Int32) then (
some (.inr (1, (s14.1, s14.2, (0 : Int64)))))
else (
(w1).bind fun a_7 =>
(p_ob S 8 a_7).bind fun _ =>
(F a_7 3).bind fun a_10 =>
(p_ix S 20 a_10 s14.1).bind fun j_12 =>
if (I a_10 j_12) = w2 then (
(F a_7 6).bind fun a_17 =>
(p_ix S 20 a_17 s14.1).bind fun j_19 =>
if (I a_17 j_19) = (-1 : Int32) then (
f_X1_told_J14_61 S I F w0 w1 w2 w3 s14.2 s14.1)
else (
(p_ob S 1 w0).bind fun _ =>
(F w0 0).bind fun a_38 =>
(F a_7 6).bind fun a_40 =>
(p_ix S 20 a_40 s14.1).bind fun j_42 =>
(p_ob S 7 a_38).bind fun _ =>
(f_X7_reckon S I s14.2 F a_38 a_7 (I a_40 j_42)).bind fun r_44 =>
if (lg_cmp r_44.1 (1 : Int64)) = (0 : Int32) then (
f_X1_told_J14_61 S I F w0 w1 w2 w3 r_44.2 s14.1)
else (
f_X1_told_J14_110 S I F w0 w1 w2 w3 r_44.2 s14.1)))
else (
f_X1_told_J14_110 S I F w0 w1 w2 w3 s14.2 s14.1))
def f_X1_told (S : v_S) (I : v_I) (J : v_J) (F : v_F) (p0 : Nat) (p1 : Option Nat) (p2 : Int32) (p3 : Int32) : Option (Int32 × v_J) :=
p_nul p1 (
some (p3, J)) (fun a_1 =>
(p_ob S 8 a_1).bind fun _ =>
p_let ((I a_1 0) - (1 : Int32)) fun x_4 =>
(v_loop (f_X1_told_B14 S I F p0 (some a_1) p2 p3) FU (x_4, J)).bind fun q_48 =>
if q_48.1 = 0 then (
some ((p_maxL (0 : Int64) (p_minL q_48.2.2.2 (9 : Int64))).toInt32, q_48.2.2.1))
else (
some (p3, q_48.2.2.1)))
set_option maxHeartbeats 4000000 in
set_option maxRecDepth 100000 in
theorem t_X1_told {p0 : Nat} {p1 : Option Nat} {p2 : Int32} {p3 : Int32} {r : Int32 × v_J} (h : f_X1_told S I J F p0 p1 p2 p3 = some r) : v_R l B D ac (v_EE B wa wb wt sb sL sx) yX1_told cX1_told 7 (some .int) 3 0 0 [.ref (B + p0), v_rf B p1, .int p2, .int p3] S I J F (v_D (some (.int r.1)) S I r.2 F) := by
  refine v_R.of (by decide) (by rcases p1 with _ | _ <;> exact Nat.le_of_ble_eq_true rfl) fun d hd => ?_
  generalize hQ : v_D (some (.int r.1)) S I r.2 F = Q
  have b14 : ∀ (w0 : Nat) (w1 : Option Nat) (w2 : Int32) (w3 : Int32) (s14 : Int32 × v_J) (rx14 : (Int32 × v_J) ⊕ (Nat × (Int32 × v_J × Int64))), f_X1_told_B14 S I F w0 w1 w2 w3 s14 = some rx14 → v_K (fun (sP : Int32 × v_J) => V l B D ac (v_EE B wa wb wt sb sL sx) yX1_told cX1_told 7 (some .int) d 0 0 0 0 S I sP.2 F 14 [(0, .ref (B + w0)), (1, v_rf B w1), (2, .int w2), (3, .int w3), (4, .int sP.1)] [] Q) (fun (rE : Nat × (Int32 × v_J × Int64)) => (rE.1 = 0 → V l B D ac (v_EE B wa wb wt sb sL sx) yX1_told cX1_told 7 (some .int) d 0 0 0 0 S I rE.2.2.1 F 96 [(5, .long rE.2.2.2)] [] Q) ∧ (¬ rE.1 = 0 → V l B D ac (v_EE B wa wb wt sb sL sx) yX1_told cX1_told 7 (some .int) d 0 0 0 0 S I rE.2.2.1 F 116 [(3, .int w3)] [] Q)) rx14 → V l B D ac (v_EE B wa wb wt sb sL sx) yX1_told cX1_told 7 (some .int) d 0 0 0 0 S I s14.2 F 14 [(0, .ref (B + w0)), (1, v_rf B w1), (2, .int w2), (3, .int w3), (4, .int s14.1)] [] Q := by
    intro w0 w1 w2 w3 s14 rx14 h hk
    have j110 : ∀ (J : v_J) (y4 : Int32), f_X1_told_J14_110 S I F w0 w1 w2 w3 J y4 = some rx14 → V l B D ac (v_EE B wa wb wt sb sL sx) yX1_told cX1_told 7 (some .int) d 0 0 0 0 S I J F 110 [(0, .ref (B + w0)), (1, v_rf B w1), (2, .int w2), (3, .int w3), (4, .int y4)] [] Q := by
      intro J y4 h
      unfold f_X1_told_J14_110 at h
      replace h := p_let_elim h
      obtain ⟨x_15, h_16, h⟩ := h
      refine v_iincE (-1 : Int32) dX1_told_110 (by decide) rfl (by decide) ?_
      rw [← h_16]
      refine v_sub [(0, .ref (B + w0)), (1, v_rf B w1), (2, .int w2), (3, .int w3), (4, .int x_15)] (by rcases w1 with _ | _ <;> exact ⟨rfl, rfl, rfl, rfl, rfl, trivial⟩) ?_
      refine v_goto 14 dX1_told_113 (by decide) ?_
      cases h
      refine v_sub [(0, .ref (B + w0)), (1, v_rf B w1), (2, .int w2), (3, .int w3), (4, .int x_15)] (by rcases w1 with _ | _ <;> exact ⟨rfl, rfl, rfl, rfl, rfl, trivial⟩) ?_
      exact hk
    have j85 : ∀ (J : v_J) (y4 : Int32) (z0 : Int64), f_X1_told_J14_85 S I F w0 w1 w2 w3 J y4 z0 = some rx14 → V l B D ac (v_EE B wa wb wt sb sL sx) yX1_told cX1_told 7 (some .int) d 0 0 0 0 S I J F 85 [(0, .ref (B + w0)), (1, v_rf B w1), (2, .int w2), (3, .int w3), (4, .int y4)] [.long z0] Q := by
      intro J y4 z0 h
      unfold f_X1_told_J14_85 at h
      refine v_lstore dX1_told_85 (by decide) ?_
      refine v_sub [(0, .ref (B + w0)), (1, v_rf B w1), (2, .int w2), (3, .int w3), (4, .int y4), (5, .long z0)] (by rcases w1 with _ | _ <;> exact ⟨rfl, rfl, rfl, rfl, rfl, rfl, trivial⟩) ?_
      refine v_lload dX1_told_87 rfl ?_
      refine v_ldc2 (-1000000000000000 : Int64) dX1_told_89 kn_X1_144 ?_
      refine v_lcmp dX1_told_92 ?_
      refine v_if_eq 110 dX1_told_93 (by decide) (fun c_36 => ?_) (fun c_36 => ?_)
      · rw [if_pos c_36] at h
        refine v_sub [(0, .ref (B + w0)), (1, v_rf B w1), (2, .int w2), (3, .int w3), (4, .int y4)] (by rcases w1 with _ | _ <;> exact ⟨rfl, rfl, rfl, rfl, rfl, trivial⟩) ?_
        exact j110 _ _ h
      · rw [if_neg c_36] at h
        cases h
        refine v_sub [(5, .long z0)] (by rcases w1 with _ | _ <;> exact ⟨rfl, trivial⟩) ?_
        exact hk.1 rfl
    have j61 : ∀ (J : v_J) (y4 : Int32), f_X1_told_J14_61 S I F w0 w1 w2 w3 J y4 = some rx14 → V l B D ac (v_EE B wa wb wt sb sL sx) yX1_told cX1_told 7 (some .int) d 0 0 0 0 S I J F 61 [(0, .ref (B + w0)), (1, v_rf B w1), (2, .int w2), (3, .int w3), (4, .int y4)] [] Q := by
      intro J y4 h
      unfold f_X1_told_J14_61 at h
      refine v_iload_n dX1_told_61 rfl ?_
      refine v_iconstE (2 : Int32) dX1_told_62 (by decide) ?_
      refine v_icmp_ne 70 dX1_told_63 (by decide) (fun c_22 => ?_) (fun c_22 => ?_)
      · rw [if_neg c_22] at h
        refine v_aload_n dX1_told_70 rfl ?_
        replace h := p_bind_elim h
        obtain ⟨_, q_23, h⟩ := h
        have q_23 := p_ob_spec q_23
        replace h := p_bind_elim h
        obtain ⟨a_24, q_25, h⟩ := h
        refine v_getR q_25 rfl fl_X1_12 dX1_told_71 q_23 ?_
        refine v_aload_nQ dX1_told_74 rfl ?_
        refine v_aload_nQ dX1_told_75 rfl ?_
        replace h := p_bind_elim h
        obtain ⟨a_26, q_27, h⟩ := h
        subst q_27
        replace h := p_bind_elim h
        obtain ⟨_, q_28, h⟩ := h
        have q_28 := p_ob_spec q_28
        replace h := p_bind_elim h
        obtain ⟨a_29, q_30, h⟩ := h
        refine v_getR q_30 rfl fl_X1_141 dX1_told_76 q_28 ?_
        refine v_iload dX1_told_79 rfl ?_
        replace h := p_bind_elim h
        obtain ⟨j_31, q_32, h⟩ := h
        refine v_ialdP dX1_told_81 q_32 ?_
        replace h := p_bind_elim h
        obtain ⟨_, q_35, h⟩ := h
        have q_35 := p_ob_spec q_35
        replace h := p_bind_elim h
        obtain ⟨r_33, q_34, h⟩ := h
        refine v_cVr (t_X7_reckon q_34) cal_X7_reckon ml_X1_137 sel_X7_reckon q_35 kk_7 dX1_told_82 (by omega) (by decide) (by decide) (Nat.le_of_ble_eq_true rfl) rfl ?_
        refine v_sub [(0, .ref (B + w0)), (1, .ref (B + a_26)), (2, .int w2), (3, .int w3), (4, .int y4)] ⟨rfl, rfl, rfl, rfl, rfl, trivial⟩ ?_
        exact j85 _ _ _ h
      · rw [if_pos c_22] at h
        refine v_lconst (1 : Int64) dX1_told_66 (by decide) ?_
        refine v_goto 85 dX1_told_67 (by decide) ?_
        refine v_sub [(0, .ref (B + w0)), (1, v_rf B w1), (2, .int w2), (3, .int w3), (4, .int y4)] (by rcases w1 with _ | _ <;> exact ⟨rfl, rfl, rfl, rfl, rfl, trivial⟩) ?_
        exact j85 _ _ _ h
    unfold f_X1_told_B14 at h
    refine v_iload dX1_told_14 rfl ?_
    refine v_if_lt 116 dX1_told_16 (by decide) (fun c_6 => ?_) (fun c_6 => ?_)
    · rw [if_pos c_6] at h
      cases h
      refine v_sub [(3, .int w3)] (by rcases w1 with _ | _ <;> exact ⟨rfl, trivial⟩) ?_
      exact (hk.2 (Nat.succ_ne_zero _))
    · rw [if_neg c_6] at h
      refine v_aload_nQ dX1_told_19 rfl ?_
      replace h := p_bind_elim h
      obtain ⟨a_7, q_8, h⟩ := h
      subst q_8
      replace h := p_bind_elim h
      obtain ⟨_, q_9, h⟩ := h
      have q_9 := p_ob_spec q_9
      replace h := p_bind_elim h
      obtain ⟨a_10, q_11, h⟩ := h
      refine v_getR q_11 rfl fl_X1_131 dX1_told_20 q_9 ?_
      refine v_iload dX1_told_23 rfl ?_
      replace h := p_bind_elim h
      obtain ⟨j_12, q_13, h⟩ := h
      refine v_ialdP dX1_told_25 q_13 ?_
      refine v_iload_n dX1_told_26 rfl ?_
      refine v_icmp_ne 110 dX1_told_27 (by decide) (fun c_14 => ?_) (fun c_14 => ?_)
      · rw [if_neg c_14] at h
        refine v_sub [(0, .ref (B + w0)), (1, .ref (B + a_7)), (2, .int w2), (3, .int w3), (4, .int s14.1)] ⟨rfl, rfl, rfl, rfl, rfl, trivial⟩ ?_
        exact j110 _ _ h
      · rw [if_pos c_14] at h
        refine v_aload_n dX1_told_30 rfl ?_
        replace h := p_bind_elim h
        obtain ⟨a_17, q_18, h⟩ := h
        refine v_getR q_18 rfl fl_X1_134 dX1_told_31 q_9 ?_
        refine v_iload dX1_told_34 rfl ?_
        replace h := p_bind_elim h
        obtain ⟨j_19, q_20, h⟩ := h
        refine v_ialdP dX1_told_36 q_20 ?_
        refine v_iconstE (-1 : Int32) dX1_told_37 (by decide) ?_
        refine v_icmp_eq 61 dX1_told_38 (by decide) (fun c_21 => ?_) (fun c_21 => ?_)
        · rw [if_pos c_21] at h
          refine v_sub [(0, .ref (B + w0)), (1, .ref (B + a_7)), (2, .int w2), (3, .int w3), (4, .int s14.1)] ⟨rfl, rfl, rfl, rfl, rfl, trivial⟩ ?_
          exact j61 _ _ h
        · rw [if_neg c_21] at h
          refine v_aload_n dX1_told_41 rfl ?_
          replace h := p_bind_elim h
          obtain ⟨_, q_37, h⟩ := h
          have q_37 := p_ob_spec q_37
          replace h := p_bind_elim h
          obtain ⟨a_38, q_39, h⟩ := h
          refine v_getR q_39 rfl fl_X1_12 dX1_told_42 q_37 ?_
          refine v_aload_n dX1_told_45 rfl ?_
          refine v_aload_n dX1_told_46 rfl ?_
          replace h := p_bind_elim h
          obtain ⟨a_40, q_41, h⟩ := h
          refine v_getR q_41 rfl fl_X1_134 dX1_told_47 q_9 ?_
          refine v_iload dX1_told_50 rfl ?_
          replace h := p_bind_elim h
          obtain ⟨j_42, q_43, h⟩ := h
          refine v_ialdP dX1_told_52 q_43 ?_
          replace h := p_bind_elim h
          obtain ⟨_, q_46, h⟩ := h
          have q_46 := p_ob_spec q_46
          replace h := p_bind_elim h
          obtain ⟨r_44, q_45, h⟩ := h
          refine v_cVr (t_X7_reckon q_45) cal_X7_reckon ml_X1_137 sel_X7_reckon q_46 kk_7 dX1_told_53 (by omega) (by decide) (by decide) (Nat.le_of_ble_eq_true rfl) rfl ?_
          refine v_lconst (1 : Int64) dX1_told_56 (by decide) ?_
          refine v_lcmp dX1_told_57 ?_
          refine v_if_ne 110 dX1_told_58 (by decide) (fun c_47 => ?_) (fun c_47 => ?_)
          · rw [if_neg c_47] at h
            refine v_sub [(0, .ref (B + w0)), (1, .ref (B + a_7)), (2, .int w2), (3, .int w3), (4, .int s14.1)] ⟨rfl, rfl, rfl, rfl, rfl, trivial⟩ ?_
            exact j110 _ _ h
          · rw [if_pos c_47] at h
            refine v_sub [(0, .ref (B + w0)), (1, .ref (B + a_7)), (2, .int w2), (3, .int w3), (4, .int s14.1)] ⟨rfl, rfl, rfl, rfl, rfl, trivial⟩ ?_
            exact j61 _ _ h
  unfold f_X1_told at h
  refine v_sub [(0, .ref (B + p0)), (1, v_rf B p1), (2, .int p2), (3, .int p3)] (by rcases p1 with _ | _ <;> exact ⟨rfl, rfl, rfl, rfl, trivial⟩) ?_
  refine v_aload_nQ dX1_told_0 rfl ?_
  replace h := p_nul_elim h
  rcases h with ⟨q_2, h⟩ | ⟨a_1, q_2, h⟩
  · subst q_2
    refine v_ifnonnullN dX1_told_1 ?_
    refine v_iload_n dX1_told_4 rfl ?_
    cases h
    exact v_iret dX1_told_5 rfl (by decide) (by decide) (by rw [← hQ]; exact ⟨rfl, rfl, rfl, rfl, rfl⟩)
  · subst q_2
    refine v_ifnonnull 6 dX1_told_1 (by decide) ?_
    refine v_aload_n dX1_told_6 rfl ?_
    replace h := p_bind_elim h
    obtain ⟨_, q_3, h⟩ := h
    have q_3 := p_ob_spec q_3
    refine v_getI rfl fl_X1_128 dX1_told_7 q_3 ?_
    refine v_iconstE (1 : Int32) dX1_told_10 (by decide) ?_
    refine v_isub dX1_told_11 ?_
    replace h := p_let_elim h
    obtain ⟨x_4, h_5, h⟩ := h
    rw [← h_5]
    refine v_istore dX1_told_12 (by decide) ?_
    refine v_sub [(0, .ref (B + p0)), (1, .ref (B + a_1)), (2, .int p2), (3, .int p3), (4, .int x_4)] ⟨rfl, rfl, rfl, rfl, rfl, trivial⟩ ?_
    replace h := p_bind_elim h
    obtain ⟨q_48, h_49, h⟩ := h
    refine v_sub [(0, .ref (B + p0)), (1, .ref (B + a_1)), (2, .int p2), (3, .int p3), (4, .int x_4)] ⟨rfl, rfl, rfl, rfl, rfl, trivial⟩ ?_
    refine v_loopV (fun (sP : Int32 × v_J) => V l B D ac (v_EE B wa wb wt sb sL sx) yX1_told cX1_told 7 (some .int) d 0 0 0 0 S I sP.2 F 14 [(0, .ref (B + p0)), (1, v_rf B (some a_1)), (2, .int p2), (3, .int p3), (4, .int sP.1)] [] Q) (fun (rE : Nat × (Int32 × v_J × Int64)) => (rE.1 = 0 → V l B D ac (v_EE B wa wb wt sb sL sx) yX1_told cX1_told 7 (some .int) d 0 0 0 0 S I rE.2.2.1 F 96 [(5, .long rE.2.2.2)] [] Q) ∧ (¬ rE.1 = 0 → V l B D ac (v_EE B wa wb wt sb sL sx) yX1_told cX1_told 7 (some .int) d 0 0 0 0 S I rE.2.2.1 F 116 [(3, .int p3)] [] Q)) (fun s_ x_ hb hk => b14 _ _ _ _ s_ x_ hb hk) (r := q_48) ?_ h_49
    try dsimp only
    refine ⟨fun c_50 => ?_, fun c_50 => ?_⟩
    · rw [if_pos c_50] at h
      refine v_lconst (0 : Int64) dX1_told_96 (by decide) ?_
      refine v_lload dX1_told_97 rfl ?_
      refine v_ldc2 (9 : Int64) dX1_told_99 kn_X1_146 ?_
      refine v_minL dX1_told_102 ml_X1_148 (by omega) (by decide) (by decide) (Nat.le_of_ble_eq_true rfl) ?_
      refine v_maxL dX1_told_105 ml_X1_151 (by omega) (by decide) (by decide) (Nat.le_of_ble_eq_true rfl) ?_
      refine v_l2i dX1_told_108 ?_
      cases h
      exact v_iret dX1_told_109 rfl (by decide) (by decide) (by rw [← hQ]; exact ⟨rfl, rfl, rfl, rfl, rfl⟩)
    · rw [if_neg c_50] at h
      refine v_iload_n dX1_told_116 rfl ?_
      cases h
      exact v_iret dX1_told_117 rfl (by decide) (by decide) (by rw [← hQ]; exact ⟨rfl, rfl, rfl, rfl, rfl⟩)

def f_X1_passMinute_J24_163 (S : v_S) (F : v_F) (w0 : Nat) (w1 : Nat) (w2 : Nat) (w3 : Option Nat) (w4 : Int32) (I : v_I) (J : v_J) (y5 : Int32) (y7 : Int32) (z0 : Int32) (z1 : Int32) : Option ((Int32 × Int32 × Int32 × v_I × v_J) ⊕ (Int32 × Int32 × Int32 × v_I × v_J)) :=
p_let (z1 ||| z0) fun x_46 =>
p_let (y7 + (1 : Int32)) fun x_48 =>
some (.inl (y5, x_46, x_48, I, J))
def f_X1_passMinute_J24_126 (S : v_S) (F : v_F) (w0 : Nat) (w1 : Nat) (w2 : Nat) (w3 : Option Nat) (w4 : Int32) (I : v_I) (J : v_J) (y6 : Int32) (y7 : Int32) (y8 : Int32) (z0 : Int32) (z1 : Int32) : Option ((Int32 × Int32 × Int32 × v_I × v_J) ⊕ (Int32 × Int32 × Int32 × v_I × v_J)) :=
p_let (z1 ||| z0) fun x_30 =>
(p_ob S 1 w0).bind fun _ =>
(F w0 2).bind fun a_33 =>
(f_X1_told S I J F w0 w3 (1 : Int32) y8).bind fun r_35 =>
(p_ix S 20 a_33 y7).bind fun j_37 =>
p_let (v_up I a_33 j_37 r_35.1) fun I_39 =>
(F w0 2).bind fun a_41 =>
(p_ix S 20 a_41 y7).bind fun j_43 =>
if (I_39 a_41 j_43) = y8 then (
f_X1_passMinute_J24_163 S F w0 w1 w2 w3 w4 I_39 r_35.2 x_30 y7 (0 : Int32) y6)
else (
f_X1_passMinute_J24_163 S F w0 w1 w2 w3 w4 I_39 r_35.2 x_30 y7 (1 : Int32) y6)
def f_X1_passMinute_J24_109 (S : v_S) (F : v_F) (w0 : Nat) (w1 : Nat) (w2 : Nat) (w3 : Option Nat) (w4 : Int32) (I : v_I) (J : v_J) (y5 : Int32) (y6 : Int32) (y7 : Int32) (y8 : Int32) (z0 : Int32) : Option ((Int32 × Int32 × Int32 × v_I × v_J) ⊕ (Int32 × Int32 × Int32 × v_I × v_J)) :=
if z0 = (0 : Int32) then (
f_X1_passMinute_J24_126 S F w0 w1 w2 w3 w4 I J y6 y7 y8 (0 : Int32) y5)
else (
f_X1_passMinute_J24_126 S F w0 w1 w2 w3 w4 I J y6 y7 y8 ((1 : Int32) <<< (y7 &&& 31)) y5)
def f_X1_passMinute_B24 (S : v_S) (F : v_F) (w0 : Nat) (w1 : Nat) (w2 : Nat) (w3 : Option Nat) (w4 : Int32) (s24 : Int32 × Int32 × Int32 × v_I × v_J) : Option ((Int32 × Int32 × Int32 × v_I × v_J) ⊕ (Int32 × Int32 × Int32 × v_I × v_J)) :=
(p_ob S 0 w1).bind fun _ =>
if (s24.2.2.2.1 w1 0) ≤ s24.2.2.1 then (
some (.inr (s24.1, s24.2.1, s24.2.2.1, s24.2.2.2.1, s24.2.2.2.2)))
else (
if (8 : Int32) ≤ s24.2.2.1 then (
some (.inr (s24.1, s24.2.1, s24.2.2.1, s24.2.2.2.1, s24.2.2.2.2)))
else (
(p_ob S 1 w0).bind fun _ =>
(f_X1_hear S s24.2.2.2.1 F w0 w1 w2 s24.2.2.1).bind fun r_6 =>
(p_ob S 3 w2).bind fun _ =>
(F w2 2).bind fun a_10 =>
(p_ix S 20 a_10 s24.2.2.1).bind fun j_12 =>
p_let (r_6 a_10 j_12) fun x_14 =>
(f_X3_isOpen S r_6 w2 s24.2.2.1).bind fun r_16 =>
if r_16 = (0 : Int32) then (
(F w0 0).bind fun a_19 =>
(p_ob S 7 a_19).bind fun _ =>
(F a_19 0).bind fun a_22 =>
(p_ix S 20 a_22 (3 : Int32)).bind fun j_24 =>
(f_X1_told S r_6 s24.2.2.2.2 F w0 w3 (0 : Int32) x_14).bind fun r_26 =>
if (r_6 a_22 j_24) < r_26.1 then (
f_X1_passMinute_J24_109 S F w0 w1 w2 w3 w4 r_6 r_26.2 s24.1 s24.2.1 s24.2.2.1 x_14 (0 : Int32))
else (
f_X1_passMinute_J24_109 S F w0 w1 w2 w3 w4 r_6 r_26.2 s24.1 s24.2.1 s24.2.2.1 x_14 (1 : Int32)))
else (
(f_X1_told S r_6 s24.2.2.2.2 F w0 w3 (2 : Int32) (0 : Int32)).bind fun r_50 =>
if r_50.1 = (0 : Int32) then (
f_X1_passMinute_J24_109 S F w0 w1 w2 w3 w4 r_6 r_50.2 s24.1 s24.2.1 s24.2.2.1 x_14 (1 : Int32))
else (
f_X1_passMinute_J24_109 S F w0 w1 w2 w3 w4 r_6 r_50.2 s24.1 s24.2.1 s24.2.2.1 x_14 (0 : Int32)))))
def f_X1_passMinute_B203 (S : v_S) (F : v_F) (J : v_J) (w0 : Nat) (w1 : Nat) (w2 : Nat) (w5 : Int32) (w6 : Int32) (s203 : Int32 × v_I) : Option ((Int32 × v_I) ⊕ (Int32 × v_I)) :=
(p_ob S 0 w1).bind fun _ =>
if (s203.2 w1 0) ≤ s203.1 then (
some (.inr (s203.1, s203.2)))
else (
if (8 : Int32) ≤ s203.1 then (
some (.inr (s203.1, s203.2)))
else (
(p_ob S 3 w2).bind fun _ =>
(F w2 2).bind fun a_65 =>
(p_ob S 1 w0).bind fun _ =>
(F w0 2).bind fun a_68 =>
(p_ix S 20 a_68 s203.1).bind fun j_70 =>
(p_ix S 20 a_65 s203.1).bind fun j_72 =>
p_let (v_up s203.2 a_65 j_72 (s203.2 a_68 j_70)) fun I_74 =>
(F w2 3).bind fun a_76 =>
(F w2 3).bind fun a_78 =>
(p_ix S 20 a_78 s203.1).bind fun j_80 =>
(p_ix S 20 a_76 s203.1).bind fun j_82 =>
p_let (v_up I_74 a_76 j_82 (p_min ((I_74 a_78 j_80) + (1 : Int32)) (99 : Int32))) fun I_84 =>
p_let (s203.1 + (1 : Int32)) fun x_86 =>
some (.inl (x_86, I_84))))
def f_X1_passMinute_J260 (S : v_S) (F : v_F) (I : v_I) (J : v_J) (y2 : Nat) (y5 : Int32) (y6 : Int32) : Option (Int32 × v_I × v_J) :=
(p_ob S 3 y2).bind fun _ =>
p_let (v_up I y2 0 y5) fun I_91 =>
p_let (v_up I_91 y2 1 ((I_91 y2 1) + (1 : Int32))) fun I_93 =>
(p_bl y6).bind fun _ =>
some (y6, I_93, J)
def f_X1_passMinute_J197 (S : v_S) (F : v_F) (I : v_I) (J : v_J) (y0 : Nat) (y1 : Nat) (y2 : Nat) (y5 : Int32) (z0 : Int32) (z1 : Int32) : Option (Int32 × v_I × v_J) :=
p_let (z1 ||| z0) fun x_59 =>
(v_loop (f_X1_passMinute_B203 S F J y0 y1 y2 y5 x_59) FU ((0 : Int32), I)).bind fun q_88 =>
f_X1_passMinute_J260 S F q_88.2 J y2 y5 x_59
def f_X1_passMinute_J172 (S : v_S) (F : v_F) (I : v_I) (J : v_J) (y0 : Nat) (y1 : Nat) (y2 : Nat) (y4 : Int32) (y5 : Int32) (y6 : Int32) : Option (Int32 × v_I × v_J) :=
p_let (y5 &&& (y4 ^^^ (-1 : Int32))) fun x_55 =>
(p_ob S 3 y2).bind fun _ =>
if x_55 = (I y2 0) then (
f_X1_passMinute_J197 S F I J y0 y1 y2 x_55 (0 : Int32) y6)
else (
f_X1_passMinute_J197 S F I J y0 y1 y2 x_55 (1 : Int32) y6)
def f_X1_passMinute_J19 (S : v_S) (F : v_F) (I : v_I) (J : v_J) (y0 : Nat) (y1 : Nat) (y2 : Nat) (y3 : Option Nat) (y4 : Int32) (y5 : Int32) (z0 : Int32) : Option (Int32 × v_I × v_J) :=
(v_loop (f_X1_passMinute_B24 S F y0 y1 y2 y3 y4) FU (y5, z0, (0 : Int32), I, J)).bind fun q_53 =>
f_X1_passMinute_J172 S F q_53.2.2.2.1 q_53.2.2.2.2 y0 y1 y2 y4 q_53.1 q_53.2.1
def f_X1_passMinute_J18 (S : v_S) (F : v_F) (I : v_I) (J : v_J) (y0 : Nat) (y1 : Nat) (y2 : Nat) (y3 : Option Nat) (y4 : Int32) (y5 : Int32) : Option (Int32 × v_I × v_J) :=
f_X1_passMinute_J19 S F I J y0 y1 y2 y3 y4 y5 (0 : Int32)
def f_X1_passMinute (S : v_S) (I : v_I) (J : v_J) (F : v_F) (p0 : Nat) (p1 : Nat) (p2 : Nat) (p3 : Option Nat) (p4 : Int32) : Option (Int32 × v_I × v_J) :=
p_nul p3 (
f_X1_passMinute_J18 S F I J p0 p1 p2 none p4 (0 : Int32)) (fun a_1 =>
(p_ob S 8 a_1).bind fun _ =>
if (I a_1 2) = (0 : Int32) then (
f_X1_passMinute_J18 S F I J p0 p1 p2 (some a_1) p4 (0 : Int32))
else (
f_X1_passMinute_J19 S F I J p0 p1 p2 (some a_1) p4 (0 : Int32) (1 : Int32)))
set_option maxHeartbeats 4000000 in
set_option maxRecDepth 100000 in
theorem t_X1_passMinute {p0 : Nat} {p1 : Nat} {p2 : Nat} {p3 : Option Nat} {p4 : Int32} {r : Int32 × v_I × v_J} (h : f_X1_passMinute S I J F p0 p1 p2 p3 p4 = some r) : v_R l B D ac (v_EE B wa wb wt sb sL sx) yX1_passMinute cX1_passMinute 10 (some .boolean) 4 0 0 [.ref (B + p0), .ref (B + p1), .ref (B + p2), v_rf B p3, .int p4] S I J F (v_D (some (.int r.1)) S r.2.1 r.2.2 F) := by
  refine v_R.of (by decide) (by rcases p3 with _ | _ <;> exact Nat.le_of_ble_eq_true rfl) fun d hd => ?_
  generalize hQ : v_D (some (.int r.1)) S r.2.1 r.2.2 F = Q
  have b24 : ∀ (w0 : Nat) (w1 : Nat) (w2 : Nat) (w3 : Option Nat) (w4 : Int32) (s24 : Int32 × Int32 × Int32 × v_I × v_J) (rx24 : (Int32 × Int32 × Int32 × v_I × v_J) ⊕ (Int32 × Int32 × Int32 × v_I × v_J)), f_X1_passMinute_B24 S F w0 w1 w2 w3 w4 s24 = some rx24 → v_K (fun (sP : Int32 × Int32 × Int32 × v_I × v_J) => V l B D ac (v_EE B wa wb wt sb sL sx) yX1_passMinute cX1_passMinute 10 (some .boolean) d 0 0 0 0 S sP.2.2.2.1 sP.2.2.2.2 F 24 [(0, .ref (B + w0)), (1, .ref (B + w1)), (2, .ref (B + w2)), (3, v_rf B w3), (4, .int w4), (5, .int sP.1), (6, .int sP.2.1), (7, .int sP.2.2.1)] [] Q) (fun (rE : Int32 × Int32 × Int32 × v_I × v_J) => V l B D ac (v_EE B wa wb wt sb sL sx) yX1_passMinute cX1_passMinute 10 (some .boolean) d 0 0 0 0 S rE.2.2.2.1 rE.2.2.2.2 F 172 [(0, .ref (B + w0)), (1, .ref (B + w1)), (2, .ref (B + w2)), (4, .int w4), (5, .int rE.1), (6, .int rE.2.1)] [] Q) rx24 → V l B D ac (v_EE B wa wb wt sb sL sx) yX1_passMinute cX1_passMinute 10 (some .boolean) d 0 0 0 0 S s24.2.2.2.1 s24.2.2.2.2 F 24 [(0, .ref (B + w0)), (1, .ref (B + w1)), (2, .ref (B + w2)), (3, v_rf B w3), (4, .int w4), (5, .int s24.1), (6, .int s24.2.1), (7, .int s24.2.2.1)] [] Q := by
    intro w0 w1 w2 w3 w4 s24 rx24 h hk
    have j163 : ∀ (I : v_I) (J : v_J) (y5 : Int32) (y7 : Int32) (z0 : Int32) (z1 : Int32), f_X1_passMinute_J24_163 S F w0 w1 w2 w3 w4 I J y5 y7 z0 z1 = some rx24 → V l B D ac (v_EE B wa wb wt sb sL sx) yX1_passMinute cX1_passMinute 10 (some .boolean) d 0 0 0 0 S I J F 163 [(0, .ref (B + w0)), (1, .ref (B + w1)), (2, .ref (B + w2)), (3, v_rf B w3), (4, .int w4), (5, .int y5), (7, .int y7)] [.int z0, .int z1] Q := by
      intro I J y5 y7 z0 z1 h
      unfold f_X1_passMinute_J24_163 at h
      refine v_ior dX1_passMinute_163 ?_
      replace h := p_let_elim h
      obtain ⟨x_46, h_47, h⟩ := h
      rw [← h_47]
      refine v_istore dX1_passMinute_164 (by decide) ?_
      refine v_sub [(0, .ref (B + w0)), (1, .ref (B + w1)), (2, .ref (B + w2)), (3, v_rf B w3), (4, .int w4), (5, .int y5), (6, .int x_46), (7, .int y7)] (by rcases w3 with _ | _ <;> exact ⟨rfl, rfl, rfl, rfl, rfl, rfl, rfl, rfl, trivial⟩) ?_
      replace h := p_let_elim h
      obtain ⟨x_48, h_49, h⟩ := h
      refine v_iincE (1 : Int32) dX1_passMinute_166 (by decide) rfl (by decide) ?_
      rw [← h_49]
      refine v_sub [(0, .ref (B + w0)), (1, .ref (B + w1)), (2, .ref (B + w2)), (3, v_rf B w3), (4, .int w4), (5, .int y5), (6, .int x_46), (7, .int x_48)] (by rcases w3 with _ | _ <;> exact ⟨rfl, rfl, rfl, rfl, rfl, rfl, rfl, rfl, trivial⟩) ?_
      refine v_goto 24 dX1_passMinute_169 (by decide) ?_
      cases h
      refine v_sub [(0, .ref (B + w0)), (1, .ref (B + w1)), (2, .ref (B + w2)), (3, v_rf B w3), (4, .int w4), (5, .int y5), (6, .int x_46), (7, .int x_48)] (by rcases w3 with _ | _ <;> exact ⟨rfl, rfl, rfl, rfl, rfl, rfl, rfl, rfl, trivial⟩) ?_
      exact hk
    have j126 : ∀ (I : v_I) (J : v_J) (y6 : Int32) (y7 : Int32) (y8 : Int32) (z0 : Int32) (z1 : Int32), f_X1_passMinute_J24_126 S F w0 w1 w2 w3 w4 I J y6 y7 y8 z0 z1 = some rx24 → V l B D ac (v_EE B wa wb wt sb sL sx) yX1_passMinute cX1_passMinute 10 (some .boolean) d 0 0 0 0 S I J F 126 [(0, .ref (B + w0)), (1, .ref (B + w1)), (2, .ref (B + w2)), (3, v_rf B w3), (4, .int w4), (6, .int y6), (7, .int y7), (8, .int y8)] [.int z0, .int z1] Q := by
      intro I J y6 y7 y8 z0 z1 h
      unfold f_X1_passMinute_J24_126 at h
      refine v_ior dX1_passMinute_126 ?_
      replace h := p_let_elim h
      obtain ⟨x_30, h_31, h⟩ := h
      rw [← h_31]
      refine v_istore dX1_passMinute_127 (by decide) ?_
      refine v_sub [(0, .ref (B + w0)), (1, .ref (B + w1)), (2, .ref (B + w2)), (3, v_rf B w3), (4, .int w4), (5, .int x_30), (6, .int y6), (7, .int y7), (8, .int y8)] (by rcases w3 with _ | _ <;> exact ⟨rfl, rfl, rfl, rfl, rfl, rfl, rfl, rfl, rfl, trivial⟩) ?_
      refine v_aload_n dX1_passMinute_129 rfl ?_
      replace h := p_bind_elim h
      obtain ⟨_, q_32, h⟩ := h
      have q_32 := p_ob_spec q_32
      replace h := p_bind_elim h
      obtain ⟨a_33, q_34, h⟩ := h
      refine v_getR q_34 rfl fl_X1_25 dX1_passMinute_130 q_32 ?_
      refine v_iload dX1_passMinute_133 rfl ?_
      refine v_aload_n dX1_passMinute_135 rfl ?_
      refine v_aload_nQ dX1_passMinute_136 rfl ?_
      refine v_iconstE (1 : Int32) dX1_passMinute_137 (by decide) ?_
      refine v_iload dX1_passMinute_138 rfl ?_
      replace h := p_bind_elim h
      obtain ⟨r_35, q_36, h⟩ := h
      refine v_cVr (t_X1_told q_36) cal_X1_told ml_X1_52 sel_X1_told q_32 kk_1 dX1_passMinute_140 (by omega) (by decide) (by decide) (Nat.le_of_ble_eq_true rfl) rfl ?_
      replace h := p_bind_elim h
      obtain ⟨j_37, q_38, h⟩ := h
      refine v_iastP dX1_passMinute_143 q_38 ?_
      replace h := p_let_elim h
      obtain ⟨I_39, h_40, h⟩ := h
      rw [← h_40]
      refine v_iload dX1_passMinute_144 rfl ?_
      refine v_aload_n dX1_passMinute_146 rfl ?_
      replace h := p_bind_elim h
      obtain ⟨a_41, q_42, h⟩ := h
      refine v_getR q_42 rfl fl_X1_25 dX1_passMinute_147 q_32 ?_
      refine v_iload dX1_passMinute_150 rfl ?_
      replace h := p_bind_elim h
      obtain ⟨j_43, q_44, h⟩ := h
      refine v_ialdP dX1_passMinute_152 q_44 ?_
      refine v_iload dX1_passMinute_153 rfl ?_
      refine v_icmp_eq 162 dX1_passMinute_155 (by decide) (fun c_45 => ?_) (fun c_45 => ?_)
      · rw [if_pos c_45] at h
        refine v_iconstE (0 : Int32) dX1_passMinute_162 (by decide) ?_
        refine v_sub [(0, .ref (B + w0)), (1, .ref (B + w1)), (2, .ref (B + w2)), (3, v_rf B w3), (4, .int w4), (5, .int x_30), (7, .int y7)] (by rcases w3 with _ | _ <;> exact ⟨rfl, rfl, rfl, rfl, rfl, rfl, rfl, trivial⟩) ?_
        exact j163 _ _ _ _ _ _ h
      · rw [if_neg c_45] at h
        refine v_iconstE (1 : Int32) dX1_passMinute_158 (by decide) ?_
        refine v_goto 163 dX1_passMinute_159 (by decide) ?_
        refine v_sub [(0, .ref (B + w0)), (1, .ref (B + w1)), (2, .ref (B + w2)), (3, v_rf B w3), (4, .int w4), (5, .int x_30), (7, .int y7)] (by rcases w3 with _ | _ <;> exact ⟨rfl, rfl, rfl, rfl, rfl, rfl, rfl, trivial⟩) ?_
        exact j163 _ _ _ _ _ _ h
    have j109 : ∀ (I : v_I) (J : v_J) (y5 : Int32) (y6 : Int32) (y7 : Int32) (y8 : Int32) (z0 : Int32), f_X1_passMinute_J24_109 S F w0 w1 w2 w3 w4 I J y5 y6 y7 y8 z0 = some rx24 → V l B D ac (v_EE B wa wb wt sb sL sx) yX1_passMinute cX1_passMinute 10 (some .boolean) d 0 0 0 0 S I J F 109 [(0, .ref (B + w0)), (1, .ref (B + w1)), (2, .ref (B + w2)), (3, v_rf B w3), (4, .int w4), (5, .int y5), (6, .int y6), (7, .int y7), (8, .int y8)] [.int z0] Q := by
      intro I J y5 y6 y7 y8 z0 h
      unfold f_X1_passMinute_J24_109 at h
      refine v_istore dX1_passMinute_109 (by decide) ?_
      refine v_sub [(0, .ref (B + w0)), (1, .ref (B + w1)), (2, .ref (B + w2)), (3, v_rf B w3), (4, .int w4), (5, .int y5), (6, .int y6), (7, .int y7), (8, .int y8), (9, .int z0)] (by rcases w3 with _ | _ <;> exact ⟨rfl, rfl, rfl, rfl, rfl, rfl, rfl, rfl, rfl, rfl, trivial⟩) ?_
      refine v_iload dX1_passMinute_111 rfl ?_
      refine v_iload dX1_passMinute_113 rfl ?_
      refine v_if_eq 125 dX1_passMinute_115 (by decide) (fun c_29 => ?_) (fun c_29 => ?_)
      · rw [if_pos c_29] at h
        refine v_iconstE (0 : Int32) dX1_passMinute_125 (by decide) ?_
        refine v_sub [(0, .ref (B + w0)), (1, .ref (B + w1)), (2, .ref (B + w2)), (3, v_rf B w3), (4, .int w4), (6, .int y6), (7, .int y7), (8, .int y8)] (by rcases w3 with _ | _ <;> exact ⟨rfl, rfl, rfl, rfl, rfl, rfl, rfl, rfl, trivial⟩) ?_
        exact j126 _ _ _ _ _ _ _ h
      · rw [if_neg c_29] at h
        refine v_iconstE (1 : Int32) dX1_passMinute_118 (by decide) ?_
        refine v_iload dX1_passMinute_119 rfl ?_
        refine v_ishl dX1_passMinute_121 ?_
        refine v_goto 126 dX1_passMinute_122 (by decide) ?_
        refine v_sub [(0, .ref (B + w0)), (1, .ref (B + w1)), (2, .ref (B + w2)), (3, v_rf B w3), (4, .int w4), (6, .int y6), (7, .int y7), (8, .int y8)] (by rcases w3 with _ | _ <;> exact ⟨rfl, rfl, rfl, rfl, rfl, rfl, rfl, rfl, trivial⟩) ?_
        exact j126 _ _ _ _ _ _ _ h
    unfold f_X1_passMinute_B24 at h
    refine v_iload dX1_passMinute_24 rfl ?_
    refine v_aload_n dX1_passMinute_26 rfl ?_
    replace h := p_bind_elim h
    obtain ⟨_, q_3, h⟩ := h
    have q_3 := p_ob_spec q_3
    refine v_getI rfl fl_X1_90 dX1_passMinute_27 q_3 ?_
    refine v_icmp_ge 172 dX1_passMinute_30 (by decide) (fun c_4 => ?_) (fun c_4 => ?_)
    · rw [if_pos c_4] at h
      cases h
      refine v_sub [(0, .ref (B + w0)), (1, .ref (B + w1)), (2, .ref (B + w2)), (4, .int w4), (5, .int s24.1), (6, .int s24.2.1)] (by rcases w3 with _ | _ <;> exact ⟨rfl, rfl, rfl, rfl, rfl, rfl, trivial⟩) ?_
      exact hk
    · rw [if_neg c_4] at h
      refine v_iload dX1_passMinute_33 rfl ?_
      refine v_bipush (8 : Int32) dX1_passMinute_35 (by decide) ?_
      refine v_icmp_ge 172 dX1_passMinute_37 (by decide) (fun c_5 => ?_) (fun c_5 => ?_)
      · rw [if_pos c_5] at h
        cases h
        refine v_sub [(0, .ref (B + w0)), (1, .ref (B + w1)), (2, .ref (B + w2)), (4, .int w4), (5, .int s24.1), (6, .int s24.2.1)] (by rcases w3 with _ | _ <;> exact ⟨rfl, rfl, rfl, rfl, rfl, rfl, trivial⟩) ?_
        exact hk
      · rw [if_neg c_5] at h
        refine v_aload_n dX1_passMinute_40 rfl ?_
        refine v_aload_n dX1_passMinute_41 rfl ?_
        refine v_aload_n dX1_passMinute_42 rfl ?_
        refine v_iload dX1_passMinute_43 rfl ?_
        replace h := p_bind_elim h
        obtain ⟨_, q_8, h⟩ := h
        have q_8 := p_ob_spec q_8
        replace h := p_bind_elim h
        obtain ⟨r_6, q_7, h⟩ := h
        refine v_cVn (t_X1_hear q_7) cal_X1_hear ml_X1_48 sel_X1_hear q_8 kk_1 dX1_passMinute_45 (by omega) (by decide) (by decide) (Nat.le_of_ble_eq_true rfl) rfl ?_
        refine v_aload_n dX1_passMinute_48 rfl ?_
        replace h := p_bind_elim h
        obtain ⟨_, q_9, h⟩ := h
        have q_9 := p_ob_spec q_9
        replace h := p_bind_elim h
        obtain ⟨a_10, q_11, h⟩ := h
        refine v_getR q_11 rfl fl_X1_45 dX1_passMinute_49 q_9 ?_
        refine v_iload dX1_passMinute_52 rfl ?_
        replace h := p_bind_elim h
        obtain ⟨j_12, q_13, h⟩ := h
        refine v_ialdP dX1_passMinute_54 q_13 ?_
        replace h := p_let_elim h
        obtain ⟨x_14, h_15, h⟩ := h
        rw [← h_15]
        refine v_istore dX1_passMinute_55 (by decide) ?_
        refine v_sub [(0, .ref (B + w0)), (1, .ref (B + w1)), (2, .ref (B + w2)), (3, v_rf B w3), (4, .int w4), (5, .int s24.1), (6, .int s24.2.1), (7, .int s24.2.2.1), (8, .int x_14)] (by rcases w3 with _ | _ <;> exact ⟨rfl, rfl, rfl, rfl, rfl, rfl, rfl, rfl, rfl, trivial⟩) ?_
        refine v_aload_n dX1_passMinute_57 rfl ?_
        refine v_iload dX1_passMinute_58 rfl ?_
        replace h := p_bind_elim h
        obtain ⟨r_16, q_17, h⟩ := h
        refine v_cVr (t_X3_isOpen q_17) cal_X3_isOpen ml_X1_93 sel_X3_isOpen q_9 kk_3 dX1_passMinute_60 (by omega) (by decide) (by decide) (Nat.le_of_ble_eq_true rfl) rfl ?_
        refine v_if_eq 84 dX1_passMinute_63 (by decide) (fun c_18 => ?_) (fun c_18 => ?_)
        · rw [if_pos c_18] at h
          refine v_aload_n dX1_passMinute_84 rfl ?_
          replace h := p_bind_elim h
          obtain ⟨a_19, q_20, h⟩ := h
          refine v_getR q_20 rfl fl_X1_12 dX1_passMinute_85 q_8 ?_
          replace h := p_bind_elim h
          obtain ⟨_, q_21, h⟩ := h
          have q_21 := p_ob_spec q_21
          replace h := p_bind_elim h
          obtain ⟨a_22, q_23, h⟩ := h
          refine v_getR q_23 rfl fl_X1_97 dX1_passMinute_88 q_21 ?_
          refine v_iconstE (3 : Int32) dX1_passMinute_91 (by decide) ?_
          replace h := p_bind_elim h
          obtain ⟨j_24, q_25, h⟩ := h
          refine v_ialdP dX1_passMinute_92 q_25 ?_
          refine v_aload_n dX1_passMinute_93 rfl ?_
          refine v_aload_nQ dX1_passMinute_94 rfl ?_
          refine v_iconstE (0 : Int32) dX1_passMinute_95 (by decide) ?_
          refine v_iload dX1_passMinute_96 rfl ?_
          replace h := p_bind_elim h
          obtain ⟨r_26, q_27, h⟩ := h
          refine v_cVr (t_X1_told q_27) cal_X1_told ml_X1_52 sel_X1_told q_8 kk_1 dX1_passMinute_98 (by omega) (by decide) (by decide) (Nat.le_of_ble_eq_true rfl) rfl ?_
          refine v_icmp_lt 108 dX1_passMinute_101 (by decide) (fun c_28 => ?_) (fun c_28 => ?_)
          · rw [if_pos c_28] at h
            refine v_iconstE (0 : Int32) dX1_passMinute_108 (by decide) ?_
            refine v_sub [(0, .ref (B + w0)), (1, .ref (B + w1)), (2, .ref (B + w2)), (3, v_rf B w3), (4, .int w4), (5, .int s24.1), (6, .int s24.2.1), (7, .int s24.2.2.1), (8, .int x_14)] (by rcases w3 with _ | _ <;> exact ⟨rfl, rfl, rfl, rfl, rfl, rfl, rfl, rfl, rfl, trivial⟩) ?_
            exact j109 _ _ _ _ _ _ _ h
          · rw [if_neg c_28] at h
            refine v_iconstE (1 : Int32) dX1_passMinute_104 (by decide) ?_
            refine v_goto 109 dX1_passMinute_105 (by decide) ?_
            refine v_sub [(0, .ref (B + w0)), (1, .ref (B + w1)), (2, .ref (B + w2)), (3, v_rf B w3), (4, .int w4), (5, .int s24.1), (6, .int s24.2.1), (7, .int s24.2.2.1), (8, .int x_14)] (by rcases w3 with _ | _ <;> exact ⟨rfl, rfl, rfl, rfl, rfl, rfl, rfl, rfl, rfl, trivial⟩) ?_
            exact j109 _ _ _ _ _ _ _ h
        · rw [if_neg c_18] at h
          refine v_aload_n dX1_passMinute_66 rfl ?_
          refine v_aload_nQ dX1_passMinute_67 rfl ?_
          refine v_iconstE (2 : Int32) dX1_passMinute_68 (by decide) ?_
          refine v_iconstE (0 : Int32) dX1_passMinute_69 (by decide) ?_
          replace h := p_bind_elim h
          obtain ⟨r_50, q_51, h⟩ := h
          refine v_cVr (t_X1_told q_51) cal_X1_told ml_X1_52 sel_X1_told q_8 kk_1 dX1_passMinute_70 (by omega) (by decide) (by decide) (Nat.le_of_ble_eq_true rfl) rfl ?_
          refine v_if_ne 80 dX1_passMinute_73 (by decide) (fun c_52 => ?_) (fun c_52 => ?_)
          · rw [if_neg c_52] at h
            refine v_iconstE (0 : Int32) dX1_passMinute_80 (by decide) ?_
            refine v_goto 109 dX1_passMinute_81 (by decide) ?_
            refine v_sub [(0, .ref (B + w0)), (1, .ref (B + w1)), (2, .ref (B + w2)), (3, v_rf B w3), (4, .int w4), (5, .int s24.1), (6, .int s24.2.1), (7, .int s24.2.2.1), (8, .int x_14)] (by rcases w3 with _ | _ <;> exact ⟨rfl, rfl, rfl, rfl, rfl, rfl, rfl, rfl, rfl, trivial⟩) ?_
            exact j109 _ _ _ _ _ _ _ h
          · rw [if_pos c_52] at h
            refine v_iconstE (1 : Int32) dX1_passMinute_76 (by decide) ?_
            refine v_goto 109 dX1_passMinute_77 (by decide) ?_
            refine v_sub [(0, .ref (B + w0)), (1, .ref (B + w1)), (2, .ref (B + w2)), (3, v_rf B w3), (4, .int w4), (5, .int s24.1), (6, .int s24.2.1), (7, .int s24.2.2.1), (8, .int x_14)] (by rcases w3 with _ | _ <;> exact ⟨rfl, rfl, rfl, rfl, rfl, rfl, rfl, rfl, rfl, trivial⟩) ?_
            exact j109 _ _ _ _ _ _ _ h
  have b203 : ∀ (J : v_J) (w0 : Nat) (w1 : Nat) (w2 : Nat) (w5 : Int32) (w6 : Int32) (s203 : Int32 × v_I) (rx203 : (Int32 × v_I) ⊕ (Int32 × v_I)), f_X1_passMinute_B203 S F J w0 w1 w2 w5 w6 s203 = some rx203 → v_K (fun (sP : Int32 × v_I) => V l B D ac (v_EE B wa wb wt sb sL sx) yX1_passMinute cX1_passMinute 10 (some .boolean) d 0 0 0 0 S sP.2 J F 203 [(0, .ref (B + w0)), (1, .ref (B + w1)), (2, .ref (B + w2)), (5, .int w5), (6, .int w6), (7, .int sP.1)] [] Q) (fun (rE : Int32 × v_I) => V l B D ac (v_EE B wa wb wt sb sL sx) yX1_passMinute cX1_passMinute 10 (some .boolean) d 0 0 0 0 S rE.2 J F 260 [(2, .ref (B + w2)), (5, .int w5), (6, .int w6)] [] Q) rx203 → V l B D ac (v_EE B wa wb wt sb sL sx) yX1_passMinute cX1_passMinute 10 (some .boolean) d 0 0 0 0 S s203.2 J F 203 [(0, .ref (B + w0)), (1, .ref (B + w1)), (2, .ref (B + w2)), (5, .int w5), (6, .int w6), (7, .int s203.1)] [] Q := by
    intro J w0 w1 w2 w5 w6 s203 rx203 h hk
    unfold f_X1_passMinute_B203 at h
    refine v_iload dX1_passMinute_203 rfl ?_
    refine v_aload_n dX1_passMinute_205 rfl ?_
    replace h := p_bind_elim h
    obtain ⟨_, q_61, h⟩ := h
    have q_61 := p_ob_spec q_61
    refine v_getI rfl fl_X1_90 dX1_passMinute_206 q_61 ?_
    refine v_icmp_ge 260 dX1_passMinute_209 (by decide) (fun c_62 => ?_) (fun c_62 => ?_)
    · rw [if_pos c_62] at h
      cases h
      refine v_sub [(2, .ref (B + w2)), (5, .int w5), (6, .int w6)] ⟨rfl, rfl, rfl, trivial⟩ ?_
      exact hk
    · rw [if_neg c_62] at h
      refine v_iload dX1_passMinute_212 rfl ?_
      refine v_bipush (8 : Int32) dX1_passMinute_214 (by decide) ?_
      refine v_icmp_ge 260 dX1_passMinute_216 (by decide) (fun c_63 => ?_) (fun c_63 => ?_)
      · rw [if_pos c_63] at h
        cases h
        refine v_sub [(2, .ref (B + w2)), (5, .int w5), (6, .int w6)] ⟨rfl, rfl, rfl, trivial⟩ ?_
        exact hk
      · rw [if_neg c_63] at h
        refine v_aload_n dX1_passMinute_219 rfl ?_
        replace h := p_bind_elim h
        obtain ⟨_, q_64, h⟩ := h
        have q_64 := p_ob_spec q_64
        replace h := p_bind_elim h
        obtain ⟨a_65, q_66, h⟩ := h
        refine v_getR q_66 rfl fl_X1_45 dX1_passMinute_220 q_64 ?_
        refine v_iload dX1_passMinute_223 rfl ?_
        refine v_aload_n dX1_passMinute_225 rfl ?_
        replace h := p_bind_elim h
        obtain ⟨_, q_67, h⟩ := h
        have q_67 := p_ob_spec q_67
        replace h := p_bind_elim h
        obtain ⟨a_68, q_69, h⟩ := h
        refine v_getR q_69 rfl fl_X1_25 dX1_passMinute_226 q_67 ?_
        refine v_iload dX1_passMinute_229 rfl ?_
        replace h := p_bind_elim h
        obtain ⟨j_70, q_71, h⟩ := h
        refine v_ialdP dX1_passMinute_231 q_71 ?_
        replace h := p_bind_elim h
        obtain ⟨j_72, q_73, h⟩ := h
        refine v_iastP dX1_passMinute_232 q_73 ?_
        replace h := p_let_elim h
        obtain ⟨I_74, h_75, h⟩ := h
        rw [← h_75]
        refine v_aload_n dX1_passMinute_233 rfl ?_
        replace h := p_bind_elim h
        obtain ⟨a_76, q_77, h⟩ := h
        refine v_getR q_77 rfl fl_X1_100 dX1_passMinute_234 q_64 ?_
        refine v_iload dX1_passMinute_237 rfl ?_
        refine v_aload_n dX1_passMinute_239 rfl ?_
        replace h := p_bind_elim h
        obtain ⟨a_78, q_79, h⟩ := h
        refine v_getR q_79 rfl fl_X1_100 dX1_passMinute_240 q_64 ?_
        refine v_iload dX1_passMinute_243 rfl ?_
        replace h := p_bind_elim h
        obtain ⟨j_80, q_81, h⟩ := h
        refine v_ialdP dX1_passMinute_245 q_81 ?_
        refine v_iconstE (1 : Int32) dX1_passMinute_246 (by decide) ?_
        refine v_iadd dX1_passMinute_247 ?_
        refine v_bipush (99 : Int32) dX1_passMinute_248 (by decide) ?_
        refine v_min dX1_passMinute_250 ml_X1_103 (by omega) (by decide) (by decide) (Nat.le_of_ble_eq_true rfl) ?_
        replace h := p_bind_elim h
        obtain ⟨j_82, q_83, h⟩ := h
        refine v_iastP dX1_passMinute_253 q_83 ?_
        replace h := p_let_elim h
        obtain ⟨I_84, h_85, h⟩ := h
        rw [← h_85]
        replace h := p_let_elim h
        obtain ⟨x_86, h_87, h⟩ := h
        refine v_iincE (1 : Int32) dX1_passMinute_254 (by decide) rfl (by decide) ?_
        rw [← h_87]
        refine v_sub [(0, .ref (B + w0)), (1, .ref (B + w1)), (2, .ref (B + w2)), (5, .int w5), (6, .int w6), (7, .int x_86)] ⟨rfl, rfl, rfl, rfl, rfl, rfl, trivial⟩ ?_
        refine v_goto 203 dX1_passMinute_257 (by decide) ?_
        cases h
        refine v_sub [(0, .ref (B + w0)), (1, .ref (B + w1)), (2, .ref (B + w2)), (5, .int w5), (6, .int w6), (7, .int x_86)] ⟨rfl, rfl, rfl, rfl, rfl, rfl, trivial⟩ ?_
        exact hk
  have j260 : ∀ (I : v_I) (J : v_J) (y2 : Nat) (y5 : Int32) (y6 : Int32), f_X1_passMinute_J260 S F I J y2 y5 y6 = some r → V l B D ac (v_EE B wa wb wt sb sL sx) yX1_passMinute cX1_passMinute 10 (some .boolean) d 0 0 0 0 S I J F 260 [(2, .ref (B + y2)), (5, .int y5), (6, .int y6)] [] Q := by
    intro I J y2 y5 y6 h
    unfold f_X1_passMinute_J260 at h
    refine v_aload_n dX1_passMinute_260 rfl ?_
    refine v_iload dX1_passMinute_261 rfl ?_
    replace h := p_bind_elim h
    obtain ⟨_, q_90, h⟩ := h
    have q_90 := p_ob_spec q_90
    refine v_putI rfl fl_X1_56 dX1_passMinute_263 q_90 rfl rfl ?_
    replace h := p_let_elim h
    obtain ⟨I_91, h_92, h⟩ := h
    rw [← h_92]
    refine v_aload_n dX1_passMinute_266 rfl ?_
    refine v_dup dX1_passMinute_267 rfl ?_
    refine v_getI rfl fl_X1_108 dX1_passMinute_268 q_90 ?_
    refine v_iconstE (1 : Int32) dX1_passMinute_271 (by decide) ?_
    refine v_iadd dX1_passMinute_272 ?_
    refine v_putI rfl fl_X1_108 dX1_passMinute_273 q_90 rfl rfl ?_
    replace h := p_let_elim h
    obtain ⟨I_93, h_94, h⟩ := h
    rw [← h_94]
    refine v_iload dX1_passMinute_276 rfl ?_
    replace h := p_bind_elim h
    obtain ⟨_, q_95, h⟩ := h
    cases h
    exact v_zret dX1_passMinute_278 rfl (p_bl_spec q_95).1 (by decide) (by decide) (by rw [← hQ]; exact ⟨rfl, rfl, rfl, rfl, rfl⟩)
  have j197 : ∀ (I : v_I) (J : v_J) (y0 : Nat) (y1 : Nat) (y2 : Nat) (y5 : Int32) (z0 : Int32) (z1 : Int32), f_X1_passMinute_J197 S F I J y0 y1 y2 y5 z0 z1 = some r → V l B D ac (v_EE B wa wb wt sb sL sx) yX1_passMinute cX1_passMinute 10 (some .boolean) d 0 0 0 0 S I J F 197 [(0, .ref (B + y0)), (1, .ref (B + y1)), (2, .ref (B + y2)), (5, .int y5)] [.int z0, .int z1] Q := by
    intro I J y0 y1 y2 y5 z0 z1 h
    unfold f_X1_passMinute_J197 at h
    refine v_ior dX1_passMinute_197 ?_
    replace h := p_let_elim h
    obtain ⟨x_59, h_60, h⟩ := h
    rw [← h_60]
    refine v_istore dX1_passMinute_198 (by decide) ?_
    refine v_sub [(0, .ref (B + y0)), (1, .ref (B + y1)), (2, .ref (B + y2)), (5, .int y5), (6, .int x_59)] ⟨rfl, rfl, rfl, rfl, rfl, trivial⟩ ?_
    refine v_iconstE (0 : Int32) dX1_passMinute_200 (by decide) ?_
    refine v_istore dX1_passMinute_201 (by decide) ?_
    refine v_sub [(0, .ref (B + y0)), (1, .ref (B + y1)), (2, .ref (B + y2)), (5, .int y5), (6, .int x_59), (7, .int (0 : Int32))] ⟨rfl, rfl, rfl, rfl, rfl, rfl, trivial⟩ ?_
    replace h := p_bind_elim h
    obtain ⟨q_88, h_89, h⟩ := h
    refine v_sub [(0, .ref (B + y0)), (1, .ref (B + y1)), (2, .ref (B + y2)), (5, .int y5), (6, .int x_59), (7, .int (0 : Int32))] ⟨rfl, rfl, rfl, rfl, rfl, rfl, trivial⟩ ?_
    refine v_loopV (fun (sP : Int32 × v_I) => V l B D ac (v_EE B wa wb wt sb sL sx) yX1_passMinute cX1_passMinute 10 (some .boolean) d 0 0 0 0 S sP.2 J F 203 [(0, .ref (B + y0)), (1, .ref (B + y1)), (2, .ref (B + y2)), (5, .int y5), (6, .int x_59), (7, .int sP.1)] [] Q) (fun (rE : Int32 × v_I) => V l B D ac (v_EE B wa wb wt sb sL sx) yX1_passMinute cX1_passMinute 10 (some .boolean) d 0 0 0 0 S rE.2 J F 260 [(2, .ref (B + y2)), (5, .int y5), (6, .int x_59)] [] Q) (fun s_ x_ hb hk => b203 _ _ _ _ _ _ s_ x_ hb hk) (r := q_88) ?_ h_89
    try dsimp only
    refine v_sub [(2, .ref (B + y2)), (5, .int y5), (6, .int x_59)] ⟨rfl, rfl, rfl, trivial⟩ ?_
    exact j260 _ _ _ _ _ h
  have j172 : ∀ (I : v_I) (J : v_J) (y0 : Nat) (y1 : Nat) (y2 : Nat) (y4 : Int32) (y5 : Int32) (y6 : Int32), f_X1_passMinute_J172 S F I J y0 y1 y2 y4 y5 y6 = some r → V l B D ac (v_EE B wa wb wt sb sL sx) yX1_passMinute cX1_passMinute 10 (some .boolean) d 0 0 0 0 S I J F 172 [(0, .ref (B + y0)), (1, .ref (B + y1)), (2, .ref (B + y2)), (4, .int y4), (5, .int y5), (6, .int y6)] [] Q := by
    intro I J y0 y1 y2 y4 y5 y6 h
    unfold f_X1_passMinute_J172 at h
    refine v_iload dX1_passMinute_172 rfl ?_
    refine v_iload dX1_passMinute_174 rfl ?_
    refine v_iconstE (-1 : Int32) dX1_passMinute_176 (by decide) ?_
    refine v_ixor dX1_passMinute_177 ?_
    refine v_iand dX1_passMinute_178 ?_
    replace h := p_let_elim h
    obtain ⟨x_55, h_56, h⟩ := h
    rw [← h_56]
    refine v_istore dX1_passMinute_179 (by decide) ?_
    refine v_sub [(0, .ref (B + y0)), (1, .ref (B + y1)), (2, .ref (B + y2)), (5, .int x_55), (6, .int y6)] ⟨rfl, rfl, rfl, rfl, rfl, trivial⟩ ?_
    refine v_iload dX1_passMinute_181 rfl ?_
    refine v_iload dX1_passMinute_183 rfl ?_
    refine v_aload_n dX1_passMinute_185 rfl ?_
    replace h := p_bind_elim h
    obtain ⟨_, q_57, h⟩ := h
    have q_57 := p_ob_spec q_57
    refine v_getI rfl fl_X1_56 dX1_passMinute_186 q_57 ?_
    refine v_icmp_eq 196 dX1_passMinute_189 (by decide) (fun c_58 => ?_) (fun c_58 => ?_)
    · rw [if_pos c_58] at h
      refine v_iconstE (0 : Int32) dX1_passMinute_196 (by decide) ?_
      refine v_sub [(0, .ref (B + y0)), (1, .ref (B + y1)), (2, .ref (B + y2)), (5, .int x_55)] ⟨rfl, rfl, rfl, rfl, trivial⟩ ?_
      exact j197 _ _ _ _ _ _ _ _ h
    · rw [if_neg c_58] at h
      refine v_iconstE (1 : Int32) dX1_passMinute_192 (by decide) ?_
      refine v_goto 197 dX1_passMinute_193 (by decide) ?_
      refine v_sub [(0, .ref (B + y0)), (1, .ref (B + y1)), (2, .ref (B + y2)), (5, .int x_55)] ⟨rfl, rfl, rfl, rfl, trivial⟩ ?_
      exact j197 _ _ _ _ _ _ _ _ h
  have j19 : ∀ (I : v_I) (J : v_J) (y0 : Nat) (y1 : Nat) (y2 : Nat) (y3 : Option Nat) (y4 : Int32) (y5 : Int32) (z0 : Int32), f_X1_passMinute_J19 S F I J y0 y1 y2 y3 y4 y5 z0 = some r → V l B D ac (v_EE B wa wb wt sb sL sx) yX1_passMinute cX1_passMinute 10 (some .boolean) d 0 0 0 0 S I J F 19 [(0, .ref (B + y0)), (1, .ref (B + y1)), (2, .ref (B + y2)), (3, v_rf B y3), (4, .int y4), (5, .int y5)] [.int z0] Q := by
    intro I J y0 y1 y2 y3 y4 y5 z0 h
    unfold f_X1_passMinute_J19 at h
    refine v_istore dX1_passMinute_19 (by decide) ?_
    refine v_sub [(0, .ref (B + y0)), (1, .ref (B + y1)), (2, .ref (B + y2)), (3, v_rf B y3), (4, .int y4), (5, .int y5), (6, .int z0)] (by rcases y3 with _ | _ <;> exact ⟨rfl, rfl, rfl, rfl, rfl, rfl, rfl, trivial⟩) ?_
    refine v_iconstE (0 : Int32) dX1_passMinute_21 (by decide) ?_
    refine v_istore dX1_passMinute_22 (by decide) ?_
    refine v_sub [(0, .ref (B + y0)), (1, .ref (B + y1)), (2, .ref (B + y2)), (3, v_rf B y3), (4, .int y4), (5, .int y5), (6, .int z0), (7, .int (0 : Int32))] (by rcases y3 with _ | _ <;> exact ⟨rfl, rfl, rfl, rfl, rfl, rfl, rfl, rfl, trivial⟩) ?_
    replace h := p_bind_elim h
    obtain ⟨q_53, h_54, h⟩ := h
    refine v_sub [(0, .ref (B + y0)), (1, .ref (B + y1)), (2, .ref (B + y2)), (3, v_rf B y3), (4, .int y4), (5, .int y5), (6, .int z0), (7, .int (0 : Int32))] (by rcases y3 with _ | _ <;> exact ⟨rfl, rfl, rfl, rfl, rfl, rfl, rfl, rfl, trivial⟩) ?_
    refine v_loopV (fun (sP : Int32 × Int32 × Int32 × v_I × v_J) => V l B D ac (v_EE B wa wb wt sb sL sx) yX1_passMinute cX1_passMinute 10 (some .boolean) d 0 0 0 0 S sP.2.2.2.1 sP.2.2.2.2 F 24 [(0, .ref (B + y0)), (1, .ref (B + y1)), (2, .ref (B + y2)), (3, v_rf B y3), (4, .int y4), (5, .int sP.1), (6, .int sP.2.1), (7, .int sP.2.2.1)] [] Q) (fun (rE : Int32 × Int32 × Int32 × v_I × v_J) => V l B D ac (v_EE B wa wb wt sb sL sx) yX1_passMinute cX1_passMinute 10 (some .boolean) d 0 0 0 0 S rE.2.2.2.1 rE.2.2.2.2 F 172 [(0, .ref (B + y0)), (1, .ref (B + y1)), (2, .ref (B + y2)), (4, .int y4), (5, .int rE.1), (6, .int rE.2.1)] [] Q) (fun s_ x_ hb hk => b24 _ _ _ _ _ s_ x_ hb hk) (r := q_53) ?_ h_54
    try dsimp only
    refine v_sub [(0, .ref (B + y0)), (1, .ref (B + y1)), (2, .ref (B + y2)), (4, .int y4), (5, .int q_53.1), (6, .int q_53.2.1)] ⟨rfl, rfl, rfl, rfl, rfl, rfl, trivial⟩ ?_
    exact j172 _ _ _ _ _ _ _ _ h
  have j18 : ∀ (I : v_I) (J : v_J) (y0 : Nat) (y1 : Nat) (y2 : Nat) (y3 : Option Nat) (y4 : Int32) (y5 : Int32), f_X1_passMinute_J18 S F I J y0 y1 y2 y3 y4 y5 = some r → V l B D ac (v_EE B wa wb wt sb sL sx) yX1_passMinute cX1_passMinute 10 (some .boolean) d 0 0 0 0 S I J F 18 [(0, .ref (B + y0)), (1, .ref (B + y1)), (2, .ref (B + y2)), (3, v_rf B y3), (4, .int y4), (5, .int y5)] [] Q := by
    intro I J y0 y1 y2 y3 y4 y5 h
    unfold f_X1_passMinute_J18 at h
    refine v_iconstE (0 : Int32) dX1_passMinute_18 (by decide) ?_
    refine v_sub [(0, .ref (B + y0)), (1, .ref (B + y1)), (2, .ref (B + y2)), (3, v_rf B y3), (4, .int y4), (5, .int y5)] (by rcases y3 with _ | _ <;> exact ⟨rfl, rfl, rfl, rfl, rfl, rfl, trivial⟩) ?_
    exact j19 _ _ _ _ _ _ _ _ _ h
  unfold f_X1_passMinute at h
  refine v_sub [(0, .ref (B + p0)), (1, .ref (B + p1)), (2, .ref (B + p2)), (3, v_rf B p3), (4, .int p4)] (by rcases p3 with _ | _ <;> exact ⟨rfl, rfl, rfl, rfl, rfl, trivial⟩) ?_
  refine v_iconstE (0 : Int32) dX1_passMinute_0 (by decide) ?_
  refine v_istore dX1_passMinute_1 (by decide) ?_
  refine v_sub [(0, .ref (B + p0)), (1, .ref (B + p1)), (2, .ref (B + p2)), (3, v_rf B p3), (4, .int p4), (5, .int (0 : Int32))] (by rcases p3 with _ | _ <;> exact ⟨rfl, rfl, rfl, rfl, rfl, rfl, trivial⟩) ?_
  refine v_aload_nQ dX1_passMinute_3 rfl ?_
  replace h := p_nul_elim h
  rcases h with ⟨q_2, h⟩ | ⟨a_1, q_2, h⟩
  · subst q_2
    refine v_ifnullN 18 dX1_passMinute_4 (by decide) ?_
    refine v_sub [(0, .ref (B + p0)), (1, .ref (B + p1)), (2, .ref (B + p2)), (3, .null), (4, .int p4), (5, .int (0 : Int32))] ⟨rfl, rfl, rfl, rfl, rfl, rfl, trivial⟩ ?_
    exact j18 _ _ _ _ _ _ _ _ h
  · subst q_2
    refine v_ifnull dX1_passMinute_4 ?_
    refine v_aload_n dX1_passMinute_7 rfl ?_
    replace h := p_bind_elim h
    obtain ⟨_, q_96, h⟩ := h
    have q_96 := p_ob_spec q_96
    refine v_getI rfl fl_X1_84 dX1_passMinute_8 q_96 ?_
    refine v_if_eq 18 dX1_passMinute_11 (by decide) (fun c_97 => ?_) (fun c_97 => ?_)
    · rw [if_pos c_97] at h
      refine v_sub [(0, .ref (B + p0)), (1, .ref (B + p1)), (2, .ref (B + p2)), (3, .ref (B + a_1)), (4, .int p4), (5, .int (0 : Int32))] ⟨rfl, rfl, rfl, rfl, rfl, rfl, trivial⟩ ?_
      exact j18 _ _ _ _ _ _ _ _ h
    · rw [if_neg c_97] at h
      refine v_iconstE (1 : Int32) dX1_passMinute_14 (by decide) ?_
      refine v_goto 19 dX1_passMinute_15 (by decide) ?_
      refine v_sub [(0, .ref (B + p0)), (1, .ref (B + p1)), (2, .ref (B + p2)), (3, .ref (B + a_1)), (4, .int p4), (5, .int (0 : Int32))] ⟨rfl, rfl, rfl, rfl, rfl, rfl, trivial⟩ ?_
      exact j19 _ _ _ _ _ _ _ _ _ h

def f_X1_openBehind_B18 (S : v_S) (F : v_F) (w0 : Nat) (w1 : Nat) (w3 : Int32) (w4 : Option Nat) (s18 : Int32 × Int32 × v_I × v_J) : Option ((Int32 × Int32 × v_I × v_J) ⊕ (Int32 × Int32 × v_I × v_J)) :=
if w3 ≤ s18.2.1 then (
some (.inr (s18.1, s18.2.1, s18.2.2.1, s18.2.2.2)))
else (
if s18.1 = (0 : Int32) then (
some (.inr (s18.1, s18.2.1, s18.2.2.1, s18.2.2.2)))
else (
(p_ob S 1 w0).bind fun _ =>
(F w0 1).bind fun a_10 =>
(f_X1_passMinute S s18.2.2.1 s18.2.2.2 F w0 w1 a_10 w4 (0 : Int32)).bind fun r_12 =>
p_let (s18.2.1 + (1 : Int32)) fun x_14 =>
some (.inl (r_12.1, x_14, r_12.2.1, r_12.2.2))))
def f_X1_openBehind (S : v_S) (I : v_I) (J : v_J) (F : v_F) (p0 : Nat) (p1 : Nat) (p2 : Int32) (p3 : Int32) : Option (Int32 × v_I × v_J) :=
(p_ob S 1 p0).bind fun _ =>
(f_X1_begin S I F p0 p1 p2).bind fun r_1 =>
(p_ob S 0 p1).bind fun _ =>
(f_X0_lawInForce S r_1 F p1).bind fun r_4 =>
(v_loop (f_X1_openBehind_B18 S F p0 p1 p3 r_4) FU ((1 : Int32), (0 : Int32), r_1, J)).bind fun q_16 =>
(F p0 1).bind fun a_18 =>
(p_ob S 3 a_18).bind fun _ =>
some (q_16.2.2.1 a_18 0, q_16.2.2.1, q_16.2.2.2)
set_option maxHeartbeats 4000000 in
set_option maxRecDepth 100000 in
theorem t_X1_openBehind {p0 : Nat} {p1 : Nat} {p2 : Int32} {p3 : Int32} {r : Int32 × v_I × v_J} (h : f_X1_openBehind S I J F p0 p1 p2 p3 = some r) : v_R l B D ac (v_EE B wa wb wt sb sL sx) yX1_openBehind cX1_openBehind 7 (some .int) 5 0 0 [.ref (B + p0), .ref (B + p1), .int p2, .int p3] S I J F (v_D (some (.int r.1)) S r.2.1 r.2.2 F) := by
  refine v_R.of (by decide) (Nat.le_of_ble_eq_true rfl) fun d hd => ?_
  generalize hQ : v_D (some (.int r.1)) S r.2.1 r.2.2 F = Q
  have b18 : ∀ (w0 : Nat) (w1 : Nat) (w3 : Int32) (w4 : Option Nat) (s18 : Int32 × Int32 × v_I × v_J) (rx18 : (Int32 × Int32 × v_I × v_J) ⊕ (Int32 × Int32 × v_I × v_J)), f_X1_openBehind_B18 S F w0 w1 w3 w4 s18 = some rx18 → v_K (fun (sP : Int32 × Int32 × v_I × v_J) => V l B D ac (v_EE B wa wb wt sb sL sx) yX1_openBehind cX1_openBehind 7 (some .int) d 0 0 0 0 S sP.2.2.1 sP.2.2.2 F 18 [(0, .ref (B + w0)), (1, .ref (B + w1)), (3, .int w3), (4, v_rf B w4), (5, .int sP.1), (6, .int sP.2.1)] [] Q) (fun (rE : Int32 × Int32 × v_I × v_J) => V l B D ac (v_EE B wa wb wt sb sL sx) yX1_openBehind cX1_openBehind 7 (some .int) d 0 0 0 0 S rE.2.2.1 rE.2.2.2 F 49 [(0, .ref (B + w0))] [] Q) rx18 → V l B D ac (v_EE B wa wb wt sb sL sx) yX1_openBehind cX1_openBehind 7 (some .int) d 0 0 0 0 S s18.2.2.1 s18.2.2.2 F 18 [(0, .ref (B + w0)), (1, .ref (B + w1)), (3, .int w3), (4, v_rf B w4), (5, .int s18.1), (6, .int s18.2.1)] [] Q := by
    intro w0 w1 w3 w4 s18 rx18 h hk
    unfold f_X1_openBehind_B18 at h
    refine v_iload dX1_openBehind_18 rfl ?_
    refine v_iload_n dX1_openBehind_20 rfl ?_
    refine v_icmp_ge 49 dX1_openBehind_21 (by decide) (fun c_7 => ?_) (fun c_7 => ?_)
    · rw [if_pos c_7] at h
      cases h
      refine v_sub [(0, .ref (B + w0))] (by rcases w4 with _ | _ <;> exact ⟨rfl, trivial⟩) ?_
      exact hk
    · rw [if_neg c_7] at h
      refine v_iload dX1_openBehind_24 rfl ?_
      refine v_if_eq 49 dX1_openBehind_26 (by decide) (fun c_8 => ?_) (fun c_8 => ?_)
      · rw [if_pos c_8] at h
        cases h
        refine v_sub [(0, .ref (B + w0))] (by rcases w4 with _ | _ <;> exact ⟨rfl, trivial⟩) ?_
        exact hk
      · rw [if_neg c_8] at h
        refine v_aload_n dX1_openBehind_29 rfl ?_
        refine v_aload_n dX1_openBehind_30 rfl ?_
        refine v_aload_n dX1_openBehind_31 rfl ?_
        replace h := p_bind_elim h
        obtain ⟨_, q_9, h⟩ := h
        have q_9 := p_ob_spec q_9
        replace h := p_bind_elim h
        obtain ⟨a_10, q_11, h⟩ := h
        refine v_getR q_11 rfl fl_X1_21 dX1_openBehind_32 q_9 ?_
        refine v_aloadQ dX1_openBehind_35 rfl ?_
        refine v_iconstE (0 : Int32) dX1_openBehind_37 (by decide) ?_
        replace h := p_bind_elim h
        obtain ⟨r_12, q_13, h⟩ := h
        refine v_cVr (t_X1_passMinute q_13) cal_X1_passMinute ml_X1_80 sel_X1_passMinute q_9 kk_1 dX1_openBehind_38 (by omega) (by decide) (by decide) (Nat.le_of_ble_eq_true rfl) rfl ?_
        refine v_istore dX1_openBehind_41 (by decide) ?_
        refine v_sub [(0, .ref (B + w0)), (1, .ref (B + w1)), (3, .int w3), (4, v_rf B w4), (5, .int r_12.1), (6, .int s18.2.1)] (by rcases w4 with _ | _ <;> exact ⟨rfl, rfl, rfl, rfl, rfl, rfl, trivial⟩) ?_
        replace h := p_let_elim h
        obtain ⟨x_14, h_15, h⟩ := h
        refine v_iincE (1 : Int32) dX1_openBehind_43 (by decide) rfl (by decide) ?_
        rw [← h_15]
        refine v_sub [(0, .ref (B + w0)), (1, .ref (B + w1)), (3, .int w3), (4, v_rf B w4), (5, .int r_12.1), (6, .int x_14)] (by rcases w4 with _ | _ <;> exact ⟨rfl, rfl, rfl, rfl, rfl, rfl, trivial⟩) ?_
        refine v_goto 18 dX1_openBehind_46 (by decide) ?_
        cases h
        refine v_sub [(0, .ref (B + w0)), (1, .ref (B + w1)), (3, .int w3), (4, v_rf B w4), (5, .int r_12.1), (6, .int x_14)] (by rcases w4 with _ | _ <;> exact ⟨rfl, rfl, rfl, rfl, rfl, rfl, trivial⟩) ?_
        exact hk
  unfold f_X1_openBehind at h
  refine v_sub [(0, .ref (B + p0)), (1, .ref (B + p1)), (2, .int p2), (3, .int p3)] ⟨rfl, rfl, rfl, rfl, trivial⟩ ?_
  refine v_aload_n dX1_openBehind_0 rfl ?_
  refine v_aload_n dX1_openBehind_1 rfl ?_
  refine v_iload_n dX1_openBehind_2 rfl ?_
  replace h := p_bind_elim h
  obtain ⟨_, q_3, h⟩ := h
  have q_3 := p_ob_spec q_3
  replace h := p_bind_elim h
  obtain ⟨r_1, q_2, h⟩ := h
  refine v_cVn (t_X1_begin q_2) cal_X1_begin ml_X1_158 sel_X1_begin q_3 kk_1 dX1_openBehind_3 (by omega) (by decide) (by decide) (Nat.le_of_ble_eq_true rfl) rfl ?_
  refine v_aload_n dX1_openBehind_6 rfl ?_
  replace h := p_bind_elim h
  obtain ⟨_, q_6, h⟩ := h
  have q_6 := p_ob_spec q_6
  replace h := p_bind_elim h
  obtain ⟨r_4, q_5, h⟩ := h
  refine v_cVr (t_X0_lawInForce q_5) cal_X0_lawInForce ml_X1_38 sel_X0_lawInForce q_6 kk_0 dX1_openBehind_7 (by omega) (by decide) (by decide) (Nat.le_of_ble_eq_true rfl) rfl ?_
  refine v_astoreQ dX1_openBehind_10 (by decide) ?_
  refine v_sub [(0, .ref (B + p0)), (1, .ref (B + p1)), (3, .int p3), (4, v_rf B r_4)] (by rcases r_4 with _ | _ <;> exact ⟨rfl, rfl, rfl, rfl, trivial⟩) ?_
  refine v_iconstE (1 : Int32) dX1_openBehind_12 (by decide) ?_
  refine v_istore dX1_openBehind_13 (by decide) ?_
  refine v_sub [(0, .ref (B + p0)), (1, .ref (B + p1)), (3, .int p3), (4, v_rf B r_4), (5, .int (1 : Int32))] (by rcases r_4 with _ | _ <;> exact ⟨rfl, rfl, rfl, rfl, rfl, trivial⟩) ?_
  refine v_iconstE (0 : Int32) dX1_openBehind_15 (by decide) ?_
  refine v_istore dX1_openBehind_16 (by decide) ?_
  refine v_sub [(0, .ref (B + p0)), (1, .ref (B + p1)), (3, .int p3), (4, v_rf B r_4), (5, .int (1 : Int32)), (6, .int (0 : Int32))] (by rcases r_4 with _ | _ <;> exact ⟨rfl, rfl, rfl, rfl, rfl, rfl, trivial⟩) ?_
  replace h := p_bind_elim h
  obtain ⟨q_16, h_17, h⟩ := h
  refine v_sub [(0, .ref (B + p0)), (1, .ref (B + p1)), (3, .int p3), (4, v_rf B r_4), (5, .int (1 : Int32)), (6, .int (0 : Int32))] (by rcases r_4 with _ | _ <;> exact ⟨rfl, rfl, rfl, rfl, rfl, rfl, trivial⟩) ?_
  refine v_loopV (fun (sP : Int32 × Int32 × v_I × v_J) => V l B D ac (v_EE B wa wb wt sb sL sx) yX1_openBehind cX1_openBehind 7 (some .int) d 0 0 0 0 S sP.2.2.1 sP.2.2.2 F 18 [(0, .ref (B + p0)), (1, .ref (B + p1)), (3, .int p3), (4, v_rf B r_4), (5, .int sP.1), (6, .int sP.2.1)] [] Q) (fun (rE : Int32 × Int32 × v_I × v_J) => V l B D ac (v_EE B wa wb wt sb sL sx) yX1_openBehind cX1_openBehind 7 (some .int) d 0 0 0 0 S rE.2.2.1 rE.2.2.2 F 49 [(0, .ref (B + p0))] [] Q) (fun s_ x_ hb hk => b18 _ _ _ _ s_ x_ hb hk) (r := q_16) ?_ h_17
  try dsimp only
  refine v_aload_n dX1_openBehind_49 rfl ?_
  replace h := p_bind_elim h
  obtain ⟨a_18, q_19, h⟩ := h
  refine v_getR q_19 rfl fl_X1_21 dX1_openBehind_50 q_3 ?_
  replace h := p_bind_elim h
  obtain ⟨_, q_20, h⟩ := h
  have q_20 := p_ob_spec q_20
  refine v_getI rfl fl_X1_56 dX1_openBehind_53 q_20 ?_
  cases h
  exact v_iret dX1_openBehind_56 rfl (by decide) (by decide) (by rw [← hQ]; exact ⟨rfl, rfl, rfl, rfl, rfl⟩)

def f_X1_ask (S : v_S) (I : v_I) (J : v_J) (F : v_F) (p0 : Nat) (p1 : Nat) (p2 : Int32) (p3 : Int32) : Option (Int32 × v_I × v_J) :=
(p_ob S 0 p1).bind fun _ =>
(f_X0_has S I p1 p2.toInt64).bind fun r_1 =>
if r_1 = (0 : Int32) then (
some ((-1 : Int32), I, J))
else (
(f_X0_lawInForce S I F p1).bind fun r_5 =>
(F p1 1).bind fun a_7 =>
(p_ob S 3 a_7).bind fun _ =>
(F a_7 2).bind fun a_10 =>
(p_ix S 20 a_10 p2).bind fun j_12 =>
p_let (I a_10 j_12) fun x_14 =>
(F p1 1).bind fun a_16 =>
(p_ob S 1 p0).bind fun _ =>
(f_X1_hear S I F p0 p1 a_16 p2).bind fun r_18 =>
if p3 = (5 : Int32) then (
(f_X1_told S r_18 J F p0 r_5 (0 : Int32) x_14).bind fun r_21 =>
some (r_21.1, r_18, r_21.2))
else if p3 = (6 : Int32) then (
(f_X1_told S r_18 J F p0 r_5 (1 : Int32) x_14).bind fun r_23 =>
some (r_23.1, r_18, r_23.2))
else if p3 = (7 : Int32) then (
(f_X1_told S r_18 J F p0 r_5 (2 : Int32) (0 : Int32)).bind fun r_25 =>
some (r_25.1, r_18, r_25.2))
else if p3 = (8 : Int32) then (
(F p1 1).bind fun a_27 =>
(p_ob S 3 a_27).bind fun _ =>
(f_X1_openBehind S r_18 J F p0 p1 (r_18 a_27 0) (1 : Int32)).bind fun r_30 =>
some ((r_30.1 >>> (p2 &&& 31)) &&& (1 : Int32), r_30.2.1, r_30.2.2))
else (
some ((-1 : Int32), r_18, J)))
set_option maxHeartbeats 4000000 in
set_option maxRecDepth 100000 in
theorem t_X1_ask {p0 : Nat} {p1 : Nat} {p2 : Int32} {p3 : Int32} {r : Int32 × v_I × v_J} (h : f_X1_ask S I J F p0 p1 p2 p3 = some r) : v_R l B D ac (v_EE B wa wb wt sb sL sx) yX1_ask cX1_ask 6 (some .int) 6 0 0 [.ref (B + p0), .ref (B + p1), .int p2, .int p3] S I J F (v_D (some (.int r.1)) S r.2.1 r.2.2 F) := by
  refine v_R.of (by decide) (Nat.le_of_ble_eq_true rfl) fun d hd => ?_
  generalize hQ : v_D (some (.int r.1)) S r.2.1 r.2.2 F = Q
  unfold f_X1_ask at h
  refine v_sub [(0, .ref (B + p0)), (1, .ref (B + p1)), (2, .int p2), (3, .int p3)] ⟨rfl, rfl, rfl, rfl, trivial⟩ ?_
  refine v_aload_n dX1_ask_0 rfl ?_
  refine v_iload_n dX1_ask_1 rfl ?_
  refine v_i2l dX1_ask_2 ?_
  replace h := p_bind_elim h
  obtain ⟨_, q_3, h⟩ := h
  have q_3 := p_ob_spec q_3
  replace h := p_bind_elim h
  obtain ⟨r_1, q_2, h⟩ := h
  refine v_cVr (t_X0_has q_2) cal_X0_has ml_X1_32 sel_X0_has q_3 kk_0 dX1_ask_3 (by omega) (by decide) (by decide) (Nat.le_of_ble_eq_true rfl) rfl ?_
  refine v_if_ne 11 dX1_ask_6 (by decide) (fun c_4 => ?_) (fun c_4 => ?_)
  · rw [if_neg c_4] at h
    refine v_aload_n dX1_ask_11 rfl ?_
    replace h := p_bind_elim h
    obtain ⟨r_5, q_6, h⟩ := h
    refine v_cVr (t_X0_lawInForce q_6) cal_X0_lawInForce ml_X1_38 sel_X0_lawInForce q_3 kk_0 dX1_ask_12 (by omega) (by decide) (by decide) (Nat.le_of_ble_eq_true rfl) rfl ?_
    refine v_astoreQ dX1_ask_15 (by decide) ?_
    refine v_sub [(0, .ref (B + p0)), (1, .ref (B + p1)), (2, .int p2), (3, .int p3), (4, v_rf B r_5)] (by rcases r_5 with _ | _ <;> exact ⟨rfl, rfl, rfl, rfl, rfl, trivial⟩) ?_
    refine v_aload_n dX1_ask_17 rfl ?_
    replace h := p_bind_elim h
    obtain ⟨a_7, q_8, h⟩ := h
    refine v_getR q_8 rfl fl_X1_42 dX1_ask_18 q_3 ?_
    replace h := p_bind_elim h
    obtain ⟨_, q_9, h⟩ := h
    have q_9 := p_ob_spec q_9
    replace h := p_bind_elim h
    obtain ⟨a_10, q_11, h⟩ := h
    refine v_getR q_11 rfl fl_X1_45 dX1_ask_21 q_9 ?_
    refine v_iload_n dX1_ask_24 rfl ?_
    replace h := p_bind_elim h
    obtain ⟨j_12, q_13, h⟩ := h
    refine v_ialdP dX1_ask_25 q_13 ?_
    replace h := p_let_elim h
    obtain ⟨x_14, h_15, h⟩ := h
    rw [← h_15]
    refine v_istore dX1_ask_26 (by decide) ?_
    refine v_sub [(0, .ref (B + p0)), (1, .ref (B + p1)), (2, .int p2), (3, .int p3), (4, v_rf B r_5), (5, .int x_14)] (by rcases r_5 with _ | _ <;> exact ⟨rfl, rfl, rfl, rfl, rfl, rfl, trivial⟩) ?_
    refine v_aload_n dX1_ask_28 rfl ?_
    refine v_aload_n dX1_ask_29 rfl ?_
    refine v_aload_n dX1_ask_30 rfl ?_
    replace h := p_bind_elim h
    obtain ⟨a_16, q_17, h⟩ := h
    refine v_getR q_17 rfl fl_X1_42 dX1_ask_31 q_3 ?_
    refine v_iload_n dX1_ask_34 rfl ?_
    replace h := p_bind_elim h
    obtain ⟨_, q_20, h⟩ := h
    have q_20 := p_ob_spec q_20
    replace h := p_bind_elim h
    obtain ⟨r_18, q_19, h⟩ := h
    refine v_cVn (t_X1_hear q_19) cal_X1_hear ml_X1_48 sel_X1_hear q_20 kk_1 dX1_ask_35 (by omega) (by decide) (by decide) (Nat.le_of_ble_eq_true rfl) rfl ?_
    refine v_iload_n dX1_ask_38 rfl ?_
    by_cases c_32 : p3 = (5 : Int32)
    · rw [if_pos c_32] at h
      refine v_swIn 68 (5 : Int32) c_32 dX1_ask_39 (by decide) (by decide) rfl (by decide) ?_
      refine v_aload_n dX1_ask_68 rfl ?_
      refine v_aloadQ dX1_ask_69 rfl ?_
      refine v_iconstE (0 : Int32) dX1_ask_71 (by decide) ?_
      refine v_iload dX1_ask_72 rfl ?_
      replace h := p_bind_elim h
      obtain ⟨r_21, q_22, h⟩ := h
      refine v_cVr (t_X1_told q_22) cal_X1_told ml_X1_52 sel_X1_told q_20 kk_1 dX1_ask_74 (by omega) (by decide) (by decide) (Nat.le_of_ble_eq_true rfl) rfl ?_
      cases h
      exact v_iret dX1_ask_77 rfl (by decide) (by decide) (by rw [← hQ]; exact ⟨rfl, rfl, rfl, rfl, rfl⟩)
    · rw [if_neg c_32] at h
      by_cases c_33 : p3 = (6 : Int32)
      · rw [if_pos c_33] at h
        refine v_swIn 78 (6 : Int32) c_33 dX1_ask_39 (by decide) (by decide) rfl (by decide) ?_
        refine v_aload_n dX1_ask_78 rfl ?_
        refine v_aloadQ dX1_ask_79 rfl ?_
        refine v_iconstE (1 : Int32) dX1_ask_81 (by decide) ?_
        refine v_iload dX1_ask_82 rfl ?_
        replace h := p_bind_elim h
        obtain ⟨r_23, q_24, h⟩ := h
        refine v_cVr (t_X1_told q_24) cal_X1_told ml_X1_52 sel_X1_told q_20 kk_1 dX1_ask_84 (by omega) (by decide) (by decide) (Nat.le_of_ble_eq_true rfl) rfl ?_
        cases h
        exact v_iret dX1_ask_87 rfl (by decide) (by decide) (by rw [← hQ]; exact ⟨rfl, rfl, rfl, rfl, rfl⟩)
      · rw [if_neg c_33] at h
        by_cases c_34 : p3 = (7 : Int32)
        · rw [if_pos c_34] at h
          refine v_swIn 88 (7 : Int32) c_34 dX1_ask_39 (by decide) (by decide) rfl (by decide) ?_
          refine v_aload_n dX1_ask_88 rfl ?_
          refine v_aloadQ dX1_ask_89 rfl ?_
          refine v_iconstE (2 : Int32) dX1_ask_91 (by decide) ?_
          refine v_iconstE (0 : Int32) dX1_ask_92 (by decide) ?_
          replace h := p_bind_elim h
          obtain ⟨r_25, q_26, h⟩ := h
          refine v_cVr (t_X1_told q_26) cal_X1_told ml_X1_52 sel_X1_told q_20 kk_1 dX1_ask_93 (by omega) (by decide) (by decide) (Nat.le_of_ble_eq_true rfl) rfl ?_
          cases h
          exact v_iret dX1_ask_96 rfl (by decide) (by decide) (by rw [← hQ]; exact ⟨rfl, rfl, rfl, rfl, rfl⟩)
        · rw [if_neg c_34] at h
          by_cases c_35 : p3 = (8 : Int32)
          · rw [if_pos c_35] at h
            refine v_swIn 97 (8 : Int32) c_35 dX1_ask_39 (by decide) (by decide) rfl (by decide) ?_
            refine v_aload_n dX1_ask_97 rfl ?_
            refine v_aload_n dX1_ask_98 rfl ?_
            refine v_aload_n dX1_ask_99 rfl ?_
            replace h := p_bind_elim h
            obtain ⟨a_27, q_28, h⟩ := h
            refine v_getR q_28 rfl fl_X1_42 dX1_ask_100 q_3 ?_
            replace h := p_bind_elim h
            obtain ⟨_, q_29, h⟩ := h
            have q_29 := p_ob_spec q_29
            refine v_getI rfl fl_X1_56 dX1_ask_103 q_29 ?_
            refine v_iconstE (1 : Int32) dX1_ask_106 (by decide) ?_
            replace h := p_bind_elim h
            obtain ⟨r_30, q_31, h⟩ := h
            refine v_cVr (t_X1_openBehind q_31) cal_X1_openBehind ml_X1_60 sel_X1_openBehind q_20 kk_1 dX1_ask_107 (by omega) (by decide) (by decide) (Nat.le_of_ble_eq_true rfl) rfl ?_
            refine v_iload_n dX1_ask_110 rfl ?_
            refine v_ishr dX1_ask_111 ?_
            refine v_iconstE (1 : Int32) dX1_ask_112 (by decide) ?_
            refine v_iand dX1_ask_113 ?_
            cases h
            exact v_iret dX1_ask_114 rfl (by decide) (by decide) (by rw [← hQ]; exact ⟨rfl, rfl, rfl, rfl, rfl⟩)
          · rw [if_neg c_35] at h
            refine v_tableOut 115 dX1_ask_39 (p_sw_out (fun k h1 h2 => by have h3 : k = 5 ∨ k = 6 ∨ k = 7 ∨ k = 8 := (by omega); rcases h3 with rfl | rfl | rfl | rfl <;> first | exact c_32 | exact c_33 | exact c_34 | exact c_35)) (by decide) ?_
            refine v_iconstE (-1 : Int32) dX1_ask_115 (by decide) ?_
            cases h
            exact v_iret dX1_ask_116 rfl (by decide) (by decide) (by rw [← hQ]; exact ⟨rfl, rfl, rfl, rfl, rfl⟩)
  · rw [if_pos c_4] at h
    refine v_iconstE (-1 : Int32) dX1_ask_9 (by decide) ?_
    cases h
    exact v_iret dX1_ask_10 rfl (by decide) (by decide) (by rw [← hQ]; exact ⟨rfl, rfl, rfl, rfl, rfl⟩)

def f_X9_of (S : v_S) (I : v_I) (J : v_J) (F : v_F) (p0 : Nat) (p1 : Int32) (p2 : Int32) : Option (Int32 × v_I × v_J) :=
(p_ob S 9 p0).bind fun _ =>
(F p0 0).bind fun a_2 =>
(p_ob S 0 a_2).bind fun _ =>
(f_X0_has S I a_2 p1.toInt64).bind fun r_4 =>
if r_4 = (0 : Int32) then (
some ((-1 : Int32), I, J))
else (
(F p0 0).bind fun a_8 =>
(p_ob S 0 a_8).bind fun _ =>
(F a_8 1).bind fun a_11 =>
if p2 = (0 : Int32) then (
(p_ob S 3 a_11).bind fun _ =>
(F a_11 2).bind fun a_14 =>
(p_ix S 20 a_14 p1).bind fun j_16 =>
some (I a_14 j_16, I, J))
else if p2 = (1 : Int32) then (
(F p0 0).bind fun a_18 =>
(p_ob S 0 a_18).bind fun _ =>
(F a_18 2).bind fun a_21 =>
(p_ix S 20 a_21 p1).bind fun j_23 =>
some (I a_21 j_23, I, J))
else if p2 = (2 : Int32) then (
(F p0 0).bind fun a_25 =>
(p_ob S 0 a_25).bind fun _ =>
(F a_25 3).bind fun a_28 =>
(p_ix S 20 a_28 p1).bind fun j_30 =>
some (I a_28 j_30, I, J))
else if p2 = (3 : Int32) then (
(p_ob S 3 a_11).bind fun _ =>
(f_X3_isOpen S I a_11 p1).bind fun r_32 =>
if r_32 = (0 : Int32) then (
some ((0 : Int32), I, J))
else (
some ((1 : Int32), I, J)))
else if p2 = (4 : Int32) then (
(p_ob S 3 a_11).bind fun _ =>
(F a_11 3).bind fun a_37 =>
(p_ix S 20 a_37 p1).bind fun j_39 =>
some (I a_37 j_39, I, J))
else (
(F p0 3).bind fun a_41 =>
(F p0 0).bind fun a_43 =>
(p_ob S 1 a_41).bind fun _ =>
(f_X1_ask S I J F a_41 a_43 p1 p2).bind fun r_45 =>
some (r_45.1, r_45.2.1, r_45.2.2)))
set_option maxHeartbeats 4000000 in
set_option maxRecDepth 100000 in
theorem t_X9_of {p0 : Nat} {p1 : Int32} {p2 : Int32} {r : Int32 × v_I × v_J} (h : f_X9_of S I J F p0 p1 p2 = some r) : v_R l B D ac (v_EE B wa wb wt sb sL sx) yX9_of cX9_of 4 (some .int) 7 0 0 [.ref (B + p0), .int p1, .int p2] S I J F (v_D (some (.int r.1)) S r.2.1 r.2.2 F) := by
  refine v_R.of (by decide) (Nat.le_of_ble_eq_true rfl) fun d hd => ?_
  generalize hQ : v_D (some (.int r.1)) S r.2.1 r.2.2 F = Q
  unfold f_X9_of at h
  refine v_sub [(0, .ref (B + p0)), (1, .int p1), (2, .int p2)] ⟨rfl, rfl, rfl, trivial⟩ ?_
  refine v_aload_n dX9_of_0 rfl ?_
  replace h := p_bind_elim h
  obtain ⟨_, q_1, h⟩ := h
  have q_1 := p_ob_spec q_1
  replace h := p_bind_elim h
  obtain ⟨a_2, q_3, h⟩ := h
  refine v_getR q_3 rfl fl_X9_12 dX9_of_1 q_1 ?_
  refine v_iload_n dX9_of_4 rfl ?_
  refine v_i2l dX9_of_5 ?_
  replace h := p_bind_elim h
  obtain ⟨_, q_6, h⟩ := h
  have q_6 := p_ob_spec q_6
  replace h := p_bind_elim h
  obtain ⟨r_4, q_5, h⟩ := h
  refine v_cVr (t_X0_has q_5) cal_X0_has ml_X9_116 sel_X0_has q_6 kk_0 dX9_of_6 (by omega) (by decide) (by decide) (Nat.le_of_ble_eq_true rfl) rfl ?_
  refine v_if_ne 14 dX9_of_9 (by decide) (fun c_7 => ?_) (fun c_7 => ?_)
  · rw [if_neg c_7] at h
    refine v_aload_n dX9_of_14 rfl ?_
    replace h := p_bind_elim h
    obtain ⟨a_8, q_9, h⟩ := h
    refine v_getR q_9 rfl fl_X9_12 dX9_of_15 q_1 ?_
    replace h := p_bind_elim h
    obtain ⟨_, q_10, h⟩ := h
    have q_10 := p_ob_spec q_10
    replace h := p_bind_elim h
    obtain ⟨a_11, q_12, h⟩ := h
    refine v_getR q_12 rfl fl_X9_123 dX9_of_18 q_10 ?_
    refine v_astore_n dX9_of_21 (by decide) ?_
    refine v_sub [(0, .ref (B + p0)), (1, .int p1), (2, .int p2), (3, .ref (B + a_11))] ⟨rfl, rfl, rfl, rfl, trivial⟩ ?_
    refine v_iload_n dX9_of_22 rfl ?_
    by_cases c_48 : p2 = (0 : Int32)
    · rw [if_pos c_48] at h
      refine v_swIn 56 (0 : Int32) c_48 dX9_of_23 (by decide) (by decide) rfl (by decide) ?_
      refine v_aload_n dX9_of_56 rfl ?_
      replace h := p_bind_elim h
      obtain ⟨_, q_13, h⟩ := h
      have q_13 := p_ob_spec q_13
      replace h := p_bind_elim h
      obtain ⟨a_14, q_15, h⟩ := h
      refine v_getR q_15 rfl fl_X9_126 dX9_of_57 q_13 ?_
      refine v_iload_n dX9_of_60 rfl ?_
      replace h := p_bind_elim h
      obtain ⟨j_16, q_17, h⟩ := h
      refine v_ialdP dX9_of_61 q_17 ?_
      cases h
      exact v_iret dX9_of_62 rfl (by decide) (by decide) (by rw [← hQ]; exact ⟨rfl, rfl, rfl, rfl, rfl⟩)
    · rw [if_neg c_48] at h
      by_cases c_49 : p2 = (1 : Int32)
      · rw [if_pos c_49] at h
        refine v_swIn 63 (1 : Int32) c_49 dX9_of_23 (by decide) (by decide) rfl (by decide) ?_
        refine v_aload_n dX9_of_63 rfl ?_
        replace h := p_bind_elim h
        obtain ⟨a_18, q_19, h⟩ := h
        refine v_getR q_19 rfl fl_X9_12 dX9_of_64 q_1 ?_
        replace h := p_bind_elim h
        obtain ⟨_, q_20, h⟩ := h
        have q_20 := p_ob_spec q_20
        replace h := p_bind_elim h
        obtain ⟨a_21, q_22, h⟩ := h
        refine v_getR q_22 rfl fl_X9_129 dX9_of_67 q_20 ?_
        refine v_iload_n dX9_of_70 rfl ?_
        replace h := p_bind_elim h
        obtain ⟨j_23, q_24, h⟩ := h
        refine v_ialdP dX9_of_71 q_24 ?_
        cases h
        exact v_iret dX9_of_72 rfl (by decide) (by decide) (by rw [← hQ]; exact ⟨rfl, rfl, rfl, rfl, rfl⟩)
      · rw [if_neg c_49] at h
        by_cases c_50 : p2 = (2 : Int32)
        · rw [if_pos c_50] at h
          refine v_swIn 73 (2 : Int32) c_50 dX9_of_23 (by decide) (by decide) rfl (by decide) ?_
          refine v_aload_n dX9_of_73 rfl ?_
          replace h := p_bind_elim h
          obtain ⟨a_25, q_26, h⟩ := h
          refine v_getR q_26 rfl fl_X9_12 dX9_of_74 q_1 ?_
          replace h := p_bind_elim h
          obtain ⟨_, q_27, h⟩ := h
          have q_27 := p_ob_spec q_27
          replace h := p_bind_elim h
          obtain ⟨a_28, q_29, h⟩ := h
          refine v_getR q_29 rfl fl_X9_132 dX9_of_77 q_27 ?_
          refine v_iload_n dX9_of_80 rfl ?_
          replace h := p_bind_elim h
          obtain ⟨j_30, q_31, h⟩ := h
          refine v_ialdP dX9_of_81 q_31 ?_
          cases h
          exact v_iret dX9_of_82 rfl (by decide) (by decide) (by rw [← hQ]; exact ⟨rfl, rfl, rfl, rfl, rfl⟩)
        · rw [if_neg c_50] at h
          by_cases c_51 : p2 = (3 : Int32)
          · rw [if_pos c_51] at h
            refine v_swIn 83 (3 : Int32) c_51 dX9_of_23 (by decide) (by decide) rfl (by decide) ?_
            refine v_aload_n dX9_of_83 rfl ?_
            refine v_iload_n dX9_of_84 rfl ?_
            replace h := p_bind_elim h
            obtain ⟨_, q_34, h⟩ := h
            have q_34 := p_ob_spec q_34
            replace h := p_bind_elim h
            obtain ⟨r_32, q_33, h⟩ := h
            refine v_cVr (t_X3_isOpen q_33) cal_X3_isOpen ml_X9_135 sel_X3_isOpen q_34 kk_3 dX9_of_85 (by omega) (by decide) (by decide) (Nat.le_of_ble_eq_true rfl) rfl ?_
            refine v_if_eq 95 dX9_of_88 (by decide) (fun c_35 => ?_) (fun c_35 => ?_)
            · rw [if_pos c_35] at h
              refine v_iconstE (0 : Int32) dX9_of_95 (by decide) ?_
              cases h
              exact v_iret dX9_of_96 rfl (by decide) (by decide) (by rw [← hQ]; exact ⟨rfl, rfl, rfl, rfl, rfl⟩)
            · rw [if_neg c_35] at h
              refine v_iconstE (1 : Int32) dX9_of_91 (by decide) ?_
              refine v_goto 96 dX9_of_92 (by decide) ?_
              cases h
              exact v_iret dX9_of_96 rfl (by decide) (by decide) (by rw [← hQ]; exact ⟨rfl, rfl, rfl, rfl, rfl⟩)
          · rw [if_neg c_51] at h
            by_cases c_52 : p2 = (4 : Int32)
            · rw [if_pos c_52] at h
              refine v_swIn 97 (4 : Int32) c_52 dX9_of_23 (by decide) (by decide) rfl (by decide) ?_
              refine v_aload_n dX9_of_97 rfl ?_
              replace h := p_bind_elim h
              obtain ⟨_, q_36, h⟩ := h
              have q_36 := p_ob_spec q_36
              replace h := p_bind_elim h
              obtain ⟨a_37, q_38, h⟩ := h
              refine v_getR q_38 rfl fl_X9_139 dX9_of_98 q_36 ?_
              refine v_iload_n dX9_of_101 rfl ?_
              replace h := p_bind_elim h
              obtain ⟨j_39, q_40, h⟩ := h
              refine v_ialdP dX9_of_102 q_40 ?_
              cases h
              exact v_iret dX9_of_103 rfl (by decide) (by decide) (by rw [← hQ]; exact ⟨rfl, rfl, rfl, rfl, rfl⟩)
            · rw [if_neg c_52] at h
              refine v_tableOut 104 dX9_of_23 (p_sw_out (fun k h1 h2 => by have h3 : k = 0 ∨ k = 1 ∨ k = 2 ∨ k = 3 ∨ k = 4 := (by omega); rcases h3 with rfl | rfl | rfl | rfl | rfl <;> first | exact c_48 | exact c_49 | exact c_50 | exact c_51 | exact c_52)) (by decide) ?_
              refine v_aload_n dX9_of_104 rfl ?_
              replace h := p_bind_elim h
              obtain ⟨a_41, q_42, h⟩ := h
              refine v_getR q_42 rfl fl_X9_30 dX9_of_105 q_1 ?_
              refine v_aload_n dX9_of_108 rfl ?_
              replace h := p_bind_elim h
              obtain ⟨a_43, q_44, h⟩ := h
              refine v_getR q_44 rfl fl_X9_12 dX9_of_109 q_1 ?_
              refine v_iload_n dX9_of_112 rfl ?_
              refine v_iload_n dX9_of_113 rfl ?_
              replace h := p_bind_elim h
              obtain ⟨_, q_47, h⟩ := h
              have q_47 := p_ob_spec q_47
              replace h := p_bind_elim h
              obtain ⟨r_45, q_46, h⟩ := h
              refine v_cVr (t_X1_ask q_46) cal_X1_ask ml_X9_142 sel_X1_ask q_47 kk_1 dX9_of_114 (by omega) (by decide) (by decide) (Nat.le_of_ble_eq_true rfl) rfl ?_
              cases h
              exact v_iret dX9_of_117 rfl (by decide) (by decide) (by rw [← hQ]; exact ⟨rfl, rfl, rfl, rfl, rfl⟩)
  · rw [if_pos c_7] at h
    refine v_iconstE (-1 : Int32) dX9_of_12 (by decide) ?_
    cases h
    exact v_iret dX9_of_13 rfl (by decide) (by decide) (by rw [← hQ]; exact ⟨rfl, rfl, rfl, rfl, rfl⟩)

def f_X0_setTerm (S : v_S) (I : v_I) (F : v_F) (p0 : Nat) (p1 : Int32) (p2 : Int32) : Option (v_I) :=
if p1 = (0 : Int32) then (
(p_ob S 0 p0).bind fun _ =>
(F p0 1).bind fun a_2 =>
(p_ob S 3 a_2).bind fun _ =>
p_let (v_up I a_2 1 p2) fun I_5 =>
some (I_5))
else if p1 = (1 : Int32) then (
(p_ob S 0 p0).bind fun _ =>
p_let (v_up I p0 4 p2) fun I_8 =>
some (I_8))
else if p1 = (2 : Int32) then (
(p_ob S 0 p0).bind fun _ =>
p_let (v_up I p0 5 p2) fun I_11 =>
some (I_11))
else if p1 = (3 : Int32) then (
(p_ob S 0 p0).bind fun _ =>
p_let (v_up I p0 6 p2) fun I_14 =>
some (I_14))
else (
some (I))
set_option maxHeartbeats 4000000 in
set_option maxRecDepth 100000 in
theorem t_X0_setTerm {p0 : Nat} {p1 : Int32} {p2 : Int32} {r : v_I} (h : f_X0_setTerm S I F p0 p1 p2 = some r) : v_R l B D ac (v_EE B wa wb wt sb sL sx) yX0_setTerm cX0_setTerm 3 none 1 0 0 [.ref (B + p0), .int p1, .int p2] S I J F (v_D none S r J F) := by
  refine v_R.of (by decide) (Nat.le_of_ble_eq_true rfl) fun d hd => ?_
  generalize hQ : v_D none S r J F = Q
  unfold f_X0_setTerm at h
  refine v_sub [(0, .ref (B + p0)), (1, .int p1), (2, .int p2)] ⟨rfl, rfl, rfl, trivial⟩ ?_
  refine v_iload_n dX0_setTerm_0 rfl ?_
  by_cases c_16 : p1 = (0 : Int32)
  · rw [if_pos c_16] at h
    refine v_swIn 32 (0 : Int32) c_16 dX0_setTerm_1 (by decide) (by decide) rfl (by decide) ?_
    refine v_aload_n dX0_setTerm_32 rfl ?_
    replace h := p_bind_elim h
    obtain ⟨_, q_1, h⟩ := h
    have q_1 := p_ob_spec q_1
    replace h := p_bind_elim h
    obtain ⟨a_2, q_3, h⟩ := h
    refine v_getR q_3 rfl fl_X0_18 dX0_setTerm_33 q_1 ?_
    refine v_iload_n dX0_setTerm_36 rfl ?_
    replace h := p_bind_elim h
    obtain ⟨_, q_4, h⟩ := h
    have q_4 := p_ob_spec q_4
    refine v_putI rfl fl_X0_82 dX0_setTerm_37 q_4 rfl rfl ?_
    replace h := p_let_elim h
    obtain ⟨I_5, h_6, h⟩ := h
    rw [← h_6]
    refine v_goto 67 dX0_setTerm_40 (by decide) ?_
    cases h
    exact v_vret dX0_setTerm_67 rfl (by decide) (by decide) (by rw [← hQ]; exact ⟨rfl, rfl, rfl, rfl, rfl⟩)
  · rw [if_neg c_16] at h
    by_cases c_17 : p1 = (1 : Int32)
    · rw [if_pos c_17] at h
      refine v_swIn 43 (1 : Int32) c_17 dX0_setTerm_1 (by decide) (by decide) rfl (by decide) ?_
      refine v_aload_n dX0_setTerm_43 rfl ?_
      refine v_iload_n dX0_setTerm_44 rfl ?_
      replace h := p_bind_elim h
      obtain ⟨_, q_7, h⟩ := h
      have q_7 := p_ob_spec q_7
      refine v_putI rfl fl_X0_29 dX0_setTerm_45 q_7 rfl rfl ?_
      replace h := p_let_elim h
      obtain ⟨I_8, h_9, h⟩ := h
      rw [← h_9]
      refine v_goto 67 dX0_setTerm_48 (by decide) ?_
      cases h
      exact v_vret dX0_setTerm_67 rfl (by decide) (by decide) (by rw [← hQ]; exact ⟨rfl, rfl, rfl, rfl, rfl⟩)
    · rw [if_neg c_17] at h
      by_cases c_18 : p1 = (2 : Int32)
      · rw [if_pos c_18] at h
        refine v_swIn 51 (2 : Int32) c_18 dX0_setTerm_1 (by decide) (by decide) rfl (by decide) ?_
        refine v_aload_n dX0_setTerm_51 rfl ?_
        refine v_iload_n dX0_setTerm_52 rfl ?_
        replace h := p_bind_elim h
        obtain ⟨_, q_10, h⟩ := h
        have q_10 := p_ob_spec q_10
        refine v_putI rfl fl_X0_32 dX0_setTerm_53 q_10 rfl rfl ?_
        replace h := p_let_elim h
        obtain ⟨I_11, h_12, h⟩ := h
        rw [← h_12]
        refine v_goto 67 dX0_setTerm_56 (by decide) ?_
        cases h
        exact v_vret dX0_setTerm_67 rfl (by decide) (by decide) (by rw [← hQ]; exact ⟨rfl, rfl, rfl, rfl, rfl⟩)
      · rw [if_neg c_18] at h
        by_cases c_19 : p1 = (3 : Int32)
        · rw [if_pos c_19] at h
          refine v_swIn 59 (3 : Int32) c_19 dX0_setTerm_1 (by decide) (by decide) rfl (by decide) ?_
          refine v_aload_n dX0_setTerm_59 rfl ?_
          refine v_iload_n dX0_setTerm_60 rfl ?_
          replace h := p_bind_elim h
          obtain ⟨_, q_13, h⟩ := h
          have q_13 := p_ob_spec q_13
          refine v_putI rfl fl_X0_35 dX0_setTerm_61 q_13 rfl rfl ?_
          replace h := p_let_elim h
          obtain ⟨I_14, h_15, h⟩ := h
          rw [← h_15]
          refine v_goto 67 dX0_setTerm_64 (by decide) ?_
          cases h
          exact v_vret dX0_setTerm_67 rfl (by decide) (by decide) (by rw [← hQ]; exact ⟨rfl, rfl, rfl, rfl, rfl⟩)
        · rw [if_neg c_19] at h
          refine v_tableOut 67 dX0_setTerm_1 (p_sw_out (fun k h1 h2 => by have h3 : k = 0 ∨ k = 1 ∨ k = 2 ∨ k = 3 := (by omega); rcases h3 with rfl | rfl | rfl | rfl <;> first | exact c_16 | exact c_17 | exact c_18 | exact c_19)) (by decide) ?_
          cases h
          exact v_vret dX0_setTerm_67 rfl (by decide) (by decide) (by rw [← hQ]; exact ⟨rfl, rfl, rfl, rfl, rfl⟩)

def f_X0_term (S : v_S) (I : v_I) (F : v_F) (p0 : Nat) (p1 : Int32) : Option (Int32) :=
if p1 = (0 : Int32) then (
(p_ob S 0 p0).bind fun _ =>
(F p0 1).bind fun a_2 =>
(p_ob S 3 a_2).bind fun _ =>
some (I a_2 1))
else if p1 = (1 : Int32) then (
(p_ob S 0 p0).bind fun _ =>
some (I p0 4))
else if p1 = (2 : Int32) then (
(p_ob S 0 p0).bind fun _ =>
some (I p0 5))
else if p1 = (3 : Int32) then (
(p_ob S 0 p0).bind fun _ =>
some (I p0 6))
else (
some ((-1 : Int32)))
set_option maxHeartbeats 4000000 in
set_option maxRecDepth 100000 in
theorem t_X0_term {p0 : Nat} {p1 : Int32} {r : Int32} (h : f_X0_term S I F p0 p1 = some r) : v_R l B D ac (v_EE B wa wb wt sb sL sx) yX0_term cX0_term 2 (some .int) 1 0 0 [.ref (B + p0), .int p1] S I J F (v_D (some (.int r)) S I J F) := by
  refine v_R.of (by decide) (Nat.le_of_ble_eq_true rfl) fun d hd => ?_
  generalize hQ : v_D (some (.int r)) S I J F = Q
  unfold f_X0_term at h
  refine v_sub [(0, .ref (B + p0)), (1, .int p1)] ⟨rfl, rfl, trivial⟩ ?_
  refine v_iload_n dX0_term_0 rfl ?_
  by_cases c_8 : p1 = (0 : Int32)
  · rw [if_pos c_8] at h
    refine v_swIn 32 (0 : Int32) c_8 dX0_term_1 (by decide) (by decide) rfl (by decide) ?_
    refine v_aload_n dX0_term_32 rfl ?_
    replace h := p_bind_elim h
    obtain ⟨_, q_1, h⟩ := h
    have q_1 := p_ob_spec q_1
    replace h := p_bind_elim h
    obtain ⟨a_2, q_3, h⟩ := h
    refine v_getR q_3 rfl fl_X0_18 dX0_term_33 q_1 ?_
    replace h := p_bind_elim h
    obtain ⟨_, q_4, h⟩ := h
    have q_4 := p_ob_spec q_4
    refine v_getI rfl fl_X0_82 dX0_term_36 q_4 ?_
    cases h
    exact v_iret dX0_term_39 rfl (by decide) (by decide) (by rw [← hQ]; exact ⟨rfl, rfl, rfl, rfl, rfl⟩)
  · rw [if_neg c_8] at h
    by_cases c_9 : p1 = (1 : Int32)
    · rw [if_pos c_9] at h
      refine v_swIn 40 (1 : Int32) c_9 dX0_term_1 (by decide) (by decide) rfl (by decide) ?_
      refine v_aload_n dX0_term_40 rfl ?_
      replace h := p_bind_elim h
      obtain ⟨_, q_5, h⟩ := h
      have q_5 := p_ob_spec q_5
      refine v_getI rfl fl_X0_29 dX0_term_41 q_5 ?_
      cases h
      exact v_iret dX0_term_44 rfl (by decide) (by decide) (by rw [← hQ]; exact ⟨rfl, rfl, rfl, rfl, rfl⟩)
    · rw [if_neg c_9] at h
      by_cases c_10 : p1 = (2 : Int32)
      · rw [if_pos c_10] at h
        refine v_swIn 45 (2 : Int32) c_10 dX0_term_1 (by decide) (by decide) rfl (by decide) ?_
        refine v_aload_n dX0_term_45 rfl ?_
        replace h := p_bind_elim h
        obtain ⟨_, q_6, h⟩ := h
        have q_6 := p_ob_spec q_6
        refine v_getI rfl fl_X0_32 dX0_term_46 q_6 ?_
        cases h
        exact v_iret dX0_term_49 rfl (by decide) (by decide) (by rw [← hQ]; exact ⟨rfl, rfl, rfl, rfl, rfl⟩)
      · rw [if_neg c_10] at h
        by_cases c_11 : p1 = (3 : Int32)
        · rw [if_pos c_11] at h
          refine v_swIn 50 (3 : Int32) c_11 dX0_term_1 (by decide) (by decide) rfl (by decide) ?_
          refine v_aload_n dX0_term_50 rfl ?_
          replace h := p_bind_elim h
          obtain ⟨_, q_7, h⟩ := h
          have q_7 := p_ob_spec q_7
          refine v_getI rfl fl_X0_35 dX0_term_51 q_7 ?_
          cases h
          exact v_iret dX0_term_54 rfl (by decide) (by decide) (by rw [← hQ]; exact ⟨rfl, rfl, rfl, rfl, rfl⟩)
        · rw [if_neg c_11] at h
          refine v_tableOut 55 dX0_term_1 (p_sw_out (fun k h1 h2 => by have h3 : k = 0 ∨ k = 1 ∨ k = 2 ∨ k = 3 := (by omega); rcases h3 with rfl | rfl | rfl | rfl <;> first | exact c_8 | exact c_9 | exact c_10 | exact c_11)) (by decide) ?_
          refine v_iconstE (-1 : Int32) dX0_term_55 (by decide) ?_
          cases h
          exact v_iret dX0_term_56 rfl (by decide) (by decide) (by rw [← hQ]; exact ⟨rfl, rfl, rfl, rfl, rfl⟩)

def f_X9_terms_J22 (S : v_S) (F : v_F) (I : v_I) (y0 : Nat) : Option (Int32 × v_I) :=
(p_ob S 9 y0).bind fun _ =>
(f_X9_refuse S I F y0 (-1 : Int32)).bind fun r_4 =>
some (r_4.1, r_4.2)
def f_X9_terms (S : v_S) (I : v_I) (F : v_F) (p0 : Nat) (p1 : Int32) (p2 : Int32) : Option (Int32 × v_I) :=
(f_X9_isUpTo p1.toInt64 (3 : Int32)).bind fun r_1 =>
if r_1 = (0 : Int32) then (
f_X9_terms_J22 S F I p0)
else (
(p_mt p1).bind fun x_7 =>
(f_X9_isUpTo p2.toInt64 x_7).bind fun r_9 =>
if r_9 = (0 : Int32) then (
f_X9_terms_J22 S F I p0)
else (
(p_ob S 9 p0).bind fun _ =>
(F p0 0).bind fun a_13 =>
(p_ob S 0 a_13).bind fun _ =>
(f_X0_term S I F a_13 p1).bind fun r_15 =>
(F p0 0).bind fun a_18 =>
(p_ob S 0 a_18).bind fun _ =>
(f_X0_setTerm S I F a_18 p1 p2).bind fun r_20 =>
(F p0 2).bind fun a_23 =>
(p_ob S 4 a_23).bind fun _ =>
(f_X4_clear S r_20 a_23).bind fun r_25 =>
(f_X9_accept S r_25 p0 r_15).bind fun r_28 =>
some (r_28.1, r_28.2)))
set_option maxHeartbeats 4000000 in
set_option maxRecDepth 100000 in
theorem t_X9_terms {p0 : Nat} {p1 : Int32} {p2 : Int32} {r : Int32 × v_I} (h : f_X9_terms S I F p0 p1 p2 = some r) : v_R l B D ac (v_EE B wa wb wt sb sL sx) yX9_terms cX9_terms 4 (some .int) 2 0 0 [.ref (B + p0), .int p1, .int p2] S I J F (v_D (some (.int r.1)) S r.2 J F) := by
  refine v_R.of (by decide) (Nat.le_of_ble_eq_true rfl) fun d hd => ?_
  generalize hQ : v_D (some (.int r.1)) S r.2 J F = Q
  have j22 : ∀ (I : v_I) (y0 : Nat), f_X9_terms_J22 S F I y0 = some r → V l B D ac (v_EE B wa wb wt sb sL sx) yX9_terms cX9_terms 4 (some .int) d 0 0 0 0 S I J F 22 [(0, .ref (B + y0))] [] Q := by
    intro I y0 h
    unfold f_X9_terms_J22 at h
    refine v_aload_n dX9_terms_22 rfl ?_
    refine v_iconstE (-1 : Int32) dX9_terms_23 (by decide) ?_
    replace h := p_bind_elim h
    obtain ⟨_, q_6, h⟩ := h
    have q_6 := p_ob_spec q_6
    replace h := p_bind_elim h
    obtain ⟨r_4, q_5, h⟩ := h
    refine v_cVr (t_X9_refuse q_5) cal_X9_refuse ml_X9_99 sel_X9_refuse q_6 kk_9 dX9_terms_24 (by omega) (by decide) (by decide) (Nat.le_of_ble_eq_true rfl) rfl ?_
    cases h
    exact v_iret dX9_terms_27 rfl (by decide) (by decide) (by rw [← hQ]; exact ⟨rfl, rfl, rfl, rfl, rfl⟩)
  unfold f_X9_terms at h
  refine v_sub [(0, .ref (B + p0)), (1, .int p1), (2, .int p2)] ⟨rfl, rfl, rfl, trivial⟩ ?_
  refine v_iload_n dX9_terms_0 rfl ?_
  refine v_i2l dX9_terms_1 ?_
  refine v_iconstE (3 : Int32) dX9_terms_2 (by decide) ?_
  replace h := p_bind_elim h
  obtain ⟨r_1, q_2, h⟩ := h
  refine v_cSr (t_X9_isUpTo q_2) cal_X9_isUpTo ml_X9_95 sta_X9_isUpTo dX9_terms_3 (by omega) (by decide) (by decide) (Nat.le_of_ble_eq_true rfl) rfl ?_
  refine v_if_eq 22 dX9_terms_6 (by decide) (fun c_3 => ?_) (fun c_3 => ?_)
  · rw [if_pos c_3] at h
    refine v_sub [(0, .ref (B + p0))] ⟨rfl, trivial⟩ ?_
    exact j22 _ _ h
  · rw [if_neg c_3] at h
    refine v_iload_n dX9_terms_9 rfl ?_
    refine v_i2l dX9_terms_10 ?_
    refine v_gsT dX9_terms_11 rfl fl_most ?_
    refine v_iload_n dX9_terms_14 rfl ?_
    replace h := p_bind_elim h
    obtain ⟨x_7, q_8, h⟩ := h
    refine v_tiT dX9_terms_15 q_8 ?_
    replace h := p_bind_elim h
    obtain ⟨r_9, q_10, h⟩ := h
    refine v_cSr (t_X9_isUpTo q_10) cal_X9_isUpTo ml_X9_95 sta_X9_isUpTo dX9_terms_16 (by omega) (by decide) (by decide) (Nat.le_of_ble_eq_true rfl) rfl ?_
    refine v_if_ne 28 dX9_terms_19 (by decide) (fun c_11 => ?_) (fun c_11 => ?_)
    · rw [if_neg c_11] at h
      refine v_aload_n dX9_terms_28 rfl ?_
      replace h := p_bind_elim h
      obtain ⟨_, q_12, h⟩ := h
      have q_12 := p_ob_spec q_12
      replace h := p_bind_elim h
      obtain ⟨a_13, q_14, h⟩ := h
      refine v_getR q_14 rfl fl_X9_12 dX9_terms_29 q_12 ?_
      refine v_iload_n dX9_terms_32 rfl ?_
      replace h := p_bind_elim h
      obtain ⟨_, q_17, h⟩ := h
      have q_17 := p_ob_spec q_17
      replace h := p_bind_elim h
      obtain ⟨r_15, q_16, h⟩ := h
      refine v_cVr (t_X0_term q_16) cal_X0_term ml_X9_149 sel_X0_term q_17 kk_0 dX9_terms_33 (by omega) (by decide) (by decide) (Nat.le_of_ble_eq_true rfl) rfl ?_
      refine v_istore_n dX9_terms_36 (by decide) ?_
      refine v_sub [(0, .ref (B + p0)), (1, .int p1), (2, .int p2), (3, .int r_15)] ⟨rfl, rfl, rfl, rfl, trivial⟩ ?_
      refine v_aload_n dX9_terms_37 rfl ?_
      replace h := p_bind_elim h
      obtain ⟨a_18, q_19, h⟩ := h
      refine v_getR q_19 rfl fl_X9_12 dX9_terms_38 q_12 ?_
      refine v_iload_n dX9_terms_41 rfl ?_
      refine v_iload_n dX9_terms_42 rfl ?_
      replace h := p_bind_elim h
      obtain ⟨_, q_22, h⟩ := h
      have q_22 := p_ob_spec q_22
      replace h := p_bind_elim h
      obtain ⟨r_20, q_21, h⟩ := h
      refine v_cVn (t_X0_setTerm q_21) cal_X0_setTerm ml_X9_152 sel_X0_setTerm q_22 kk_0 dX9_terms_43 (by omega) (by decide) (by decide) (Nat.le_of_ble_eq_true rfl) rfl ?_
      refine v_aload_n dX9_terms_46 rfl ?_
      replace h := p_bind_elim h
      obtain ⟨a_23, q_24, h⟩ := h
      refine v_getR q_24 rfl fl_X9_23 dX9_terms_47 q_12 ?_
      replace h := p_bind_elim h
      obtain ⟨_, q_27, h⟩ := h
      have q_27 := p_ob_spec q_27
      replace h := p_bind_elim h
      obtain ⟨r_25, q_26, h⟩ := h
      refine v_cVn (t_X4_clear q_26) cal_X4_clear ml_X9_106 sel_X4_clear q_27 kk_4 dX9_terms_50 (by omega) (by decide) (by decide) (Nat.le_of_ble_eq_true rfl) rfl ?_
      refine v_aload_n dX9_terms_53 rfl ?_
      refine v_iload_n dX9_terms_54 rfl ?_
      replace h := p_bind_elim h
      obtain ⟨r_28, q_29, h⟩ := h
      refine v_cVr (t_X9_accept q_29) cal_X9_accept ml_X9_113 sel_X9_accept q_12 kk_9 dX9_terms_55 (by omega) (by decide) (by decide) (Nat.le_of_ble_eq_true rfl) rfl ?_
      cases h
      exact v_iret dX9_terms_58 rfl (by decide) (by decide) (by rw [← hQ]; exact ⟨rfl, rfl, rfl, rfl, rfl⟩)
    · rw [if_pos c_11] at h
      refine v_sub [(0, .ref (B + p0))] ⟨rfl, trivial⟩ ?_
      exact j22 _ _ h

def f_X9_putFour_B3 (S : v_S) (F : v_F) (w0 : Nat) (w1 : Int32) (s3 : Int32 × v_I) : Option ((Int32 × v_I) ⊕ (Int32 × v_I)) :=
if s3.1 < (0 : Int32) then (
some (.inr (s3.1, s3.2)))
else (
(p_ob S 9 w0).bind fun _ =>
if (400 : Int32) ≤ (s3.2 w0 8) then (
some (.inr (s3.1, s3.2)))
else (
(F w0 7).bind fun a_4 =>
(p_ix S 20 a_4 (s3.2 w0 8)).bind fun j_6 =>
p_let (v_up s3.2 a_4 j_6 ((w1 >>> (s3.1 &&& 31)) &&& (255 : Int32))) fun I_8 =>
p_let (v_up I_8 w0 8 ((I_8 w0 8) + (1 : Int32))) fun I_10 =>
p_let (s3.1 + (-8 : Int32)) fun x_12 =>
some (.inl (x_12, I_10))))
def f_X9_putFour (S : v_S) (I : v_I) (F : v_F) (p0 : Nat) (p1 : Int32) : Option (v_I) :=
(v_loop (f_X9_putFour_B3 S F p0 p1) FU ((24 : Int32), I)).bind fun q_14 =>
some (q_14.2)
set_option maxHeartbeats 4000000 in
set_option maxRecDepth 100000 in
theorem t_X9_putFour {p0 : Nat} {p1 : Int32} {r : v_I} (h : f_X9_putFour S I F p0 p1 = some r) : v_R l B D ac (v_EE B wa wb wt sb sL sx) yX9_putFour cX9_putFour 3 none 1 0 0 [.ref (B + p0), .int p1] S I J F (v_D none S r J F) := by
  refine v_R.of (by decide) (Nat.le_of_ble_eq_true rfl) fun d hd => ?_
  generalize hQ : v_D none S r J F = Q
  have b3 : ∀ (w0 : Nat) (w1 : Int32) (s3 : Int32 × v_I) (rx3 : (Int32 × v_I) ⊕ (Int32 × v_I)), f_X9_putFour_B3 S F w0 w1 s3 = some rx3 → v_K (fun (sP : Int32 × v_I) => V l B D ac (v_EE B wa wb wt sb sL sx) yX9_putFour cX9_putFour 3 none d 0 0 0 0 S sP.2 J F 3 [(0, .ref (B + w0)), (1, .int w1), (2, .int sP.1)] [] Q) (fun (rE : Int32 × v_I) => V l B D ac (v_EE B wa wb wt sb sL sx) yX9_putFour cX9_putFour 3 none d 0 0 0 0 S rE.2 J F 49 [] [] Q) rx3 → V l B D ac (v_EE B wa wb wt sb sL sx) yX9_putFour cX9_putFour 3 none d 0 0 0 0 S s3.2 J F 3 [(0, .ref (B + w0)), (1, .int w1), (2, .int s3.1)] [] Q := by
    intro w0 w1 s3 rx3 h hk
    unfold f_X9_putFour_B3 at h
    refine v_iload_n dX9_putFour_3 rfl ?_
    refine v_if_lt 49 dX9_putFour_4 (by decide) (fun c_1 => ?_) (fun c_1 => ?_)
    · rw [if_pos c_1] at h
      cases h
      refine v_sub [] trivial ?_
      exact hk
    · rw [if_neg c_1] at h
      refine v_aload_n dX9_putFour_7 rfl ?_
      replace h := p_bind_elim h
      obtain ⟨_, q_2, h⟩ := h
      have q_2 := p_ob_spec q_2
      refine v_getI rfl fl_X9_56 dX9_putFour_8 q_2 ?_
      refine v_sipush (400 : Int32) dX9_putFour_11 (by decide) ?_
      refine v_icmp_ge 49 dX9_putFour_14 (by decide) (fun c_3 => ?_) (fun c_3 => ?_)
      · rw [if_pos c_3] at h
        cases h
        refine v_sub [] trivial ?_
        exact hk
      · rw [if_neg c_3] at h
        refine v_aload_n dX9_putFour_17 rfl ?_
        replace h := p_bind_elim h
        obtain ⟨a_4, q_5, h⟩ := h
        refine v_getR q_5 rfl fl_X9_52 dX9_putFour_18 q_2 ?_
        refine v_aload_n dX9_putFour_21 rfl ?_
        refine v_getI rfl fl_X9_56 dX9_putFour_22 q_2 ?_
        refine v_iload_n dX9_putFour_25 rfl ?_
        refine v_iload_n dX9_putFour_26 rfl ?_
        refine v_ishr dX9_putFour_27 ?_
        refine v_sipush (255 : Int32) dX9_putFour_28 (by decide) ?_
        refine v_iand dX9_putFour_31 ?_
        replace h := p_bind_elim h
        obtain ⟨j_6, q_7, h⟩ := h
        refine v_iastP dX9_putFour_32 q_7 ?_
        replace h := p_let_elim h
        obtain ⟨I_8, h_9, h⟩ := h
        rw [← h_9]
        refine v_aload_n dX9_putFour_33 rfl ?_
        refine v_dup dX9_putFour_34 rfl ?_
        refine v_getI rfl fl_X9_56 dX9_putFour_35 q_2 ?_
        refine v_iconstE (1 : Int32) dX9_putFour_38 (by decide) ?_
        refine v_iadd dX9_putFour_39 ?_
        refine v_putI rfl fl_X9_56 dX9_putFour_40 q_2 rfl rfl ?_
        replace h := p_let_elim h
        obtain ⟨I_10, h_11, h⟩ := h
        rw [← h_11]
        replace h := p_let_elim h
        obtain ⟨x_12, h_13, h⟩ := h
        refine v_iincE (-8 : Int32) dX9_putFour_43 (by decide) rfl (by decide) ?_
        rw [← h_13]
        refine v_sub [(0, .ref (B + w0)), (1, .int w1), (2, .int x_12)] ⟨rfl, rfl, rfl, trivial⟩ ?_
        refine v_goto 3 dX9_putFour_46 (by decide) ?_
        cases h
        refine v_sub [(0, .ref (B + w0)), (1, .int w1), (2, .int x_12)] ⟨rfl, rfl, rfl, trivial⟩ ?_
        exact hk
  unfold f_X9_putFour at h
  refine v_sub [(0, .ref (B + p0)), (1, .int p1)] ⟨rfl, rfl, trivial⟩ ?_
  refine v_bipush (24 : Int32) dX9_putFour_0 (by decide) ?_
  refine v_istore_n dX9_putFour_2 (by decide) ?_
  refine v_sub [(0, .ref (B + p0)), (1, .int p1), (2, .int (24 : Int32))] ⟨rfl, rfl, rfl, trivial⟩ ?_
  replace h := p_bind_elim h
  obtain ⟨q_14, h_15, h⟩ := h
  refine v_sub [(0, .ref (B + p0)), (1, .int p1), (2, .int (24 : Int32))] ⟨rfl, rfl, rfl, trivial⟩ ?_
  refine v_loopV (fun (sP : Int32 × v_I) => V l B D ac (v_EE B wa wb wt sb sL sx) yX9_putFour cX9_putFour 3 none d 0 0 0 0 S sP.2 J F 3 [(0, .ref (B + p0)), (1, .int p1), (2, .int sP.1)] [] Q) (fun (rE : Int32 × v_I) => V l B D ac (v_EE B wa wb wt sb sL sx) yX9_putFour cX9_putFour 3 none d 0 0 0 0 S rE.2 J F 49 [] [] Q) (fun s_ x_ hb hk => b3 _ _ s_ x_ hb hk) (r := q_14) ?_ h_15
  try dsimp only
  cases h
  exact v_vret dX9_putFour_49 rfl (by decide) (by decide) (by rw [← hQ]; exact ⟨rfl, rfl, rfl, rfl, rfl⟩)

def f_X9_feed (S : v_S) (I : v_I) (F : v_F) (p0 : Nat) (p1 : Int32) (p2 : Int32) (p3 : Int32) (p4 : Int32) (p5 : Int32) : Option (Int32 × v_I) :=
(p_ob S 9 p0).bind fun _ =>
if ((I p0 8) + (20 : Int32)) ≤ (400 : Int32) then (
(f_X9_putFour S I F p0 p1).bind fun r_3 =>
(f_X9_putFour S r_3 F p0 p2).bind fun r_5 =>
(f_X9_putFour S r_5 F p0 p3).bind fun r_7 =>
(f_X9_putFour S r_7 F p0 p4).bind fun r_9 =>
(f_X9_putFour S r_9 F p0 p5).bind fun r_11 =>
some (r_11 p0 8, r_11))
else (
some ((-1 : Int32), I))
set_option maxHeartbeats 4000000 in
set_option maxRecDepth 100000 in
theorem t_X9_feed {p0 : Nat} {p1 : Int32} {p2 : Int32} {p3 : Int32} {p4 : Int32} {p5 : Int32} {r : Int32 × v_I} (h : f_X9_feed S I F p0 p1 p2 p3 p4 p5 = some r) : v_R l B D ac (v_EE B wa wb wt sb sL sx) yX9_feed cX9_feed 6 (some .int) 2 0 0 [.ref (B + p0), .int p1, .int p2, .int p3, .int p4, .int p5] S I J F (v_D (some (.int r.1)) S r.2 J F) := by
  refine v_R.of (by decide) (Nat.le_of_ble_eq_true rfl) fun d hd => ?_
  generalize hQ : v_D (some (.int r.1)) S r.2 J F = Q
  unfold f_X9_feed at h
  refine v_sub [(0, .ref (B + p0)), (1, .int p1), (2, .int p2), (3, .int p3), (4, .int p4), (5, .int p5)] ⟨rfl, rfl, rfl, rfl, rfl, rfl, trivial⟩ ?_
  refine v_aload_n dX9_feed_0 rfl ?_
  replace h := p_bind_elim h
  obtain ⟨_, q_1, h⟩ := h
  have q_1 := p_ob_spec q_1
  refine v_getI rfl fl_X9_56 dX9_feed_1 q_1 ?_
  refine v_bipush (20 : Int32) dX9_feed_4 (by decide) ?_
  refine v_iadd dX9_feed_6 ?_
  refine v_sipush (400 : Int32) dX9_feed_7 (by decide) ?_
  refine v_icmp_le 15 dX9_feed_10 (by decide) (fun c_2 => ?_) (fun c_2 => ?_)
  · rw [if_pos c_2] at h
    refine v_aload_n dX9_feed_15 rfl ?_
    refine v_iload_n dX9_feed_16 rfl ?_
    replace h := p_bind_elim h
    obtain ⟨r_3, q_4, h⟩ := h
    refine v_cVn (t_X9_putFour q_4) cal_X9_putFour ml_X9_156 sel_X9_putFour q_1 kk_9 dX9_feed_17 (by omega) (by decide) (by decide) (Nat.le_of_ble_eq_true rfl) rfl ?_
    refine v_aload_n dX9_feed_20 rfl ?_
    refine v_iload_n dX9_feed_21 rfl ?_
    replace h := p_bind_elim h
    obtain ⟨r_5, q_6, h⟩ := h
    refine v_cVn (t_X9_putFour q_6) cal_X9_putFour ml_X9_156 sel_X9_putFour q_1 kk_9 dX9_feed_22 (by omega) (by decide) (by decide) (Nat.le_of_ble_eq_true rfl) rfl ?_
    refine v_aload_n dX9_feed_25 rfl ?_
    refine v_iload_n dX9_feed_26 rfl ?_
    replace h := p_bind_elim h
    obtain ⟨r_7, q_8, h⟩ := h
    refine v_cVn (t_X9_putFour q_8) cal_X9_putFour ml_X9_156 sel_X9_putFour q_1 kk_9 dX9_feed_27 (by omega) (by decide) (by decide) (Nat.le_of_ble_eq_true rfl) rfl ?_
    refine v_aload_n dX9_feed_30 rfl ?_
    refine v_iload dX9_feed_31 rfl ?_
    replace h := p_bind_elim h
    obtain ⟨r_9, q_10, h⟩ := h
    refine v_cVn (t_X9_putFour q_10) cal_X9_putFour ml_X9_156 sel_X9_putFour q_1 kk_9 dX9_feed_33 (by omega) (by decide) (by decide) (Nat.le_of_ble_eq_true rfl) rfl ?_
    refine v_aload_n dX9_feed_36 rfl ?_
    refine v_iload dX9_feed_37 rfl ?_
    replace h := p_bind_elim h
    obtain ⟨r_11, q_12, h⟩ := h
    refine v_cVn (t_X9_putFour q_12) cal_X9_putFour ml_X9_156 sel_X9_putFour q_1 kk_9 dX9_feed_39 (by omega) (by decide) (by decide) (Nat.le_of_ble_eq_true rfl) rfl ?_
    refine v_aload_n dX9_feed_42 rfl ?_
    refine v_getI rfl fl_X9_56 dX9_feed_43 q_1 ?_
    cases h
    exact v_iret dX9_feed_46 rfl (by decide) (by decide) (by rw [← hQ]; exact ⟨rfl, rfl, rfl, rfl, rfl⟩)
  · rw [if_neg c_2] at h
    refine v_iconstE (-1 : Int32) dX9_feed_13 (by decide) ?_
    cases h
    exact v_iret dX9_feed_14 rfl (by decide) (by decide) (by rw [← hQ]; exact ⟨rfl, rfl, rfl, rfl, rfl⟩)

end p00
