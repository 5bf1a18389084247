noncomputable section p01
variable {l : Launch} {B : Nat} {D : va_G} {ac : Nat → ClassId} {wa wb wt sb sL : Nat} {sx : Nat → Int32} {S : v_S} {I : v_I} {J : v_J} {F : v_F}
def f_X9_end (S : v_S) (I : v_I) (p0 : Nat) (p1 : Int32) : Option (Int32 × v_I) :=
(p_ob S 9 p0).bind fun _ =>
(f_X9_isUpTo p1.toInt64 (I p0 8)).bind fun r_2 =>
if r_2 = (0 : Int32) then (
some ((-1 : Int32), I))
else (
p_let (v_up I p0 8 p1) fun I_5 =>
some (p1, I_5))
set_option maxHeartbeats 4000000 in
set_option maxRecDepth 100000 in
theorem t_X9_end {p0 : Nat} {p1 : Int32} {r : Int32 × v_I} (h : f_X9_end S I p0 p1 = some r) : v_R l B D ac (v_EE B wa wb wt sb sL sx) yX9_end cX9_end 2 (some .int) 2 0 0 [.ref (B + p0), .int p1] S I J F (v_D (some (.int r.1)) S r.2 J F) := by
  refine v_R.of (by decide) (Nat.le_of_ble_eq_true rfl) fun d hd => ?_
  generalize hQ : v_D (some (.int r.1)) S r.2 J F = Q
  unfold f_X9_end at h
  refine v_sub [(0, .ref (B + p0)), (1, .int p1)] ⟨rfl, rfl, trivial⟩ ?_
  refine v_iload_n dX9_end_0 rfl ?_
  refine v_i2l dX9_end_1 ?_
  refine v_aload_n dX9_end_2 rfl ?_
  replace h := p_bind_elim h
  obtain ⟨_, q_1, h⟩ := h
  have q_1 := p_ob_spec q_1
  refine v_getI rfl fl_X9_56 dX9_end_3 q_1 ?_
  replace h := p_bind_elim h
  obtain ⟨r_2, q_3, h⟩ := h
  refine v_cSr (t_X9_isUpTo q_3) cal_X9_isUpTo ml_X9_95 sta_X9_isUpTo dX9_end_6 (by omega) (by decide) (by decide) (Nat.le_of_ble_eq_true rfl) rfl ?_
  refine v_if_ne 14 dX9_end_9 (by decide) (fun c_4 => ?_) (fun c_4 => ?_)
  · rw [if_neg c_4] at h
    refine v_aload_n dX9_end_14 rfl ?_
    refine v_iload_n dX9_end_15 rfl ?_
    refine v_putI rfl fl_X9_56 dX9_end_16 q_1 rfl rfl ?_
    replace h := p_let_elim h
    obtain ⟨I_5, h_6, h⟩ := h
    rw [← h_6]
    refine v_iload_n dX9_end_19 rfl ?_
    cases h
    exact v_iret dX9_end_20 rfl (by decide) (by decide) (by rw [← hQ]; exact ⟨rfl, rfl, rfl, rfl, rfl⟩)
  · rw [if_pos c_4] at h
    refine v_iconstE (-1 : Int32) dX9_end_12 (by decide) ?_
    cases h
    exact v_iret dX9_end_13 rfl (by decide) (by decide) (by rw [← hQ]; exact ⟨rfl, rfl, rfl, rfl, rfl⟩)

def f_X0_everyone (S : v_S) (I : v_I) (p0 : Nat) : Option (Int32) :=
(p_ob S 0 p0).bind fun _ =>
some (((1 : Int32) <<< ((I p0 0) &&& 31)) - (1 : Int32))
set_option maxHeartbeats 4000000 in
set_option maxRecDepth 100000 in
theorem t_X0_everyone {p0 : Nat} {r : Int32} (h : f_X0_everyone S I p0 = some r) : v_R l B D ac (v_EE B wa wb wt sb sL sx) yX0_everyone cX0_everyone 1 (some .int) 1 0 0 [.ref (B + p0)] S I J F (v_D (some (.int r)) S I J F) := by
  refine v_R.of (by decide) (Nat.le_of_ble_eq_true rfl) fun d hd => ?_
  generalize hQ : v_D (some (.int r)) S I J F = Q
  unfold f_X0_everyone at h
  refine v_sub [(0, .ref (B + p0))] ⟨rfl, trivial⟩ ?_
  refine v_iconstE (1 : Int32) dX0_everyone_0 (by decide) ?_
  refine v_aload_n dX0_everyone_1 rfl ?_
  replace h := p_bind_elim h
  obtain ⟨_, q_1, h⟩ := h
  have q_1 := p_ob_spec q_1
  refine v_getI rfl fl_X0_9 dX0_everyone_2 q_1 ?_
  refine v_ishl dX0_everyone_5 ?_
  refine v_iconstE (1 : Int32) dX0_everyone_6 (by decide) ?_
  refine v_isub dX0_everyone_7 ?_
  cases h
  exact v_iret dX0_everyone_8 rfl (by decide) (by decide) (by rw [← hQ]; exact ⟨rfl, rfl, rfl, rfl, rfl⟩)

def f_X9_addFromTape (S : v_S) (I : v_I) (F : v_F) (p0 : Nat) (p1 : Int32) : Option (Int32 × v_I) :=
if p1 < (0 : Int32) then (
some ((0 : Int32), I))
else (
(p_ob S 9 p0).bind fun _ =>
if (I p0 8) < (p1 + (3 : Int32)) then (
some ((0 : Int32), I))
else (
if (400 : Int32) < (p1 + (3 : Int32)) then (
some ((0 : Int32), I))
else (
(F p0 0).bind fun a_5 =>
(p_ob S 0 a_5).bind fun _ =>
if (I a_5 0) < (8 : Int32) then (
(F p0 7).bind fun a_9 =>
(p_ix S 20 a_9 p1).bind fun j_11 =>
p_let (I a_9 j_11) fun x_13 =>
(F p0 7).bind fun a_15 =>
(p_ix S 20 a_15 (p1 + (1 : Int32))).bind fun j_17 =>
p_let (I a_15 j_17) fun x_19 =>
(F p0 7).bind fun a_21 =>
(p_ix S 20 a_21 (p1 + (2 : Int32))).bind fun j_23 =>
p_let (I a_21 j_23) fun x_25 =>
(f_X9_isUpTo x_13.toInt64 (9 : Int32)).bind fun r_27 =>
if r_27 = (0 : Int32) then (
some ((0 : Int32), I))
else (
(f_X9_isUpTo x_19.toInt64 (9 : Int32)).bind fun r_30 =>
if r_30 = (0 : Int32) then (
some ((0 : Int32), I))
else (
(F p0 0).bind fun a_33 =>
(p_ob S 0 a_33).bind fun _ =>
(f_X0_everyone S I a_33).bind fun r_35 =>
(f_X9_isUpTo x_25.toInt64 r_35).bind fun r_38 =>
if r_38 = (0 : Int32) then (
some ((0 : Int32), I))
else (
(F p0 0).bind fun a_41 =>
(p_ob S 0 a_41).bind fun _ =>
(f_X0_add S I F a_41 x_13 x_19 x_25).bind fun r_43 =>
some ((1 : Int32), r_43.2)))))
else (
some ((0 : Int32), I)))))
set_option maxHeartbeats 4000000 in
set_option maxRecDepth 100000 in
theorem t_X9_addFromTape {p0 : Nat} {p1 : Int32} {r : Int32 × v_I} (h : f_X9_addFromTape S I F p0 p1 = some r) : v_R l B D ac (v_EE B wa wb wt sb sL sx) yX9_addFromTape cX9_addFromTape 5 (some .boolean) 4 0 0 [.ref (B + p0), .int p1] S I J F (v_D (some (.int r.1)) S r.2 J F) := by
  refine v_R.of (by decide) (Nat.le_of_ble_eq_true rfl) fun d hd => ?_
  generalize hQ : v_D (some (.int r.1)) S r.2 J F = Q
  unfold f_X9_addFromTape at h
  refine v_sub [(0, .ref (B + p0)), (1, .int p1)] ⟨rfl, rfl, trivial⟩ ?_
  refine v_iload_n dX9_addFromTape_0 rfl ?_
  refine v_if_lt 35 dX9_addFromTape_1 (by decide) (fun c_1 => ?_) (fun c_1 => ?_)
  · rw [if_pos c_1] at h
    refine v_iconstE (0 : Int32) dX9_addFromTape_35 (by decide) ?_
    cases h
    exact v_zret dX9_addFromTape_36 rfl rfl (by decide) (by decide) (by rw [← hQ]; exact ⟨rfl, rfl, rfl, rfl, rfl⟩)
  · rw [if_neg c_1] at h
    refine v_iload_n dX9_addFromTape_4 rfl ?_
    refine v_iconstE (3 : Int32) dX9_addFromTape_5 (by decide) ?_
    refine v_iadd dX9_addFromTape_6 ?_
    refine v_aload_n dX9_addFromTape_7 rfl ?_
    replace h := p_bind_elim h
    obtain ⟨_, q_2, h⟩ := h
    have q_2 := p_ob_spec q_2
    refine v_getI rfl fl_X9_56 dX9_addFromTape_8 q_2 ?_
    refine v_icmp_gt 35 dX9_addFromTape_11 (by decide) (fun c_3 => ?_) (fun c_3 => ?_)
    · rw [if_pos c_3] at h
      refine v_iconstE (0 : Int32) dX9_addFromTape_35 (by decide) ?_
      cases h
      exact v_zret dX9_addFromTape_36 rfl rfl (by decide) (by decide) (by rw [← hQ]; exact ⟨rfl, rfl, rfl, rfl, rfl⟩)
    · rw [if_neg c_3] at h
      refine v_iload_n dX9_addFromTape_14 rfl ?_
      refine v_iconstE (3 : Int32) dX9_addFromTape_15 (by decide) ?_
      refine v_iadd dX9_addFromTape_16 ?_
      refine v_sipush (400 : Int32) dX9_addFromTape_17 (by decide) ?_
      refine v_icmp_gt 35 dX9_addFromTape_20 (by decide) (fun c_4 => ?_) (fun c_4 => ?_)
      · rw [if_pos c_4] at h
        refine v_iconstE (0 : Int32) dX9_addFromTape_35 (by decide) ?_
        cases h
        exact v_zret dX9_addFromTape_36 rfl rfl (by decide) (by decide) (by rw [← hQ]; exact ⟨rfl, rfl, rfl, rfl, rfl⟩)
      · rw [if_neg c_4] at h
        refine v_aload_n dX9_addFromTape_23 rfl ?_
        replace h := p_bind_elim h
        obtain ⟨a_5, q_6, h⟩ := h
        refine v_getR q_6 rfl fl_X9_12 dX9_addFromTape_24 q_2 ?_
        replace h := p_bind_elim h
        obtain ⟨_, q_7, h⟩ := h
        have q_7 := p_ob_spec q_7
        refine v_getI rfl fl_X9_103 dX9_addFromTape_27 q_7 ?_
        refine v_bipush (8 : Int32) dX9_addFromTape_30 (by decide) ?_
        refine v_icmp_lt 37 dX9_addFromTape_32 (by decide) (fun c_8 => ?_) (fun c_8 => ?_)
        · rw [if_pos c_8] at h
          refine v_aload_n dX9_addFromTape_37 rfl ?_
          replace h := p_bind_elim h
          obtain ⟨a_9, q_10, h⟩ := h
          refine v_getR q_10 rfl fl_X9_52 dX9_addFromTape_38 q_2 ?_
          refine v_iload_n dX9_addFromTape_41 rfl ?_
          replace h := p_bind_elim h
          obtain ⟨j_11, q_12, h⟩ := h
          refine v_ialdP dX9_addFromTape_42 q_12 ?_
          replace h := p_let_elim h
          obtain ⟨x_13, h_14, h⟩ := h
          rw [← h_14]
          refine v_istore_n dX9_addFromTape_43 (by decide) ?_
          refine v_sub [(0, .ref (B + p0)), (1, .int p1), (2, .int x_13)] ⟨rfl, rfl, rfl, trivial⟩ ?_
          refine v_aload_n dX9_addFromTape_44 rfl ?_
          replace h := p_bind_elim h
          obtain ⟨a_15, q_16, h⟩ := h
          refine v_getR q_16 rfl fl_X9_52 dX9_addFromTape_45 q_2 ?_
          refine v_iload_n dX9_addFromTape_48 rfl ?_
          refine v_iconstE (1 : Int32) dX9_addFromTape_49 (by decide) ?_
          refine v_iadd dX9_addFromTape_50 ?_
          replace h := p_bind_elim h
          obtain ⟨j_17, q_18, h⟩ := h
          refine v_ialdP dX9_addFromTape_51 q_18 ?_
          replace h := p_let_elim h
          obtain ⟨x_19, h_20, h⟩ := h
          rw [← h_20]
          refine v_istore_n dX9_addFromTape_52 (by decide) ?_
          refine v_sub [(0, .ref (B + p0)), (1, .int p1), (2, .int x_13), (3, .int x_19)] ⟨rfl, rfl, rfl, rfl, trivial⟩ ?_
          refine v_aload_n dX9_addFromTape_53 rfl ?_
          replace h := p_bind_elim h
          obtain ⟨a_21, q_22, h⟩ := h
          refine v_getR q_22 rfl fl_X9_52 dX9_addFromTape_54 q_2 ?_
          refine v_iload_n dX9_addFromTape_57 rfl ?_
          refine v_iconstE (2 : Int32) dX9_addFromTape_58 (by decide) ?_
          refine v_iadd dX9_addFromTape_59 ?_
          replace h := p_bind_elim h
          obtain ⟨j_23, q_24, h⟩ := h
          refine v_ialdP dX9_addFromTape_60 q_24 ?_
          replace h := p_let_elim h
          obtain ⟨x_25, h_26, h⟩ := h
          rw [← h_26]
          refine v_istore dX9_addFromTape_61 (by decide) ?_
          refine v_sub [(0, .ref (B + p0)), (2, .int x_13), (3, .int x_19), (4, .int x_25)] ⟨rfl, rfl, rfl, rfl, trivial⟩ ?_
          refine v_iload_n dX9_addFromTape_63 rfl ?_
          refine v_i2l dX9_addFromTape_64 ?_
          refine v_bipush (9 : Int32) dX9_addFromTape_65 (by decide) ?_
          replace h := p_bind_elim h
          obtain ⟨r_27, q_28, h⟩ := h
          refine v_cSr (t_X9_isUpTo q_28) cal_X9_isUpTo ml_X9_95 sta_X9_isUpTo dX9_addFromTape_67 (by omega) (by decide) (by decide) (Nat.le_of_ble_eq_true rfl) rfl ?_
          refine v_if_eq 99 dX9_addFromTape_70 (by decide) (fun c_29 => ?_) (fun c_29 => ?_)
          · rw [if_pos c_29] at h
            refine v_iconstE (0 : Int32) dX9_addFromTape_99 (by decide) ?_
            cases h
            exact v_zret dX9_addFromTape_100 rfl rfl (by decide) (by decide) (by rw [← hQ]; exact ⟨rfl, rfl, rfl, rfl, rfl⟩)
          · rw [if_neg c_29] at h
            refine v_iload_n dX9_addFromTape_73 rfl ?_
            refine v_i2l dX9_addFromTape_74 ?_
            refine v_bipush (9 : Int32) dX9_addFromTape_75 (by decide) ?_
            replace h := p_bind_elim h
            obtain ⟨r_30, q_31, h⟩ := h
            refine v_cSr (t_X9_isUpTo q_31) cal_X9_isUpTo ml_X9_95 sta_X9_isUpTo dX9_addFromTape_77 (by omega) (by decide) (by decide) (Nat.le_of_ble_eq_true rfl) rfl ?_
            refine v_if_eq 99 dX9_addFromTape_80 (by decide) (fun c_32 => ?_) (fun c_32 => ?_)
            · rw [if_pos c_32] at h
              refine v_iconstE (0 : Int32) dX9_addFromTape_99 (by decide) ?_
              cases h
              exact v_zret dX9_addFromTape_100 rfl rfl (by decide) (by decide) (by rw [← hQ]; exact ⟨rfl, rfl, rfl, rfl, rfl⟩)
            · rw [if_neg c_32] at h
              refine v_iload dX9_addFromTape_83 rfl ?_
              refine v_i2l dX9_addFromTape_85 ?_
              refine v_aload_n dX9_addFromTape_86 rfl ?_
              replace h := p_bind_elim h
              obtain ⟨a_33, q_34, h⟩ := h
              refine v_getR q_34 rfl fl_X9_12 dX9_addFromTape_87 q_2 ?_
              replace h := p_bind_elim h
              obtain ⟨_, q_37, h⟩ := h
              have q_37 := p_ob_spec q_37
              replace h := p_bind_elim h
              obtain ⟨r_35, q_36, h⟩ := h
              refine v_cVr (t_X0_everyone q_36) cal_X0_everyone ml_X9_219 sel_X0_everyone q_37 kk_0 dX9_addFromTape_90 (by omega) (by decide) (by decide) (Nat.le_of_ble_eq_true rfl) rfl ?_
              replace h := p_bind_elim h
              obtain ⟨r_38, q_39, h⟩ := h
              refine v_cSr (t_X9_isUpTo q_39) cal_X9_isUpTo ml_X9_95 sta_X9_isUpTo dX9_addFromTape_93 (by omega) (by decide) (by decide) (Nat.le_of_ble_eq_true rfl) rfl ?_
              refine v_if_ne 101 dX9_addFromTape_96 (by decide) (fun c_40 => ?_) (fun c_40 => ?_)
              · rw [if_neg c_40] at h
                refine v_aload_n dX9_addFromTape_101 rfl ?_
                replace h := p_bind_elim h
                obtain ⟨a_41, q_42, h⟩ := h
                refine v_getR q_42 rfl fl_X9_12 dX9_addFromTape_102 q_2 ?_
                refine v_iload_n dX9_addFromTape_105 rfl ?_
                refine v_iload_n dX9_addFromTape_106 rfl ?_
                refine v_iload dX9_addFromTape_107 rfl ?_
                replace h := p_bind_elim h
                obtain ⟨_, q_45, h⟩ := h
                have q_45 := p_ob_spec q_45
                replace h := p_bind_elim h
                obtain ⟨r_43, q_44, h⟩ := h
                refine v_cVr (t_X0_add q_44) cal_X0_add ml_X9_109 sel_X0_add q_45 kk_0 dX9_addFromTape_109 (by omega) (by decide) (by decide) (Nat.le_of_ble_eq_true rfl) rfl ?_
                refine v_pop dX9_addFromTape_112 rfl ?_
                refine v_iconstE (1 : Int32) dX9_addFromTape_113 (by decide) ?_
                cases h
                exact v_zret dX9_addFromTape_114 rfl rfl (by decide) (by decide) (by rw [← hQ]; exact ⟨rfl, rfl, rfl, rfl, rfl⟩)
              · rw [if_pos c_40] at h
                refine v_iconstE (0 : Int32) dX9_addFromTape_99 (by decide) ?_
                cases h
                exact v_zret dX9_addFromTape_100 rfl rfl (by decide) (by decide) (by rw [← hQ]; exact ⟨rfl, rfl, rfl, rfl, rfl⟩)
        · rw [if_neg c_8] at h
          refine v_iconstE (0 : Int32) dX9_addFromTape_35 (by decide) ?_
          cases h
          exact v_zret dX9_addFromTape_36 rfl rfl (by decide) (by decide) (by rw [← hQ]; exact ⟨rfl, rfl, rfl, rfl, rfl⟩)

def f_X9_row_J20_45 (S : v_S) (F : v_F) (w0 : Nat) (I : v_I) (y1 : Int32) (y2 : Int32) (y3 : Int32) : Option ((Int32 × Int32 × Int32 × v_I) ⊕ (Int32 × Int32 × Int32 × v_I)) :=
p_let (y3 + (3 : Int32)) fun x_10 =>
some (.inl (y1, y2, x_10, I))
def f_X9_row_B20 (S : v_S) (F : v_F) (w0 : Nat) (s20 : Int32 × Int32 × Int32 × v_I) : Option ((Int32 × Int32 × Int32 × v_I) ⊕ (Int32 × Int32 × Int32 × v_I)) :=
(p_ob S 9 w0).bind fun _ =>
if (s20.2.2.2 w0 8) ≤ s20.2.2.1 then (
some (.inr (s20.1, s20.2.1, s20.2.2.1, s20.2.2.2)))
else (
(f_X9_addFromTape S s20.2.2.2 F w0 s20.2.2.1).bind fun r_5 =>
if r_5.1 = (0 : Int32) then (
p_let (s20.2.1 + (1 : Int32)) fun x_8 =>
f_X9_row_J20_45 S F w0 r_5.2 s20.1 x_8 s20.2.2.1)
else (
p_let (s20.1 + (1 : Int32)) fun x_12 =>
f_X9_row_J20_45 S F w0 r_5.2 x_12 s20.2.1 s20.2.2.1))
def f_X9_row (S : v_S) (I : v_I) (F : v_F) (p0 : Nat) : Option (Int32 × v_I) :=
(p_ob S 9 p0).bind fun _ =>
if (I p0 8) = (0 : Int32) then (
(f_X9_refuse S I F p0 (-6 : Int32)).bind fun r_27 =>
some (r_27.1, r_27.2))
else (
(v_loop (f_X9_row_B20 S F p0) FU ((0 : Int32), (0 : Int32), (0 : Int32), I)).bind fun q_14 =>
p_let (v_up q_14.2.2.2 p0 8 (0 : Int32)) fun I_16 =>
p_let (v_up I_16 p0 15 q_14.2.1) fun I_18 =>
(F p0 2).bind fun a_20 =>
(p_ob S 4 a_20).bind fun _ =>
(f_X4_clear S I_18 a_20).bind fun r_22 =>
(f_X9_accept S r_22 p0 q_14.1).bind fun r_25 =>
some (r_25.1, r_25.2))
set_option maxHeartbeats 4000000 in
set_option maxRecDepth 100000 in
theorem t_X9_row {p0 : Nat} {r : Int32 × v_I} (h : f_X9_row S I F p0 = some r) : v_R l B D ac (v_EE B wa wb wt sb sL sx) yX9_row cX9_row 4 (some .int) 5 0 0 [.ref (B + p0)] S I J F (v_D (some (.int r.1)) S r.2 J F) := by
  refine v_R.of (by decide) (Nat.le_of_ble_eq_true rfl) fun d hd => ?_
  generalize hQ : v_D (some (.int r.1)) S r.2 J F = Q
  have b20 : ∀ (w0 : Nat) (s20 : Int32 × Int32 × Int32 × v_I) (rx20 : (Int32 × Int32 × Int32 × v_I) ⊕ (Int32 × Int32 × Int32 × v_I)), f_X9_row_B20 S F w0 s20 = some rx20 → v_K (fun (sP : Int32 × Int32 × Int32 × v_I) => V l B D ac (v_EE B wa wb wt sb sL sx) yX9_row cX9_row 4 (some .int) d 0 0 0 0 S sP.2.2.2 J F 20 [(0, .ref (B + w0)), (1, .int sP.1), (2, .int sP.2.1), (3, .int sP.2.2.1)] [] Q) (fun (rE : Int32 × Int32 × Int32 × v_I) => V l B D ac (v_EE B wa wb wt sb sL sx) yX9_row cX9_row 4 (some .int) d 0 0 0 0 S rE.2.2.2 J F 51 [(0, .ref (B + w0)), (1, .int rE.1), (2, .int rE.2.1)] [] Q) rx20 → V l B D ac (v_EE B wa wb wt sb sL sx) yX9_row cX9_row 4 (some .int) d 0 0 0 0 S s20.2.2.2 J F 20 [(0, .ref (B + w0)), (1, .int s20.1), (2, .int s20.2.1), (3, .int s20.2.2.1)] [] Q := by
    intro w0 s20 rx20 h hk
    have j45 : ∀ (I : v_I) (y1 : Int32) (y2 : Int32) (y3 : Int32), f_X9_row_J20_45 S F w0 I y1 y2 y3 = some rx20 → V l B D ac (v_EE B wa wb wt sb sL sx) yX9_row cX9_row 4 (some .int) d 0 0 0 0 S I J F 45 [(0, .ref (B + w0)), (1, .int y1), (2, .int y2), (3, .int y3)] [] Q := by
      intro I y1 y2 y3 h
      unfold f_X9_row_J20_45 at h
      replace h := p_let_elim h
      obtain ⟨x_10, h_11, h⟩ := h
      refine v_iincE (3 : Int32) dX9_row_45 (by decide) rfl (by decide) ?_
      rw [← h_11]
      refine v_sub [(0, .ref (B + w0)), (1, .int y1), (2, .int y2), (3, .int x_10)] ⟨rfl, rfl, rfl, rfl, trivial⟩ ?_
      refine v_goto 20 dX9_row_48 (by decide) ?_
      cases h
      refine v_sub [(0, .ref (B + w0)), (1, .int y1), (2, .int y2), (3, .int x_10)] ⟨rfl, rfl, rfl, rfl, trivial⟩ ?_
      exact hk
    unfold f_X9_row_B20 at h
    refine v_iload_n dX9_row_20 rfl ?_
    refine v_aload_n dX9_row_21 rfl ?_
    replace h := p_bind_elim h
    obtain ⟨_, q_3, h⟩ := h
    have q_3 := p_ob_spec q_3
    refine v_getI rfl fl_X9_56 dX9_row_22 q_3 ?_
    refine v_icmp_ge 51 dX9_row_25 (by decide) (fun c_4 => ?_) (fun c_4 => ?_)
    · rw [if_pos c_4] at h
      cases h
      refine v_sub [(0, .ref (B + w0)), (1, .int s20.1), (2, .int s20.2.1)] ⟨rfl, rfl, rfl, trivial⟩ ?_
      exact hk
    · rw [if_neg c_4] at h
      refine v_aload_n dX9_row_28 rfl ?_
      refine v_iload_n dX9_row_29 rfl ?_
      replace h := p_bind_elim h
      obtain ⟨r_5, q_6, h⟩ := h
      refine v_cVr (t_X9_addFromTape q_6) cal_X9_addFromTape ml_X9_160 sel_X9_addFromTape q_3 kk_9 dX9_row_30 (by omega) (by decide) (by decide) (Nat.le_of_ble_eq_true rfl) rfl ?_
      refine v_if_eq 42 dX9_row_33 (by decide) (fun c_7 => ?_) (fun c_7 => ?_)
      · rw [if_pos c_7] at h
        replace h := p_let_elim h
        obtain ⟨x_8, h_9, h⟩ := h
        refine v_iincE (1 : Int32) dX9_row_42 (by decide) rfl (by decide) ?_
        rw [← h_9]
        refine v_sub [(0, .ref (B + w0)), (1, .int s20.1), (2, .int x_8), (3, .int s20.2.2.1)] ⟨rfl, rfl, rfl, rfl, trivial⟩ ?_
        refine v_sub [(0, .ref (B + w0)), (1, .int s20.1), (2, .int x_8), (3, .int s20.2.2.1)] ⟨rfl, rfl, rfl, rfl, trivial⟩ ?_
        exact j45 _ _ _ _ h
      · rw [if_neg c_7] at h
        replace h := p_let_elim h
        obtain ⟨x_12, h_13, h⟩ := h
        refine v_iincE (1 : Int32) dX9_row_36 (by decide) rfl (by decide) ?_
        rw [← h_13]
        refine v_sub [(0, .ref (B + w0)), (1, .int x_12), (2, .int s20.2.1), (3, .int s20.2.2.1)] ⟨rfl, rfl, rfl, rfl, trivial⟩ ?_
        refine v_goto 45 dX9_row_39 (by decide) ?_
        refine v_sub [(0, .ref (B + w0)), (1, .int x_12), (2, .int s20.2.1), (3, .int s20.2.2.1)] ⟨rfl, rfl, rfl, rfl, trivial⟩ ?_
        exact j45 _ _ _ _ h
  unfold f_X9_row at h
  refine v_sub [(0, .ref (B + p0))] ⟨rfl, trivial⟩ ?_
  refine v_aload_n dX9_row_0 rfl ?_
  replace h := p_bind_elim h
  obtain ⟨_, q_1, h⟩ := h
  have q_1 := p_ob_spec q_1
  refine v_getI rfl fl_X9_56 dX9_row_1 q_1 ?_
  refine v_if_ne 14 dX9_row_4 (by decide) (fun c_2 => ?_) (fun c_2 => ?_)
  · rw [if_neg c_2] at h
    refine v_iconstE (0 : Int32) dX9_row_14 (by decide) ?_
    refine v_istore_n dX9_row_15 (by decide) ?_
    refine v_sub [(0, .ref (B + p0)), (1, .int (0 : Int32))] ⟨rfl, rfl, trivial⟩ ?_
    refine v_iconstE (0 : Int32) dX9_row_16 (by decide) ?_
    refine v_istore_n dX9_row_17 (by decide) ?_
    refine v_sub [(0, .ref (B + p0)), (1, .int (0 : Int32)), (2, .int (0 : Int32))] ⟨rfl, rfl, rfl, trivial⟩ ?_
    refine v_iconstE (0 : Int32) dX9_row_18 (by decide) ?_
    refine v_istore_n dX9_row_19 (by decide) ?_
    refine v_sub [(0, .ref (B + p0)), (1, .int (0 : Int32)), (2, .int (0 : Int32)), (3, .int (0 : Int32))] ⟨rfl, rfl, rfl, rfl, trivial⟩ ?_
    replace h := p_bind_elim h
    obtain ⟨q_14, h_15, h⟩ := h
    refine v_sub [(0, .ref (B + p0)), (1, .int (0 : Int32)), (2, .int (0 : Int32)), (3, .int (0 : Int32))] ⟨rfl, rfl, rfl, rfl, trivial⟩ ?_
    refine v_loopV (fun (sP : Int32 × Int32 × Int32 × v_I) => V l B D ac (v_EE B wa wb wt sb sL sx) yX9_row cX9_row 4 (some .int) d 0 0 0 0 S sP.2.2.2 J F 20 [(0, .ref (B + p0)), (1, .int sP.1), (2, .int sP.2.1), (3, .int sP.2.2.1)] [] Q) (fun (rE : Int32 × Int32 × Int32 × v_I) => V l B D ac (v_EE B wa wb wt sb sL sx) yX9_row cX9_row 4 (some .int) d 0 0 0 0 S rE.2.2.2 J F 51 [(0, .ref (B + p0)), (1, .int rE.1), (2, .int rE.2.1)] [] Q) (fun s_ x_ hb hk => b20 _ s_ x_ hb hk) (r := q_14) ?_ h_15
    try dsimp only
    refine v_aload_n dX9_row_51 rfl ?_
    refine v_iconstE (0 : Int32) dX9_row_52 (by decide) ?_
    refine v_putI rfl fl_X9_56 dX9_row_53 q_1 rfl rfl ?_
    replace h := p_let_elim h
    obtain ⟨I_16, h_17, h⟩ := h
    rw [← h_17]
    refine v_aload_n dX9_row_56 rfl ?_
    refine v_iload_n dX9_row_57 rfl ?_
    refine v_putI rfl fl_X9_86 dX9_row_58 q_1 rfl rfl ?_
    replace h := p_let_elim h
    obtain ⟨I_18, h_19, h⟩ := h
    rw [← h_19]
    refine v_aload_n dX9_row_61 rfl ?_
    replace h := p_bind_elim h
    obtain ⟨a_20, q_21, h⟩ := h
    refine v_getR q_21 rfl fl_X9_23 dX9_row_62 q_1 ?_
    replace h := p_bind_elim h
    obtain ⟨_, q_24, h⟩ := h
    have q_24 := p_ob_spec q_24
    replace h := p_bind_elim h
    obtain ⟨r_22, q_23, h⟩ := h
    refine v_cVn (t_X4_clear q_23) cal_X4_clear ml_X9_106 sel_X4_clear q_24 kk_4 dX9_row_65 (by omega) (by decide) (by decide) (Nat.le_of_ble_eq_true rfl) rfl ?_
    refine v_aload_n dX9_row_68 rfl ?_
    refine v_iload_n dX9_row_69 rfl ?_
    replace h := p_bind_elim h
    obtain ⟨r_25, q_26, h⟩ := h
    refine v_cVr (t_X9_accept q_26) cal_X9_accept ml_X9_113 sel_X9_accept q_1 kk_9 dX9_row_70 (by omega) (by decide) (by decide) (Nat.le_of_ble_eq_true rfl) rfl ?_
    cases h
    exact v_iret dX9_row_73 rfl (by decide) (by decide) (by rw [← hQ]; exact ⟨rfl, rfl, rfl, rfl, rfl⟩)
  · rw [if_pos c_2] at h
    refine v_aload_n dX9_row_7 rfl ?_
    refine v_bipush (-6 : Int32) dX9_row_8 (by decide) ?_
    replace h := p_bind_elim h
    obtain ⟨r_27, q_28, h⟩ := h
    refine v_cVr (t_X9_refuse q_28) cal_X9_refuse ml_X9_99 sel_X9_refuse q_1 kk_9 dX9_row_10 (by omega) (by decide) (by decide) (Nat.le_of_ble_eq_true rfl) rfl ?_
    cases h
    exact v_iret dX9_row_13 rfl (by decide) (by decide) (by rw [← hQ]; exact ⟨rfl, rfl, rfl, rfl, rfl⟩)

def f_X9_burrs (S : v_S) (I : v_I) (p0 : Nat) : Option (Int32) :=
(p_ob S 9 p0).bind fun _ =>
some (I p0 15)
set_option maxHeartbeats 4000000 in
set_option maxRecDepth 100000 in
theorem t_X9_burrs {p0 : Nat} {r : Int32} (h : f_X9_burrs S I p0 = some r) : v_R l B D ac (v_EE B wa wb wt sb sL sx) yX9_burrs cX9_burrs 1 (some .int) 1 0 0 [.ref (B + p0)] S I J F (v_D (some (.int r)) S I J F) := by
  refine v_R.of (by decide) (Nat.le_of_ble_eq_true rfl) fun d hd => ?_
  generalize hQ : v_D (some (.int r)) S I J F = Q
  unfold f_X9_burrs at h
  refine v_sub [(0, .ref (B + p0))] ⟨rfl, trivial⟩ ?_
  refine v_aload_n dX9_burrs_0 rfl ?_
  replace h := p_bind_elim h
  obtain ⟨_, q_1, h⟩ := h
  have q_1 := p_ob_spec q_1
  refine v_getI rfl fl_X9_86 dX9_burrs_1 q_1 ?_
  cases h
  exact v_iret dX9_burrs_4 rfl (by decide) (by decide) (by rw [← hQ]; exact ⟨rfl, rfl, rfl, rfl, rfl⟩)

def f_X0_addLaw (S : v_S) (I : v_I) (F : v_F) (p0 : Nat) (p1 : Nat) : Option (Int32 × v_I × v_F) :=
(p_ob S 0 p0).bind fun _ =>
p_let (I p0 10) fun x_2 =>
if x_2 < (6 : Int32) then (
(F p0 11).bind fun a_5 =>
(p_ix S 24 a_5 x_2).bind fun j_7 =>
(p_oq S 8 (some p1)).bind fun _ =>
p_let (v_up F a_5 j_7 (some p1)) fun F_10 =>
p_let (v_up I p0 10 ((I p0 10) + (1 : Int32))) fun I_12 =>
some (x_2, I_12, F_10))
else (
some ((-1 : Int32), I, F))
set_option maxHeartbeats 4000000 in
set_option maxRecDepth 100000 in
theorem t_X0_addLaw {p0 : Nat} {p1 : Nat} {r : Int32 × v_I × v_F} (h : f_X0_addLaw S I F p0 p1 = some r) : v_R l B D ac (v_EE B wa wb wt sb sL sx) yX0_addLaw cX0_addLaw 3 (some .int) 1 0 0 [.ref (B + p0), .ref (B + p1)] S I J F (v_D (some (.int r.1)) S r.2.1 J r.2.2) := by
  refine v_R.of (by decide) (Nat.le_of_ble_eq_true rfl) fun d hd => ?_
  generalize hQ : v_D (some (.int r.1)) S r.2.1 J r.2.2 = Q
  unfold f_X0_addLaw at h
  refine v_sub [(0, .ref (B + p0)), (1, .ref (B + p1))] ⟨rfl, rfl, trivial⟩ ?_
  refine v_aload_n dX0_addLaw_0 rfl ?_
  replace h := p_bind_elim h
  obtain ⟨_, q_1, h⟩ := h
  have q_1 := p_ob_spec q_1
  refine v_getI rfl fl_X0_47 dX0_addLaw_1 q_1 ?_
  replace h := p_let_elim h
  obtain ⟨x_2, h_3, h⟩ := h
  rw [← h_3]
  refine v_istore_n dX0_addLaw_4 (by decide) ?_
  refine v_sub [(0, .ref (B + p0)), (1, .ref (B + p1)), (2, .int x_2)] ⟨rfl, rfl, rfl, trivial⟩ ?_
  refine v_iload_n dX0_addLaw_5 rfl ?_
  refine v_bipush (6 : Int32) dX0_addLaw_6 (by decide) ?_
  refine v_icmp_lt 13 dX0_addLaw_8 (by decide) (fun c_4 => ?_) (fun c_4 => ?_)
  · rw [if_pos c_4] at h
    refine v_aload_n dX0_addLaw_13 rfl ?_
    replace h := p_bind_elim h
    obtain ⟨a_5, q_6, h⟩ := h
    refine v_getR q_6 rfl fl_X0_52 dX0_addLaw_14 q_1 ?_
    refine v_iload_n dX0_addLaw_17 rfl ?_
    refine v_aload_n dX0_addLaw_18 rfl ?_
    replace h := p_bind_elim h
    obtain ⟨j_7, q_8, h⟩ := h
    replace h := p_bind_elim h
    obtain ⟨_, q_9, h⟩ := h
    refine v_aastP4 (e := (some p1)) dX0_addLaw_19 q_8 q_9 ?_
    replace h := p_let_elim h
    obtain ⟨F_10, h_11, h⟩ := h
    rw [← h_11]
    refine v_aload_n dX0_addLaw_20 rfl ?_
    refine v_dup dX0_addLaw_21 rfl ?_
    refine v_getI rfl fl_X0_47 dX0_addLaw_22 q_1 ?_
    refine v_iconstE (1 : Int32) dX0_addLaw_25 (by decide) ?_
    refine v_iadd dX0_addLaw_26 ?_
    refine v_putI rfl fl_X0_47 dX0_addLaw_27 q_1 rfl rfl ?_
    replace h := p_let_elim h
    obtain ⟨I_12, h_13, h⟩ := h
    rw [← h_13]
    refine v_iload_n dX0_addLaw_30 rfl ?_
    cases h
    exact v_iret dX0_addLaw_31 rfl (by decide) (by decide) (by rw [← hQ]; exact ⟨rfl, rfl, rfl, rfl, rfl⟩)
  · rw [if_neg c_4] at h
    refine v_iconstE (-1 : Int32) dX0_addLaw_11 (by decide) ?_
    cases h
    exact v_iret dX0_addLaw_12 rfl (by decide) (by decide) (by rw [← hQ]; exact ⟨rfl, rfl, rfl, rfl, rfl⟩)

def f_X6_faultHere (S : v_S) (I : v_I) (F : v_F) (p0 : Nat) : Option (Int32 × v_I) :=
(p_ob S 6 p0).bind fun _ =>
(F p0 2).bind fun a_2 =>
(p_ix S 20 a_2 (I p0 4)).bind fun j_4 =>
p_let (v_up I p0 9 (I a_2 j_4)) fun I_6 =>
some ((0 : Int32), I_6)
set_option maxHeartbeats 4000000 in
set_option maxRecDepth 100000 in
theorem t_X6_faultHere {p0 : Nat} {r : Int32 × v_I} (h : f_X6_faultHere S I F p0 = some r) : v_R l B D ac (v_EE B wa wb wt sb sL sx) yX6_faultHere cX6_faultHere 1 (some .boolean) 1 0 0 [.ref (B + p0)] S I J F (v_D (some (.int r.1)) S r.2 J F) := by
  refine v_R.of (by decide) (Nat.le_of_ble_eq_true rfl) fun d hd => ?_
  generalize hQ : v_D (some (.int r.1)) S r.2 J F = Q
  unfold f_X6_faultHere at h
  refine v_sub [(0, .ref (B + p0))] ⟨rfl, trivial⟩ ?_
  refine v_aload_n dX6_faultHere_0 rfl ?_
  refine v_aload_n dX6_faultHere_1 rfl ?_
  replace h := p_bind_elim h
  obtain ⟨_, q_1, h⟩ := h
  have q_1 := p_ob_spec q_1
  replace h := p_bind_elim h
  obtain ⟨a_2, q_3, h⟩ := h
  refine v_getR q_3 rfl fl_X6_24 dX6_faultHere_2 q_1 ?_
  refine v_aload_n dX6_faultHere_5 rfl ?_
  refine v_getI rfl fl_X6_31 dX6_faultHere_6 q_1 ?_
  replace h := p_bind_elim h
  obtain ⟨j_4, q_5, h⟩ := h
  refine v_ialdP dX6_faultHere_9 q_5 ?_
  refine v_putI rfl fl_X6_47 dX6_faultHere_10 q_1 rfl rfl ?_
  replace h := p_let_elim h
  obtain ⟨I_6, h_7, h⟩ := h
  rw [← h_7]
  refine v_iconstE (0 : Int32) dX6_faultHere_13 (by decide) ?_
  cases h
  exact v_zret dX6_faultHere_14 rfl rfl (by decide) (by decide) (by rw [← hQ]; exact ⟨rfl, rfl, rfl, rfl, rfl⟩)

def f_X6_nextToken_J21 (S : v_S) (F : v_F) (I : v_I) (y0 : Nat) : Option (v_I) :=
(p_ob S 6 y0).bind fun _ =>
(F y0 1).bind fun a_4 =>
(p_ix S 20 a_4 (I y0 4)).bind fun j_6 =>
p_let (v_up I y0 5 (I a_4 j_6)) fun I_8 =>
some (I_8)
def f_X6_nextToken (S : v_S) (I : v_I) (F : v_F) (p0 : Nat) : Option (v_I) :=
(p_ob S 6 p0).bind fun _ =>
if (I p0 3) ≤ (I p0 4) then (
f_X6_nextToken_J21 S F I p0)
else (
p_let (v_up I p0 4 ((I p0 4) + (1 : Int32))) fun I_10 =>
f_X6_nextToken_J21 S F I_10 p0)
set_option maxHeartbeats 4000000 in
set_option maxRecDepth 100000 in
theorem t_X6_nextToken {p0 : Nat} {r : v_I} (h : f_X6_nextToken S I F p0 = some r) : v_R l B D ac (v_EE B wa wb wt sb sL sx) yX6_nextToken cX6_nextToken 1 none 1 0 0 [.ref (B + p0)] S I J F (v_D none S r J F) := by
  refine v_R.of (by decide) (Nat.le_of_ble_eq_true rfl) fun d hd => ?_
  generalize hQ : v_D none S r J F = Q
  have j21 : ∀ (I : v_I) (y0 : Nat), f_X6_nextToken_J21 S F I y0 = some r → V l B D ac (v_EE B wa wb wt sb sL sx) yX6_nextToken cX6_nextToken 1 none d 0 0 0 0 S I J F 21 [(0, .ref (B + y0))] [] Q := by
    intro I y0 h
    unfold f_X6_nextToken_J21 at h
    refine v_aload_n dX6_nextToken_21 rfl ?_
    refine v_aload_n dX6_nextToken_22 rfl ?_
    replace h := p_bind_elim h
    obtain ⟨_, q_3, h⟩ := h
    have q_3 := p_ob_spec q_3
    replace h := p_bind_elim h
    obtain ⟨a_4, q_5, h⟩ := h
    refine v_getR q_5 rfl fl_X6_20 dX6_nextToken_23 q_3 ?_
    refine v_aload_n dX6_nextToken_26 rfl ?_
    refine v_getI rfl fl_X6_31 dX6_nextToken_27 q_3 ?_
    replace h := p_bind_elim h
    obtain ⟨j_6, q_7, h⟩ := h
    refine v_ialdP dX6_nextToken_30 q_7 ?_
    refine v_putI rfl fl_X6_34 dX6_nextToken_31 q_3 rfl rfl ?_
    replace h := p_let_elim h
    obtain ⟨I_8, h_9, h⟩ := h
    rw [← h_9]
    cases h
    exact v_vret dX6_nextToken_34 rfl (by decide) (by decide) (by rw [← hQ]; exact ⟨rfl, rfl, rfl, rfl, rfl⟩)
  unfold f_X6_nextToken at h
  refine v_sub [(0, .ref (B + p0))] ⟨rfl, trivial⟩ ?_
  refine v_aload_n dX6_nextToken_0 rfl ?_
  replace h := p_bind_elim h
  obtain ⟨_, q_1, h⟩ := h
  have q_1 := p_ob_spec q_1
  refine v_getI rfl fl_X6_31 dX6_nextToken_1 q_1 ?_
  refine v_aload_n dX6_nextToken_4 rfl ?_
  refine v_getI rfl fl_X6_27 dX6_nextToken_5 q_1 ?_
  refine v_icmp_ge 21 dX6_nextToken_8 (by decide) (fun c_2 => ?_) (fun c_2 => ?_)
  · rw [if_pos c_2] at h
    refine v_sub [(0, .ref (B + p0))] ⟨rfl, trivial⟩ ?_
    exact j21 _ _ h
  · rw [if_neg c_2] at h
    refine v_aload_n dX6_nextToken_11 rfl ?_
    refine v_dup dX6_nextToken_12 rfl ?_
    refine v_getI rfl fl_X6_31 dX6_nextToken_13 q_1 ?_
    refine v_iconstE (1 : Int32) dX6_nextToken_16 (by decide) ?_
    refine v_iadd dX6_nextToken_17 ?_
    refine v_putI rfl fl_X6_31 dX6_nextToken_18 q_1 rfl rfl ?_
    replace h := p_let_elim h
    obtain ⟨I_10, h_11, h⟩ := h
    rw [← h_11]
    refine v_sub [(0, .ref (B + p0))] ⟨rfl, trivial⟩ ?_
    exact j21 _ _ h

def f_X6_firstOf (p0 : Int32) : Option (Int32) :=
if p0 = (1 : Int32) then (
some ((12 : Int32)))
else if p0 = (5 : Int32) then (
some ((20 : Int32)))
else if p0 = (11 : Int32) then (
some ((28 : Int32)))
else (
some ((-1 : Int32)))
set_option maxHeartbeats 4000000 in
set_option maxRecDepth 100000 in
theorem t_X6_firstOf {p0 : Int32} {r : Int32} (h : f_X6_firstOf p0 = some r) : v_R l B D ac (v_EE B wa wb wt sb sL sx) yX6_firstOf cX6_firstOf 1 (some .int) 1 0 0 [.int p0] S I J F (v_D (some (.int r)) S I J F) := by
  refine v_R.of (by decide) (Nat.le_of_ble_eq_true rfl) fun d hd => ?_
  generalize hQ : v_D (some (.int r)) S I J F = Q
  unfold f_X6_firstOf at h
  refine v_sub [(0, .int p0)] ⟨rfl, trivial⟩ ?_
  refine v_iload_n dX6_firstOf_0 rfl ?_
  by_cases c_1 : p0 = (1 : Int32)
  · rw [if_pos c_1] at h
    refine v_lkIn 36 (1 : Int32) c_1 dX6_firstOf_1 (by decide) rfl (by decide) ?_
    refine v_bipush (12 : Int32) dX6_firstOf_36 (by decide) ?_
    cases h
    exact v_iret dX6_firstOf_38 rfl (by decide) (by decide) (by rw [← hQ]; exact ⟨rfl, rfl, rfl, rfl, rfl⟩)
  · rw [if_neg c_1] at h
    by_cases c_2 : p0 = (5 : Int32)
    · rw [if_pos c_2] at h
      refine v_lkIn 39 (5 : Int32) c_2 dX6_firstOf_1 (by decide) rfl (by decide) ?_
      refine v_bipush (20 : Int32) dX6_firstOf_39 (by decide) ?_
      cases h
      exact v_iret dX6_firstOf_41 rfl (by decide) (by decide) (by rw [← hQ]; exact ⟨rfl, rfl, rfl, rfl, rfl⟩)
    · rw [if_neg c_2] at h
      by_cases c_3 : p0 = (11 : Int32)
      · rw [if_pos c_3] at h
        refine v_lkIn 42 (11 : Int32) c_3 dX6_firstOf_1 (by decide) rfl (by decide) ?_
        refine v_bipush (28 : Int32) dX6_firstOf_42 (by decide) ?_
        cases h
        exact v_iret dX6_firstOf_44 rfl (by decide) (by decide) (by rw [← hQ]; exact ⟨rfl, rfl, rfl, rfl, rfl⟩)
      · rw [if_neg c_3] at h
        refine v_lookup (off := 44) 45 dX6_firstOf_1 (by decide) (by rw [lv_osw c_1 (by decide)]; rw [lv_osw c_2 (by decide)]; rw [lv_osw c_3 (by decide)]; rfl) (by decide) ?_
        refine v_iconstE (-1 : Int32) dX6_firstOf_45 (by decide) ?_
        cases h
        exact v_iret dX6_firstOf_46 rfl (by decide) (by decide) (by rw [← hQ]; exact ⟨rfl, rfl, rfl, rfl, rfl⟩)

def f_X6_isOrderWord (p0 : Int32) : Option (Int32) :=
if p0 = (6 : Int32) then (
some ((1 : Int32)))
else (
if p0 = (9 : Int32) then (
some ((1 : Int32)))
else (
if p0 = (10 : Int32) then (
some ((1 : Int32)))
else (
if p0 = (4 : Int32) then (
some ((1 : Int32)))
else (
(f_X6_firstOf p0).bind fun r_5 =>
if r_5 = (-1 : Int32) then (
some ((0 : Int32)))
else (
some ((1 : Int32)))))))
set_option maxHeartbeats 4000000 in
set_option maxRecDepth 100000 in
theorem t_X6_isOrderWord {p0 : Int32} {r : Int32} (h : f_X6_isOrderWord p0 = some r) : v_R l B D ac (v_EE B wa wb wt sb sL sx) yX6_isOrderWord cX6_isOrderWord 1 (some .boolean) 2 0 0 [.int p0] S I J F (v_D (some (.int r)) S I J F) := by
  refine v_R.of (by decide) (Nat.le_of_ble_eq_true rfl) fun d hd => ?_
  generalize hQ : v_D (some (.int r)) S I J F = Q
  unfold f_X6_isOrderWord at h
  refine v_sub [(0, .int p0)] ⟨rfl, trivial⟩ ?_
  refine v_iload_n dX6_isOrderWord_0 rfl ?_
  refine v_bipush (6 : Int32) dX6_isOrderWord_1 (by decide) ?_
  refine v_icmp_eq 31 dX6_isOrderWord_3 (by decide) (fun c_1 => ?_) (fun c_1 => ?_)
  · rw [if_pos c_1] at h
    refine v_iconstE (1 : Int32) dX6_isOrderWord_31 (by decide) ?_
    refine v_goto 36 dX6_isOrderWord_32 (by decide) ?_
    cases h
    exact v_zret dX6_isOrderWord_36 rfl rfl (by decide) (by decide) (by rw [← hQ]; exact ⟨rfl, rfl, rfl, rfl, rfl⟩)
  · rw [if_neg c_1] at h
    refine v_iload_n dX6_isOrderWord_6 rfl ?_
    refine v_bipush (9 : Int32) dX6_isOrderWord_7 (by decide) ?_
    refine v_icmp_eq 31 dX6_isOrderWord_9 (by decide) (fun c_2 => ?_) (fun c_2 => ?_)
    · rw [if_pos c_2] at h
      refine v_iconstE (1 : Int32) dX6_isOrderWord_31 (by decide) ?_
      refine v_goto 36 dX6_isOrderWord_32 (by decide) ?_
      cases h
      exact v_zret dX6_isOrderWord_36 rfl rfl (by decide) (by decide) (by rw [← hQ]; exact ⟨rfl, rfl, rfl, rfl, rfl⟩)
    · rw [if_neg c_2] at h
      refine v_iload_n dX6_isOrderWord_12 rfl ?_
      refine v_bipush (10 : Int32) dX6_isOrderWord_13 (by decide) ?_
      refine v_icmp_eq 31 dX6_isOrderWord_15 (by decide) (fun c_3 => ?_) (fun c_3 => ?_)
      · rw [if_pos c_3] at h
        refine v_iconstE (1 : Int32) dX6_isOrderWord_31 (by decide) ?_
        refine v_goto 36 dX6_isOrderWord_32 (by decide) ?_
        cases h
        exact v_zret dX6_isOrderWord_36 rfl rfl (by decide) (by decide) (by rw [← hQ]; exact ⟨rfl, rfl, rfl, rfl, rfl⟩)
      · rw [if_neg c_3] at h
        refine v_iload_n dX6_isOrderWord_18 rfl ?_
        refine v_iconstE (4 : Int32) dX6_isOrderWord_19 (by decide) ?_
        refine v_icmp_eq 31 dX6_isOrderWord_20 (by decide) (fun c_4 => ?_) (fun c_4 => ?_)
        · rw [if_pos c_4] at h
          refine v_iconstE (1 : Int32) dX6_isOrderWord_31 (by decide) ?_
          refine v_goto 36 dX6_isOrderWord_32 (by decide) ?_
          cases h
          exact v_zret dX6_isOrderWord_36 rfl rfl (by decide) (by decide) (by rw [← hQ]; exact ⟨rfl, rfl, rfl, rfl, rfl⟩)
        · rw [if_neg c_4] at h
          refine v_iload_n dX6_isOrderWord_23 rfl ?_
          replace h := p_bind_elim h
          obtain ⟨r_5, q_6, h⟩ := h
          refine v_cSr (t_X6_firstOf q_6) cal_X6_firstOf ml_X6_179 sta_X6_firstOf dX6_isOrderWord_24 (by omega) (by decide) (by decide) (Nat.le_of_ble_eq_true rfl) rfl ?_
          refine v_iconstE (-1 : Int32) dX6_isOrderWord_27 (by decide) ?_
          refine v_icmp_eq 35 dX6_isOrderWord_28 (by decide) (fun c_7 => ?_) (fun c_7 => ?_)
          · rw [if_pos c_7] at h
            refine v_iconstE (0 : Int32) dX6_isOrderWord_35 (by decide) ?_
            cases h
            exact v_zret dX6_isOrderWord_36 rfl rfl (by decide) (by decide) (by rw [← hQ]; exact ⟨rfl, rfl, rfl, rfl, rfl⟩)
          · rw [if_neg c_7] at h
            refine v_iconstE (1 : Int32) dX6_isOrderWord_31 (by decide) ?_
            refine v_goto 36 dX6_isOrderWord_32 (by decide) ?_
            cases h
            exact v_zret dX6_isOrderWord_36 rfl rfl (by decide) (by decide) (by rw [← hQ]; exact ⟨rfl, rfl, rfl, rfl, rfl⟩)

def f_X6_numberAtHand (S : v_S) (I : v_I) (p0 : Nat) (p1 : Int32) : Option (Int32) :=
(p_ob S 6 p0).bind fun _ =>
if (I p0 5) < (1024 : Int32) then (
some ((-1 : Int32)))
else (
if ((1024 : Int32) + p1) < (I p0 5) then (
some ((-1 : Int32)))
else (
some ((I p0 5) - (1024 : Int32))))
set_option maxHeartbeats 4000000 in
set_option maxRecDepth 100000 in
theorem t_X6_numberAtHand {p0 : Nat} {p1 : Int32} {r : Int32} (h : f_X6_numberAtHand S I p0 p1 = some r) : v_R l B D ac (v_EE B wa wb wt sb sL sx) yX6_numberAtHand cX6_numberAtHand 2 (some .int) 1 0 0 [.ref (B + p0), .int p1] S I J F (v_D (some (.int r)) S I J F) := by
  refine v_R.of (by decide) (Nat.le_of_ble_eq_true rfl) fun d hd => ?_
  generalize hQ : v_D (some (.int r)) S I J F = Q
  unfold f_X6_numberAtHand at h
  refine v_sub [(0, .ref (B + p0)), (1, .int p1)] ⟨rfl, rfl, trivial⟩ ?_
  refine v_aload_n dX6_numberAtHand_0 rfl ?_
  replace h := p_bind_elim h
  obtain ⟨_, q_1, h⟩ := h
  have q_1 := p_ob_spec q_1
  refine v_getI rfl fl_X6_34 dX6_numberAtHand_1 q_1 ?_
  refine v_sipush (1024 : Int32) dX6_numberAtHand_4 (by decide) ?_
  refine v_icmp_lt 33 dX6_numberAtHand_7 (by decide) (fun c_2 => ?_) (fun c_2 => ?_)
  · rw [if_pos c_2] at h
    refine v_iconstE (-1 : Int32) dX6_numberAtHand_33 (by decide) ?_
    cases h
    exact v_iret dX6_numberAtHand_34 rfl (by decide) (by decide) (by rw [← hQ]; exact ⟨rfl, rfl, rfl, rfl, rfl⟩)
  · rw [if_neg c_2] at h
    refine v_aload_n dX6_numberAtHand_10 rfl ?_
    refine v_getI rfl fl_X6_34 dX6_numberAtHand_11 q_1 ?_
    refine v_sipush (1024 : Int32) dX6_numberAtHand_14 (by decide) ?_
    refine v_iload_n dX6_numberAtHand_17 rfl ?_
    refine v_iadd dX6_numberAtHand_18 ?_
    refine v_icmp_gt 33 dX6_numberAtHand_19 (by decide) (fun c_3 => ?_) (fun c_3 => ?_)
    · rw [if_pos c_3] at h
      refine v_iconstE (-1 : Int32) dX6_numberAtHand_33 (by decide) ?_
      cases h
      exact v_iret dX6_numberAtHand_34 rfl (by decide) (by decide) (by rw [← hQ]; exact ⟨rfl, rfl, rfl, rfl, rfl⟩)
    · rw [if_neg c_3] at h
      refine v_aload_n dX6_numberAtHand_22 rfl ?_
      refine v_getI rfl fl_X6_34 dX6_numberAtHand_23 q_1 ?_
      refine v_sipush (1024 : Int32) dX6_numberAtHand_26 (by decide) ?_
      refine v_isub dX6_numberAtHand_29 ?_
      refine v_goto 34 dX6_numberAtHand_30 (by decide) ?_
      cases h
      exact v_iret dX6_numberAtHand_34 rfl (by decide) (by decide) (by rw [← hQ]; exact ⟨rfl, rfl, rfl, rfl, rfl⟩)

def f_X8_addStep (S : v_S) (I : v_I) (F : v_F) (p0 : Nat) (p1 : Int32) (p2 : Int32) : Option (Int32 × v_I) :=
(p_ob S 8 p0).bind fun _ =>
p_let (I p0 1) fun x_2 =>
(F p0 8).bind fun a_4 =>
(p_len S 20 a_4).bind fun x_6 =>
if x_6 ≤ x_2 then (
some (x_2, I))
else (
(F p0 8).bind fun a_9 =>
(p_ix S 20 a_9 x_2).bind fun j_11 =>
p_let (v_up I a_9 j_11 ((p2 <<< ((4 : Int32) &&& 31)) ||| p1)) fun I_13 =>
p_let (v_up I_13 p0 1 ((I_13 p0 1) + (1 : Int32))) fun I_15 =>
some (x_2, I_15))
set_option maxHeartbeats 4000000 in
set_option maxRecDepth 100000 in
theorem t_X8_addStep {p0 : Nat} {p1 : Int32} {p2 : Int32} {r : Int32 × v_I} (h : f_X8_addStep S I F p0 p1 p2 = some r) : v_R l B D ac (v_EE B wa wb wt sb sL sx) yX8_addStep cX8_addStep 4 (some .int) 1 0 0 [.ref (B + p0), .int p1, .int p2] S I J F (v_D (some (.int r.1)) S r.2 J F) := by
  refine v_R.of (by decide) (Nat.le_of_ble_eq_true rfl) fun d hd => ?_
  generalize hQ : v_D (some (.int r.1)) S r.2 J F = Q
  unfold f_X8_addStep at h
  refine v_sub [(0, .ref (B + p0)), (1, .int p1), (2, .int p2)] ⟨rfl, rfl, rfl, trivial⟩ ?_
  refine v_aload_n dX8_addStep_0 rfl ?_
  replace h := p_bind_elim h
  obtain ⟨_, q_1, h⟩ := h
  have q_1 := p_ob_spec q_1
  refine v_getI rfl fl_X8_15 dX8_addStep_1 q_1 ?_
  replace h := p_let_elim h
  obtain ⟨x_2, h_3, h⟩ := h
  rw [← h_3]
  refine v_istore_n dX8_addStep_4 (by decide) ?_
  refine v_sub [(0, .ref (B + p0)), (1, .int p1), (2, .int p2), (3, .int x_2)] ⟨rfl, rfl, rfl, rfl, trivial⟩ ?_
  refine v_iload_n dX8_addStep_5 rfl ?_
  refine v_aload_n dX8_addStep_6 rfl ?_
  replace h := p_bind_elim h
  obtain ⟨a_4, q_5, h⟩ := h
  refine v_getR q_5 rfl fl_X8_38 dX8_addStep_7 q_1 ?_
  replace h := p_bind_elim h
  obtain ⟨x_6, q_7, h⟩ := h
  refine v_alenPI dX8_addStep_10 q_7 ?_
  refine v_icmp_ge 35 dX8_addStep_11 (by decide) (fun c_8 => ?_) (fun c_8 => ?_)
  · rw [if_pos c_8] at h
    refine v_iload_n dX8_addStep_35 rfl ?_
    cases h
    exact v_iret dX8_addStep_36 rfl (by decide) (by decide) (by rw [← hQ]; exact ⟨rfl, rfl, rfl, rfl, rfl⟩)
  · rw [if_neg c_8] at h
    refine v_aload_n dX8_addStep_14 rfl ?_
    replace h := p_bind_elim h
    obtain ⟨a_9, q_10, h⟩ := h
    refine v_getR q_10 rfl fl_X8_38 dX8_addStep_15 q_1 ?_
    refine v_iload_n dX8_addStep_18 rfl ?_
    refine v_iload_n dX8_addStep_19 rfl ?_
    refine v_iconstE (4 : Int32) dX8_addStep_20 (by decide) ?_
    refine v_ishl dX8_addStep_21 ?_
    refine v_iload_n dX8_addStep_22 rfl ?_
    refine v_ior dX8_addStep_23 ?_
    replace h := p_bind_elim h
    obtain ⟨j_11, q_12, h⟩ := h
    refine v_iastP dX8_addStep_24 q_12 ?_
    replace h := p_let_elim h
    obtain ⟨I_13, h_14, h⟩ := h
    rw [← h_14]
    refine v_aload_n dX8_addStep_25 rfl ?_
    refine v_dup dX8_addStep_26 rfl ?_
    refine v_getI rfl fl_X8_15 dX8_addStep_27 q_1 ?_
    refine v_iconstE (1 : Int32) dX8_addStep_30 (by decide) ?_
    refine v_iadd dX8_addStep_31 ?_
    refine v_putI rfl fl_X8_15 dX8_addStep_32 q_1 rfl rfl ?_
    replace h := p_let_elim h
    obtain ⟨I_15, h_16, h⟩ := h
    rw [← h_16]
    refine v_iload_n dX8_addStep_35 rfl ?_
    cases h
    exact v_iret dX8_addStep_36 rfl (by decide) (by decide) (by rw [← hQ]; exact ⟨rfl, rfl, rfl, rfl, rfl⟩)

def f_X6_take (S : v_S) (I : v_I) (F : v_F) (p0 : Nat) (p1 : Int32) : Option (Int32 × v_I) :=
(p_ob S 6 p0).bind fun _ =>
if (I p0 5) = p1 then (
(f_X6_nextToken S I F p0).bind fun r_3 =>
some ((1 : Int32), r_3))
else (
some ((0 : Int32), I))
set_option maxHeartbeats 4000000 in
set_option maxRecDepth 100000 in
theorem t_X6_take {p0 : Nat} {p1 : Int32} {r : Int32 × v_I} (h : f_X6_take S I F p0 p1 = some r) : v_R l B D ac (v_EE B wa wb wt sb sL sx) yX6_take cX6_take 2 (some .boolean) 2 0 0 [.ref (B + p0), .int p1] S I J F (v_D (some (.int r.1)) S r.2 J F) := by
  refine v_R.of (by decide) (Nat.le_of_ble_eq_true rfl) fun d hd => ?_
  generalize hQ : v_D (some (.int r.1)) S r.2 J F = Q
  unfold f_X6_take at h
  refine v_sub [(0, .ref (B + p0)), (1, .int p1)] ⟨rfl, rfl, trivial⟩ ?_
  refine v_aload_n dX6_take_0 rfl ?_
  replace h := p_bind_elim h
  obtain ⟨_, q_1, h⟩ := h
  have q_1 := p_ob_spec q_1
  refine v_getI rfl fl_X6_34 dX6_take_1 q_1 ?_
  refine v_iload_n dX6_take_4 rfl ?_
  refine v_icmp_eq 10 dX6_take_5 (by decide) (fun c_2 => ?_) (fun c_2 => ?_)
  · rw [if_pos c_2] at h
    refine v_aload_n dX6_take_10 rfl ?_
    replace h := p_bind_elim h
    obtain ⟨r_3, q_4, h⟩ := h
    refine v_cVn (t_X6_nextToken q_4) cal_X6_nextToken ml_X6_70 sel_X6_nextToken q_1 kk_6 dX6_take_11 (by omega) (by decide) (by decide) (Nat.le_of_ble_eq_true rfl) rfl ?_
    refine v_iconstE (1 : Int32) dX6_take_14 (by decide) ?_
    cases h
    exact v_zret dX6_take_15 rfl rfl (by decide) (by decide) (by rw [← hQ]; exact ⟨rfl, rfl, rfl, rfl, rfl⟩)
  · rw [if_neg c_2] at h
    refine v_iconstE (0 : Int32) dX6_take_8 (by decide) ?_
    cases h
    exact v_zret dX6_take_9 rfl rfl (by decide) (by decide) (by rw [← hQ]; exact ⟨rfl, rfl, rfl, rfl, rfl⟩)

def f_X8_aimHere (S : v_S) (I : v_I) (F : v_F) (p0 : Nat) (p1 : Int32) : Option (v_I) :=
if p1 < (0 : Int32) then (
some (I))
else (
(p_ob S 8 p0).bind fun _ =>
(F p0 8).bind fun a_3 =>
(p_len S 20 a_3).bind fun x_5 =>
if x_5 ≤ p1 then (
some (I))
else (
(F p0 8).bind fun a_8 =>
(F p0 8).bind fun a_10 =>
(p_ix S 20 a_10 p1).bind fun j_12 =>
(p_ix S 20 a_8 p1).bind fun j_14 =>
p_let (v_up I a_8 j_14 (((I p0 1) <<< ((4 : Int32) &&& 31)) ||| ((I a_10 j_12) &&& (15 : Int32)))) fun I_16 =>
some (I_16)))
set_option maxHeartbeats 4000000 in
set_option maxRecDepth 100000 in
theorem t_X8_aimHere {p0 : Nat} {p1 : Int32} {r : v_I} (h : f_X8_aimHere S I F p0 p1 = some r) : v_R l B D ac (v_EE B wa wb wt sb sL sx) yX8_aimHere cX8_aimHere 2 none 1 0 0 [.ref (B + p0), .int p1] S I J F (v_D none S r J F) := by
  refine v_R.of (by decide) (Nat.le_of_ble_eq_true rfl) fun d hd => ?_
  generalize hQ : v_D none S r J F = Q
  unfold f_X8_aimHere at h
  refine v_sub [(0, .ref (B + p0)), (1, .int p1)] ⟨rfl, rfl, trivial⟩ ?_
  refine v_iload_n dX8_aimHere_0 rfl ?_
  refine v_if_lt 35 dX8_aimHere_1 (by decide) (fun c_1 => ?_) (fun c_1 => ?_)
  · rw [if_pos c_1] at h
    cases h
    exact v_vret dX8_aimHere_35 rfl (by decide) (by decide) (by rw [← hQ]; exact ⟨rfl, rfl, rfl, rfl, rfl⟩)
  · rw [if_neg c_1] at h
    refine v_iload_n dX8_aimHere_4 rfl ?_
    refine v_aload_n dX8_aimHere_5 rfl ?_
    replace h := p_bind_elim h
    obtain ⟨_, q_2, h⟩ := h
    have q_2 := p_ob_spec q_2
    replace h := p_bind_elim h
    obtain ⟨a_3, q_4, h⟩ := h
    refine v_getR q_4 rfl fl_X8_38 dX8_aimHere_6 q_2 ?_
    replace h := p_bind_elim h
    obtain ⟨x_5, q_6, h⟩ := h
    refine v_alenPI dX8_aimHere_9 q_6 ?_
    refine v_icmp_ge 35 dX8_aimHere_10 (by decide) (fun c_7 => ?_) (fun c_7 => ?_)
    · rw [if_pos c_7] at h
      cases h
      exact v_vret dX8_aimHere_35 rfl (by decide) (by decide) (by rw [← hQ]; exact ⟨rfl, rfl, rfl, rfl, rfl⟩)
    · rw [if_neg c_7] at h
      refine v_aload_n dX8_aimHere_13 rfl ?_
      replace h := p_bind_elim h
      obtain ⟨a_8, q_9, h⟩ := h
      refine v_getR q_9 rfl fl_X8_38 dX8_aimHere_14 q_2 ?_
      refine v_iload_n dX8_aimHere_17 rfl ?_
      refine v_aload_n dX8_aimHere_18 rfl ?_
      refine v_getI rfl fl_X8_15 dX8_aimHere_19 q_2 ?_
      refine v_iconstE (4 : Int32) dX8_aimHere_22 (by decide) ?_
      refine v_ishl dX8_aimHere_23 ?_
      refine v_aload_n dX8_aimHere_24 rfl ?_
      replace h := p_bind_elim h
      obtain ⟨a_10, q_11, h⟩ := h
      refine v_getR q_11 rfl fl_X8_38 dX8_aimHere_25 q_2 ?_
      refine v_iload_n dX8_aimHere_28 rfl ?_
      replace h := p_bind_elim h
      obtain ⟨j_12, q_13, h⟩ := h
      refine v_ialdP dX8_aimHere_29 q_13 ?_
      refine v_bipush (15 : Int32) dX8_aimHere_30 (by decide) ?_
      refine v_iand dX8_aimHere_32 ?_
      refine v_ior dX8_aimHere_33 ?_
      replace h := p_bind_elim h
      obtain ⟨j_14, q_15, h⟩ := h
      refine v_iastP dX8_aimHere_34 q_15 ?_
      replace h := p_let_elim h
      obtain ⟨I_16, h_17, h⟩ := h
      rw [← h_17]
      cases h
      exact v_vret dX8_aimHere_35 rfl (by decide) (by decide) (by rw [← hQ]; exact ⟨rfl, rfl, rfl, rfl, rfl⟩)

def f_X6_readOne (S : v_S) (I : v_I) (F : v_F) (p0 : Nat) (p1 : Int32) : Option (Int32 × v_I) :=
(p_ob S 6 p0).bind fun _ =>
(f_X6_numberAtHand S I p0 (7 : Int32)).bind fun r_1 =>
if r_1 = (-1 : Int32) then (
(f_X6_faultHere S I F p0).bind fun r_12 =>
(p_bl r_12.1).bind fun _ =>
some (r_12.1, r_12.2))
else (
(F p0 0).bind fun a_5 =>
(p_ob S 8 a_5).bind fun _ =>
(f_X8_addStep S I F a_5 (2 : Int32) (p1 + r_1)).bind fun r_7 =>
(f_X6_nextToken S r_7.2 F p0).bind fun r_10 =>
some ((1 : Int32), r_10))
set_option maxHeartbeats 4000000 in
set_option maxRecDepth 100000 in
theorem t_X6_readOne {p0 : Nat} {p1 : Int32} {r : Int32 × v_I} (h : f_X6_readOne S I F p0 p1 = some r) : v_R l B D ac (v_EE B wa wb wt sb sL sx) yX6_readOne cX6_readOne 3 (some .boolean) 2 0 0 [.ref (B + p0), .int p1] S I J F (v_D (some (.int r.1)) S r.2 J F) := by
  refine v_R.of (by decide) (Nat.le_of_ble_eq_true rfl) fun d hd => ?_
  generalize hQ : v_D (some (.int r.1)) S r.2 J F = Q
  unfold f_X6_readOne at h
  refine v_sub [(0, .ref (B + p0)), (1, .int p1)] ⟨rfl, rfl, trivial⟩ ?_
  refine v_aload_n dX6_readOne_0 rfl ?_
  refine v_bipush (7 : Int32) dX6_readOne_1 (by decide) ?_
  replace h := p_bind_elim h
  obtain ⟨_, q_3, h⟩ := h
  have q_3 := p_ob_spec q_3
  replace h := p_bind_elim h
  obtain ⟨r_1, q_2, h⟩ := h
  refine v_cVr (t_X6_numberAtHand q_2) cal_X6_numberAtHand ml_X6_146 sel_X6_numberAtHand q_3 kk_6 dX6_readOne_3 (by omega) (by decide) (by decide) (Nat.le_of_ble_eq_true rfl) rfl ?_
  refine v_istore_n dX6_readOne_6 (by decide) ?_
  refine v_sub [(0, .ref (B + p0)), (1, .int p1), (2, .int r_1)] ⟨rfl, rfl, rfl, trivial⟩ ?_
  refine v_iload_n dX6_readOne_7 rfl ?_
  refine v_iconstE (-1 : Int32) dX6_readOne_8 (by decide) ?_
  refine v_icmp_ne 17 dX6_readOne_9 (by decide) (fun c_4 => ?_) (fun c_4 => ?_)
  · rw [if_neg c_4] at h
    refine v_aload_n dX6_readOne_17 rfl ?_
    replace h := p_bind_elim h
    obtain ⟨a_5, q_6, h⟩ := h
    refine v_getR q_6 rfl fl_X6_14 dX6_readOne_18 q_3 ?_
    refine v_iconstE (2 : Int32) dX6_readOne_21 (by decide) ?_
    refine v_iload_n dX6_readOne_22 rfl ?_
    refine v_iload_n dX6_readOne_23 rfl ?_
    refine v_iadd dX6_readOne_24 ?_
    replace h := p_bind_elim h
    obtain ⟨_, q_9, h⟩ := h
    have q_9 := p_ob_spec q_9
    replace h := p_bind_elim h
    obtain ⟨r_7, q_8, h⟩ := h
    refine v_cVr (t_X8_addStep q_8) cal_X8_addStep ml_X6_134 sel_X8_addStep q_9 kk_8 dX6_readOne_25 (by omega) (by decide) (by decide) (Nat.le_of_ble_eq_true rfl) rfl ?_
    refine v_pop dX6_readOne_28 rfl ?_
    refine v_aload_n dX6_readOne_29 rfl ?_
    replace h := p_bind_elim h
    obtain ⟨r_10, q_11, h⟩ := h
    refine v_cVn (t_X6_nextToken q_11) cal_X6_nextToken ml_X6_70 sel_X6_nextToken q_3 kk_6 dX6_readOne_30 (by omega) (by decide) (by decide) (Nat.le_of_ble_eq_true rfl) rfl ?_
    refine v_iconstE (1 : Int32) dX6_readOne_33 (by decide) ?_
    cases h
    exact v_zret dX6_readOne_34 rfl rfl (by decide) (by decide) (by rw [← hQ]; exact ⟨rfl, rfl, rfl, rfl, rfl⟩)
  · rw [if_pos c_4] at h
    refine v_aload_n dX6_readOne_12 rfl ?_
    replace h := p_bind_elim h
    obtain ⟨r_12, q_13, h⟩ := h
    refine v_cVr (t_X6_faultHere q_13) cal_X6_faultHere ml_X6_73 sel_X6_faultHere q_3 kk_6 dX6_readOne_13 (by omega) (by decide) (by decide) (Nat.le_of_ble_eq_true rfl) rfl ?_
    replace h := p_bind_elim h
    obtain ⟨_, q_14, h⟩ := h
    cases h
    exact v_zret dX6_readOne_16 rfl (p_bl_spec q_14).1 (by decide) (by decide) (by rw [← hQ]; exact ⟨rfl, rfl, rfl, rfl, rfl⟩)

def f_X8_addClause (S : v_S) (I : v_I) (F : v_F) (p0 : Nat) (p1 : Int32) : Option (Int32 × v_I) :=
(p_ob S 8 p0).bind fun _ =>
(F p0 3).bind fun a_2 =>
(p_len S 20 a_2).bind fun x_4 =>
if (I p0 0) < x_4 then (
(F p0 3).bind fun a_7 =>
(p_ix S 20 a_7 (I p0 0)).bind fun j_9 =>
p_let (v_up I a_7 j_9 p1) fun I_11 =>
(F p0 4).bind fun a_13 =>
(p_ix S 20 a_13 (I_11 p0 0)).bind fun j_15 =>
p_let (v_up I_11 a_13 j_15 (-1 : Int32)) fun I_17 =>
(F p0 5).bind fun a_19 =>
(p_ix S 20 a_19 (I_17 p0 0)).bind fun j_21 =>
p_let (v_up I_17 a_19 j_21 (-1 : Int32)) fun I_23 =>
(F p0 6).bind fun a_25 =>
(p_ix S 20 a_25 (I_23 p0 0)).bind fun j_27 =>
p_let (v_up I_23 a_25 j_27 (-1 : Int32)) fun I_29 =>
(F p0 7).bind fun a_31 =>
(p_ix S 20 a_31 (I_29 p0 0)).bind fun j_33 =>
p_let (v_up I_29 a_31 j_33 (1 : Int32)) fun I_35 =>
p_let (v_up I_35 p0 0 ((I_35 p0 0) + (1 : Int32))) fun I_37 =>
some ((1 : Int32), I_37))
else (
some ((0 : Int32), I))
set_option maxHeartbeats 4000000 in
set_option maxRecDepth 100000 in
theorem t_X8_addClause {p0 : Nat} {p1 : Int32} {r : Int32 × v_I} (h : f_X8_addClause S I F p0 p1 = some r) : v_R l B D ac (v_EE B wa wb wt sb sL sx) yX8_addClause cX8_addClause 2 (some .boolean) 1 0 0 [.ref (B + p0), .int p1] S I J F (v_D (some (.int r.1)) S r.2 J F) := by
  refine v_R.of (by decide) (Nat.le_of_ble_eq_true rfl) fun d hd => ?_
  generalize hQ : v_D (some (.int r.1)) S r.2 J F = Q
  unfold f_X8_addClause at h
  refine v_sub [(0, .ref (B + p0)), (1, .int p1)] ⟨rfl, rfl, trivial⟩ ?_
  refine v_aload_n dX8_addClause_0 rfl ?_
  replace h := p_bind_elim h
  obtain ⟨_, q_1, h⟩ := h
  have q_1 := p_ob_spec q_1
  refine v_getI rfl fl_X8_9 dX8_addClause_1 q_1 ?_
  refine v_aload_n dX8_addClause_4 rfl ?_
  replace h := p_bind_elim h
  obtain ⟨a_2, q_3, h⟩ := h
  refine v_getR q_3 rfl fl_X8_22 dX8_addClause_5 q_1 ?_
  replace h := p_bind_elim h
  obtain ⟨x_4, q_5, h⟩ := h
  refine v_alenPI dX8_addClause_8 q_5 ?_
  refine v_icmp_lt 14 dX8_addClause_9 (by decide) (fun c_6 => ?_) (fun c_6 => ?_)
  · rw [if_pos c_6] at h
    refine v_aload_n dX8_addClause_14 rfl ?_
    replace h := p_bind_elim h
    obtain ⟨a_7, q_8, h⟩ := h
    refine v_getR q_8 rfl fl_X8_22 dX8_addClause_15 q_1 ?_
    refine v_aload_n dX8_addClause_18 rfl ?_
    refine v_getI rfl fl_X8_9 dX8_addClause_19 q_1 ?_
    refine v_iload_n dX8_addClause_22 rfl ?_
    replace h := p_bind_elim h
    obtain ⟨j_9, q_10, h⟩ := h
    refine v_iastP dX8_addClause_23 q_10 ?_
    replace h := p_let_elim h
    obtain ⟨I_11, h_12, h⟩ := h
    rw [← h_12]
    refine v_aload_n dX8_addClause_24 rfl ?_
    replace h := p_bind_elim h
    obtain ⟨a_13, q_14, h⟩ := h
    refine v_getR q_14 rfl fl_X8_26 dX8_addClause_25 q_1 ?_
    refine v_aload_n dX8_addClause_28 rfl ?_
    refine v_getI rfl fl_X8_9 dX8_addClause_29 q_1 ?_
    refine v_iconstE (-1 : Int32) dX8_addClause_32 (by decide) ?_
    replace h := p_bind_elim h
    obtain ⟨j_15, q_16, h⟩ := h
    refine v_iastP dX8_addClause_33 q_16 ?_
    replace h := p_let_elim h
    obtain ⟨I_17, h_18, h⟩ := h
    rw [← h_18]
    refine v_aload_n dX8_addClause_34 rfl ?_
    replace h := p_bind_elim h
    obtain ⟨a_19, q_20, h⟩ := h
    refine v_getR q_20 rfl fl_X8_29 dX8_addClause_35 q_1 ?_
    refine v_aload_n dX8_addClause_38 rfl ?_
    refine v_getI rfl fl_X8_9 dX8_addClause_39 q_1 ?_
    refine v_iconstE (-1 : Int32) dX8_addClause_42 (by decide) ?_
    replace h := p_bind_elim h
    obtain ⟨j_21, q_22, h⟩ := h
    refine v_iastP dX8_addClause_43 q_22 ?_
    replace h := p_let_elim h
    obtain ⟨I_23, h_24, h⟩ := h
    rw [← h_24]
    refine v_aload_n dX8_addClause_44 rfl ?_
    replace h := p_bind_elim h
    obtain ⟨a_25, q_26, h⟩ := h
    refine v_getR q_26 rfl fl_X8_32 dX8_addClause_45 q_1 ?_
    refine v_aload_n dX8_addClause_48 rfl ?_
    refine v_getI rfl fl_X8_9 dX8_addClause_49 q_1 ?_
    refine v_iconstE (-1 : Int32) dX8_addClause_52 (by decide) ?_
    replace h := p_bind_elim h
    obtain ⟨j_27, q_28, h⟩ := h
    refine v_iastP dX8_addClause_53 q_28 ?_
    replace h := p_let_elim h
    obtain ⟨I_29, h_30, h⟩ := h
    rw [← h_30]
    refine v_aload_n dX8_addClause_54 rfl ?_
    replace h := p_bind_elim h
    obtain ⟨a_31, q_32, h⟩ := h
    refine v_getR q_32 rfl fl_X8_35 dX8_addClause_55 q_1 ?_
    refine v_aload_n dX8_addClause_58 rfl ?_
    refine v_getI rfl fl_X8_9 dX8_addClause_59 q_1 ?_
    refine v_iconstE (1 : Int32) dX8_addClause_62 (by decide) ?_
    replace h := p_bind_elim h
    obtain ⟨j_33, q_34, h⟩ := h
    refine v_iastP dX8_addClause_63 q_34 ?_
    replace h := p_let_elim h
    obtain ⟨I_35, h_36, h⟩ := h
    rw [← h_36]
    refine v_aload_n dX8_addClause_64 rfl ?_
    refine v_dup dX8_addClause_65 rfl ?_
    refine v_getI rfl fl_X8_9 dX8_addClause_66 q_1 ?_
    refine v_iconstE (1 : Int32) dX8_addClause_69 (by decide) ?_
    refine v_iadd dX8_addClause_70 ?_
    refine v_putI rfl fl_X8_9 dX8_addClause_71 q_1 rfl rfl ?_
    replace h := p_let_elim h
    obtain ⟨I_37, h_38, h⟩ := h
    rw [← h_38]
    refine v_iconstE (1 : Int32) dX8_addClause_74 (by decide) ?_
    cases h
    exact v_zret dX8_addClause_75 rfl rfl (by decide) (by decide) (by rw [← hQ]; exact ⟨rfl, rfl, rfl, rfl, rfl⟩)
  · rw [if_neg c_6] at h
    refine v_iconstE (0 : Int32) dX8_addClause_12 (by decide) ?_
    cases h
    exact v_zret dX8_addClause_13 rfl rfl (by decide) (by decide) (by rw [← hQ]; exact ⟨rfl, rfl, rfl, rfl, rfl⟩)

def f_X6_addToken (S : v_S) (I : v_I) (F : v_F) (p0 : Nat) (p1 : Int32) (p2 : Int32) : Option (v_I) :=
(p_ob S 6 p0).bind fun _ =>
(F p0 1).bind fun a_2 =>
(p_ix S 20 a_2 (I p0 3)).bind fun j_4 =>
p_let (v_up I a_2 j_4 p2) fun I_6 =>
(F p0 2).bind fun a_8 =>
(p_ix S 20 a_8 (I_6 p0 3)).bind fun j_10 =>
p_let (v_up I_6 a_8 j_10 p1) fun I_12 =>
p_let (v_up I_12 p0 3 ((I_12 p0 3) + (1 : Int32))) fun I_14 =>
some (I_14)
set_option maxHeartbeats 4000000 in
set_option maxRecDepth 100000 in
theorem t_X6_addToken {p0 : Nat} {p1 : Int32} {p2 : Int32} {r : v_I} (h : f_X6_addToken S I F p0 p1 p2 = some r) : v_R l B D ac (v_EE B wa wb wt sb sL sx) yX6_addToken cX6_addToken 3 none 1 0 0 [.ref (B + p0), .int p1, .int p2] S I J F (v_D none S r J F) := by
  refine v_R.of (by decide) (Nat.le_of_ble_eq_true rfl) fun d hd => ?_
  generalize hQ : v_D none S r J F = Q
  unfold f_X6_addToken at h
  refine v_sub [(0, .ref (B + p0)), (1, .int p1), (2, .int p2)] ⟨rfl, rfl, rfl, trivial⟩ ?_
  refine v_aload_n dX6_addToken_0 rfl ?_
  replace h := p_bind_elim h
  obtain ⟨_, q_1, h⟩ := h
  have q_1 := p_ob_spec q_1
  replace h := p_bind_elim h
  obtain ⟨a_2, q_3, h⟩ := h
  refine v_getR q_3 rfl fl_X6_20 dX6_addToken_1 q_1 ?_
  refine v_aload_n dX6_addToken_4 rfl ?_
  refine v_getI rfl fl_X6_27 dX6_addToken_5 q_1 ?_
  refine v_iload_n dX6_addToken_8 rfl ?_
  replace h := p_bind_elim h
  obtain ⟨j_4, q_5, h⟩ := h
  refine v_iastP dX6_addToken_9 q_5 ?_
  replace h := p_let_elim h
  obtain ⟨I_6, h_7, h⟩ := h
  rw [← h_7]
  refine v_aload_n dX6_addToken_10 rfl ?_
  replace h := p_bind_elim h
  obtain ⟨a_8, q_9, h⟩ := h
  refine v_getR q_9 rfl fl_X6_24 dX6_addToken_11 q_1 ?_
  refine v_aload_n dX6_addToken_14 rfl ?_
  refine v_getI rfl fl_X6_27 dX6_addToken_15 q_1 ?_
  refine v_iload_n dX6_addToken_18 rfl ?_
  replace h := p_bind_elim h
  obtain ⟨j_10, q_11, h⟩ := h
  refine v_iastP dX6_addToken_19 q_11 ?_
  replace h := p_let_elim h
  obtain ⟨I_12, h_13, h⟩ := h
  rw [← h_13]
  refine v_aload_n dX6_addToken_20 rfl ?_
  refine v_dup dX6_addToken_21 rfl ?_
  refine v_getI rfl fl_X6_27 dX6_addToken_22 q_1 ?_
  refine v_iconstE (1 : Int32) dX6_addToken_25 (by decide) ?_
  refine v_iadd dX6_addToken_26 ?_
  refine v_putI rfl fl_X6_27 dX6_addToken_27 q_1 rfl rfl ?_
  replace h := p_let_elim h
  obtain ⟨I_14, h_15, h⟩ := h
  rw [← h_15]
  cases h
  exact v_vret dX6_addToken_30 rfl (by decide) (by decide) (by rw [← hQ]; exact ⟨rfl, rfl, rfl, rfl, rfl⟩)

def f_X6_isDigit (p0 : Int32) : Option (Int32) :=
if p0 < (48 : Int32) then (
some ((0 : Int32)))
else (
if (57 : Int32) < p0 then (
some ((0 : Int32)))
else (
some ((1 : Int32))))
set_option maxHeartbeats 4000000 in
set_option maxRecDepth 100000 in
theorem t_X6_isDigit {p0 : Int32} {r : Int32} (h : f_X6_isDigit p0 = some r) : v_R l B D ac (v_EE B wa wb wt sb sL sx) yX6_isDigit cX6_isDigit 1 (some .boolean) 1 0 0 [.int p0] S I J F (v_D (some (.int r)) S I J F) := by
  refine v_R.of (by decide) (Nat.le_of_ble_eq_true rfl) fun d hd => ?_
  generalize hQ : v_D (some (.int r)) S I J F = Q
  unfold f_X6_isDigit at h
  refine v_sub [(0, .int p0)] ⟨rfl, trivial⟩ ?_
  refine v_iload_n dX6_isDigit_0 rfl ?_
  refine v_bipush (48 : Int32) dX6_isDigit_1 (by decide) ?_
  refine v_icmp_lt 16 dX6_isDigit_3 (by decide) (fun c_1 => ?_) (fun c_1 => ?_)
  · rw [if_pos c_1] at h
    refine v_iconstE (0 : Int32) dX6_isDigit_16 (by decide) ?_
    cases h
    exact v_zret dX6_isDigit_17 rfl rfl (by decide) (by decide) (by rw [← hQ]; exact ⟨rfl, rfl, rfl, rfl, rfl⟩)
  · rw [if_neg c_1] at h
    refine v_iload_n dX6_isDigit_6 rfl ?_
    refine v_bipush (57 : Int32) dX6_isDigit_7 (by decide) ?_
    refine v_icmp_gt 16 dX6_isDigit_9 (by decide) (fun c_2 => ?_) (fun c_2 => ?_)
    · rw [if_pos c_2] at h
      refine v_iconstE (0 : Int32) dX6_isDigit_16 (by decide) ?_
      cases h
      exact v_zret dX6_isDigit_17 rfl rfl (by decide) (by decide) (by rw [← hQ]; exact ⟨rfl, rfl, rfl, rfl, rfl⟩)
    · rw [if_neg c_2] at h
      refine v_iconstE (1 : Int32) dX6_isDigit_12 (by decide) ?_
      refine v_goto 17 dX6_isDigit_13 (by decide) ?_
      cases h
      exact v_zret dX6_isDigit_17 rfl rfl (by decide) (by decide) (by rw [← hQ]; exact ⟨rfl, rfl, rfl, rfl, rfl⟩)

def f_X6_isLetter (p0 : Int32) : Option (Int32) :=
if p0 < (97 : Int32) then (
some ((0 : Int32)))
else (
if (122 : Int32) < p0 then (
some ((0 : Int32)))
else (
some ((1 : Int32))))
set_option maxHeartbeats 4000000 in
set_option maxRecDepth 100000 in
theorem t_X6_isLetter {p0 : Int32} {r : Int32} (h : f_X6_isLetter p0 = some r) : v_R l B D ac (v_EE B wa wb wt sb sL sx) yX6_isLetter cX6_isLetter 1 (some .boolean) 1 0 0 [.int p0] S I J F (v_D (some (.int r)) S I J F) := by
  refine v_R.of (by decide) (Nat.le_of_ble_eq_true rfl) fun d hd => ?_
  generalize hQ : v_D (some (.int r)) S I J F = Q
  unfold f_X6_isLetter at h
  refine v_sub [(0, .int p0)] ⟨rfl, trivial⟩ ?_
  refine v_iload_n dX6_isLetter_0 rfl ?_
  refine v_bipush (97 : Int32) dX6_isLetter_1 (by decide) ?_
  refine v_icmp_lt 16 dX6_isLetter_3 (by decide) (fun c_1 => ?_) (fun c_1 => ?_)
  · rw [if_pos c_1] at h
    refine v_iconstE (0 : Int32) dX6_isLetter_16 (by decide) ?_
    cases h
    exact v_zret dX6_isLetter_17 rfl rfl (by decide) (by decide) (by rw [← hQ]; exact ⟨rfl, rfl, rfl, rfl, rfl⟩)
  · rw [if_neg c_1] at h
    refine v_iload_n dX6_isLetter_6 rfl ?_
    refine v_bipush (122 : Int32) dX6_isLetter_7 (by decide) ?_
    refine v_icmp_gt 16 dX6_isLetter_9 (by decide) (fun c_2 => ?_) (fun c_2 => ?_)
    · rw [if_pos c_2] at h
      refine v_iconstE (0 : Int32) dX6_isLetter_16 (by decide) ?_
      cases h
      exact v_zret dX6_isLetter_17 rfl rfl (by decide) (by decide) (by rw [← hQ]; exact ⟨rfl, rfl, rfl, rfl, rfl⟩)
    · rw [if_neg c_2] at h
      refine v_iconstE (1 : Int32) dX6_isLetter_12 (by decide) ?_
      refine v_goto 17 dX6_isLetter_13 (by decide) ?_
      cases h
      exact v_zret dX6_isLetter_17 rfl rfl (by decide) (by decide) (by rw [← hQ]; exact ⟨rfl, rfl, rfl, rfl, rfl⟩)

def f_X6_numberToken_B5 (S : v_S) (I : v_I) (w0 : Nat) (w2 : Int32) (s5 : Int32 × Int32) : Option ((Int32 × Int32) ⊕ (Int32 × Int32)) :=
if w2 ≤ s5.2 then (
some (.inr (s5.1, s5.2)))
else (
if (1000 : Int32) < s5.1 then (
some (.inr (s5.1, s5.2)))
else (
(p_ix S 20 w0 s5.2).bind fun j_3 =>
p_let (((s5.1 * (10 : Int32)) + (I w0 j_3)) - (48 : Int32)) fun x_5 =>
p_let (s5.2 + (1 : Int32)) fun x_7 =>
some (.inl (x_5, x_7))))
def f_X6_numberToken_J37 (S : v_S) (I : v_I) (y3 : Int32) : Option (Int32) :=
if (1000 : Int32) < y3 then (
some ((-2 : Int32)))
else (
some ((1024 : Int32) + y3))
def f_X6_numberToken (S : v_S) (I : v_I) (p0 : Nat) (p1 : Int32) (p2 : Int32) : Option (Int32) :=
(v_loop (f_X6_numberToken_B5 S I p0 p2) FU ((0 : Int32), p1)).bind fun q_9 =>
f_X6_numberToken_J37 S I q_9.1
set_option maxHeartbeats 4000000 in
set_option maxRecDepth 100000 in
theorem t_X6_numberToken {p0 : Nat} {p1 : Int32} {p2 : Int32} {r : Int32} (h : f_X6_numberToken S I p0 p1 p2 = some r) : v_R l B D ac (v_EE B wa wb wt sb sL sx) yX6_numberToken cX6_numberToken 5 (some .int) 1 0 0 [.ref (B + p0), .int p1, .int p2] S I J F (v_D (some (.int r)) S I J F) := by
  refine v_R.of (by decide) (Nat.le_of_ble_eq_true rfl) fun d hd => ?_
  generalize hQ : v_D (some (.int r)) S I J F = Q
  have b5 : ∀ (w0 : Nat) (w2 : Int32) (s5 : Int32 × Int32) (rx5 : (Int32 × Int32) ⊕ (Int32 × Int32)), f_X6_numberToken_B5 S I w0 w2 s5 = some rx5 → v_K (fun (sP : Int32 × Int32) => V l B D ac (v_EE B wa wb wt sb sL sx) yX6_numberToken cX6_numberToken 5 (some .int) d 0 0 0 0 S I J F 5 [(0, .ref (B + w0)), (2, .int w2), (3, .int sP.1), (4, .int sP.2)] [] Q) (fun (rE : Int32 × Int32) => V l B D ac (v_EE B wa wb wt sb sL sx) yX6_numberToken cX6_numberToken 5 (some .int) d 0 0 0 0 S I J F 37 [(3, .int rE.1)] [] Q) rx5 → V l B D ac (v_EE B wa wb wt sb sL sx) yX6_numberToken cX6_numberToken 5 (some .int) d 0 0 0 0 S I J F 5 [(0, .ref (B + w0)), (2, .int w2), (3, .int s5.1), (4, .int s5.2)] [] Q := by
    intro w0 w2 s5 rx5 h hk
    unfold f_X6_numberToken_B5 at h
    refine v_iload dX6_numberToken_5 rfl ?_
    refine v_iload_n dX6_numberToken_7 rfl ?_
    refine v_icmp_ge 37 dX6_numberToken_8 (by decide) (fun c_1 => ?_) (fun c_1 => ?_)
    · rw [if_pos c_1] at h
      cases h
      refine v_sub [(3, .int s5.1)] ⟨rfl, trivial⟩ ?_
      exact hk
    · rw [if_neg c_1] at h
      refine v_iload_n dX6_numberToken_11 rfl ?_
      refine v_sipush (1000 : Int32) dX6_numberToken_12 (by decide) ?_
      refine v_icmp_gt 37 dX6_numberToken_15 (by decide) (fun c_2 => ?_) (fun c_2 => ?_)
      · rw [if_pos c_2] at h
        cases h
        refine v_sub [(3, .int s5.1)] ⟨rfl, trivial⟩ ?_
        exact hk
      · rw [if_neg c_2] at h
        refine v_iload_n dX6_numberToken_18 rfl ?_
        refine v_bipush (10 : Int32) dX6_numberToken_19 (by decide) ?_
        refine v_imul dX6_numberToken_21 ?_
        refine v_aload_n dX6_numberToken_22 rfl ?_
        refine v_iload dX6_numberToken_23 rfl ?_
        replace h := p_bind_elim h
        obtain ⟨j_3, q_4, h⟩ := h
        refine v_ialdP dX6_numberToken_25 q_4 ?_
        refine v_iadd dX6_numberToken_26 ?_
        refine v_bipush (48 : Int32) dX6_numberToken_27 (by decide) ?_
        refine v_isub dX6_numberToken_29 ?_
        replace h := p_let_elim h
        obtain ⟨x_5, h_6, h⟩ := h
        rw [← h_6]
        refine v_istore_n dX6_numberToken_30 (by decide) ?_
        refine v_sub [(0, .ref (B + w0)), (2, .int w2), (3, .int x_5), (4, .int s5.2)] ⟨rfl, rfl, rfl, rfl, trivial⟩ ?_
        replace h := p_let_elim h
        obtain ⟨x_7, h_8, h⟩ := h
        refine v_iincE (1 : Int32) dX6_numberToken_31 (by decide) rfl (by decide) ?_
        rw [← h_8]
        refine v_sub [(0, .ref (B + w0)), (2, .int w2), (3, .int x_5), (4, .int x_7)] ⟨rfl, rfl, rfl, rfl, trivial⟩ ?_
        refine v_goto 5 dX6_numberToken_34 (by decide) ?_
        cases h
        refine v_sub [(0, .ref (B + w0)), (2, .int w2), (3, .int x_5), (4, .int x_7)] ⟨rfl, rfl, rfl, rfl, trivial⟩ ?_
        exact hk
  have j37 : ∀ (y3 : Int32), f_X6_numberToken_J37 S I y3 = some r → V l B D ac (v_EE B wa wb wt sb sL sx) yX6_numberToken cX6_numberToken 5 (some .int) d 0 0 0 0 S I J F 37 [(3, .int y3)] [] Q := by
    intro y3 h
    unfold f_X6_numberToken_J37 at h
    refine v_iload_n dX6_numberToken_37 rfl ?_
    refine v_sipush (1000 : Int32) dX6_numberToken_38 (by decide) ?_
    refine v_icmp_gt 52 dX6_numberToken_41 (by decide) (fun c_11 => ?_) (fun c_11 => ?_)
    · rw [if_pos c_11] at h
      refine v_bipush (-2 : Int32) dX6_numberToken_52 (by decide) ?_
      cases h
      exact v_iret dX6_numberToken_54 rfl (by decide) (by decide) (by rw [← hQ]; exact ⟨rfl, rfl, rfl, rfl, rfl⟩)
    · rw [if_neg c_11] at h
      refine v_sipush (1024 : Int32) dX6_numberToken_44 (by decide) ?_
      refine v_iload_n dX6_numberToken_47 rfl ?_
      refine v_iadd dX6_numberToken_48 ?_
      refine v_goto 54 dX6_numberToken_49 (by decide) ?_
      cases h
      exact v_iret dX6_numberToken_54 rfl (by decide) (by decide) (by rw [← hQ]; exact ⟨rfl, rfl, rfl, rfl, rfl⟩)
  unfold f_X6_numberToken at h
  refine v_sub [(0, .ref (B + p0)), (1, .int p1), (2, .int p2)] ⟨rfl, rfl, rfl, trivial⟩ ?_
  refine v_iconstE (0 : Int32) dX6_numberToken_0 (by decide) ?_
  refine v_istore_n dX6_numberToken_1 (by decide) ?_
  refine v_sub [(0, .ref (B + p0)), (1, .int p1), (2, .int p2), (3, .int (0 : Int32))] ⟨rfl, rfl, rfl, rfl, trivial⟩ ?_
  refine v_iload_n dX6_numberToken_2 rfl ?_
  refine v_istore dX6_numberToken_3 (by decide) ?_
  refine v_sub [(0, .ref (B + p0)), (2, .int p2), (3, .int (0 : Int32)), (4, .int p1)] ⟨rfl, rfl, rfl, rfl, trivial⟩ ?_
  replace h := p_bind_elim h
  obtain ⟨q_9, h_10, h⟩ := h
  refine v_sub [(0, .ref (B + p0)), (2, .int p2), (3, .int (0 : Int32)), (4, .int p1)] ⟨rfl, rfl, rfl, rfl, trivial⟩ ?_
  refine v_loopV (fun (sP : Int32 × Int32) => V l B D ac (v_EE B wa wb wt sb sL sx) yX6_numberToken cX6_numberToken 5 (some .int) d 0 0 0 0 S I J F 5 [(0, .ref (B + p0)), (2, .int p2), (3, .int sP.1), (4, .int sP.2)] [] Q) (fun (rE : Int32 × Int32) => V l B D ac (v_EE B wa wb wt sb sL sx) yX6_numberToken cX6_numberToken 5 (some .int) d 0 0 0 0 S I J F 37 [(3, .int rE.1)] [] Q) (fun s_ x_ hb hk => b5 _ _ s_ x_ hb hk) (r := q_9) ?_ h_10
  try dsimp only
  refine v_sub [(3, .int q_9.1)] ⟨rfl, trivial⟩ ?_
  exact j37 _ h

def f_X6_isSpelledAt_B3 (S : v_S) (I : v_I) (w0 : Nat) (w1 : Int32) (w2 : Int32) (w3 : Int32) (s3 : Int32) : Option ((Int32) ⊕ (Nat × (Int32))) :=
if w3 ≤ s3 then (
some (.inr (1, s3)))
else (
(p_ix S 20 w0 ((w1 + s3) - w2)).bind fun j_2 =>
(p_wd s3).bind fun x_4 =>
if (I w0 j_2) = x_4 then (
p_let (s3 + (1 : Int32)) fun x_7 =>
some (.inl x_7))
else (
some (.inr (0, s3))))
def f_X6_isSpelledAt (S : v_S) (I : v_I) (p0 : Nat) (p1 : Int32) (p2 : Int32) (p3 : Int32) : Option (Int32) :=
(v_loop (f_X6_isSpelledAt_B3 S I p0 p1 p2 p3) FU p2).bind fun q_9 =>
if q_9.1 = 0 then (
some ((0 : Int32)))
else (
some ((1 : Int32)))
set_option maxHeartbeats 4000000 in
set_option maxRecDepth 100000 in
theorem t_X6_isSpelledAt {p0 : Nat} {p1 : Int32} {p2 : Int32} {p3 : Int32} {r : Int32} (h : f_X6_isSpelledAt S I p0 p1 p2 p3 = some r) : v_R l B D ac (v_EE B wa wb wt sb sL sx) yX6_isSpelledAt cX6_isSpelledAt 5 (some .boolean) 8 0 0 [.ref (B + p0), .int p1, .int p2, .int p3] S I J F (v_D (some (.int r)) S I J F) := by
  refine v_R.of (by decide) (Nat.le_of_ble_eq_true rfl) fun d hd => ?_
  generalize hQ : v_D (some (.int r)) S I J F = Q
  have b3 : ∀ (w0 : Nat) (w1 : Int32) (w2 : Int32) (w3 : Int32) (s3 : Int32) (rx3 : (Int32) ⊕ (Nat × (Int32))), f_X6_isSpelledAt_B3 S I w0 w1 w2 w3 s3 = some rx3 → v_K (fun (sP : Int32) => V l B D ac (v_EE B wa wb wt sb sL sx) yX6_isSpelledAt cX6_isSpelledAt 5 (some .boolean) d 0 0 0 0 S I J F 3 [(0, .ref (B + w0)), (1, .int w1), (2, .int w2), (3, .int w3), (4, .int sP)] [] Q) (fun (rE : Nat × (Int32)) => (rE.1 = 0 → V l B D ac (v_EE B wa wb wt sb sL sx) yX6_isSpelledAt cX6_isSpelledAt 5 (some .boolean) d 0 0 0 0 S I J F 27 [] [] Q) ∧ (¬ rE.1 = 0 → V l B D ac (v_EE B wa wb wt sb sL sx) yX6_isSpelledAt cX6_isSpelledAt 5 (some .boolean) d 0 0 0 0 S I J F 35 [] [] Q)) rx3 → V l B D ac (v_EE B wa wb wt sb sL sx) yX6_isSpelledAt cX6_isSpelledAt 5 (some .boolean) d 0 0 0 0 S I J F 3 [(0, .ref (B + w0)), (1, .int w1), (2, .int w2), (3, .int w3), (4, .int s3)] [] Q := by
    intro w0 w1 w2 w3 s3 rx3 h hk
    unfold f_X6_isSpelledAt_B3 at h
    refine v_iload dX6_isSpelledAt_3 rfl ?_
    refine v_iload_n dX6_isSpelledAt_5 rfl ?_
    refine v_icmp_ge 35 dX6_isSpelledAt_6 (by decide) (fun c_1 => ?_) (fun c_1 => ?_)
    · rw [if_pos c_1] at h
      cases h
      refine v_sub [] trivial ?_
      exact (hk.2 (Nat.succ_ne_zero _))
    · rw [if_neg c_1] at h
      refine v_aload_n dX6_isSpelledAt_9 rfl ?_
      refine v_iload_n dX6_isSpelledAt_10 rfl ?_
      refine v_iload dX6_isSpelledAt_11 rfl ?_
      refine v_iadd dX6_isSpelledAt_13 ?_
      refine v_iload_n dX6_isSpelledAt_14 rfl ?_
      refine v_isub dX6_isSpelledAt_15 ?_
      replace h := p_bind_elim h
      obtain ⟨j_2, q_3, h⟩ := h
      refine v_ialdP dX6_isSpelledAt_16 q_3 ?_
      refine v_ldcW dX6_isSpelledAt_17 rfl ?_
      refine v_iload dX6_isSpelledAt_19 rfl ?_
      replace h := p_bind_elim h
      obtain ⟨x_4, q_5, h⟩ := h
      refine v_chW dX6_isSpelledAt_21 q_5 rfl (by omega) (by omega) (by omega) (Nat.le_of_ble_eq_true rfl) ?_
      refine v_icmp_eq 29 dX6_isSpelledAt_24 (by decide) (fun c_6 => ?_) (fun c_6 => ?_)
      · rw [if_pos c_6] at h
        replace h := p_let_elim h
        obtain ⟨x_7, h_8, h⟩ := h
        refine v_iincE (1 : Int32) dX6_isSpelledAt_29 (by decide) rfl (by decide) ?_
        rw [← h_8]
        refine v_sub [(0, .ref (B + w0)), (1, .int w1), (2, .int w2), (3, .int w3), (4, .int x_7)] ⟨rfl, rfl, rfl, rfl, rfl, trivial⟩ ?_
        refine v_goto 3 dX6_isSpelledAt_32 (by decide) ?_
        cases h
        refine v_sub [(0, .ref (B + w0)), (1, .int w1), (2, .int w2), (3, .int w3), (4, .int x_7)] ⟨rfl, rfl, rfl, rfl, rfl, trivial⟩ ?_
        exact hk
      · rw [if_neg c_6] at h
        cases h
        refine v_sub [] trivial ?_
        exact hk.1 rfl
  unfold f_X6_isSpelledAt at h
  refine v_sub [(0, .ref (B + p0)), (1, .int p1), (2, .int p2), (3, .int p3)] ⟨rfl, rfl, rfl, rfl, trivial⟩ ?_
  refine v_iload_n dX6_isSpelledAt_0 rfl ?_
  refine v_istore dX6_isSpelledAt_1 (by decide) ?_
  refine v_sub [(0, .ref (B + p0)), (1, .int p1), (2, .int p2), (3, .int p3), (4, .int p2)] ⟨rfl, rfl, rfl, rfl, rfl, trivial⟩ ?_
  replace h := p_bind_elim h
  obtain ⟨q_9, h_10, h⟩ := h
  refine v_sub [(0, .ref (B + p0)), (1, .int p1), (2, .int p2), (3, .int p3), (4, .int p2)] ⟨rfl, rfl, rfl, rfl, rfl, trivial⟩ ?_
  refine v_loopV (fun (sP : Int32) => V l B D ac (v_EE B wa wb wt sb sL sx) yX6_isSpelledAt cX6_isSpelledAt 5 (some .boolean) d 0 0 0 0 S I J F 3 [(0, .ref (B + p0)), (1, .int p1), (2, .int p2), (3, .int p3), (4, .int sP)] [] Q) (fun (rE : Nat × (Int32)) => (rE.1 = 0 → V l B D ac (v_EE B wa wb wt sb sL sx) yX6_isSpelledAt cX6_isSpelledAt 5 (some .boolean) d 0 0 0 0 S I J F 27 [] [] Q) ∧ (¬ rE.1 = 0 → V l B D ac (v_EE B wa wb wt sb sL sx) yX6_isSpelledAt cX6_isSpelledAt 5 (some .boolean) d 0 0 0 0 S I J F 35 [] [] Q)) (fun s_ x_ hb hk => b3 _ _ _ _ s_ x_ hb hk) (r := q_9) ?_ h_10
  try dsimp only
  refine ⟨fun c_11 => ?_, fun c_11 => ?_⟩
  · rw [if_pos c_11] at h
    refine v_iconstE (0 : Int32) dX6_isSpelledAt_27 (by decide) ?_
    cases h
    exact v_zret dX6_isSpelledAt_28 rfl rfl (by decide) (by decide) (by rw [← hQ]; exact ⟨rfl, rfl, rfl, rfl, rfl⟩)
  · rw [if_neg c_11] at h
    refine v_iconstE (1 : Int32) dX6_isSpelledAt_35 (by decide) ?_
    cases h
    exact v_zret dX6_isSpelledAt_36 rfl rfl (by decide) (by decide) (by rw [← hQ]; exact ⟨rfl, rfl, rfl, rfl, rfl⟩)

def f_X6_wordToken_J10_66 (S : v_S) (I : v_I) (w0 : Nat) (w1 : Int32) (w2 : Int32) (y3 : Int32) (y4 : Int32) (y5 : Int32) : Option ((Int32 × Int32 × Int32) ⊕ (Nat × (Int32 × Int32 × Int32))) :=
p_let (y5 + (1 : Int32)) fun x_5 =>
some (.inl (y3, y4, x_5))
def f_X6_wordToken_J10_57 (S : v_S) (I : v_I) (w0 : Nat) (w1 : Int32) (w2 : Int32) (y3 : Int32) (y5 : Int32) : Option ((Int32 × Int32 × Int32) ⊕ (Nat × (Int32 × Int32 × Int32))) :=
p_let (y3 + (1 : Int32)) fun x_8 =>
p_let (y5 + (1 : Int32)) fun x_10 =>
f_X6_wordToken_J10_66 S I w0 w1 w2 x_8 x_10 y5
def f_X6_wordToken_B10 (S : v_S) (I : v_I) (w0 : Nat) (w1 : Int32) (w2 : Int32) (s10 : Int32 × Int32 × Int32) : Option ((Int32 × Int32 × Int32) ⊕ (Nat × (Int32 × Int32 × Int32))) :=
if (123 : Int32) ≤ s10.2.2 then (
some (.inr (1, (s10.1, s10.2.1, s10.2.2))))
else (
(p_wd s10.2.2).bind fun x_2 =>
if x_2 = (32 : Int32) then (
if (s10.2.2 - s10.2.1) = (w2 - w1) then (
(f_X6_isSpelledAt S I w0 w1 s10.2.1 s10.2.2).bind fun r_12 =>
if r_12 = (0 : Int32) then (
f_X6_wordToken_J10_57 S I w0 w1 w2 s10.1 s10.2.2)
else (
some (.inr (0, (s10.1, s10.2.1, s10.2.2)))))
else (
f_X6_wordToken_J10_57 S I w0 w1 w2 s10.1 s10.2.2))
else (
f_X6_wordToken_J10_66 S I w0 w1 w2 s10.1 s10.2.1 s10.2.2))
def f_X6_wordToken (S : v_S) (I : v_I) (p0 : Nat) (p1 : Int32) (p2 : Int32) : Option (Int32) :=
(v_loop (f_X6_wordToken_B10 S I p0 p1 p2) FU ((256 : Int32), (0 : Int32), (0 : Int32))).bind fun q_15 =>
if q_15.1 = 0 then (
some (q_15.2.1))
else (
some ((-2 : Int32)))
set_option maxHeartbeats 4000000 in
set_option maxRecDepth 100000 in
theorem t_X6_wordToken {p0 : Nat} {p1 : Int32} {p2 : Int32} {r : Int32} (h : f_X6_wordToken S I p0 p1 p2 = some r) : v_R l B D ac (v_EE B wa wb wt sb sL sx) yX6_wordToken cX6_wordToken 6 (some .int) 9 0 0 [.ref (B + p0), .int p1, .int p2] S I J F (v_D (some (.int r)) S I J F) := by
  refine v_R.of (by decide) (Nat.le_of_ble_eq_true rfl) fun d hd => ?_
  generalize hQ : v_D (some (.int r)) S I J F = Q
  have b10 : ∀ (w0 : Nat) (w1 : Int32) (w2 : Int32) (s10 : Int32 × Int32 × Int32) (rx10 : (Int32 × Int32 × Int32) ⊕ (Nat × (Int32 × Int32 × Int32))), f_X6_wordToken_B10 S I w0 w1 w2 s10 = some rx10 → v_K (fun (sP : Int32 × Int32 × Int32) => V l B D ac (v_EE B wa wb wt sb sL sx) yX6_wordToken cX6_wordToken 6 (some .int) d 0 0 0 0 S I J F 10 [(0, .ref (B + w0)), (1, .int w1), (2, .int w2), (3, .int sP.1), (4, .int sP.2.1), (5, .int sP.2.2)] [] Q) (fun (rE : Nat × (Int32 × Int32 × Int32)) => (rE.1 = 0 → V l B D ac (v_EE B wa wb wt sb sL sx) yX6_wordToken cX6_wordToken 6 (some .int) d 0 0 0 0 S I J F 55 [(3, .int rE.2.1)] [] Q) ∧ (¬ rE.1 = 0 → V l B D ac (v_EE B wa wb wt sb sL sx) yX6_wordToken cX6_wordToken 6 (some .int) d 0 0 0 0 S I J F 72 [] [] Q)) rx10 → V l B D ac (v_EE B wa wb wt sb sL sx) yX6_wordToken cX6_wordToken 6 (some .int) d 0 0 0 0 S I J F 10 [(0, .ref (B + w0)), (1, .int w1), (2, .int w2), (3, .int s10.1), (4, .int s10.2.1), (5, .int s10.2.2)] [] Q := by
    intro w0 w1 w2 s10 rx10 h hk
    have j66 : ∀ (y3 : Int32) (y4 : Int32) (y5 : Int32), f_X6_wordToken_J10_66 S I w0 w1 w2 y3 y4 y5 = some rx10 → V l B D ac (v_EE B wa wb wt sb sL sx) yX6_wordToken cX6_wordToken 6 (some .int) d 0 0 0 0 S I J F 66 [(0, .ref (B + w0)), (1, .int w1), (2, .int w2), (3, .int y3), (4, .int y4), (5, .int y5)] [] Q := by
      intro y3 y4 y5 h
      unfold f_X6_wordToken_J10_66 at h
      replace h := p_let_elim h
      obtain ⟨x_5, h_6, h⟩ := h
      refine v_iincE (1 : Int32) dX6_wordToken_66 (by decide) rfl (by decide) ?_
      rw [← h_6]
      refine v_sub [(0, .ref (B + w0)), (1, .int w1), (2, .int w2), (3, .int y3), (4, .int y4), (5, .int x_5)] ⟨rfl, rfl, rfl, rfl, rfl, rfl, trivial⟩ ?_
      refine v_goto 10 dX6_wordToken_69 (by decide) ?_
      cases h
      refine v_sub [(0, .ref (B + w0)), (1, .int w1), (2, .int w2), (3, .int y3), (4, .int y4), (5, .int x_5)] ⟨rfl, rfl, rfl, rfl, rfl, rfl, trivial⟩ ?_
      exact hk
    have j57 : ∀ (y3 : Int32) (y5 : Int32), f_X6_wordToken_J10_57 S I w0 w1 w2 y3 y5 = some rx10 → V l B D ac (v_EE B wa wb wt sb sL sx) yX6_wordToken cX6_wordToken 6 (some .int) d 0 0 0 0 S I J F 57 [(0, .ref (B + w0)), (1, .int w1), (2, .int w2), (3, .int y3), (5, .int y5)] [] Q := by
      intro y3 y5 h
      unfold f_X6_wordToken_J10_57 at h
      replace h := p_let_elim h
      obtain ⟨x_8, h_9, h⟩ := h
      refine v_iincE (1 : Int32) dX6_wordToken_57 (by decide) rfl (by decide) ?_
      rw [← h_9]
      refine v_sub [(0, .ref (B + w0)), (1, .int w1), (2, .int w2), (3, .int x_8), (5, .int y5)] ⟨rfl, rfl, rfl, rfl, rfl, trivial⟩ ?_
      refine v_iload dX6_wordToken_60 rfl ?_
      refine v_iconstE (1 : Int32) dX6_wordToken_62 (by decide) ?_
      refine v_iadd dX6_wordToken_63 ?_
      replace h := p_let_elim h
      obtain ⟨x_10, h_11, h⟩ := h
      rw [← h_11]
      refine v_istore dX6_wordToken_64 (by decide) ?_
      refine v_sub [(0, .ref (B + w0)), (1, .int w1), (2, .int w2), (3, .int x_8), (4, .int x_10), (5, .int y5)] ⟨rfl, rfl, rfl, rfl, rfl, rfl, trivial⟩ ?_
      refine v_sub [(0, .ref (B + w0)), (1, .int w1), (2, .int w2), (3, .int x_8), (4, .int x_10), (5, .int y5)] ⟨rfl, rfl, rfl, rfl, rfl, rfl, trivial⟩ ?_
      exact j66 _ _ _ h
    unfold f_X6_wordToken_B10 at h
    refine v_iload dX6_wordToken_10 rfl ?_
    refine v_ldcW dX6_wordToken_12 rfl ?_
    refine v_lenW dX6_wordToken_14 rfl (by omega) (by omega) (by omega) (Nat.le_of_ble_eq_true rfl) ?_
    refine v_icmp_ge 72 dX6_wordToken_17 (by decide) (fun c_1 => ?_) (fun c_1 => ?_)
    · rw [if_pos c_1] at h
      cases h
      refine v_sub [] trivial ?_
      exact (hk.2 (Nat.succ_ne_zero _))
    · rw [if_neg c_1] at h
      refine v_ldcW dX6_wordToken_20 rfl ?_
      refine v_iload dX6_wordToken_22 rfl ?_
      replace h := p_bind_elim h
      obtain ⟨x_2, q_3, h⟩ := h
      refine v_chW dX6_wordToken_24 q_3 rfl (by omega) (by omega) (by omega) (Nat.le_of_ble_eq_true rfl) ?_
      refine v_bipush (32 : Int32) dX6_wordToken_27 (by decide) ?_
      refine v_icmp_ne 66 dX6_wordToken_29 (by decide) (fun c_4 => ?_) (fun c_4 => ?_)
      · rw [if_neg c_4] at h
        refine v_sub [(0, .ref (B + w0)), (1, .int w1), (2, .int w2), (3, .int s10.1), (4, .int s10.2.1), (5, .int s10.2.2)] ⟨rfl, rfl, rfl, rfl, rfl, rfl, trivial⟩ ?_
        exact j66 _ _ _ h
      · rw [if_pos c_4] at h
        refine v_iload dX6_wordToken_32 rfl ?_
        refine v_iload dX6_wordToken_34 rfl ?_
        refine v_isub dX6_wordToken_36 ?_
        refine v_iload_n dX6_wordToken_37 rfl ?_
        refine v_iload_n dX6_wordToken_38 rfl ?_
        refine v_isub dX6_wordToken_39 ?_
        refine v_icmp_ne 57 dX6_wordToken_40 (by decide) (fun c_7 => ?_) (fun c_7 => ?_)
        · rw [if_neg c_7] at h
          refine v_sub [(0, .ref (B + w0)), (1, .int w1), (2, .int w2), (3, .int s10.1), (5, .int s10.2.2)] ⟨rfl, rfl, rfl, rfl, rfl, trivial⟩ ?_
          exact j57 _ _ h
        · rw [if_pos c_7] at h
          refine v_aload_n dX6_wordToken_43 rfl ?_
          refine v_iload_n dX6_wordToken_44 rfl ?_
          refine v_iload dX6_wordToken_45 rfl ?_
          refine v_iload dX6_wordToken_47 rfl ?_
          replace h := p_bind_elim h
          obtain ⟨r_12, q_13, h⟩ := h
          refine v_cSr (t_X6_isSpelledAt q_13) cal_X6_isSpelledAt ml_X6_105 sta_X6_isSpelledAt dX6_wordToken_49 (by omega) (by decide) (by decide) (Nat.le_of_ble_eq_true rfl) rfl ?_
          refine v_if_eq 57 dX6_wordToken_52 (by decide) (fun c_14 => ?_) (fun c_14 => ?_)
          · rw [if_pos c_14] at h
            refine v_sub [(0, .ref (B + w0)), (1, .int w1), (2, .int w2), (3, .int s10.1), (5, .int s10.2.2)] ⟨rfl, rfl, rfl, rfl, rfl, trivial⟩ ?_
            exact j57 _ _ h
          · rw [if_neg c_14] at h
            cases h
            refine v_sub [(3, .int s10.1)] ⟨rfl, trivial⟩ ?_
            exact hk.1 rfl
  unfold f_X6_wordToken at h
  refine v_sub [(0, .ref (B + p0)), (1, .int p1), (2, .int p2)] ⟨rfl, rfl, rfl, trivial⟩ ?_
  refine v_sipush (256 : Int32) dX6_wordToken_0 (by decide) ?_
  refine v_istore_n dX6_wordToken_3 (by decide) ?_
  refine v_sub [(0, .ref (B + p0)), (1, .int p1), (2, .int p2), (3, .int (256 : Int32))] ⟨rfl, rfl, rfl, rfl, trivial⟩ ?_
  refine v_iconstE (0 : Int32) dX6_wordToken_4 (by decide) ?_
  refine v_istore dX6_wordToken_5 (by decide) ?_
  refine v_sub [(0, .ref (B + p0)), (1, .int p1), (2, .int p2), (3, .int (256 : Int32)), (4, .int (0 : Int32))] ⟨rfl, rfl, rfl, rfl, rfl, trivial⟩ ?_
  refine v_iconstE (0 : Int32) dX6_wordToken_7 (by decide) ?_
  refine v_istore dX6_wordToken_8 (by decide) ?_
  refine v_sub [(0, .ref (B + p0)), (1, .int p1), (2, .int p2), (3, .int (256 : Int32)), (4, .int (0 : Int32)), (5, .int (0 : Int32))] ⟨rfl, rfl, rfl, rfl, rfl, rfl, trivial⟩ ?_
  replace h := p_bind_elim h
  obtain ⟨q_15, h_16, h⟩ := h
  refine v_sub [(0, .ref (B + p0)), (1, .int p1), (2, .int p2), (3, .int (256 : Int32)), (4, .int (0 : Int32)), (5, .int (0 : Int32))] ⟨rfl, rfl, rfl, rfl, rfl, rfl, trivial⟩ ?_
  refine v_loopV (fun (sP : Int32 × Int32 × Int32) => V l B D ac (v_EE B wa wb wt sb sL sx) yX6_wordToken cX6_wordToken 6 (some .int) d 0 0 0 0 S I J F 10 [(0, .ref (B + p0)), (1, .int p1), (2, .int p2), (3, .int sP.1), (4, .int sP.2.1), (5, .int sP.2.2)] [] Q) (fun (rE : Nat × (Int32 × Int32 × Int32)) => (rE.1 = 0 → V l B D ac (v_EE B wa wb wt sb sL sx) yX6_wordToken cX6_wordToken 6 (some .int) d 0 0 0 0 S I J F 55 [(3, .int rE.2.1)] [] Q) ∧ (¬ rE.1 = 0 → V l B D ac (v_EE B wa wb wt sb sL sx) yX6_wordToken cX6_wordToken 6 (some .int) d 0 0 0 0 S I J F 72 [] [] Q)) (fun s_ x_ hb hk => b10 _ _ _ s_ x_ hb hk) (r := q_15) ?_ h_16
  try dsimp only
  refine ⟨fun c_17 => ?_, fun c_17 => ?_⟩
  · rw [if_pos c_17] at h
    refine v_iload_n dX6_wordToken_55 rfl ?_
    cases h
    exact v_iret dX6_wordToken_56 rfl (by decide) (by decide) (by rw [← hQ]; exact ⟨rfl, rfl, rfl, rfl, rfl⟩)
  · rw [if_neg c_17] at h
    refine v_bipush (-2 : Int32) dX6_wordToken_72 (by decide) ?_
    cases h
    exact v_iret dX6_wordToken_74 rfl (by decide) (by decide) (by rw [← hQ]; exact ⟨rfl, rfl, rfl, rfl, rfl⟩)

def f_X6_splitTokens_J7_139 (S : v_S) (F : v_F) (w0 : Nat) (w1 : Nat) (w2 : Int32) (I : v_I) (y3 : Int32) : Option ((Int32 × v_I) ⊕ (Int32 × v_I)) :=
some (.inl (y3, I))
def f_X6_splitTokens_B84 (S : v_S) (F : v_F) (I : v_I) (w0 : Nat) (w1 : Nat) (w2 : Int32) (w4 : Int32) (s84 : Int32) : Option ((Int32) ⊕ (Int32)) :=
if w2 ≤ s84 then (
some (.inr s84))
else (
(p_ix S 20 w1 s84).bind fun j_27 =>
(f_X6_isDigit (I w1 j_27)).bind fun r_29 =>
if r_29 = (0 : Int32) then (
some (.inr s84))
else (
p_let (s84 + (1 : Int32)) fun x_32 =>
some (.inl x_32)))
def f_X6_splitTokens_J7_104 (S : v_S) (F : v_F) (w0 : Nat) (w1 : Nat) (w2 : Int32) (I : v_I) (y3 : Int32) (y4 : Int32) : Option ((Int32 × v_I) ⊕ (Int32 × v_I)) :=
(f_X6_numberToken S I w1 y4 y3).bind fun r_36 =>
(p_ob S 6 w0).bind fun _ =>
(f_X6_addToken S I F w0 y4 r_36).bind fun r_38 =>
f_X6_splitTokens_J7_139 S F w0 w1 w2 r_38 y3
def f_X6_splitTokens_B38 (S : v_S) (F : v_F) (I : v_I) (w0 : Nat) (w1 : Nat) (w2 : Int32) (w4 : Int32) (s38 : Int32) : Option ((Int32) ⊕ (Int32)) :=
if w2 ≤ s38 then (
some (.inr s38))
else (
(p_ix S 20 w1 s38).bind fun j_42 =>
(f_X6_isLetter (I w1 j_42)).bind fun r_44 =>
if r_44 = (0 : Int32) then (
some (.inr s38))
else (
p_let (s38 + (1 : Int32)) fun x_47 =>
some (.inl x_47)))
def f_X6_splitTokens_J7_58 (S : v_S) (F : v_F) (w0 : Nat) (w1 : Nat) (w2 : Int32) (I : v_I) (y3 : Int32) (y4 : Int32) : Option ((Int32 × v_I) ⊕ (Int32 × v_I)) :=
(f_X6_wordToken S I w1 y4 y3).bind fun r_51 =>
(p_ob S 6 w0).bind fun _ =>
(f_X6_addToken S I F w0 y4 r_51).bind fun r_53 =>
f_X6_splitTokens_J7_139 S F w0 w1 w2 r_53 y3
def f_X6_splitTokens_B7 (S : v_S) (F : v_F) (w0 : Nat) (w1 : Nat) (w2 : Int32) (s7 : Int32 × v_I) : Option ((Int32 × v_I) ⊕ (Int32 × v_I)) :=
if w2 ≤ s7.1 then (
some (.inr (s7.1, s7.2)))
else (
(p_ob S 6 w0).bind fun _ =>
if (400 : Int32) ≤ (s7.2 w0 3) then (
some (.inr (s7.1, s7.2)))
else (
p_let (s7.1 + (1 : Int32)) fun x_7 =>
(p_ix S 20 w1 s7.1).bind fun j_9 =>
(f_X6_isLetter (s7.2 w1 j_9)).bind fun r_11 =>
if r_11 = (0 : Int32) then (
(p_ix S 20 w1 s7.1).bind fun j_14 =>
(f_X6_isDigit (s7.2 w1 j_14)).bind fun r_16 =>
if r_16 = (0 : Int32) then (
(p_ix S 20 w1 s7.1).bind fun j_19 =>
if (s7.2 w1 j_19) = (32 : Int32) then (
f_X6_splitTokens_J7_139 S F w0 w1 w2 s7.2 x_7)
else (
(p_ix S 20 w1 s7.1).bind fun j_22 =>
(f_X6_addToken S s7.2 F w0 s7.1 (s7.2 w1 j_22)).bind fun r_24 =>
f_X6_splitTokens_J7_139 S F w0 w1 w2 r_24 x_7))
else (
(v_loop (f_X6_splitTokens_B84 S F s7.2 w0 w1 w2 s7.1) FU x_7).bind fun q_34 =>
f_X6_splitTokens_J7_104 S F w0 w1 w2 s7.2 q_34 s7.1))
else (
(v_loop (f_X6_splitTokens_B38 S F s7.2 w0 w1 w2 s7.1) FU x_7).bind fun q_49 =>
f_X6_splitTokens_J7_58 S F w0 w1 w2 s7.2 q_49 s7.1)))
def f_X6_splitTokens_J142 (S : v_S) (F : v_F) (I : v_I) (y0 : Nat) (y2 : Int32) : Option (v_I) :=
(p_ob S 6 y0).bind fun _ =>
(F y0 1).bind fun a_59 =>
(p_ix S 20 a_59 (I y0 3)).bind fun j_61 =>
p_let (v_up I a_59 j_61 (-2 : Int32)) fun I_63 =>
(F y0 2).bind fun a_65 =>
(p_ix S 20 a_65 (I_63 y0 3)).bind fun j_67 =>
p_let (v_up I_63 a_65 j_67 y2) fun I_69 =>
some (I_69)
def f_X6_splitTokens (S : v_S) (I : v_I) (F : v_F) (p0 : Nat) (p1 : Nat) (p2 : Int32) : Option (v_I) :=
(p_ob S 6 p0).bind fun _ =>
p_let (v_up I p0 3 (0 : Int32)) fun I_2 =>
(v_loop (f_X6_splitTokens_B7 S F p0 p1 p2) FU ((0 : Int32), I_2)).bind fun q_56 =>
f_X6_splitTokens_J142 S F q_56.2 p0 p2
set_option maxHeartbeats 4000000 in
set_option maxRecDepth 100000 in
theorem t_X6_splitTokens {p0 : Nat} {p1 : Nat} {p2 : Int32} {r : v_I} (h : f_X6_splitTokens S I F p0 p1 p2 = some r) : v_R l B D ac (v_EE B wa wb wt sb sL sx) yX6_splitTokens cX6_splitTokens 5 none 10 0 0 [.ref (B + p0), .ref (B + p1), .int p2] S I J F (v_D none S r J F) := by
  refine v_R.of (by decide) (Nat.le_of_ble_eq_true rfl) fun d hd => ?_
  generalize hQ : v_D none S r J F = Q
  have b7 : ∀ (w0 : Nat) (w1 : Nat) (w2 : Int32) (s7 : Int32 × v_I) (rx7 : (Int32 × v_I) ⊕ (Int32 × v_I)), f_X6_splitTokens_B7 S F w0 w1 w2 s7 = some rx7 → v_K (fun (sP : Int32 × v_I) => V l B D ac (v_EE B wa wb wt sb sL sx) yX6_splitTokens cX6_splitTokens 5 none d 0 0 0 0 S sP.2 J F 7 [(0, .ref (B + w0)), (1, .ref (B + w1)), (2, .int w2), (3, .int sP.1)] [] Q) (fun (rE : Int32 × v_I) => V l B D ac (v_EE B wa wb wt sb sL sx) yX6_splitTokens cX6_splitTokens 5 none d 0 0 0 0 S rE.2 J F 142 [(0, .ref (B + w0)), (2, .int w2)] [] Q) rx7 → V l B D ac (v_EE B wa wb wt sb sL sx) yX6_splitTokens cX6_splitTokens 5 none d 0 0 0 0 S s7.2 J F 7 [(0, .ref (B + w0)), (1, .ref (B + w1)), (2, .int w2), (3, .int s7.1)] [] Q := by
    intro w0 w1 w2 s7 rx7 h hk
    have j139 : ∀ (I : v_I) (y3 : Int32), f_X6_splitTokens_J7_139 S F w0 w1 w2 I y3 = some rx7 → V l B D ac (v_EE B wa wb wt sb sL sx) yX6_splitTokens cX6_splitTokens 5 none d 0 0 0 0 S I J F 139 [(0, .ref (B + w0)), (1, .ref (B + w1)), (2, .int w2), (3, .int y3)] [] Q := by
      intro I y3 h
      unfold f_X6_splitTokens_J7_139 at h
      refine v_goto 7 dX6_splitTokens_139 (by decide) ?_
      cases h
      refine v_sub [(0, .ref (B + w0)), (1, .ref (B + w1)), (2, .int w2), (3, .int y3)] ⟨rfl, rfl, rfl, rfl, trivial⟩ ?_
      exact hk
    have b84 : ∀ (I : v_I) (w0 : Nat) (w1 : Nat) (w2 : Int32) (w4 : Int32) (s84 : Int32) (rx84 : (Int32) ⊕ (Int32)), f_X6_splitTokens_B84 S F I w0 w1 w2 w4 s84 = some rx84 → v_K (fun (sP : Int32) => V l B D ac (v_EE B wa wb wt sb sL sx) yX6_splitTokens cX6_splitTokens 5 none d 0 0 0 0 S I J F 84 [(0, .ref (B + w0)), (1, .ref (B + w1)), (2, .int w2), (3, .int sP), (4, .int w4)] [] Q) (fun (rE : Int32) => V l B D ac (v_EE B wa wb wt sb sL sx) yX6_splitTokens cX6_splitTokens 5 none d 0 0 0 0 S I J F 104 [(0, .ref (B + w0)), (1, .ref (B + w1)), (2, .int w2), (3, .int rE), (4, .int w4)] [] Q) rx84 → V l B D ac (v_EE B wa wb wt sb sL sx) yX6_splitTokens cX6_splitTokens 5 none d 0 0 0 0 S I J F 84 [(0, .ref (B + w0)), (1, .ref (B + w1)), (2, .int w2), (3, .int s84), (4, .int w4)] [] Q := by
      intro I w0 w1 w2 w4 s84 rx84 h hk
      unfold f_X6_splitTokens_B84 at h
      refine v_iload_n dX6_splitTokens_84 rfl ?_
      refine v_iload_n dX6_splitTokens_85 rfl ?_
      refine v_icmp_ge 104 dX6_splitTokens_86 (by decide) (fun c_26 => ?_) (fun c_26 => ?_)
      · rw [if_pos c_26] at h
        cases h
        refine v_sub [(0, .ref (B + w0)), (1, .ref (B + w1)), (2, .int w2), (3, .int s84), (4, .int w4)] ⟨rfl, rfl, rfl, rfl, rfl, trivial⟩ ?_
        exact hk
      · rw [if_neg c_26] at h
        refine v_aload_n dX6_splitTokens_89 rfl ?_
        refine v_iload_n dX6_splitTokens_90 rfl ?_
        replace h := p_bind_elim h
        obtain ⟨j_27, q_28, h⟩ := h
        refine v_ialdP dX6_splitTokens_91 q_28 ?_
        replace h := p_bind_elim h
        obtain ⟨r_29, q_30, h⟩ := h
        refine v_cSr (t_X6_isDigit q_30) cal_X6_isDigit ml_X6_87 sta_X6_isDigit dX6_splitTokens_92 (by omega) (by decide) (by decide) (Nat.le_of_ble_eq_true rfl) rfl ?_
        refine v_if_eq 104 dX6_splitTokens_95 (by decide) (fun c_31 => ?_) (fun c_31 => ?_)
        · rw [if_pos c_31] at h
          cases h
          refine v_sub [(0, .ref (B + w0)), (1, .ref (B + w1)), (2, .int w2), (3, .int s84), (4, .int w4)] ⟨rfl, rfl, rfl, rfl, rfl, trivial⟩ ?_
          exact hk
        · rw [if_neg c_31] at h
          replace h := p_let_elim h
          obtain ⟨x_32, h_33, h⟩ := h
          refine v_iincE (1 : Int32) dX6_splitTokens_98 (by decide) rfl (by decide) ?_
          rw [← h_33]
          refine v_sub [(0, .ref (B + w0)), (1, .ref (B + w1)), (2, .int w2), (3, .int x_32), (4, .int w4)] ⟨rfl, rfl, rfl, rfl, rfl, trivial⟩ ?_
          refine v_goto 84 dX6_splitTokens_101 (by decide) ?_
          cases h
          refine v_sub [(0, .ref (B + w0)), (1, .ref (B + w1)), (2, .int w2), (3, .int x_32), (4, .int w4)] ⟨rfl, rfl, rfl, rfl, rfl, trivial⟩ ?_
          exact hk
    have j104 : ∀ (I : v_I) (y3 : Int32) (y4 : Int32), f_X6_splitTokens_J7_104 S F w0 w1 w2 I y3 y4 = some rx7 → V l B D ac (v_EE B wa wb wt sb sL sx) yX6_splitTokens cX6_splitTokens 5 none d 0 0 0 0 S I J F 104 [(0, .ref (B + w0)), (1, .ref (B + w1)), (2, .int w2), (3, .int y3), (4, .int y4)] [] Q := by
      intro I y3 y4 h
      unfold f_X6_splitTokens_J7_104 at h
      refine v_aload_n dX6_splitTokens_104 rfl ?_
      refine v_iload dX6_splitTokens_105 rfl ?_
      refine v_aload_n dX6_splitTokens_107 rfl ?_
      refine v_iload dX6_splitTokens_108 rfl ?_
      refine v_iload_n dX6_splitTokens_110 rfl ?_
      replace h := p_bind_elim h
      obtain ⟨r_36, q_37, h⟩ := h
      refine v_cSr (t_X6_numberToken q_37) cal_X6_numberToken ml_X6_90 sta_X6_numberToken dX6_splitTokens_111 (by omega) (by decide) (by decide) (Nat.le_of_ble_eq_true rfl) rfl ?_
      replace h := p_bind_elim h
      obtain ⟨_, q_40, h⟩ := h
      have q_40 := p_ob_spec q_40
      replace h := p_bind_elim h
      obtain ⟨r_38, q_39, h⟩ := h
      refine v_cVn (t_X6_addToken q_39) cal_X6_addToken ml_X6_84 sel_X6_addToken q_40 kk_6 dX6_splitTokens_114 (by omega) (by decide) (by decide) (Nat.le_of_ble_eq_true rfl) rfl ?_
      refine v_goto 139 dX6_splitTokens_117 (by decide) ?_
      refine v_sub [(0, .ref (B + w0)), (1, .ref (B + w1)), (2, .int w2), (3, .int y3)] ⟨rfl, rfl, rfl, rfl, trivial⟩ ?_
      exact j139 _ _ h
    have b38 : ∀ (I : v_I) (w0 : Nat) (w1 : Nat) (w2 : Int32) (w4 : Int32) (s38 : Int32) (rx38 : (Int32) ⊕ (Int32)), f_X6_splitTokens_B38 S F I w0 w1 w2 w4 s38 = some rx38 → v_K (fun (sP : Int32) => V l B D ac (v_EE B wa wb wt sb sL sx) yX6_splitTokens cX6_splitTokens 5 none d 0 0 0 0 S I J F 38 [(0, .ref (B + w0)), (1, .ref (B + w1)), (2, .int w2), (3, .int sP), (4, .int w4)] [] Q) (fun (rE : Int32) => V l B D ac (v_EE B wa wb wt sb sL sx) yX6_splitTokens cX6_splitTokens 5 none d 0 0 0 0 S I J F 58 [(0, .ref (B + w0)), (1, .ref (B + w1)), (2, .int w2), (3, .int rE), (4, .int w4)] [] Q) rx38 → V l B D ac (v_EE B wa wb wt sb sL sx) yX6_splitTokens cX6_splitTokens 5 none d 0 0 0 0 S I J F 38 [(0, .ref (B + w0)), (1, .ref (B + w1)), (2, .int w2), (3, .int s38), (4, .int w4)] [] Q := by
      intro I w0 w1 w2 w4 s38 rx38 h hk
      unfold f_X6_splitTokens_B38 at h
      refine v_iload_n dX6_splitTokens_38 rfl ?_
      refine v_iload_n dX6_splitTokens_39 rfl ?_
      refine v_icmp_ge 58 dX6_splitTokens_40 (by decide) (fun c_41 => ?_) (fun c_41 => ?_)
      · rw [if_pos c_41] at h
        cases h
        refine v_sub [(0, .ref (B + w0)), (1, .ref (B + w1)), (2, .int w2), (3, .int s38), (4, .int w4)] ⟨rfl, rfl, rfl, rfl, rfl, trivial⟩ ?_
        exact hk
      · rw [if_neg c_41] at h
        refine v_aload_n dX6_splitTokens_43 rfl ?_
        refine v_iload_n dX6_splitTokens_44 rfl ?_
        replace h := p_bind_elim h
        obtain ⟨j_42, q_43, h⟩ := h
        refine v_ialdP dX6_splitTokens_45 q_43 ?_
        replace h := p_bind_elim h
        obtain ⟨r_44, q_45, h⟩ := h
        refine v_cSr (t_X6_isLetter q_45) cal_X6_isLetter ml_X6_76 sta_X6_isLetter dX6_splitTokens_46 (by omega) (by decide) (by decide) (Nat.le_of_ble_eq_true rfl) rfl ?_
        refine v_if_eq 58 dX6_splitTokens_49 (by decide) (fun c_46 => ?_) (fun c_46 => ?_)
        · rw [if_pos c_46] at h
          cases h
          refine v_sub [(0, .ref (B + w0)), (1, .ref (B + w1)), (2, .int w2), (3, .int s38), (4, .int w4)] ⟨rfl, rfl, rfl, rfl, rfl, trivial⟩ ?_
          exact hk
        · rw [if_neg c_46] at h
          replace h := p_let_elim h
          obtain ⟨x_47, h_48, h⟩ := h
          refine v_iincE (1 : Int32) dX6_splitTokens_52 (by decide) rfl (by decide) ?_
          rw [← h_48]
          refine v_sub [(0, .ref (B + w0)), (1, .ref (B + w1)), (2, .int w2), (3, .int x_47), (4, .int w4)] ⟨rfl, rfl, rfl, rfl, rfl, trivial⟩ ?_
          refine v_goto 38 dX6_splitTokens_55 (by decide) ?_
          cases h
          refine v_sub [(0, .ref (B + w0)), (1, .ref (B + w1)), (2, .int w2), (3, .int x_47), (4, .int w4)] ⟨rfl, rfl, rfl, rfl, rfl, trivial⟩ ?_
          exact hk
    have j58 : ∀ (I : v_I) (y3 : Int32) (y4 : Int32), f_X6_splitTokens_J7_58 S F w0 w1 w2 I y3 y4 = some rx7 → V l B D ac (v_EE B wa wb wt sb sL sx) yX6_splitTokens cX6_splitTokens 5 none d 0 0 0 0 S I J F 58 [(0, .ref (B + w0)), (1, .ref (B + w1)), (2, .int w2), (3, .int y3), (4, .int y4)] [] Q := by
      intro I y3 y4 h
      unfold f_X6_splitTokens_J7_58 at h
      refine v_aload_n dX6_splitTokens_58 rfl ?_
      refine v_iload dX6_splitTokens_59 rfl ?_
      refine v_aload_n dX6_splitTokens_61 rfl ?_
      refine v_iload dX6_splitTokens_62 rfl ?_
      refine v_iload_n dX6_splitTokens_64 rfl ?_
      replace h := p_bind_elim h
      obtain ⟨r_51, q_52, h⟩ := h
      refine v_cSr (t_X6_wordToken q_52) cal_X6_wordToken ml_X6_80 sta_X6_wordToken dX6_splitTokens_65 (by omega) (by decide) (by decide) (Nat.le_of_ble_eq_true rfl) rfl ?_
      replace h := p_bind_elim h
      obtain ⟨_, q_55, h⟩ := h
      have q_55 := p_ob_spec q_55
      replace h := p_bind_elim h
      obtain ⟨r_53, q_54, h⟩ := h
      refine v_cVn (t_X6_addToken q_54) cal_X6_addToken ml_X6_84 sel_X6_addToken q_55 kk_6 dX6_splitTokens_68 (by omega) (by decide) (by decide) (Nat.le_of_ble_eq_true rfl) rfl ?_
      refine v_goto 139 dX6_splitTokens_71 (by decide) ?_
      refine v_sub [(0, .ref (B + w0)), (1, .ref (B + w1)), (2, .int w2), (3, .int y3)] ⟨rfl, rfl, rfl, rfl, trivial⟩ ?_
      exact j139 _ _ h
    unfold f_X6_splitTokens_B7 at h
    refine v_iload_n dX6_splitTokens_7 rfl ?_
    refine v_iload_n dX6_splitTokens_8 rfl ?_
    refine v_icmp_ge 142 dX6_splitTokens_9 (by decide) (fun c_4 => ?_) (fun c_4 => ?_)
    · rw [if_pos c_4] at h
      cases h
      refine v_sub [(0, .ref (B + w0)), (2, .int w2)] ⟨rfl, rfl, trivial⟩ ?_
      exact hk
    · rw [if_neg c_4] at h
      refine v_aload_n dX6_splitTokens_12 rfl ?_
      replace h := p_bind_elim h
      obtain ⟨_, q_5, h⟩ := h
      have q_5 := p_ob_spec q_5
      refine v_getI rfl fl_X6_27 dX6_splitTokens_13 q_5 ?_
      refine v_sipush (400 : Int32) dX6_splitTokens_16 (by decide) ?_
      refine v_icmp_ge 142 dX6_splitTokens_19 (by decide) (fun c_6 => ?_) (fun c_6 => ?_)
      · rw [if_pos c_6] at h
        cases h
        refine v_sub [(0, .ref (B + w0)), (2, .int w2)] ⟨rfl, rfl, trivial⟩ ?_
        exact hk
      · rw [if_neg c_6] at h
        refine v_iload_n dX6_splitTokens_22 rfl ?_
        refine v_istore dX6_splitTokens_23 (by decide) ?_
        refine v_sub [(0, .ref (B + w0)), (1, .ref (B + w1)), (2, .int w2), (3, .int s7.1), (4, .int s7.1)] ⟨rfl, rfl, rfl, rfl, rfl, trivial⟩ ?_
        replace h := p_let_elim h
        obtain ⟨x_7, h_8, h⟩ := h
        refine v_iincE (1 : Int32) dX6_splitTokens_25 (by decide) rfl (by decide) ?_
        rw [← h_8]
        refine v_sub [(0, .ref (B + w0)), (1, .ref (B + w1)), (2, .int w2), (3, .int x_7), (4, .int s7.1)] ⟨rfl, rfl, rfl, rfl, rfl, trivial⟩ ?_
        refine v_aload_n dX6_splitTokens_28 rfl ?_
        refine v_iload dX6_splitTokens_29 rfl ?_
        replace h := p_bind_elim h
        obtain ⟨j_9, q_10, h⟩ := h
        refine v_ialdP dX6_splitTokens_31 q_10 ?_
        replace h := p_bind_elim h
        obtain ⟨r_11, q_12, h⟩ := h
        refine v_cSr (t_X6_isLetter q_12) cal_X6_isLetter ml_X6_76 sta_X6_isLetter dX6_splitTokens_32 (by omega) (by decide) (by decide) (Nat.le_of_ble_eq_true rfl) rfl ?_
        refine v_if_eq 74 dX6_splitTokens_35 (by decide) (fun c_13 => ?_) (fun c_13 => ?_)
        · rw [if_pos c_13] at h
          refine v_aload_n dX6_splitTokens_74 rfl ?_
          refine v_iload dX6_splitTokens_75 rfl ?_
          replace h := p_bind_elim h
          obtain ⟨j_14, q_15, h⟩ := h
          refine v_ialdP dX6_splitTokens_77 q_15 ?_
          replace h := p_bind_elim h
          obtain ⟨r_16, q_17, h⟩ := h
          refine v_cSr (t_X6_isDigit q_17) cal_X6_isDigit ml_X6_87 sta_X6_isDigit dX6_splitTokens_78 (by omega) (by decide) (by decide) (Nat.le_of_ble_eq_true rfl) rfl ?_
          refine v_if_eq 120 dX6_splitTokens_81 (by decide) (fun c_18 => ?_) (fun c_18 => ?_)
          · rw [if_pos c_18] at h
            refine v_aload_n dX6_splitTokens_120 rfl ?_
            refine v_iload dX6_splitTokens_121 rfl ?_
            replace h := p_bind_elim h
            obtain ⟨j_19, q_20, h⟩ := h
            refine v_ialdP dX6_splitTokens_123 q_20 ?_
            refine v_bipush (32 : Int32) dX6_splitTokens_124 (by decide) ?_
            refine v_icmp_eq 139 dX6_splitTokens_126 (by decide) (fun c_21 => ?_) (fun c_21 => ?_)
            · rw [if_pos c_21] at h
              refine v_sub [(0, .ref (B + w0)), (1, .ref (B + w1)), (2, .int w2), (3, .int x_7)] ⟨rfl, rfl, rfl, rfl, trivial⟩ ?_
              exact j139 _ _ h
            · rw [if_neg c_21] at h
              refine v_aload_n dX6_splitTokens_129 rfl ?_
              refine v_iload dX6_splitTokens_130 rfl ?_
              refine v_aload_n dX6_splitTokens_132 rfl ?_
              refine v_iload dX6_splitTokens_133 rfl ?_
              replace h := p_bind_elim h
              obtain ⟨j_22, q_23, h⟩ := h
              refine v_ialdP dX6_splitTokens_135 q_23 ?_
              replace h := p_bind_elim h
              obtain ⟨r_24, q_25, h⟩ := h
              refine v_cVn (t_X6_addToken q_25) cal_X6_addToken ml_X6_84 sel_X6_addToken q_5 kk_6 dX6_splitTokens_136 (by omega) (by decide) (by decide) (Nat.le_of_ble_eq_true rfl) rfl ?_
              refine v_sub [(0, .ref (B + w0)), (1, .ref (B + w1)), (2, .int w2), (3, .int x_7)] ⟨rfl, rfl, rfl, rfl, trivial⟩ ?_
              exact j139 _ _ h
          · rw [if_neg c_18] at h
            replace h := p_bind_elim h
            obtain ⟨q_34, h_35, h⟩ := h
            refine v_sub [(0, .ref (B + w0)), (1, .ref (B + w1)), (2, .int w2), (3, .int x_7), (4, .int s7.1)] ⟨rfl, rfl, rfl, rfl, rfl, trivial⟩ ?_
            refine v_loopV (fun (sP : Int32) => V l B D ac (v_EE B wa wb wt sb sL sx) yX6_splitTokens cX6_splitTokens 5 none d 0 0 0 0 S s7.2 J F 84 [(0, .ref (B + w0)), (1, .ref (B + w1)), (2, .int w2), (3, .int sP), (4, .int s7.1)] [] Q) (fun (rE : Int32) => V l B D ac (v_EE B wa wb wt sb sL sx) yX6_splitTokens cX6_splitTokens 5 none d 0 0 0 0 S s7.2 J F 104 [(0, .ref (B + w0)), (1, .ref (B + w1)), (2, .int w2), (3, .int rE), (4, .int s7.1)] [] Q) (fun s_ x_ hb hk => b84 _ _ _ _ _ s_ x_ hb hk) (r := q_34) ?_ h_35
            try dsimp only
            refine v_sub [(0, .ref (B + w0)), (1, .ref (B + w1)), (2, .int w2), (3, .int q_34), (4, .int s7.1)] ⟨rfl, rfl, rfl, rfl, rfl, trivial⟩ ?_
            exact j104 _ _ _ h
        · rw [if_neg c_13] at h
          replace h := p_bind_elim h
          obtain ⟨q_49, h_50, h⟩ := h
          refine v_sub [(0, .ref (B + w0)), (1, .ref (B + w1)), (2, .int w2), (3, .int x_7), (4, .int s7.1)] ⟨rfl, rfl, rfl, rfl, rfl, trivial⟩ ?_
          refine v_loopV (fun (sP : Int32) => V l B D ac (v_EE B wa wb wt sb sL sx) yX6_splitTokens cX6_splitTokens 5 none d 0 0 0 0 S s7.2 J F 38 [(0, .ref (B + w0)), (1, .ref (B + w1)), (2, .int w2), (3, .int sP), (4, .int s7.1)] [] Q) (fun (rE : Int32) => V l B D ac (v_EE B wa wb wt sb sL sx) yX6_splitTokens cX6_splitTokens 5 none d 0 0 0 0 S s7.2 J F 58 [(0, .ref (B + w0)), (1, .ref (B + w1)), (2, .int w2), (3, .int rE), (4, .int s7.1)] [] Q) (fun s_ x_ hb hk => b38 _ _ _ _ _ s_ x_ hb hk) (r := q_49) ?_ h_50
          try dsimp only
          refine v_sub [(0, .ref (B + w0)), (1, .ref (B + w1)), (2, .int w2), (3, .int q_49), (4, .int s7.1)] ⟨rfl, rfl, rfl, rfl, rfl, trivial⟩ ?_
          exact j58 _ _ _ h
  have j142 : ∀ (I : v_I) (y0 : Nat) (y2 : Int32), f_X6_splitTokens_J142 S F I y0 y2 = some r → V l B D ac (v_EE B wa wb wt sb sL sx) yX6_splitTokens cX6_splitTokens 5 none d 0 0 0 0 S I J F 142 [(0, .ref (B + y0)), (2, .int y2)] [] Q := by
    intro I y0 y2 h
    unfold f_X6_splitTokens_J142 at h
    refine v_aload_n dX6_splitTokens_142 rfl ?_
    replace h := p_bind_elim h
    obtain ⟨_, q_58, h⟩ := h
    have q_58 := p_ob_spec q_58
    replace h := p_bind_elim h
    obtain ⟨a_59, q_60, h⟩ := h
    refine v_getR q_60 rfl fl_X6_20 dX6_splitTokens_143 q_58 ?_
    refine v_aload_n dX6_splitTokens_146 rfl ?_
    refine v_getI rfl fl_X6_27 dX6_splitTokens_147 q_58 ?_
    refine v_bipush (-2 : Int32) dX6_splitTokens_150 (by decide) ?_
    replace h := p_bind_elim h
    obtain ⟨j_61, q_62, h⟩ := h
    refine v_iastP dX6_splitTokens_152 q_62 ?_
    replace h := p_let_elim h
    obtain ⟨I_63, h_64, h⟩ := h
    rw [← h_64]
    refine v_aload_n dX6_splitTokens_153 rfl ?_
    replace h := p_bind_elim h
    obtain ⟨a_65, q_66, h⟩ := h
    refine v_getR q_66 rfl fl_X6_24 dX6_splitTokens_154 q_58 ?_
    refine v_aload_n dX6_splitTokens_157 rfl ?_
    refine v_getI rfl fl_X6_27 dX6_splitTokens_158 q_58 ?_
    refine v_iload_n dX6_splitTokens_161 rfl ?_
    replace h := p_bind_elim h
    obtain ⟨j_67, q_68, h⟩ := h
    refine v_iastP dX6_splitTokens_162 q_68 ?_
    replace h := p_let_elim h
    obtain ⟨I_69, h_70, h⟩ := h
    rw [← h_70]
    cases h
    exact v_vret dX6_splitTokens_163 rfl (by decide) (by decide) (by rw [← hQ]; exact ⟨rfl, rfl, rfl, rfl, rfl⟩)
  unfold f_X6_splitTokens at h
  refine v_sub [(0, .ref (B + p0)), (1, .ref (B + p1)), (2, .int p2)] ⟨rfl, rfl, rfl, trivial⟩ ?_
  refine v_aload_n dX6_splitTokens_0 rfl ?_
  refine v_iconstE (0 : Int32) dX6_splitTokens_1 (by decide) ?_
  replace h := p_bind_elim h
  obtain ⟨_, q_1, h⟩ := h
  have q_1 := p_ob_spec q_1
  refine v_putI rfl fl_X6_27 dX6_splitTokens_2 q_1 rfl rfl ?_
  replace h := p_let_elim h
  obtain ⟨I_2, h_3, h⟩ := h
  rw [← h_3]
  refine v_iconstE (0 : Int32) dX6_splitTokens_5 (by decide) ?_
  refine v_istore_n dX6_splitTokens_6 (by decide) ?_
  refine v_sub [(0, .ref (B + p0)), (1, .ref (B + p1)), (2, .int p2), (3, .int (0 : Int32))] ⟨rfl, rfl, rfl, rfl, trivial⟩ ?_
  replace h := p_bind_elim h
  obtain ⟨q_56, h_57, h⟩ := h
  refine v_sub [(0, .ref (B + p0)), (1, .ref (B + p1)), (2, .int p2), (3, .int (0 : Int32))] ⟨rfl, rfl, rfl, rfl, trivial⟩ ?_
  refine v_loopV (fun (sP : Int32 × v_I) => V l B D ac (v_EE B wa wb wt sb sL sx) yX6_splitTokens cX6_splitTokens 5 none d 0 0 0 0 S sP.2 J F 7 [(0, .ref (B + p0)), (1, .ref (B + p1)), (2, .int p2), (3, .int sP.1)] [] Q) (fun (rE : Int32 × v_I) => V l B D ac (v_EE B wa wb wt sb sL sx) yX6_splitTokens cX6_splitTokens 5 none d 0 0 0 0 S rE.2 J F 142 [(0, .ref (B + p0)), (2, .int p2)] [] Q) (fun s_ x_ hb hk => b7 _ _ _ s_ x_ hb hk) (r := q_56) ?_ h_57
  try dsimp only
  refine v_sub [(0, .ref (B + p0)), (2, .int p2)] ⟨rfl, rfl, trivial⟩ ?_
  exact j142 _ _ _ h

def f_X8_clear (S : v_S) (I : v_I) (p0 : Nat) : Option (v_I) :=
(p_ob S 8 p0).bind fun _ =>
p_let (v_up I p0 0 (0 : Int32)) fun I_2 =>
p_let (v_up I_2 p0 1 (0 : Int32)) fun I_4 =>
p_let (v_up I_4 p0 2 (0 : Int32)) fun I_6 =>
some (I_6)
set_option maxHeartbeats 4000000 in
set_option maxRecDepth 100000 in
theorem t_X8_clear {p0 : Nat} {r : v_I} (h : f_X8_clear S I p0 = some r) : v_R l B D ac (v_EE B wa wb wt sb sL sx) yX8_clear cX8_clear 1 none 1 0 0 [.ref (B + p0)] S I J F (v_D none S r J F) := by
  refine v_R.of (by decide) (Nat.le_of_ble_eq_true rfl) fun d hd => ?_
  generalize hQ : v_D none S r J F = Q
  unfold f_X8_clear at h
  refine v_sub [(0, .ref (B + p0))] ⟨rfl, trivial⟩ ?_
  refine v_aload_n dX8_clear_0 rfl ?_
  refine v_iconstE (0 : Int32) dX8_clear_1 (by decide) ?_
  replace h := p_bind_elim h
  obtain ⟨_, q_1, h⟩ := h
  have q_1 := p_ob_spec q_1
  refine v_putI rfl fl_X8_9 dX8_clear_2 q_1 rfl rfl ?_
  replace h := p_let_elim h
  obtain ⟨I_2, h_3, h⟩ := h
  rw [← h_3]
  refine v_aload_n dX8_clear_5 rfl ?_
  refine v_iconstE (0 : Int32) dX8_clear_6 (by decide) ?_
  refine v_putI rfl fl_X8_15 dX8_clear_7 q_1 rfl rfl ?_
  replace h := p_let_elim h
  obtain ⟨I_4, h_5, h⟩ := h
  rw [← h_5]
  refine v_aload_n dX8_clear_10 rfl ?_
  refine v_iconstE (0 : Int32) dX8_clear_11 (by decide) ?_
  refine v_putI rfl fl_X8_18 dX8_clear_12 q_1 rfl rfl ?_
  replace h := p_let_elim h
  obtain ⟨I_6, h_7, h⟩ := h
  rw [← h_7]
  cases h
  exact v_vret dX8_clear_15 rfl (by decide) (by decide) (by rw [← hQ]; exact ⟨rfl, rfl, rfl, rfl, rfl⟩)

def f_X8_trimmed (S : v_S) (I : v_I) (F : v_F) (p0 : Nat) : Option (Nat × v_S × v_I × v_F) :=
(p_ob S 8 p0).bind fun _ =>
(F p0 3).bind fun a_2 =>
(p_len S 20 a_2).bind fun x_4 =>
p_let (p_max (0 : Int32) (p_min (I p0 0) x_4)) fun x_6 =>
(F p0 8).bind fun a_8 =>
(p_len S 20 a_8).bind fun x_10 =>
p_let (p_max (0 : Int32) (p_min (I p0 1) x_10)) fun x_12 =>
p_let (S ++ [(8, v_n 8)]) fun S_14 =>
(f_X8_init S_14 I F S.length x_6 x_12).bind fun r_18 =>
(p_ob r_18.1 8 S.length).bind fun _ =>
p_let (v_up r_18.2.1 S.length 0 x_6) fun I_21 =>
p_let (v_up I_21 S.length 1 x_12) fun I_23 =>
(p_ob r_18.1 8 p0).bind fun _ =>
(p_bl (I_23 p0 2)).bind fun _ =>
p_let (v_up I_23 S.length 2 (I_23 p0 2)) fun I_27 =>
(r_18.2.2 p0 3).bind fun a_29 =>
(r_18.2.2 S.length 3).bind fun a_31 =>
(p_cp r_18.1 a_29 a_31 (0 : Int32) (0 : Int32) x_6).bind fun _ =>
p_let (p_cpy I_27 a_29 a_31 (0 : Int32).toNatClampNeg (0 : Int32).toNatClampNeg x_6.toNatClampNeg) fun I_34 =>
(r_18.2.2 p0 4).bind fun a_36 =>
(r_18.2.2 S.length 4).bind fun a_38 =>
(p_cp r_18.1 a_36 a_38 (0 : Int32) (0 : Int32) x_6).bind fun _ =>
p_let (p_cpy I_34 a_36 a_38 (0 : Int32).toNatClampNeg (0 : Int32).toNatClampNeg x_6.toNatClampNeg) fun I_41 =>
(r_18.2.2 p0 5).bind fun a_43 =>
(r_18.2.2 S.length 5).bind fun a_45 =>
(p_cp r_18.1 a_43 a_45 (0 : Int32) (0 : Int32) x_6).bind fun _ =>
p_let (p_cpy I_41 a_43 a_45 (0 : Int32).toNatClampNeg (0 : Int32).toNatClampNeg x_6.toNatClampNeg) fun I_48 =>
(r_18.2.2 p0 6).bind fun a_50 =>
(r_18.2.2 S.length 6).bind fun a_52 =>
(p_cp r_18.1 a_50 a_52 (0 : Int32) (0 : Int32) x_6).bind fun _ =>
p_let (p_cpy I_48 a_50 a_52 (0 : Int32).toNatClampNeg (0 : Int32).toNatClampNeg x_6.toNatClampNeg) fun I_55 =>
(r_18.2.2 p0 7).bind fun a_57 =>
(r_18.2.2 S.length 7).bind fun a_59 =>
(p_cp r_18.1 a_57 a_59 (0 : Int32) (0 : Int32) x_6).bind fun _ =>
p_let (p_cpy I_55 a_57 a_59 (0 : Int32).toNatClampNeg (0 : Int32).toNatClampNeg x_6.toNatClampNeg) fun I_62 =>
(r_18.2.2 p0 8).bind fun a_64 =>
(r_18.2.2 S.length 8).bind fun a_66 =>
(p_cp r_18.1 a_64 a_66 (0 : Int32) (0 : Int32) x_12).bind fun _ =>
p_let (p_cpy I_62 a_64 a_66 (0 : Int32).toNatClampNeg (0 : Int32).toNatClampNeg x_12.toNatClampNeg) fun I_69 =>
some (S.length, r_18.1, I_69, r_18.2.2)
set_option maxHeartbeats 4000000 in
set_option maxRecDepth 100000 in
theorem t_X8_trimmed {p0 : Nat} {r : Nat × v_S × v_I × v_F} (h : f_X8_trimmed S I F p0 = some r) : v_R l B D ac (v_EE B wa wb wt sb sL sx) yX8_trimmed cX8_trimmed 4 (some (.object "HedgeCouncil$Text")) 3 7 505 [.ref (B + p0)] S I J F (v_D (some (.ref (B + r.1))) r.2.1 r.2.2.1 J r.2.2.2) := by
  refine v_R.of (by decide) (Nat.le_of_ble_eq_true rfl) fun d hd => ?_
  generalize hQ : v_D (some (.ref (B + r.1))) r.2.1 r.2.2.1 J r.2.2.2 = Q
  unfold f_X8_trimmed at h
  refine v_sub [(0, .ref (B + p0))] ⟨rfl, trivial⟩ ?_
  refine v_iconstE (0 : Int32) dX8_trimmed_0 (by decide) ?_
  refine v_aload_n dX8_trimmed_1 rfl ?_
  replace h := p_bind_elim h
  obtain ⟨_, q_1, h⟩ := h
  have q_1 := p_ob_spec q_1
  refine v_getI rfl fl_X8_9 dX8_trimmed_2 q_1 ?_
  refine v_aload_n dX8_trimmed_5 rfl ?_
  replace h := p_bind_elim h
  obtain ⟨a_2, q_3, h⟩ := h
  refine v_getR q_3 rfl fl_X8_22 dX8_trimmed_6 q_1 ?_
  replace h := p_bind_elim h
  obtain ⟨x_4, q_5, h⟩ := h
  refine v_alenPI dX8_trimmed_9 q_5 ?_
  refine v_min dX8_trimmed_10 ml_X8_41 (by omega) (by decide) (by decide) (Nat.le_of_ble_eq_true rfl) ?_
  refine v_max dX8_trimmed_13 ml_X8_47 (by omega) (by decide) (by decide) (Nat.le_of_ble_eq_true rfl) ?_
  replace h := p_let_elim h
  obtain ⟨x_6, h_7, h⟩ := h
  rw [← h_7]
  refine v_istore_n dX8_trimmed_16 (by decide) ?_
  refine v_sub [(0, .ref (B + p0)), (1, .int x_6)] ⟨rfl, rfl, trivial⟩ ?_
  refine v_iconstE (0 : Int32) dX8_trimmed_17 (by decide) ?_
  refine v_aload_n dX8_trimmed_18 rfl ?_
  refine v_getI rfl fl_X8_15 dX8_trimmed_19 q_1 ?_
  refine v_aload_n dX8_trimmed_22 rfl ?_
  replace h := p_bind_elim h
  obtain ⟨a_8, q_9, h⟩ := h
  refine v_getR q_9 rfl fl_X8_38 dX8_trimmed_23 q_1 ?_
  replace h := p_bind_elim h
  obtain ⟨x_10, q_11, h⟩ := h
  refine v_alenPI dX8_trimmed_26 q_11 ?_
  refine v_min dX8_trimmed_27 ml_X8_41 (by omega) (by decide) (by decide) (Nat.le_of_ble_eq_true rfl) ?_
  refine v_max dX8_trimmed_30 ml_X8_47 (by omega) (by decide) (by decide) (Nat.le_of_ble_eq_true rfl) ?_
  replace h := p_let_elim h
  obtain ⟨x_12, h_13, h⟩ := h
  rw [← h_13]
  refine v_istore_n dX8_trimmed_33 (by decide) ?_
  refine v_sub [(0, .ref (B + p0)), (1, .int x_6), (2, .int x_12)] ⟨rfl, rfl, rfl, trivial⟩ ?_
  refine v_new dX8_trimmed_34 kc_8 cl_X8_10 knt_8 kni_8 kdf_8 (by decide) (by decide) ?_
  replace h := p_let_elim h
  obtain ⟨S_14, h_15, h⟩ := h
  rw [← h_15]
  have q_16 := p_app h_15 q_1
  have q_17 := p_fresh h_15
  refine v_dup dX8_trimmed_37 rfl ?_
  refine v_iload_n dX8_trimmed_38 rfl ?_
  refine v_iload_n dX8_trimmed_39 rfl ?_
  replace h := p_bind_elim h
  obtain ⟨r_18, q_19, h⟩ := h
  refine v_cInc (t_X8_init q_19) cal_X8_init ml_X8_50 ins_X8_init rfl dX8_trimmed_40 (by omega) (by decide) (by decide) (Nat.le_of_ble_eq_true rfl) rfl ?_
  refine v_astore_n dX8_trimmed_43 (by decide) ?_
  refine v_sub [(0, .ref (B + p0)), (1, .int x_6), (2, .int x_12), (3, .ref (B + S.length))] ⟨rfl, rfl, rfl, rfl, trivial⟩ ?_
  refine v_aload_n dX8_trimmed_44 rfl ?_
  refine v_iload_n dX8_trimmed_45 rfl ?_
  replace h := p_bind_elim h
  obtain ⟨_, q_20, h⟩ := h
  have q_20 := p_ob_spec q_20
  refine v_putI rfl fl_X8_9 dX8_trimmed_46 q_20 rfl rfl ?_
  replace h := p_let_elim h
  obtain ⟨I_21, h_22, h⟩ := h
  rw [← h_22]
  refine v_aload_n dX8_trimmed_49 rfl ?_
  refine v_iload_n dX8_trimmed_50 rfl ?_
  refine v_putI rfl fl_X8_15 dX8_trimmed_51 q_20 rfl rfl ?_
  replace h := p_let_elim h
  obtain ⟨I_23, h_24, h⟩ := h
  rw [← h_24]
  refine v_aload_n dX8_trimmed_54 rfl ?_
  refine v_aload_n dX8_trimmed_55 rfl ?_
  replace h := p_bind_elim h
  obtain ⟨_, q_25, h⟩ := h
  have q_25 := p_ob_spec q_25
  refine v_getI rfl fl_X8_18 dX8_trimmed_56 q_25 ?_
  replace h := p_bind_elim h
  obtain ⟨_, q_26, h⟩ := h
  refine v_putI rfl fl_X8_18 dX8_trimmed_59 q_20 (p_bl_spec q_26).1 (p_bl_spec q_26).2 ?_
  replace h := p_let_elim h
  obtain ⟨I_27, h_28, h⟩ := h
  rw [← h_28]
  refine v_aload_n dX8_trimmed_62 rfl ?_
  replace h := p_bind_elim h
  obtain ⟨a_29, q_30, h⟩ := h
  refine v_getR q_30 rfl fl_X8_22 dX8_trimmed_63 q_25 ?_
  refine v_iconstE (0 : Int32) dX8_trimmed_66 (by decide) ?_
  refine v_aload_n dX8_trimmed_67 rfl ?_
  replace h := p_bind_elim h
  obtain ⟨a_31, q_32, h⟩ := h
  refine v_getR q_32 rfl fl_X8_22 dX8_trimmed_68 q_20 ?_
  refine v_iconstE (0 : Int32) dX8_trimmed_71 (by decide) ?_
  refine v_iload_n dX8_trimmed_72 rfl ?_
  replace h := p_bind_elim h
  obtain ⟨_, q_33, h⟩ := h
  refine v_copy dX8_trimmed_73 ml_X8_53 q_33 (by omega) (Nat.le_of_ble_eq_true rfl) ?_
  replace h := p_let_elim h
  obtain ⟨I_34, h_35, h⟩ := h
  rw [← h_35]
  refine v_aload_n dX8_trimmed_76 rfl ?_
  replace h := p_bind_elim h
  obtain ⟨a_36, q_37, h⟩ := h
  refine v_getR q_37 rfl fl_X8_26 dX8_trimmed_77 q_25 ?_
  refine v_iconstE (0 : Int32) dX8_trimmed_80 (by decide) ?_
  refine v_aload_n dX8_trimmed_81 rfl ?_
  replace h := p_bind_elim h
  obtain ⟨a_38, q_39, h⟩ := h
  refine v_getR q_39 rfl fl_X8_26 dX8_trimmed_82 q_20 ?_
  refine v_iconstE (0 : Int32) dX8_trimmed_85 (by decide) ?_
  refine v_iload_n dX8_trimmed_86 rfl ?_
  replace h := p_bind_elim h
  obtain ⟨_, q_40, h⟩ := h
  refine v_copy dX8_trimmed_87 ml_X8_53 q_40 (by omega) (Nat.le_of_ble_eq_true rfl) ?_
  replace h := p_let_elim h
  obtain ⟨I_41, h_42, h⟩ := h
  rw [← h_42]
  refine v_aload_n dX8_trimmed_90 rfl ?_
  replace h := p_bind_elim h
  obtain ⟨a_43, q_44, h⟩ := h
  refine v_getR q_44 rfl fl_X8_29 dX8_trimmed_91 q_25 ?_
  refine v_iconstE (0 : Int32) dX8_trimmed_94 (by decide) ?_
  refine v_aload_n dX8_trimmed_95 rfl ?_
  replace h := p_bind_elim h
  obtain ⟨a_45, q_46, h⟩ := h
  refine v_getR q_46 rfl fl_X8_29 dX8_trimmed_96 q_20 ?_
  refine v_iconstE (0 : Int32) dX8_trimmed_99 (by decide) ?_
  refine v_iload_n dX8_trimmed_100 rfl ?_
  replace h := p_bind_elim h
  obtain ⟨_, q_47, h⟩ := h
  refine v_copy dX8_trimmed_101 ml_X8_53 q_47 (by omega) (Nat.le_of_ble_eq_true rfl) ?_
  replace h := p_let_elim h
  obtain ⟨I_48, h_49, h⟩ := h
  rw [← h_49]
  refine v_aload_n dX8_trimmed_104 rfl ?_
  replace h := p_bind_elim h
  obtain ⟨a_50, q_51, h⟩ := h
  refine v_getR q_51 rfl fl_X8_32 dX8_trimmed_105 q_25 ?_
  refine v_iconstE (0 : Int32) dX8_trimmed_108 (by decide) ?_
  refine v_aload_n dX8_trimmed_109 rfl ?_
  replace h := p_bind_elim h
  obtain ⟨a_52, q_53, h⟩ := h
  refine v_getR q_53 rfl fl_X8_32 dX8_trimmed_110 q_20 ?_
  refine v_iconstE (0 : Int32) dX8_trimmed_113 (by decide) ?_
  refine v_iload_n dX8_trimmed_114 rfl ?_
  replace h := p_bind_elim h
  obtain ⟨_, q_54, h⟩ := h
  refine v_copy dX8_trimmed_115 ml_X8_53 q_54 (by omega) (Nat.le_of_ble_eq_true rfl) ?_
  replace h := p_let_elim h
  obtain ⟨I_55, h_56, h⟩ := h
  rw [← h_56]
  refine v_aload_n dX8_trimmed_118 rfl ?_
  replace h := p_bind_elim h
  obtain ⟨a_57, q_58, h⟩ := h
  refine v_getR q_58 rfl fl_X8_35 dX8_trimmed_119 q_25 ?_
  refine v_iconstE (0 : Int32) dX8_trimmed_122 (by decide) ?_
  refine v_aload_n dX8_trimmed_123 rfl ?_
  replace h := p_bind_elim h
  obtain ⟨a_59, q_60, h⟩ := h
  refine v_getR q_60 rfl fl_X8_35 dX8_trimmed_124 q_20 ?_
  refine v_iconstE (0 : Int32) dX8_trimmed_127 (by decide) ?_
  refine v_iload_n dX8_trimmed_128 rfl ?_
  replace h := p_bind_elim h
  obtain ⟨_, q_61, h⟩ := h
  refine v_copy dX8_trimmed_129 ml_X8_53 q_61 (by omega) (Nat.le_of_ble_eq_true rfl) ?_
  replace h := p_let_elim h
  obtain ⟨I_62, h_63, h⟩ := h
  rw [← h_63]
  refine v_aload_n dX8_trimmed_132 rfl ?_
  replace h := p_bind_elim h
  obtain ⟨a_64, q_65, h⟩ := h
  refine v_getR q_65 rfl fl_X8_38 dX8_trimmed_133 q_25 ?_
  refine v_iconstE (0 : Int32) dX8_trimmed_136 (by decide) ?_
  refine v_aload_n dX8_trimmed_137 rfl ?_
  replace h := p_bind_elim h
  obtain ⟨a_66, q_67, h⟩ := h
  refine v_getR q_67 rfl fl_X8_38 dX8_trimmed_138 q_20 ?_
  refine v_iconstE (0 : Int32) dX8_trimmed_141 (by decide) ?_
  refine v_iload_n dX8_trimmed_142 rfl ?_
  replace h := p_bind_elim h
  obtain ⟨_, q_68, h⟩ := h
  refine v_copy dX8_trimmed_143 ml_X8_53 q_68 (by omega) (Nat.le_of_ble_eq_true rfl) ?_
  replace h := p_let_elim h
  obtain ⟨I_69, h_70, h⟩ := h
  rw [← h_70]
  refine v_aload_n dX8_trimmed_146 rfl ?_
  cases h
  exact v_aret dX8_trimmed_147 rfl (Or.inl ⟨_, rfl⟩) (Or.inr ⟨_, rfl⟩) (by decide) (by decide) (by rw [← hQ]; exact ⟨rfl, rfl, rfl, rfl, rfl⟩)

def f_X0_whyNot_J88 (S : v_S) (I : v_I) (F : v_F) (z0 : Int32) : Option (Int32) :=
if z0 = (0 : Int32) then (
some ((0 : Int32)))
else (
some ((-3 : Int32)))
def f_X0_whyNot_J87 (S : v_S) (I : v_I) (F : v_F) : Option (Int32) :=
f_X0_whyNot_J88 S I F (0 : Int32)
def f_X0_whyNot_J83 (S : v_S) (I : v_I) (F : v_F) : Option (Int32) :=
f_X0_whyNot_J88 S I F (1 : Int32)
def f_X0_whyNot_J64 (S : v_S) (I : v_I) (F : v_F) (y1 : Nat) (y2 : Int32) (y3 : Int64) (y5 : Int64) : Option (Int32) :=
if y2 = (2 : Int32) then (
(p_ob S 3 y1).bind fun _ =>
(F y1 2).bind fun a_11 =>
(p_ix S 20 a_11 y3.toInt32).bind fun j_13 =>
if (lg_cmp ((I a_11 j_13).toInt64) y5) = (0 : Int32) then (
f_X0_whyNot_J83 S I F)
else (
f_X0_whyNot_J87 S I F))
else (
f_X0_whyNot_J87 S I F)
def f_X0_whyNot_J39 (S : v_S) (I : v_I) (F : v_F) (y0 : Nat) (y1 : Nat) (y2 : Int32) (y3 : Int64) (y5 : Int64) : Option (Int32) :=
(p_ob S 0 y0).bind fun _ =>
(f_X0_has S I y0 y3).bind fun r_3 =>
if r_3 = (0 : Int32) then (
some ((-2 : Int32)))
else (
if y2 = (1 : Int32) then (
(p_ob S 3 y1).bind fun _ =>
(f_X3_isOpen S I y1 y3.toInt32).bind fun r_16 =>
if r_16 = (0 : Int32) then (
f_X0_whyNot_J64 S I F y1 y2 y3 y5)
else (
f_X0_whyNot_J83 S I F))
else (
f_X0_whyNot_J64 S I F y1 y2 y3 y5))
def f_X0_whyNot (S : v_S) (I : v_I) (F : v_F) (p0 : Nat) (p1 : Nat) (p2 : Int32) (p3 : Int64) (p5 : Int64) : Option (Int32) :=
if p2 = (3 : Int32) then (
(p_ob S 3 p1).bind fun _ =>
if (I p1 1) < (999 : Int32) then (
some ((0 : Int32)))
else (
some ((-3 : Int32))))
else (
if p2 = (2 : Int32) then (
(f_X9_isUpTo p5 (9 : Int32)).bind fun r_20 =>
if r_20 = (0 : Int32) then (
some ((-1 : Int32)))
else (
f_X0_whyNot_J39 S I F p0 p1 p2 p3 p5))
else (
f_X0_whyNot_J39 S I F p0 p1 p2 p3 p5))
set_option maxHeartbeats 4000000 in
set_option maxRecDepth 100000 in
theorem t_X0_whyNot {p0 : Nat} {p1 : Nat} {p2 : Int32} {p3 : Int64} {p5 : Int64} {r : Int32} (h : f_X0_whyNot S I F p0 p1 p2 p3 p5 = some r) : v_R l B D ac (v_EE B wa wb wt sb sL sx) yX0_whyNot cX0_whyNot 8 (some .int) 2 0 0 [.ref (B + p0), .ref (B + p1), .int p2, .long p3, .long p5] S I J F (v_D (some (.int r)) S I J F) := by
  refine v_R.of (by decide) (Nat.le_of_ble_eq_true rfl) fun d hd => ?_
  generalize hQ : v_D (some (.int r)) S I J F = Q
  have j88 : ∀ (z0 : Int32), f_X0_whyNot_J88 S I F z0 = some r → V l B D ac (v_EE B wa wb wt sb sL sx) yX0_whyNot cX0_whyNot 8 (some .int) d 0 0 0 0 S I J F 88 [] [.int z0] Q := by
    intro z0 h
    unfold f_X0_whyNot_J88 at h
    refine v_istore dX0_whyNot_88 (by decide) ?_
    refine v_sub [(7, .int z0)] ⟨rfl, trivial⟩ ?_
    refine v_iload dX0_whyNot_90 rfl ?_
    refine v_if_eq 100 dX0_whyNot_92 (by decide) (fun c_9 => ?_) (fun c_9 => ?_)
    · rw [if_pos c_9] at h
      refine v_iconstE (0 : Int32) dX0_whyNot_100 (by decide) ?_
      cases h
      exact v_iret dX0_whyNot_101 rfl (by decide) (by decide) (by rw [← hQ]; exact ⟨rfl, rfl, rfl, rfl, rfl⟩)
    · rw [if_neg c_9] at h
      refine v_bipush (-3 : Int32) dX0_whyNot_95 (by decide) ?_
      refine v_goto 101 dX0_whyNot_97 (by decide) ?_
      cases h
      exact v_iret dX0_whyNot_101 rfl (by decide) (by decide) (by rw [← hQ]; exact ⟨rfl, rfl, rfl, rfl, rfl⟩)
  have j87 : f_X0_whyNot_J87 S I F = some r → V l B D ac (v_EE B wa wb wt sb sL sx) yX0_whyNot cX0_whyNot 8 (some .int) d 0 0 0 0 S I J F 87 [] [] Q := by
    intro h
    unfold f_X0_whyNot_J87 at h
    refine v_iconstE (0 : Int32) dX0_whyNot_87 (by decide) ?_
    refine v_sub [] trivial ?_
    exact j88 _ h
  have j83 : f_X0_whyNot_J83 S I F = some r → V l B D ac (v_EE B wa wb wt sb sL sx) yX0_whyNot cX0_whyNot 8 (some .int) d 0 0 0 0 S I J F 83 [] [] Q := by
    intro h
    unfold f_X0_whyNot_J83 at h
    refine v_iconstE (1 : Int32) dX0_whyNot_83 (by decide) ?_
    refine v_goto 88 dX0_whyNot_84 (by decide) ?_
    refine v_sub [] trivial ?_
    exact j88 _ h
  have j64 : ∀ (y1 : Nat) (y2 : Int32) (y3 : Int64) (y5 : Int64), f_X0_whyNot_J64 S I F y1 y2 y3 y5 = some r → V l B D ac (v_EE B wa wb wt sb sL sx) yX0_whyNot cX0_whyNot 8 (some .int) d 0 0 0 0 S I J F 64 [(1, .ref (B + y1)), (2, .int y2), (3, .long y3), (5, .long y5)] [] Q := by
    intro y1 y2 y3 y5 h
    unfold f_X0_whyNot_J64 at h
    refine v_iload_n dX0_whyNot_64 rfl ?_
    refine v_iconstE (2 : Int32) dX0_whyNot_65 (by decide) ?_
    refine v_icmp_ne 87 dX0_whyNot_66 (by decide) (fun c_8 => ?_) (fun c_8 => ?_)
    · rw [if_neg c_8] at h
      refine v_sub [] trivial ?_
      exact j87  h
    · rw [if_pos c_8] at h
      refine v_aload_n dX0_whyNot_69 rfl ?_
      replace h := p_bind_elim h
      obtain ⟨_, q_10, h⟩ := h
      have q_10 := p_ob_spec q_10
      replace h := p_bind_elim h
      obtain ⟨a_11, q_12, h⟩ := h
      refine v_getR q_12 rfl fl_X0_71 dX0_whyNot_70 q_10 ?_
      refine v_lload_n dX0_whyNot_73 rfl ?_
      refine v_l2i dX0_whyNot_74 ?_
      replace h := p_bind_elim h
      obtain ⟨j_13, q_14, h⟩ := h
      refine v_ialdP dX0_whyNot_75 q_14 ?_
      refine v_i2l dX0_whyNot_76 ?_
      refine v_lload dX0_whyNot_77 rfl ?_
      refine v_lcmp dX0_whyNot_79 ?_
      refine v_if_ne 87 dX0_whyNot_80 (by decide) (fun c_15 => ?_) (fun c_15 => ?_)
      · rw [if_neg c_15] at h
        refine v_sub [] trivial ?_
        exact j87  h
      · rw [if_pos c_15] at h
        refine v_sub [] trivial ?_
        exact j83  h
  have j39 : ∀ (y0 : Nat) (y1 : Nat) (y2 : Int32) (y3 : Int64) (y5 : Int64), f_X0_whyNot_J39 S I F y0 y1 y2 y3 y5 = some r → V l B D ac (v_EE B wa wb wt sb sL sx) yX0_whyNot cX0_whyNot 8 (some .int) d 0 0 0 0 S I J F 39 [(0, .ref (B + y0)), (1, .ref (B + y1)), (2, .int y2), (3, .long y3), (5, .long y5)] [] Q := by
    intro y0 y1 y2 y3 y5 h
    unfold f_X0_whyNot_J39 at h
    refine v_aload_n dX0_whyNot_39 rfl ?_
    refine v_lload_n dX0_whyNot_40 rfl ?_
    replace h := p_bind_elim h
    obtain ⟨_, q_5, h⟩ := h
    have q_5 := p_ob_spec q_5
    replace h := p_bind_elim h
    obtain ⟨r_3, q_4, h⟩ := h
    refine v_cVr (t_X0_has q_4) cal_X0_has ml_X0_78 sel_X0_has q_5 kk_0 dX0_whyNot_41 (by omega) (by decide) (by decide) (Nat.le_of_ble_eq_true rfl) rfl ?_
    refine v_if_ne 50 dX0_whyNot_44 (by decide) (fun c_6 => ?_) (fun c_6 => ?_)
    · rw [if_neg c_6] at h
      refine v_iload_n dX0_whyNot_50 rfl ?_
      refine v_iconstE (1 : Int32) dX0_whyNot_51 (by decide) ?_
      refine v_icmp_ne 64 dX0_whyNot_52 (by decide) (fun c_7 => ?_) (fun c_7 => ?_)
      · rw [if_neg c_7] at h
        refine v_sub [(1, .ref (B + y1)), (2, .int y2), (3, .long y3), (5, .long y5)] ⟨rfl, rfl, rfl, rfl, trivial⟩ ?_
        exact j64 _ _ _ _ h
      · rw [if_pos c_7] at h
        refine v_aload_n dX0_whyNot_55 rfl ?_
        refine v_lload_n dX0_whyNot_56 rfl ?_
        refine v_l2i dX0_whyNot_57 ?_
        replace h := p_bind_elim h
        obtain ⟨_, q_18, h⟩ := h
        have q_18 := p_ob_spec q_18
        replace h := p_bind_elim h
        obtain ⟨r_16, q_17, h⟩ := h
        refine v_cVr (t_X3_isOpen q_17) cal_X3_isOpen ml_X0_93 sel_X3_isOpen q_18 kk_3 dX0_whyNot_58 (by omega) (by decide) (by decide) (Nat.le_of_ble_eq_true rfl) rfl ?_
        refine v_if_ne 83 dX0_whyNot_61 (by decide) (fun c_19 => ?_) (fun c_19 => ?_)
        · rw [if_neg c_19] at h
          refine v_sub [] trivial ?_
          exact j83  h
        · rw [if_pos c_19] at h
          refine v_sub [(1, .ref (B + y1)), (2, .int y2), (3, .long y3), (5, .long y5)] ⟨rfl, rfl, rfl, rfl, trivial⟩ ?_
          exact j64 _ _ _ _ h
    · rw [if_pos c_6] at h
      refine v_bipush (-2 : Int32) dX0_whyNot_47 (by decide) ?_
      cases h
      exact v_iret dX0_whyNot_49 rfl (by decide) (by decide) (by rw [← hQ]; exact ⟨rfl, rfl, rfl, rfl, rfl⟩)
  unfold f_X0_whyNot at h
  refine v_sub [(0, .ref (B + p0)), (1, .ref (B + p1)), (2, .int p2), (3, .long p3), (5, .long p5)] ⟨rfl, rfl, rfl, rfl, rfl, trivial⟩ ?_
  refine v_iload_n dX0_whyNot_0 rfl ?_
  refine v_iconstE (3 : Int32) dX0_whyNot_1 (by decide) ?_
  refine v_icmp_ne 22 dX0_whyNot_2 (by decide) (fun c_1 => ?_) (fun c_1 => ?_)
  · rw [if_neg c_1] at h
    refine v_iload_n dX0_whyNot_22 rfl ?_
    refine v_iconstE (2 : Int32) dX0_whyNot_23 (by decide) ?_
    refine v_icmp_ne 39 dX0_whyNot_24 (by decide) (fun c_2 => ?_) (fun c_2 => ?_)
    · rw [if_neg c_2] at h
      refine v_sub [(0, .ref (B + p0)), (1, .ref (B + p1)), (2, .int p2), (3, .long p3), (5, .long p5)] ⟨rfl, rfl, rfl, rfl, rfl, trivial⟩ ?_
      exact j39 _ _ _ _ _ h
    · rw [if_pos c_2] at h
      refine v_lload dX0_whyNot_27 rfl ?_
      refine v_bipush (9 : Int32) dX0_whyNot_29 (by decide) ?_
      replace h := p_bind_elim h
      obtain ⟨r_20, q_21, h⟩ := h
      refine v_cSNr (t_X9_isUpTo q_21) cal_X9_isUpTo ml_X0_89 sta_X9_isUpTo dX0_whyNot_31 (by omega) (by decide) (by decide) (Nat.le_of_ble_eq_true rfl) rfl ?_
      refine v_if_ne 39 dX0_whyNot_34 (by decide) (fun c_22 => ?_) (fun c_22 => ?_)
      · rw [if_neg c_22] at h
        refine v_sub [(0, .ref (B + p0)), (1, .ref (B + p1)), (2, .int p2), (3, .long p3), (5, .long p5)] ⟨rfl, rfl, rfl, rfl, rfl, trivial⟩ ?_
        exact j39 _ _ _ _ _ h
      · rw [if_pos c_22] at h
        refine v_iconstE (-1 : Int32) dX0_whyNot_37 (by decide) ?_
        cases h
        exact v_iret dX0_whyNot_38 rfl (by decide) (by decide) (by rw [← hQ]; exact ⟨rfl, rfl, rfl, rfl, rfl⟩)
  · rw [if_pos c_1] at h
    refine v_aload_n dX0_whyNot_5 rfl ?_
    replace h := p_bind_elim h
    obtain ⟨_, q_23, h⟩ := h
    have q_23 := p_ob_spec q_23
    refine v_getI rfl fl_X0_82 dX0_whyNot_6 q_23 ?_
    refine v_sipush (999 : Int32) dX0_whyNot_9 (by decide) ?_
    refine v_icmp_lt 20 dX0_whyNot_12 (by decide) (fun c_24 => ?_) (fun c_24 => ?_)
    · rw [if_pos c_24] at h
      refine v_iconstE (0 : Int32) dX0_whyNot_20 (by decide) ?_
      cases h
      exact v_iret dX0_whyNot_21 rfl (by decide) (by decide) (by rw [← hQ]; exact ⟨rfl, rfl, rfl, rfl, rfl⟩)
    · rw [if_neg c_24] at h
      refine v_bipush (-3 : Int32) dX0_whyNot_15 (by decide) ?_
      refine v_goto 21 dX0_whyNot_17 (by decide) ?_
      cases h
      exact v_iret dX0_whyNot_21 rfl (by decide) (by decide) (by rw [← hQ]; exact ⟨rfl, rfl, rfl, rfl, rfl⟩)

def f_X3_changeWant (S : v_S) (I : v_I) (F : v_F) (p0 : Nat) (p1 : Int32) (p2 : Int32) : Option (Int32 × v_I) :=
if p1 < (0 : Int32) then (
some ((-1 : Int32), I))
else (
if p1 < (8 : Int32) then (
(p_ob S 3 p0).bind fun _ =>
(F p0 2).bind fun a_4 =>
(p_ix S 20 a_4 p1).bind fun j_6 =>
p_let (I a_4 j_6) fun x_8 =>
(F p0 2).bind fun a_10 =>
(p_ix S 20 a_10 p1).bind fun j_12 =>
p_let (v_up I a_10 j_12 p2) fun I_14 =>
some (x_8, I_14))
else (
some ((-1 : Int32), I)))
set_option maxHeartbeats 4000000 in
set_option maxRecDepth 100000 in
theorem t_X3_changeWant {p0 : Nat} {p1 : Int32} {p2 : Int32} {r : Int32 × v_I} (h : f_X3_changeWant S I F p0 p1 p2 = some r) : v_R l B D ac (v_EE B wa wb wt sb sL sx) yX3_changeWant cX3_changeWant 4 (some .int) 1 0 0 [.ref (B + p0), .int p1, .int p2] S I J F (v_D (some (.int r.1)) S r.2 J F) := by
  refine v_R.of (by decide) (Nat.le_of_ble_eq_true rfl) fun d hd => ?_
  generalize hQ : v_D (some (.int r.1)) S r.2 J F = Q
  unfold f_X3_changeWant at h
  refine v_sub [(0, .ref (B + p0)), (1, .int p1), (2, .int p2)] ⟨rfl, rfl, rfl, trivial⟩ ?_
  refine v_iload_n dX3_changeWant_0 rfl ?_
  refine v_if_lt 10 dX3_changeWant_1 (by decide) (fun c_1 => ?_) (fun c_1 => ?_)
  · rw [if_pos c_1] at h
    refine v_iconstE (-1 : Int32) dX3_changeWant_10 (by decide) ?_
    cases h
    exact v_iret dX3_changeWant_11 rfl (by decide) (by decide) (by rw [← hQ]; exact ⟨rfl, rfl, rfl, rfl, rfl⟩)
  · rw [if_neg c_1] at h
    refine v_iload_n dX3_changeWant_4 rfl ?_
    refine v_bipush (8 : Int32) dX3_changeWant_5 (by decide) ?_
    refine v_icmp_lt 12 dX3_changeWant_7 (by decide) (fun c_2 => ?_) (fun c_2 => ?_)
    · rw [if_pos c_2] at h
      refine v_aload_n dX3_changeWant_12 rfl ?_
      replace h := p_bind_elim h
      obtain ⟨_, q_3, h⟩ := h
      have q_3 := p_ob_spec q_3
      replace h := p_bind_elim h
      obtain ⟨a_4, q_5, h⟩ := h
      refine v_getR q_5 rfl fl_X3_18 dX3_changeWant_13 q_3 ?_
      refine v_iload_n dX3_changeWant_16 rfl ?_
      replace h := p_bind_elim h
      obtain ⟨j_6, q_7, h⟩ := h
      refine v_ialdP dX3_changeWant_17 q_7 ?_
      replace h := p_let_elim h
      obtain ⟨x_8, h_9, h⟩ := h
      rw [← h_9]
      refine v_istore_n dX3_changeWant_18 (by decide) ?_
      refine v_sub [(0, .ref (B + p0)), (1, .int p1), (2, .int p2), (3, .int x_8)] ⟨rfl, rfl, rfl, rfl, trivial⟩ ?_
      refine v_aload_n dX3_changeWant_19 rfl ?_
      replace h := p_bind_elim h
      obtain ⟨a_10, q_11, h⟩ := h
      refine v_getR q_11 rfl fl_X3_18 dX3_changeWant_20 q_3 ?_
      refine v_iload_n dX3_changeWant_23 rfl ?_
      refine v_iload_n dX3_changeWant_24 rfl ?_
      replace h := p_bind_elim h
      obtain ⟨j_12, q_13, h⟩ := h
      refine v_iastP dX3_changeWant_25 q_13 ?_
      replace h := p_let_elim h
      obtain ⟨I_14, h_15, h⟩ := h
      rw [← h_15]
      refine v_iload_n dX3_changeWant_26 rfl ?_
      cases h
      exact v_iret dX3_changeWant_27 rfl (by decide) (by decide) (by rw [← hQ]; exact ⟨rfl, rfl, rfl, rfl, rfl⟩)
    · rw [if_neg c_2] at h
      refine v_iconstE (-1 : Int32) dX3_changeWant_10 (by decide) ?_
      cases h
      exact v_iret dX3_changeWant_11 rfl (by decide) (by decide) (by rw [← hQ]; exact ⟨rfl, rfl, rfl, rfl, rfl⟩)

def f_X3_openOne (S : v_S) (I : v_I) (p0 : Nat) (p1 : Int32) : Option (v_I) :=
(p_ob S 3 p0).bind fun _ =>
p_let (v_up I p0 0 ((I p0 0) ||| ((1 : Int32) <<< (p1 &&& 31)))) fun I_2 =>
some (I_2)
set_option maxHeartbeats 4000000 in
set_option maxRecDepth 100000 in
theorem t_X3_openOne {p0 : Nat} {p1 : Int32} {r : v_I} (h : f_X3_openOne S I p0 p1 = some r) : v_R l B D ac (v_EE B wa wb wt sb sL sx) yX3_openOne cX3_openOne 2 none 1 0 0 [.ref (B + p0), .int p1] S I J F (v_D none S r J F) := by
  refine v_R.of (by decide) (Nat.le_of_ble_eq_true rfl) fun d hd => ?_
  generalize hQ : v_D none S r J F = Q
  unfold f_X3_openOne at h
  refine v_sub [(0, .ref (B + p0)), (1, .int p1)] ⟨rfl, rfl, trivial⟩ ?_
  refine v_aload_n dX3_openOne_0 rfl ?_
  refine v_dup dX3_openOne_1 rfl ?_
  replace h := p_bind_elim h
  obtain ⟨_, q_1, h⟩ := h
  have q_1 := p_ob_spec q_1
  refine v_getI rfl fl_X3_9 dX3_openOne_2 q_1 ?_
  refine v_iconstE (1 : Int32) dX3_openOne_5 (by decide) ?_
  refine v_iload_n dX3_openOne_6 rfl ?_
  refine v_ishl dX3_openOne_7 ?_
  refine v_ior dX3_openOne_8 ?_
  refine v_putI rfl fl_X3_9 dX3_openOne_9 q_1 rfl rfl ?_
  replace h := p_let_elim h
  obtain ⟨I_2, h_3, h⟩ := h
  rw [← h_3]
  cases h
  exact v_vret dX3_openOne_12 rfl (by decide) (by decide) (by rw [← hQ]; exact ⟨rfl, rfl, rfl, rfl, rfl⟩)

def f_X1_perform (S : v_S) (I : v_I) (J : v_J) (F : v_F) (p0 : Nat) (p1 : Nat) (p2 : Nat) (p3 : Int32) (p4 : Int32) (p5 : Int32) : Option (Int32 × v_I × v_J) :=
if p3 = (0 : Int32) then (
(p_ob S 3 p2).bind fun _ =>
(f_X3_shutOne S I F p2 p4).bind fun r_1 =>
some (r_1.1, r_1.2, J))
else if p3 = (1 : Int32) then (
(p_ob S 3 p2).bind fun _ =>
(f_X3_openOne S I p2 p4).bind fun r_4 =>
(f_X3_openMany S r_4 p2).bind fun r_7 =>
some (r_7, r_4, J))
else if p3 = (2 : Int32) then (
(p_ob S 3 p2).bind fun _ =>
(f_X3_changeWant S I F p2 p4 p5).bind fun r_9 =>
some (r_9.1, r_9.2, J))
else (
(p_ob S 0 p1).bind fun _ =>
(f_X0_lawInForce S I F p1).bind fun r_12 =>
(p_ob S 1 p0).bind fun _ =>
(f_X1_passMinute S I J F p0 p1 p2 r_12 (0 : Int32)).bind fun r_15 =>
(p_ob S 3 p2).bind fun _ =>
(f_X3_openMany S r_15.2.1 p2).bind fun r_18 =>
some (r_18, r_15.2.1, r_15.2.2))
set_option maxHeartbeats 4000000 in
set_option maxRecDepth 100000 in
theorem t_X1_perform {p0 : Nat} {p1 : Nat} {p2 : Nat} {p3 : Int32} {p4 : Int32} {p5 : Int32} {r : Int32 × v_I × v_J} (h : f_X1_perform S I J F p0 p1 p2 p3 p4 p5 = some r) : v_R l B D ac (v_EE B wa wb wt sb sL sx) yX1_perform cX1_perform 6 (some .int) 5 0 0 [.ref (B + p0), .ref (B + p1), .ref (B + p2), .int p3, .int p4, .int p5] S I J F (v_D (some (.int r.1)) S r.2.1 r.2.2 F) := by
  refine v_R.of (by decide) (Nat.le_of_ble_eq_true rfl) fun d hd => ?_
  generalize hQ : v_D (some (.int r.1)) S r.2.1 r.2.2 F = Q
  unfold f_X1_perform at h
  refine v_sub [(0, .ref (B + p0)), (1, .ref (B + p1)), (2, .ref (B + p2)), (3, .int p3), (4, .int p4), (5, .int p5)] ⟨rfl, rfl, rfl, rfl, rfl, rfl, trivial⟩ ?_
  refine v_iload_n dX1_perform_0 rfl ?_
  by_cases c_21 : p3 = (0 : Int32)
  · rw [if_pos c_21] at h
    refine v_swIn 28 (0 : Int32) c_21 dX1_perform_1 (by decide) (by decide) rfl (by decide) ?_
    refine v_aload_n dX1_perform_28 rfl ?_
    refine v_iload dX1_perform_29 rfl ?_
    replace h := p_bind_elim h
    obtain ⟨_, q_3, h⟩ := h
    have q_3 := p_ob_spec q_3
    replace h := p_bind_elim h
    obtain ⟨r_1, q_2, h⟩ := h
    refine v_cVr (t_X3_shutOne q_2) cal_X3_shutOne ml_X1_64 sel_X3_shutOne q_3 kk_3 dX1_perform_31 (by omega) (by decide) (by decide) (Nat.le_of_ble_eq_true rfl) rfl ?_
    cases h
    exact v_iret dX1_perform_34 rfl (by decide) (by decide) (by rw [← hQ]; exact ⟨rfl, rfl, rfl, rfl, rfl⟩)
  · rw [if_neg c_21] at h
    by_cases c_22 : p3 = (1 : Int32)
    · rw [if_pos c_22] at h
      refine v_swIn 35 (1 : Int32) c_22 dX1_perform_1 (by decide) (by decide) rfl (by decide) ?_
      refine v_aload_n dX1_perform_35 rfl ?_
      refine v_iload dX1_perform_36 rfl ?_
      replace h := p_bind_elim h
      obtain ⟨_, q_6, h⟩ := h
      have q_6 := p_ob_spec q_6
      replace h := p_bind_elim h
      obtain ⟨r_4, q_5, h⟩ := h
      refine v_cVn (t_X3_openOne q_5) cal_X3_openOne ml_X1_68 sel_X3_openOne q_6 kk_3 dX1_perform_38 (by omega) (by decide) (by decide) (Nat.le_of_ble_eq_true rfl) rfl ?_
      refine v_aload_n dX1_perform_41 rfl ?_
      replace h := p_bind_elim h
      obtain ⟨r_7, q_8, h⟩ := h
      refine v_cVr (t_X3_openMany q_8) cal_X3_openMany ml_X1_72 sel_X3_openMany q_6 kk_3 dX1_perform_42 (by omega) (by decide) (by decide) (Nat.le_of_ble_eq_true rfl) rfl ?_
      cases h
      exact v_iret dX1_perform_45 rfl (by decide) (by decide) (by rw [← hQ]; exact ⟨rfl, rfl, rfl, rfl, rfl⟩)
    · rw [if_neg c_22] at h
      by_cases c_23 : p3 = (2 : Int32)
      · rw [if_pos c_23] at h
        refine v_swIn 46 (2 : Int32) c_23 dX1_perform_1 (by decide) (by decide) rfl (by decide) ?_
        refine v_aload_n dX1_perform_46 rfl ?_
        refine v_iload dX1_perform_47 rfl ?_
        refine v_iload dX1_perform_49 rfl ?_
        replace h := p_bind_elim h
        obtain ⟨_, q_11, h⟩ := h
        have q_11 := p_ob_spec q_11
        replace h := p_bind_elim h
        obtain ⟨r_9, q_10, h⟩ := h
        refine v_cVr (t_X3_changeWant q_10) cal_X3_changeWant ml_X1_76 sel_X3_changeWant q_11 kk_3 dX1_perform_51 (by omega) (by decide) (by decide) (Nat.le_of_ble_eq_true rfl) rfl ?_
        cases h
        exact v_iret dX1_perform_54 rfl (by decide) (by decide) (by rw [← hQ]; exact ⟨rfl, rfl, rfl, rfl, rfl⟩)
      · rw [if_neg c_23] at h
        refine v_tableOut 55 dX1_perform_1 (p_sw_out (fun k h1 h2 => by have h3 : k = 0 ∨ k = 1 ∨ k = 2 := (by omega); rcases h3 with rfl | rfl | rfl <;> first | exact c_21 | exact c_22 | exact c_23)) (by decide) ?_
        refine v_aload_n dX1_perform_55 rfl ?_
        refine v_aload_n dX1_perform_56 rfl ?_
        refine v_aload_n dX1_perform_57 rfl ?_
        refine v_aload_n dX1_perform_58 rfl ?_
        replace h := p_bind_elim h
        obtain ⟨_, q_14, h⟩ := h
        have q_14 := p_ob_spec q_14
        replace h := p_bind_elim h
        obtain ⟨r_12, q_13, h⟩ := h
        refine v_cVr (t_X0_lawInForce q_13) cal_X0_lawInForce ml_X1_38 sel_X0_lawInForce q_14 kk_0 dX1_perform_59 (by omega) (by decide) (by decide) (Nat.le_of_ble_eq_true rfl) rfl ?_
        refine v_iconstE (0 : Int32) dX1_perform_62 (by decide) ?_
        replace h := p_bind_elim h
        obtain ⟨_, q_17, h⟩ := h
        have q_17 := p_ob_spec q_17
        replace h := p_bind_elim h
        obtain ⟨r_15, q_16, h⟩ := h
        refine v_cVr (t_X1_passMinute q_16) cal_X1_passMinute ml_X1_80 sel_X1_passMinute q_17 kk_1 dX1_perform_63 (by omega) (by decide) (by decide) (Nat.le_of_ble_eq_true rfl) rfl ?_
        refine v_pop dX1_perform_66 rfl ?_
        refine v_aload_n dX1_perform_67 rfl ?_
        replace h := p_bind_elim h
        obtain ⟨_, q_20, h⟩ := h
        have q_20 := p_ob_spec q_20
        replace h := p_bind_elim h
        obtain ⟨r_18, q_19, h⟩ := h
        refine v_cVr (t_X3_openMany q_19) cal_X3_openMany ml_X1_72 sel_X3_openMany q_20 kk_3 dX1_perform_68 (by omega) (by decide) (by decide) (Nat.le_of_ble_eq_true rfl) rfl ?_
        cases h
        exact v_iret dX1_perform_71 rfl (by decide) (by decide) (by rw [← hQ]; exact ⟨rfl, rfl, rfl, rfl, rfl⟩)

def f_X2_hear_J42_128 (S : v_S) (F : v_F) (w1 : Nat) (w2 : Nat) (w3 : Nat) (I : v_I) (y4 : Int32) (z0 : Int32) (z1 : Int32) (z2 : Nat) : Option ((Int32 × v_I) ⊕ (Int32 × v_I)) :=
(p_ix S 20 z2 z1).bind fun j_41 =>
p_let (v_up I z2 j_41 z0) fun I_43 =>
p_let (y4 + (1 : Int32)) fun x_45 =>
some (.inl (x_45, I_43))
def f_X2_hear_J42_103 (S : v_S) (F : v_F) (w1 : Nat) (w2 : Nat) (w3 : Nat) (I : v_I) (y4 : Int32) (y5 : Int32) (z0 : Int32) (z1 : Int32) (z2 : Nat) : Option ((Int32 × v_I) ⊕ (Int32 × v_I)) :=
(p_ix S 20 z2 z1).bind fun j_36 =>
p_let (v_up I z2 j_36 z0) fun I_38 =>
if y5 = (0 : Int32) then (
f_X2_hear_J42_128 S F w1 w2 w3 I_38 y4 (-1 : Int32) ((28 : Int32) + y4) w3)
else (
(p_ob S 3 w2).bind fun _ =>
f_X2_hear_J42_128 S F w1 w2 w3 I_38 y4 (((I_38 w2 0) >>> (y4 &&& 31)) &&& (1 : Int32)) ((28 : Int32) + y4) w3)
def f_X2_hear_J42_80 (S : v_S) (F : v_F) (w1 : Nat) (w2 : Nat) (w3 : Nat) (I : v_I) (y4 : Int32) (y5 : Int32) (z0 : Int32) (z1 : Int32) (z2 : Nat) : Option ((Int32 × v_I) ⊕ (Int32 × v_I)) :=
(p_ix S 20 z2 z1).bind fun j_31 =>
p_let (v_up I z2 j_31 z0) fun I_33 =>
if y5 = (0 : Int32) then (
f_X2_hear_J42_103 S F w1 w2 w3 I_33 y4 y5 (-1 : Int32) ((20 : Int32) + y4) w3)
else (
(p_ob S 3 w2).bind fun _ =>
(F w2 3).bind fun a_49 =>
(p_ix S 20 a_49 y4).bind fun j_51 =>
f_X2_hear_J42_103 S F w1 w2 w3 I_33 y4 y5 (I_33 a_49 j_51) ((20 : Int32) + y4) w3)
def f_X2_hear_B42 (S : v_S) (F : v_F) (w1 : Nat) (w2 : Nat) (w3 : Nat) (s42 : Int32 × v_I) : Option ((Int32 × v_I) ⊕ (Int32 × v_I)) :=
if (8 : Int32) ≤ s42.1 then (
some (.inr (s42.1, s42.2)))
else (
(p_ob S 0 w1).bind fun _ =>
(f_X0_has S s42.2 w1 s42.1.toInt64).bind fun r_27 =>
if r_27 = (0 : Int32) then (
f_X2_hear_J42_80 S F w1 w2 w3 s42.2 s42.1 r_27 (-1 : Int32) ((12 : Int32) + s42.1) w3)
else (
(p_ob S 3 w2).bind fun _ =>
(F w2 2).bind fun a_54 =>
(p_ix S 20 a_54 s42.1).bind fun j_56 =>
f_X2_hear_J42_80 S F w1 w2 w3 s42.2 s42.1 r_27 (s42.2 a_54 j_56) ((12 : Int32) + s42.1) w3))
def f_X2_hear (S : v_S) (I : v_I) (F : v_F) (p0 : Nat) (p1 : Nat) (p2 : Nat) : Option (v_I) :=
(p_ob S 2 p0).bind fun _ =>
(F p0 2).bind fun a_2 =>
(p_ob S 7 a_2).bind fun _ =>
(F a_2 0).bind fun a_5 =>
(p_ob S 3 p2).bind fun _ =>
(p_ix S 20 a_5 (6 : Int32)).bind fun j_8 =>
p_let (v_up I a_5 j_8 (I p2 1)) fun I_10 =>
(p_ix S 20 a_5 (9 : Int32)).bind fun j_12 =>
p_let (v_up I_10 a_5 j_12 (I_10 p0 0)) fun I_14 =>
(p_ix S 20 a_5 (10 : Int32)).bind fun j_16 =>
p_let (v_up I_14 a_5 j_16 (I_14 p0 1)) fun I_18 =>
(f_X3_openMany S I_18 p2).bind fun r_20 =>
(p_ix S 20 a_5 (4 : Int32)).bind fun j_22 =>
p_let (v_up I_18 a_5 j_22 r_20) fun I_24 =>
(v_loop (f_X2_hear_B42 S F p1 p2 a_5) FU ((0 : Int32), I_24)).bind fun q_58 =>
some (q_58.2)
set_option maxHeartbeats 4000000 in
set_option maxRecDepth 100000 in
theorem t_X2_hear {p0 : Nat} {p1 : Nat} {p2 : Nat} {r : v_I} (h : f_X2_hear S I F p0 p1 p2 = some r) : v_R l B D ac (v_EE B wa wb wt sb sL sx) yX2_hear cX2_hear 6 none 3 0 0 [.ref (B + p0), .ref (B + p1), .ref (B + p2)] S I J F (v_D none S r J F) := by
  refine v_R.of (by decide) (Nat.le_of_ble_eq_true rfl) fun d hd => ?_
  generalize hQ : v_D none S r J F = Q
  have b42 : ∀ (w1 : Nat) (w2 : Nat) (w3 : Nat) (s42 : Int32 × v_I) (rx42 : (Int32 × v_I) ⊕ (Int32 × v_I)), f_X2_hear_B42 S F w1 w2 w3 s42 = some rx42 → v_K (fun (sP : Int32 × v_I) => V l B D ac (v_EE B wa wb wt sb sL sx) yX2_hear cX2_hear 6 none d 0 0 0 0 S sP.2 J F 42 [(1, .ref (B + w1)), (2, .ref (B + w2)), (3, .ref (B + w3)), (4, .int sP.1)] [] Q) (fun (rE : Int32 × v_I) => V l B D ac (v_EE B wa wb wt sb sL sx) yX2_hear cX2_hear 6 none d 0 0 0 0 S rE.2 J F 135 [] [] Q) rx42 → V l B D ac (v_EE B wa wb wt sb sL sx) yX2_hear cX2_hear 6 none d 0 0 0 0 S s42.2 J F 42 [(1, .ref (B + w1)), (2, .ref (B + w2)), (3, .ref (B + w3)), (4, .int s42.1)] [] Q := by
    intro w1 w2 w3 s42 rx42 h hk
    have j128 : ∀ (I : v_I) (y4 : Int32) (z0 : Int32) (z1 : Int32) (z2 : Nat), f_X2_hear_J42_128 S F w1 w2 w3 I y4 z0 z1 z2 = some rx42 → V l B D ac (v_EE B wa wb wt sb sL sx) yX2_hear cX2_hear 6 none d 0 0 0 0 S I J F 128 [(1, .ref (B + w1)), (2, .ref (B + w2)), (3, .ref (B + w3)), (4, .int y4)] [.int z0, .int z1, .ref (B + z2)] Q := by
      intro I y4 z0 z1 z2 h
      unfold f_X2_hear_J42_128 at h
      replace h := p_bind_elim h
      obtain ⟨j_41, q_42, h⟩ := h
      refine v_iastP dX2_hear_128 q_42 ?_
      replace h := p_let_elim h
      obtain ⟨I_43, h_44, h⟩ := h
      rw [← h_44]
      replace h := p_let_elim h
      obtain ⟨x_45, h_46, h⟩ := h
      refine v_iincE (1 : Int32) dX2_hear_129 (by decide) rfl (by decide) ?_
      rw [← h_46]
      refine v_sub [(1, .ref (B + w1)), (2, .ref (B + w2)), (3, .ref (B + w3)), (4, .int x_45)] ⟨rfl, rfl, rfl, rfl, trivial⟩ ?_
      refine v_goto 42 dX2_hear_132 (by decide) ?_
      cases h
      refine v_sub [(1, .ref (B + w1)), (2, .ref (B + w2)), (3, .ref (B + w3)), (4, .int x_45)] ⟨rfl, rfl, rfl, rfl, trivial⟩ ?_
      exact hk
    have j103 : ∀ (I : v_I) (y4 : Int32) (y5 : Int32) (z0 : Int32) (z1 : Int32) (z2 : Nat), f_X2_hear_J42_103 S F w1 w2 w3 I y4 y5 z0 z1 z2 = some rx42 → V l B D ac (v_EE B wa wb wt sb sL sx) yX2_hear cX2_hear 6 none d 0 0 0 0 S I J F 103 [(1, .ref (B + w1)), (2, .ref (B + w2)), (3, .ref (B + w3)), (4, .int y4), (5, .int y5)] [.int z0, .int z1, .ref (B + z2)] Q := by
      intro I y4 y5 z0 z1 z2 h
      unfold f_X2_hear_J42_103 at h
      replace h := p_bind_elim h
      obtain ⟨j_36, q_37, h⟩ := h
      refine v_iastP dX2_hear_103 q_37 ?_
      replace h := p_let_elim h
      obtain ⟨I_38, h_39, h⟩ := h
      rw [← h_39]
      refine v_aload_n dX2_hear_104 rfl ?_
      refine v_bipush (28 : Int32) dX2_hear_105 (by decide) ?_
      refine v_iload dX2_hear_107 rfl ?_
      refine v_iadd dX2_hear_109 ?_
      refine v_iload dX2_hear_110 rfl ?_
      refine v_if_eq 127 dX2_hear_112 (by decide) (fun c_40 => ?_) (fun c_40 => ?_)
      · rw [if_pos c_40] at h
        refine v_iconstE (-1 : Int32) dX2_hear_127 (by decide) ?_
        refine v_sub [(1, .ref (B + w1)), (2, .ref (B + w2)), (3, .ref (B + w3)), (4, .int y4)] ⟨rfl, rfl, rfl, rfl, trivial⟩ ?_
        exact j128 _ _ _ _ _ h
      · rw [if_neg c_40] at h
        refine v_aload_n dX2_hear_115 rfl ?_
        replace h := p_bind_elim h
        obtain ⟨_, q_47, h⟩ := h
        have q_47 := p_ob_spec q_47
        refine v_getI rfl fl_X2_103 dX2_hear_116 q_47 ?_
        refine v_iload dX2_hear_119 rfl ?_
        refine v_ishr dX2_hear_121 ?_
        refine v_iconstE (1 : Int32) dX2_hear_122 (by decide) ?_
        refine v_iand dX2_hear_123 ?_
        refine v_goto 128 dX2_hear_124 (by decide) ?_
        refine v_sub [(1, .ref (B + w1)), (2, .ref (B + w2)), (3, .ref (B + w3)), (4, .int y4)] ⟨rfl, rfl, rfl, rfl, trivial⟩ ?_
        exact j128 _ _ _ _ _ h
    have j80 : ∀ (I : v_I) (y4 : Int32) (y5 : Int32) (z0 : Int32) (z1 : Int32) (z2 : Nat), f_X2_hear_J42_80 S F w1 w2 w3 I y4 y5 z0 z1 z2 = some rx42 → V l B D ac (v_EE B wa wb wt sb sL sx) yX2_hear cX2_hear 6 none d 0 0 0 0 S I J F 80 [(1, .ref (B + w1)), (2, .ref (B + w2)), (3, .ref (B + w3)), (4, .int y4), (5, .int y5)] [.int z0, .int z1, .ref (B + z2)] Q := by
      intro I y4 y5 z0 z1 z2 h
      unfold f_X2_hear_J42_80 at h
      replace h := p_bind_elim h
      obtain ⟨j_31, q_32, h⟩ := h
      refine v_iastP dX2_hear_80 q_32 ?_
      replace h := p_let_elim h
      obtain ⟨I_33, h_34, h⟩ := h
      rw [← h_34]
      refine v_aload_n dX2_hear_81 rfl ?_
      refine v_bipush (20 : Int32) dX2_hear_82 (by decide) ?_
      refine v_iload dX2_hear_84 rfl ?_
      refine v_iadd dX2_hear_86 ?_
      refine v_iload dX2_hear_87 rfl ?_
      refine v_if_eq 102 dX2_hear_89 (by decide) (fun c_35 => ?_) (fun c_35 => ?_)
      · rw [if_pos c_35] at h
        refine v_iconstE (-1 : Int32) dX2_hear_102 (by decide) ?_
        refine v_sub [(1, .ref (B + w1)), (2, .ref (B + w2)), (3, .ref (B + w3)), (4, .int y4), (5, .int y5)] ⟨rfl, rfl, rfl, rfl, rfl, trivial⟩ ?_
        exact j103 _ _ _ _ _ _ h
      · rw [if_neg c_35] at h
        refine v_aload_n dX2_hear_92 rfl ?_
        replace h := p_bind_elim h
        obtain ⟨_, q_48, h⟩ := h
        have q_48 := p_ob_spec q_48
        replace h := p_bind_elim h
        obtain ⟨a_49, q_50, h⟩ := h
        refine v_getR q_50 rfl fl_X2_100 dX2_hear_93 q_48 ?_
        refine v_iload dX2_hear_96 rfl ?_
        replace h := p_bind_elim h
        obtain ⟨j_51, q_52, h⟩ := h
        refine v_ialdP dX2_hear_98 q_52 ?_
        refine v_goto 103 dX2_hear_99 (by decide) ?_
        refine v_sub [(1, .ref (B + w1)), (2, .ref (B + w2)), (3, .ref (B + w3)), (4, .int y4), (5, .int y5)] ⟨rfl, rfl, rfl, rfl, rfl, trivial⟩ ?_
        exact j103 _ _ _ _ _ _ h
    unfold f_X2_hear_B42 at h
    refine v_iload dX2_hear_42 rfl ?_
    refine v_bipush (8 : Int32) dX2_hear_44 (by decide) ?_
    refine v_icmp_ge 135 dX2_hear_46 (by decide) (fun c_26 => ?_) (fun c_26 => ?_)
    · rw [if_pos c_26] at h
      cases h
      refine v_sub [] trivial ?_
      exact hk
    · rw [if_neg c_26] at h
      refine v_aload_n dX2_hear_49 rfl ?_
      refine v_iload dX2_hear_50 rfl ?_
      refine v_i2l dX2_hear_52 ?_
      replace h := p_bind_elim h
      obtain ⟨_, q_29, h⟩ := h
      have q_29 := p_ob_spec q_29
      replace h := p_bind_elim h
      obtain ⟨r_27, q_28, h⟩ := h
      refine v_cVr (t_X0_has q_28) cal_X0_has ml_X2_93 sel_X0_has q_29 kk_0 dX2_hear_53 (by omega) (by decide) (by decide) (Nat.le_of_ble_eq_true rfl) rfl ?_
      refine v_istore dX2_hear_56 (by decide) ?_
      refine v_sub [(1, .ref (B + w1)), (2, .ref (B + w2)), (3, .ref (B + w3)), (4, .int s42.1), (5, .int r_27)] ⟨rfl, rfl, rfl, rfl, rfl, trivial⟩ ?_
      refine v_aload_n dX2_hear_58 rfl ?_
      refine v_bipush (12 : Int32) dX2_hear_59 (by decide) ?_
      refine v_iload dX2_hear_61 rfl ?_
      refine v_iadd dX2_hear_63 ?_
      refine v_iload dX2_hear_64 rfl ?_
      refine v_if_eq 79 dX2_hear_66 (by decide) (fun c_30 => ?_) (fun c_30 => ?_)
      · rw [if_pos c_30] at h
        refine v_iconstE (-1 : Int32) dX2_hear_79 (by decide) ?_
        refine v_sub [(1, .ref (B + w1)), (2, .ref (B + w2)), (3, .ref (B + w3)), (4, .int s42.1), (5, .int r_27)] ⟨rfl, rfl, rfl, rfl, rfl, trivial⟩ ?_
        exact j80 _ _ _ _ _ _ h
      · rw [if_neg c_30] at h
        refine v_aload_n dX2_hear_69 rfl ?_
        replace h := p_bind_elim h
        obtain ⟨_, q_53, h⟩ := h
        have q_53 := p_ob_spec q_53
        replace h := p_bind_elim h
        obtain ⟨a_54, q_55, h⟩ := h
        refine v_getR q_55 rfl fl_X2_97 dX2_hear_70 q_53 ?_
        refine v_iload dX2_hear_73 rfl ?_
        replace h := p_bind_elim h
        obtain ⟨j_56, q_57, h⟩ := h
        refine v_ialdP dX2_hear_75 q_57 ?_
        refine v_goto 80 dX2_hear_76 (by decide) ?_
        refine v_sub [(1, .ref (B + w1)), (2, .ref (B + w2)), (3, .ref (B + w3)), (4, .int s42.1), (5, .int r_27)] ⟨rfl, rfl, rfl, rfl, rfl, trivial⟩ ?_
        exact j80 _ _ _ _ _ _ h
  unfold f_X2_hear at h
  refine v_sub [(0, .ref (B + p0)), (1, .ref (B + p1)), (2, .ref (B + p2))] ⟨rfl, rfl, rfl, trivial⟩ ?_
  refine v_aload_n dX2_hear_0 rfl ?_
  replace h := p_bind_elim h
  obtain ⟨_, q_1, h⟩ := h
  have q_1 := p_ob_spec q_1
  replace h := p_bind_elim h
  obtain ⟨a_2, q_3, h⟩ := h
  refine v_getR q_3 rfl fl_X2_21 dX2_hear_1 q_1 ?_
  replace h := p_bind_elim h
  obtain ⟨_, q_4, h⟩ := h
  have q_4 := p_ob_spec q_4
  replace h := p_bind_elim h
  obtain ⟨a_5, q_6, h⟩ := h
  refine v_getR q_6 rfl fl_X2_81 dX2_hear_4 q_4 ?_
  refine v_astore_n dX2_hear_7 (by decide) ?_
  refine v_sub [(0, .ref (B + p0)), (1, .ref (B + p1)), (2, .ref (B + p2)), (3, .ref (B + a_5))] ⟨rfl, rfl, rfl, rfl, trivial⟩ ?_
  refine v_aload_n dX2_hear_8 rfl ?_
  refine v_bipush (6 : Int32) dX2_hear_9 (by decide) ?_
  refine v_aload_n dX2_hear_11 rfl ?_
  replace h := p_bind_elim h
  obtain ⟨_, q_7, h⟩ := h
  have q_7 := p_ob_spec q_7
  refine v_getI rfl fl_X2_84 dX2_hear_12 q_7 ?_
  replace h := p_bind_elim h
  obtain ⟨j_8, q_9, h⟩ := h
  refine v_iastP dX2_hear_15 q_9 ?_
  replace h := p_let_elim h
  obtain ⟨I_10, h_11, h⟩ := h
  rw [← h_11]
  refine v_aload_n dX2_hear_16 rfl ?_
  refine v_bipush (9 : Int32) dX2_hear_17 (by decide) ?_
  refine v_aload_n dX2_hear_19 rfl ?_
  refine v_getI rfl fl_X2_9 dX2_hear_20 q_1 ?_
  replace h := p_bind_elim h
  obtain ⟨j_12, q_13, h⟩ := h
  refine v_iastP dX2_hear_23 q_13 ?_
  replace h := p_let_elim h
  obtain ⟨I_14, h_15, h⟩ := h
  rw [← h_15]
  refine v_aload_n dX2_hear_24 rfl ?_
  refine v_bipush (10 : Int32) dX2_hear_25 (by decide) ?_
  refine v_aload_n dX2_hear_27 rfl ?_
  refine v_getI rfl fl_X2_15 dX2_hear_28 q_1 ?_
  replace h := p_bind_elim h
  obtain ⟨j_16, q_17, h⟩ := h
  refine v_iastP dX2_hear_31 q_17 ?_
  replace h := p_let_elim h
  obtain ⟨I_18, h_19, h⟩ := h
  rw [← h_19]
  refine v_aload_n dX2_hear_32 rfl ?_
  refine v_iconstE (4 : Int32) dX2_hear_33 (by decide) ?_
  refine v_aload_n dX2_hear_34 rfl ?_
  replace h := p_bind_elim h
  obtain ⟨r_20, q_21, h⟩ := h
  refine v_cVr (t_X3_openMany q_21) cal_X3_openMany ml_X2_89 sel_X3_openMany q_7 kk_3 dX2_hear_35 (by omega) (by decide) (by decide) (Nat.le_of_ble_eq_true rfl) rfl ?_
  replace h := p_bind_elim h
  obtain ⟨j_22, q_23, h⟩ := h
  refine v_iastP dX2_hear_38 q_23 ?_
  replace h := p_let_elim h
  obtain ⟨I_24, h_25, h⟩ := h
  rw [← h_25]
  refine v_iconstE (0 : Int32) dX2_hear_39 (by decide) ?_
  refine v_istore dX2_hear_40 (by decide) ?_
  refine v_sub [(1, .ref (B + p1)), (2, .ref (B + p2)), (3, .ref (B + a_5)), (4, .int (0 : Int32))] ⟨rfl, rfl, rfl, rfl, trivial⟩ ?_
  replace h := p_bind_elim h
  obtain ⟨q_58, h_59, h⟩ := h
  refine v_sub [(1, .ref (B + p1)), (2, .ref (B + p2)), (3, .ref (B + a_5)), (4, .int (0 : Int32))] ⟨rfl, rfl, rfl, rfl, trivial⟩ ?_
  refine v_loopV (fun (sP : Int32 × v_I) => V l B D ac (v_EE B wa wb wt sb sL sx) yX2_hear cX2_hear 6 none d 0 0 0 0 S sP.2 J F 42 [(1, .ref (B + p1)), (2, .ref (B + p2)), (3, .ref (B + a_5)), (4, .int sP.1)] [] Q) (fun (rE : Int32 × v_I) => V l B D ac (v_EE B wa wb wt sb sL sx) yX2_hear cX2_hear 6 none d 0 0 0 0 S rE.2 J F 135 [] [] Q) (fun s_ x_ hb hk => b42 _ _ _ s_ x_ hb hk) (r := q_58) ?_ h_59
  try dsimp only
  cases h
  exact v_vret dX2_hear_135 rfl (by decide) (by decide) (by rw [← hQ]; exact ⟨rfl, rfl, rfl, rfl, rfl⟩)

def f_X2_sumAt (S : v_S) (I : v_I) (J : v_J) (F : v_F) (p0 : Nat) (p1 : Nat) (p2 : Int32) : Option (Int64 × v_J) :=
if p2 = (-1 : Int32) then (
some ((0 : Int64), J))
else (
(p_ob S 2 p0).bind fun _ =>
(F p0 2).bind fun a_3 =>
(p_ob S 7 a_3).bind fun _ =>
(f_X7_reckon S I J F a_3 p1 p2).bind fun r_5 =>
some (r_5.1, r_5.2))
set_option maxHeartbeats 4000000 in
set_option maxRecDepth 100000 in
theorem t_X2_sumAt {p0 : Nat} {p1 : Nat} {p2 : Int32} {r : Int64 × v_J} (h : f_X2_sumAt S I J F p0 p1 p2 = some r) : v_R l B D ac (v_EE B wa wb wt sb sL sx) yX2_sumAt cX2_sumAt 3 (some .long) 3 0 0 [.ref (B + p0), .ref (B + p1), .int p2] S I J F (v_D (some (.long r.1)) S I r.2 F) := by
  refine v_R.of (by decide) (Nat.le_of_ble_eq_true rfl) fun d hd => ?_
  generalize hQ : v_D (some (.long r.1)) S I r.2 F = Q
  unfold f_X2_sumAt at h
  refine v_sub [(0, .ref (B + p0)), (1, .ref (B + p1)), (2, .int p2)] ⟨rfl, rfl, rfl, trivial⟩ ?_
  refine v_iload_n dX2_sumAt_0 rfl ?_
  refine v_iconstE (-1 : Int32) dX2_sumAt_1 (by decide) ?_
  refine v_icmp_ne 9 dX2_sumAt_2 (by decide) (fun c_1 => ?_) (fun c_1 => ?_)
  · rw [if_neg c_1] at h
    refine v_aload_n dX2_sumAt_9 rfl ?_
    replace h := p_bind_elim h
    obtain ⟨_, q_2, h⟩ := h
    have q_2 := p_ob_spec q_2
    replace h := p_bind_elim h
    obtain ⟨a_3, q_4, h⟩ := h
    refine v_getR q_4 rfl fl_X2_21 dX2_sumAt_10 q_2 ?_
    refine v_aload_n dX2_sumAt_13 rfl ?_
    refine v_iload_n dX2_sumAt_14 rfl ?_
    replace h := p_bind_elim h
    obtain ⟨_, q_7, h⟩ := h
    have q_7 := p_ob_spec q_7
    replace h := p_bind_elim h
    obtain ⟨r_5, q_6, h⟩ := h
    refine v_cVr (t_X7_reckon q_6) cal_X7_reckon ml_X2_45 sel_X7_reckon q_7 kk_7 dX2_sumAt_15 (by omega) (by decide) (by decide) (Nat.le_of_ble_eq_true rfl) rfl ?_
    cases h
    exact v_lret dX2_sumAt_18 rfl (by decide) (by decide) (by rw [← hQ]; exact ⟨rfl, rfl, rfl, rfl, rfl⟩)
  · rw [if_pos c_1] at h
    refine v_lconst (0 : Int64) dX2_sumAt_5 (by decide) ?_
    refine v_goto 18 dX2_sumAt_6 (by decide) ?_
    cases h
    exact v_lret dX2_sumAt_18 rfl (by decide) (by decide) (by rw [← hQ]; exact ⟨rfl, rfl, rfl, rfl, rfl⟩)

set_option maxRecDepth 100000 in
def f_X4_keep (S : v_S) (I : v_I) (F : v_F) (p0 : Nat) (p1 : Int32) (p2 : Nat) : Option (v_S × v_I × v_F) :=
(p_ob S 4 p0).bind fun _ =>
if (I p0 1) < (0 : Int32) then (
p_let (v_up I p0 1 (0 : Int32)) fun I_3 =>
(F p0 3).bind fun a_5 =>
(p_ix S 25 a_5 (I_3 p0 1)).bind fun j_7 =>
p_let (F a_5 j_7) fun x_9 =>
p_nul x_9 (
p_let (S ++ [(3, v_n 3)]) fun S_13 =>
(f_X3_init S_13 I_3 F S.length).bind fun r_17 =>
(p_ob r_17.1 4 p0).bind fun _ =>
(r_17.2.2 p0 3).bind fun a_20 =>
(p_ix r_17.1 25 a_20 (r_17.2.1 p0 1)).bind fun j_22 =>
(p_oq r_17.1 3 (some S.length)).bind fun _ =>
p_let (v_up r_17.2.2 a_20 j_22 (some S.length)) fun F_25 =>
(p_ob r_17.1 3 S.length).bind fun _ =>
(f_X3_copyFrom r_17.1 r_17.2.1 F_25 S.length p2).bind fun r_27 =>
(F_25 p0 2).bind fun a_30 =>
(p_ix r_17.1 20 a_30 (r_27 p0 1)).bind fun j_32 =>
p_let (v_up r_27 a_30 j_32 p1) fun I_34 =>
p_let (v_up I_34 p0 1 (((I_34 p0 1) + (1 : Int32)) - ((I_34 p0 1) + (1 : Int32)) / (16 : Int32) * (16 : Int32))) fun I_36 =>
p_let (v_up I_36 p0 0 (p_min ((I_36 p0 0) + (1 : Int32)) (16 : Int32))) fun I_38 =>
some (r_17.1, I_38, F_25)) (fun a_11 =>
(p_ob S 3 a_11).bind fun _ =>
(f_X3_copyFrom S I_3 F a_11 p2).bind fun r_40 =>
(F p0 2).bind fun a_43 =>
(p_ix S 20 a_43 (r_40 p0 1)).bind fun j_45 =>
p_let (v_up r_40 a_43 j_45 p1) fun I_47 =>
p_let (v_up I_47 p0 1 (((I_47 p0 1) + (1 : Int32)) - ((I_47 p0 1) + (1 : Int32)) / (16 : Int32) * (16 : Int32))) fun I_49 =>
p_let (v_up I_49 p0 0 (p_min ((I_49 p0 0) + (1 : Int32)) (16 : Int32))) fun I_51 =>
some (S, I_51, F)))
else (
if (I p0 1) < (16 : Int32) then (
(F p0 3).bind fun a_54 =>
(p_ix S 25 a_54 (I p0 1)).bind fun j_56 =>
p_let (F a_54 j_56) fun x_58 =>
p_nul x_58 (
p_let (S ++ [(3, v_n 3)]) fun S_62 =>
(f_X3_init S_62 I F S.length).bind fun r_66 =>
(p_ob r_66.1 4 p0).bind fun _ =>
(r_66.2.2 p0 3).bind fun a_69 =>
(p_ix r_66.1 25 a_69 (r_66.2.1 p0 1)).bind fun j_71 =>
(p_oq r_66.1 3 (some S.length)).bind fun _ =>
p_let (v_up r_66.2.2 a_69 j_71 (some S.length)) fun F_74 =>
(p_ob r_66.1 3 S.length).bind fun _ =>
(f_X3_copyFrom r_66.1 r_66.2.1 F_74 S.length p2).bind fun r_76 =>
(F_74 p0 2).bind fun a_79 =>
(p_ix r_66.1 20 a_79 (r_76 p0 1)).bind fun j_81 =>
p_let (v_up r_76 a_79 j_81 p1) fun I_83 =>
p_let (v_up I_83 p0 1 (((I_83 p0 1) + (1 : Int32)) - ((I_83 p0 1) + (1 : Int32)) / (16 : Int32) * (16 : Int32))) fun I_85 =>
p_let (v_up I_85 p0 0 (p_min ((I_85 p0 0) + (1 : Int32)) (16 : Int32))) fun I_87 =>
some (r_66.1, I_87, F_74)) (fun a_60 =>
(p_ob S 3 a_60).bind fun _ =>
(f_X3_copyFrom S I F a_60 p2).bind fun r_89 =>
(F p0 2).bind fun a_92 =>
(p_ix S 20 a_92 (r_89 p0 1)).bind fun j_94 =>
p_let (v_up r_89 a_92 j_94 p1) fun I_96 =>
p_let (v_up I_96 p0 1 (((I_96 p0 1) + (1 : Int32)) - ((I_96 p0 1) + (1 : Int32)) / (16 : Int32) * (16 : Int32))) fun I_98 =>
p_let (v_up I_98 p0 0 (p_min ((I_98 p0 0) + (1 : Int32)) (16 : Int32))) fun I_100 =>
some (S, I_100, F)))
else (
p_let (v_up I p0 1 (0 : Int32)) fun I_102 =>
(F p0 3).bind fun a_104 =>
(p_ix S 25 a_104 (I_102 p0 1)).bind fun j_106 =>
p_let (F a_104 j_106) fun x_108 =>
p_nul x_108 (
p_let (S ++ [(3, v_n 3)]) fun S_112 =>
(f_X3_init S_112 I_102 F S.length).bind fun r_116 =>
(p_ob r_116.1 4 p0).bind fun _ =>
(r_116.2.2 p0 3).bind fun a_119 =>
(p_ix r_116.1 25 a_119 (r_116.2.1 p0 1)).bind fun j_121 =>
(p_oq r_116.1 3 (some S.length)).bind fun _ =>
p_let (v_up r_116.2.2 a_119 j_121 (some S.length)) fun F_124 =>
(p_ob r_116.1 3 S.length).bind fun _ =>
(f_X3_copyFrom r_116.1 r_116.2.1 F_124 S.length p2).bind fun r_126 =>
(F_124 p0 2).bind fun a_129 =>
(p_ix r_116.1 20 a_129 (r_126 p0 1)).bind fun j_131 =>
p_let (v_up r_126 a_129 j_131 p1) fun I_133 =>
p_let (v_up I_133 p0 1 (((I_133 p0 1) + (1 : Int32)) - ((I_133 p0 1) + (1 : Int32)) / (16 : Int32) * (16 : Int32))) fun I_135 =>
p_let (v_up I_135 p0 0 (p_min ((I_135 p0 0) + (1 : Int32)) (16 : Int32))) fun I_137 =>
some (r_116.1, I_137, F_124)) (fun a_110 =>
(p_ob S 3 a_110).bind fun _ =>
(f_X3_copyFrom S I_102 F a_110 p2).bind fun r_139 =>
(F p0 2).bind fun a_142 =>
(p_ix S 20 a_142 (r_139 p0 1)).bind fun j_144 =>
p_let (v_up r_139 a_142 j_144 p1) fun I_146 =>
p_let (v_up I_146 p0 1 (((I_146 p0 1) + (1 : Int32)) - ((I_146 p0 1) + (1 : Int32)) / (16 : Int32) * (16 : Int32))) fun I_148 =>
p_let (v_up I_148 p0 0 (p_min ((I_148 p0 0) + (1 : Int32)) (16 : Int32))) fun I_150 =>
some (S, I_150, F))))
set_option maxHeartbeats 4000000 in
set_option maxRecDepth 100000 in
theorem t_X4_keep {p0 : Nat} {p1 : Int32} {p2 : Nat} {r : v_S × v_I × v_F} (h : f_X4_keep S I F p0 p1 p2 = some r) : v_R l B D ac (v_EE B wa wb wt sb sL sx) yX4_keep cX4_keep 4 none 3 3 20 [.ref (B + p0), .int p1, .ref (B + p2)] S I J F (v_D none r.1 r.2.1 J r.2.2) := by
  refine v_R.of (by decide) (Nat.le_of_ble_eq_true rfl) fun d hd => ?_
  generalize hQ : v_D none r.1 r.2.1 J r.2.2 = Q
  unfold f_X4_keep at h
  refine v_sub [(0, .ref (B + p0)), (1, .int p1), (2, .ref (B + p2))] ⟨rfl, rfl, rfl, trivial⟩ ?_
  refine v_aload_n dX4_keep_0 rfl ?_
  replace h := p_bind_elim h
  obtain ⟨_, q_1, h⟩ := h
  have q_1 := p_ob_spec q_1
  refine v_getI rfl fl_X4_15 dX4_keep_1 q_1 ?_
  refine v_if_lt 16 dX4_keep_4 (by decide) (fun c_2 => ?_) (fun c_2 => ?_)
  · rw [if_pos c_2] at h
    refine v_aload_n dX4_keep_16 rfl ?_
    refine v_iconstE (0 : Int32) dX4_keep_17 (by decide) ?_
    refine v_putI rfl fl_X4_15 dX4_keep_18 q_1 rfl rfl ?_
    replace h := p_let_elim h
    obtain ⟨I_3, h_4, h⟩ := h
    rw [← h_4]
    refine v_aload_n dX4_keep_21 rfl ?_
    replace h := p_bind_elim h
    obtain ⟨a_5, q_6, h⟩ := h
    refine v_getR q_6 rfl fl_X4_24 dX4_keep_22 q_1 ?_
    refine v_aload_n dX4_keep_25 rfl ?_
    refine v_getI rfl fl_X4_15 dX4_keep_26 q_1 ?_
    replace h := p_bind_elim h
    obtain ⟨j_7, q_8, h⟩ := h
    refine v_aaldP5 dX4_keep_29 q_8 ?_
    replace h := p_let_elim h
    obtain ⟨x_9, h_10, h⟩ := h
    rw [← h_10]
    refine v_astore_nQ dX4_keep_30 (by decide) ?_
    refine v_sub [(0, .ref (B + p0)), (1, .int p1), (2, .ref (B + p2)), (3, v_rf B x_9)] (by rcases x_9 with _ | _ <;> exact ⟨rfl, rfl, rfl, rfl, trivial⟩) ?_
    refine v_aload_nQ dX4_keep_31 rfl ?_
    replace h := p_nul_elim h
    rcases h with ⟨q_12, h⟩ | ⟨a_11, q_12, h⟩
    · subst q_12
      refine v_ifnonnullN dX4_keep_32 ?_
      refine v_new dX4_keep_35 kc_3 cl_X4_22 knt_3 kni_3 kdf_3 (by decide) (by decide) ?_
      replace h := p_let_elim h
      obtain ⟨S_13, h_14, h⟩ := h
      rw [← h_14]
      have q_15 := p_app h_14 q_1
      have q_16 := p_fresh h_14
      refine v_dup dX4_keep_38 rfl ?_
      replace h := p_bind_elim h
      obtain ⟨r_17, q_18, h⟩ := h
      refine v_cINnc (t_X3_init q_18) cal_X3_init ml_X4_28 ins_X3_init rfl dX4_keep_39 (by omega) (by decide) (by decide) (Nat.le_of_ble_eq_true rfl) rfl ?_
      refine v_astore_n dX4_keep_42 (by decide) ?_
      refine v_sub [(0, .ref (B + p0)), (1, .int p1), (2, .ref (B + p2)), (3, .ref (B + S.length))] ⟨rfl, rfl, rfl, rfl, trivial⟩ ?_
      refine v_aload_n dX4_keep_43 rfl ?_
      replace h := p_bind_elim h
      obtain ⟨_, q_19, h⟩ := h
      have q_19 := p_ob_spec q_19
      replace h := p_bind_elim h
      obtain ⟨a_20, q_21, h⟩ := h
      refine v_getR q_21 rfl fl_X4_24 dX4_keep_44 q_19 ?_
      refine v_aload_n dX4_keep_47 rfl ?_
      refine v_getI rfl fl_X4_15 dX4_keep_48 q_19 ?_
      refine v_aload_n dX4_keep_51 rfl ?_
      replace h := p_bind_elim h
      obtain ⟨j_22, q_23, h⟩ := h
      replace h := p_bind_elim h
      obtain ⟨_, q_24, h⟩ := h
      refine v_aastP5 (e := (some S.length)) dX4_keep_52 q_23 q_24 ?_
      replace h := p_let_elim h
      obtain ⟨F_25, h_26, h⟩ := h
      rw [← h_26]
      refine v_aload_n dX4_keep_53 rfl ?_
      refine v_aload_n dX4_keep_54 rfl ?_
      replace h := p_bind_elim h
      obtain ⟨_, q_29, h⟩ := h
      have q_29 := p_ob_spec q_29
      replace h := p_bind_elim h
      obtain ⟨r_27, q_28, h⟩ := h
      refine v_cVn (t_X3_copyFrom q_28) cal_X3_copyFrom ml_X4_29 sel_X3_copyFrom q_29 kk_3 dX4_keep_55 (by omega) (by decide) (by decide) (Nat.le_of_ble_eq_true rfl) rfl ?_
      refine v_aload_n dX4_keep_58 rfl ?_
      replace h := p_bind_elim h
      obtain ⟨a_30, q_31, h⟩ := h
      refine v_getR q_31 rfl fl_X4_18 dX4_keep_59 q_19 ?_
      refine v_aload_n dX4_keep_62 rfl ?_
      refine v_getI rfl fl_X4_15 dX4_keep_63 q_19 ?_
      refine v_iload_n dX4_keep_66 rfl ?_
      replace h := p_bind_elim h
      obtain ⟨j_32, q_33, h⟩ := h
      refine v_iastP dX4_keep_67 q_33 ?_
      replace h := p_let_elim h
      obtain ⟨I_34, h_35, h⟩ := h
      rw [← h_35]
      refine v_aload_n dX4_keep_68 rfl ?_
      refine v_aload_n dX4_keep_69 rfl ?_
      refine v_getI rfl fl_X4_15 dX4_keep_70 q_19 ?_
      refine v_iconstE (1 : Int32) dX4_keep_73 (by decide) ?_
      refine v_iadd dX4_keep_74 ?_
      refine v_bipush (16 : Int32) dX4_keep_75 (by decide) ?_
      refine v_irem dX4_keep_77 (by decide) ?_
      refine v_putI rfl fl_X4_15 dX4_keep_78 q_19 rfl rfl ?_
      replace h := p_let_elim h
      obtain ⟨I_36, h_37, h⟩ := h
      rw [← h_37]
      refine v_aload_n dX4_keep_81 rfl ?_
      refine v_aload_n dX4_keep_82 rfl ?_
      refine v_getI rfl fl_X4_9 dX4_keep_83 q_19 ?_
      refine v_iconstE (1 : Int32) dX4_keep_86 (by decide) ?_
      refine v_iadd dX4_keep_87 ?_
      refine v_bipush (16 : Int32) dX4_keep_88 (by decide) ?_
      refine v_min dX4_keep_90 ml_X4_33 (by omega) (by decide) (by decide) (Nat.le_of_ble_eq_true rfl) ?_
      refine v_putI rfl fl_X4_9 dX4_keep_93 q_19 rfl rfl ?_
      replace h := p_let_elim h
      obtain ⟨I_38, h_39, h⟩ := h
      rw [← h_39]
      cases h
      exact v_vret dX4_keep_96 rfl (by decide) (by decide) (by rw [← hQ]; exact ⟨rfl, rfl, rfl, rfl, rfl⟩)
    · subst q_12
      refine v_ifnonnull 53 dX4_keep_32 (by decide) ?_
      refine v_aload_n dX4_keep_53 rfl ?_
      refine v_aload_n dX4_keep_54 rfl ?_
      replace h := p_bind_elim h
      obtain ⟨_, q_42, h⟩ := h
      have q_42 := p_ob_spec q_42
      replace h := p_bind_elim h
      obtain ⟨r_40, q_41, h⟩ := h
      refine v_cVn (t_X3_copyFrom q_41) cal_X3_copyFrom ml_X4_29 sel_X3_copyFrom q_42 kk_3 dX4_keep_55 (by omega) (by decide) (by decide) (Nat.le_of_ble_eq_true rfl) rfl ?_
      refine v_aload_n dX4_keep_58 rfl ?_
      replace h := p_bind_elim h
      obtain ⟨a_43, q_44, h⟩ := h
      refine v_getR q_44 rfl fl_X4_18 dX4_keep_59 q_1 ?_
      refine v_aload_n dX4_keep_62 rfl ?_
      refine v_getI rfl fl_X4_15 dX4_keep_63 q_1 ?_
      refine v_iload_n dX4_keep_66 rfl ?_
      replace h := p_bind_elim h
      obtain ⟨j_45, q_46, h⟩ := h
      refine v_iastP dX4_keep_67 q_46 ?_
      replace h := p_let_elim h
      obtain ⟨I_47, h_48, h⟩ := h
      rw [← h_48]
      refine v_aload_n dX4_keep_68 rfl ?_
      refine v_aload_n dX4_keep_69 rfl ?_
      refine v_getI rfl fl_X4_15 dX4_keep_70 q_1 ?_
      refine v_iconstE (1 : Int32) dX4_keep_73 (by decide) ?_
      refine v_iadd dX4_keep_74 ?_
      refine v_bipush (16 : Int32) dX4_keep_75 (by decide) ?_
      refine v_irem dX4_keep_77 (by decide) ?_
      refine v_putI rfl fl_X4_15 dX4_keep_78 q_1 rfl rfl ?_
      replace h := p_let_elim h
      obtain ⟨I_49, h_50, h⟩ := h
      rw [← h_50]
      refine v_aload_n dX4_keep_81 rfl ?_
      refine v_aload_n dX4_keep_82 rfl ?_
      refine v_getI rfl fl_X4_9 dX4_keep_83 q_1 ?_
      refine v_iconstE (1 : Int32) dX4_keep_86 (by decide) ?_
      refine v_iadd dX4_keep_87 ?_
      refine v_bipush (16 : Int32) dX4_keep_88 (by decide) ?_
      refine v_min dX4_keep_90 ml_X4_33 (by omega) (by decide) (by decide) (Nat.le_of_ble_eq_true rfl) ?_
      refine v_putI rfl fl_X4_9 dX4_keep_93 q_1 rfl rfl ?_
      replace h := p_let_elim h
      obtain ⟨I_51, h_52, h⟩ := h
      rw [← h_52]
      cases h
      exact v_vret dX4_keep_96 rfl (by decide) (by decide) (by rw [← hQ]; exact ⟨rfl, rfl, rfl, rfl, rfl⟩)
  · rw [if_neg c_2] at h
    refine v_aload_n dX4_keep_7 rfl ?_
    refine v_getI rfl fl_X4_15 dX4_keep_8 q_1 ?_
    refine v_bipush (16 : Int32) dX4_keep_11 (by decide) ?_
    refine v_icmp_lt 21 dX4_keep_13 (by decide) (fun c_53 => ?_) (fun c_53 => ?_)
    · rw [if_pos c_53] at h
      refine v_aload_n dX4_keep_21 rfl ?_
      replace h := p_bind_elim h
      obtain ⟨a_54, q_55, h⟩ := h
      refine v_getR q_55 rfl fl_X4_24 dX4_keep_22 q_1 ?_
      refine v_aload_n dX4_keep_25 rfl ?_
      refine v_getI rfl fl_X4_15 dX4_keep_26 q_1 ?_
      replace h := p_bind_elim h
      obtain ⟨j_56, q_57, h⟩ := h
      refine v_aaldP5 dX4_keep_29 q_57 ?_
      replace h := p_let_elim h
      obtain ⟨x_58, h_59, h⟩ := h
      rw [← h_59]
      refine v_astore_nQ dX4_keep_30 (by decide) ?_
      refine v_sub [(0, .ref (B + p0)), (1, .int p1), (2, .ref (B + p2)), (3, v_rf B x_58)] (by rcases x_58 with _ | _ <;> exact ⟨rfl, rfl, rfl, rfl, trivial⟩) ?_
      refine v_aload_nQ dX4_keep_31 rfl ?_
      replace h := p_nul_elim h
      rcases h with ⟨q_61, h⟩ | ⟨a_60, q_61, h⟩
      · subst q_61
        refine v_ifnonnullN dX4_keep_32 ?_
        refine v_new dX4_keep_35 kc_3 cl_X4_22 knt_3 kni_3 kdf_3 (by decide) (by decide) ?_
        replace h := p_let_elim h
        obtain ⟨S_62, h_63, h⟩ := h
        rw [← h_63]
        have q_64 := p_app h_63 q_1
        have q_65 := p_fresh h_63
        refine v_dup dX4_keep_38 rfl ?_
        replace h := p_bind_elim h
        obtain ⟨r_66, q_67, h⟩ := h
        refine v_cINnc (t_X3_init q_67) cal_X3_init ml_X4_28 ins_X3_init rfl dX4_keep_39 (by omega) (by decide) (by decide) (Nat.le_of_ble_eq_true rfl) rfl ?_
        refine v_astore_n dX4_keep_42 (by decide) ?_
        refine v_sub [(0, .ref (B + p0)), (1, .int p1), (2, .ref (B + p2)), (3, .ref (B + S.length))] ⟨rfl, rfl, rfl, rfl, trivial⟩ ?_
        refine v_aload_n dX4_keep_43 rfl ?_
        replace h := p_bind_elim h
        obtain ⟨_, q_68, h⟩ := h
        have q_68 := p_ob_spec q_68
        replace h := p_bind_elim h
        obtain ⟨a_69, q_70, h⟩ := h
        refine v_getR q_70 rfl fl_X4_24 dX4_keep_44 q_68 ?_
        refine v_aload_n dX4_keep_47 rfl ?_
        refine v_getI rfl fl_X4_15 dX4_keep_48 q_68 ?_
        refine v_aload_n dX4_keep_51 rfl ?_
        replace h := p_bind_elim h
        obtain ⟨j_71, q_72, h⟩ := h
        replace h := p_bind_elim h
        obtain ⟨_, q_73, h⟩ := h
        refine v_aastP5 (e := (some S.length)) dX4_keep_52 q_72 q_73 ?_
        replace h := p_let_elim h
        obtain ⟨F_74, h_75, h⟩ := h
        rw [← h_75]
        refine v_aload_n dX4_keep_53 rfl ?_
        refine v_aload_n dX4_keep_54 rfl ?_
        replace h := p_bind_elim h
        obtain ⟨_, q_78, h⟩ := h
        have q_78 := p_ob_spec q_78
        replace h := p_bind_elim h
        obtain ⟨r_76, q_77, h⟩ := h
        refine v_cVn (t_X3_copyFrom q_77) cal_X3_copyFrom ml_X4_29 sel_X3_copyFrom q_78 kk_3 dX4_keep_55 (by omega) (by decide) (by decide) (Nat.le_of_ble_eq_true rfl) rfl ?_
        refine v_aload_n dX4_keep_58 rfl ?_
        replace h := p_bind_elim h
        obtain ⟨a_79, q_80, h⟩ := h
        refine v_getR q_80 rfl fl_X4_18 dX4_keep_59 q_68 ?_
        refine v_aload_n dX4_keep_62 rfl ?_
        refine v_getI rfl fl_X4_15 dX4_keep_63 q_68 ?_
        refine v_iload_n dX4_keep_66 rfl ?_
        replace h := p_bind_elim h
        obtain ⟨j_81, q_82, h⟩ := h
        refine v_iastP dX4_keep_67 q_82 ?_
        replace h := p_let_elim h
        obtain ⟨I_83, h_84, h⟩ := h
        rw [← h_84]
        refine v_aload_n dX4_keep_68 rfl ?_
        refine v_aload_n dX4_keep_69 rfl ?_
        refine v_getI rfl fl_X4_15 dX4_keep_70 q_68 ?_
        refine v_iconstE (1 : Int32) dX4_keep_73 (by decide) ?_
        refine v_iadd dX4_keep_74 ?_
        refine v_bipush (16 : Int32) dX4_keep_75 (by decide) ?_
        refine v_irem dX4_keep_77 (by decide) ?_
        refine v_putI rfl fl_X4_15 dX4_keep_78 q_68 rfl rfl ?_
        replace h := p_let_elim h
        obtain ⟨I_85, h_86, h⟩ := h
        rw [← h_86]
        refine v_aload_n dX4_keep_81 rfl ?_
        refine v_aload_n dX4_keep_82 rfl ?_
        refine v_getI rfl fl_X4_9 dX4_keep_83 q_68 ?_
        refine v_iconstE (1 : Int32) dX4_keep_86 (by decide) ?_
        refine v_iadd dX4_keep_87 ?_
        refine v_bipush (16 : Int32) dX4_keep_88 (by decide) ?_
        refine v_min dX4_keep_90 ml_X4_33 (by omega) (by decide) (by decide) (Nat.le_of_ble_eq_true rfl) ?_
        refine v_putI rfl fl_X4_9 dX4_keep_93 q_68 rfl rfl ?_
        replace h := p_let_elim h
        obtain ⟨I_87, h_88, h⟩ := h
        rw [← h_88]
        cases h
        exact v_vret dX4_keep_96 rfl (by decide) (by decide) (by rw [← hQ]; exact ⟨rfl, rfl, rfl, rfl, rfl⟩)
      · subst q_61
        refine v_ifnonnull 53 dX4_keep_32 (by decide) ?_
        refine v_aload_n dX4_keep_53 rfl ?_
        refine v_aload_n dX4_keep_54 rfl ?_
        replace h := p_bind_elim h
        obtain ⟨_, q_91, h⟩ := h
        have q_91 := p_ob_spec q_91
        replace h := p_bind_elim h
        obtain ⟨r_89, q_90, h⟩ := h
        refine v_cVn (t_X3_copyFrom q_90) cal_X3_copyFrom ml_X4_29 sel_X3_copyFrom q_91 kk_3 dX4_keep_55 (by omega) (by decide) (by decide) (Nat.le_of_ble_eq_true rfl) rfl ?_
        refine v_aload_n dX4_keep_58 rfl ?_
        replace h := p_bind_elim h
        obtain ⟨a_92, q_93, h⟩ := h
        refine v_getR q_93 rfl fl_X4_18 dX4_keep_59 q_1 ?_
        refine v_aload_n dX4_keep_62 rfl ?_
        refine v_getI rfl fl_X4_15 dX4_keep_63 q_1 ?_
        refine v_iload_n dX4_keep_66 rfl ?_
        replace h := p_bind_elim h
        obtain ⟨j_94, q_95, h⟩ := h
        refine v_iastP dX4_keep_67 q_95 ?_
        replace h := p_let_elim h
        obtain ⟨I_96, h_97, h⟩ := h
        rw [← h_97]
        refine v_aload_n dX4_keep_68 rfl ?_
        refine v_aload_n dX4_keep_69 rfl ?_
        refine v_getI rfl fl_X4_15 dX4_keep_70 q_1 ?_
        refine v_iconstE (1 : Int32) dX4_keep_73 (by decide) ?_
        refine v_iadd dX4_keep_74 ?_
        refine v_bipush (16 : Int32) dX4_keep_75 (by decide) ?_
        refine v_irem dX4_keep_77 (by decide) ?_
        refine v_putI rfl fl_X4_15 dX4_keep_78 q_1 rfl rfl ?_
        replace h := p_let_elim h
        obtain ⟨I_98, h_99, h⟩ := h
        rw [← h_99]
        refine v_aload_n dX4_keep_81 rfl ?_
        refine v_aload_n dX4_keep_82 rfl ?_
        refine v_getI rfl fl_X4_9 dX4_keep_83 q_1 ?_
        refine v_iconstE (1 : Int32) dX4_keep_86 (by decide) ?_
        refine v_iadd dX4_keep_87 ?_
        refine v_bipush (16 : Int32) dX4_keep_88 (by decide) ?_
        refine v_min dX4_keep_90 ml_X4_33 (by omega) (by decide) (by decide) (Nat.le_of_ble_eq_true rfl) ?_
        refine v_putI rfl fl_X4_9 dX4_keep_93 q_1 rfl rfl ?_
        replace h := p_let_elim h
        obtain ⟨I_100, h_101, h⟩ := h
        rw [← h_101]
        cases h
        exact v_vret dX4_keep_96 rfl (by decide) (by decide) (by rw [← hQ]; exact ⟨rfl, rfl, rfl, rfl, rfl⟩)
    · rw [if_neg c_53] at h
      refine v_aload_n dX4_keep_16 rfl ?_
      refine v_iconstE (0 : Int32) dX4_keep_17 (by decide) ?_
      refine v_putI rfl fl_X4_15 dX4_keep_18 q_1 rfl rfl ?_
      replace h := p_let_elim h
      obtain ⟨I_102, h_103, h⟩ := h
      rw [← h_103]
      refine v_aload_n dX4_keep_21 rfl ?_
      replace h := p_bind_elim h
      obtain ⟨a_104, q_105, h⟩ := h
      refine v_getR q_105 rfl fl_X4_24 dX4_keep_22 q_1 ?_
      refine v_aload_n dX4_keep_25 rfl ?_
      refine v_getI rfl fl_X4_15 dX4_keep_26 q_1 ?_
      replace h := p_bind_elim h
      obtain ⟨j_106, q_107, h⟩ := h
      refine v_aaldP5 dX4_keep_29 q_107 ?_
      replace h := p_let_elim h
      obtain ⟨x_108, h_109, h⟩ := h
      rw [← h_109]
      refine v_astore_nQ dX4_keep_30 (by decide) ?_
      refine v_sub [(0, .ref (B + p0)), (1, .int p1), (2, .ref (B + p2)), (3, v_rf B x_108)] (by rcases x_108 with _ | _ <;> exact ⟨rfl, rfl, rfl, rfl, trivial⟩) ?_
      refine v_aload_nQ dX4_keep_31 rfl ?_
      replace h := p_nul_elim h
      rcases h with ⟨q_111, h⟩ | ⟨a_110, q_111, h⟩
      · subst q_111
        refine v_ifnonnullN dX4_keep_32 ?_
        refine v_new dX4_keep_35 kc_3 cl_X4_22 knt_3 kni_3 kdf_3 (by decide) (by decide) ?_
        replace h := p_let_elim h
        obtain ⟨S_112, h_113, h⟩ := h
        rw [← h_113]
        have q_114 := p_app h_113 q_1
        have q_115 := p_fresh h_113
        refine v_dup dX4_keep_38 rfl ?_
        replace h := p_bind_elim h
        obtain ⟨r_116, q_117, h⟩ := h
        refine v_cINnc (t_X3_init q_117) cal_X3_init ml_X4_28 ins_X3_init rfl dX4_keep_39 (by omega) (by decide) (by decide) (Nat.le_of_ble_eq_true rfl) rfl ?_
        refine v_astore_n dX4_keep_42 (by decide) ?_
        refine v_sub [(0, .ref (B + p0)), (1, .int p1), (2, .ref (B + p2)), (3, .ref (B + S.length))] ⟨rfl, rfl, rfl, rfl, trivial⟩ ?_
        refine v_aload_n dX4_keep_43 rfl ?_
        replace h := p_bind_elim h
        obtain ⟨_, q_118, h⟩ := h
        have q_118 := p_ob_spec q_118
        replace h := p_bind_elim h
        obtain ⟨a_119, q_120, h⟩ := h
        refine v_getR q_120 rfl fl_X4_24 dX4_keep_44 q_118 ?_
        refine v_aload_n dX4_keep_47 rfl ?_
        refine v_getI rfl fl_X4_15 dX4_keep_48 q_118 ?_
        refine v_aload_n dX4_keep_51 rfl ?_
        replace h := p_bind_elim h
        obtain ⟨j_121, q_122, h⟩ := h
        replace h := p_bind_elim h
        obtain ⟨_, q_123, h⟩ := h
        refine v_aastP5 (e := (some S.length)) dX4_keep_52 q_122 q_123 ?_
        replace h := p_let_elim h
        obtain ⟨F_124, h_125, h⟩ := h
        rw [← h_125]
        refine v_aload_n dX4_keep_53 rfl ?_
        refine v_aload_n dX4_keep_54 rfl ?_
        replace h := p_bind_elim h
        obtain ⟨_, q_128, h⟩ := h
        have q_128 := p_ob_spec q_128
        replace h := p_bind_elim h
        obtain ⟨r_126, q_127, h⟩ := h
        refine v_cVn (t_X3_copyFrom q_127) cal_X3_copyFrom ml_X4_29 sel_X3_copyFrom q_128 kk_3 dX4_keep_55 (by omega) (by decide) (by decide) (Nat.le_of_ble_eq_true rfl) rfl ?_
        refine v_aload_n dX4_keep_58 rfl ?_
        replace h := p_bind_elim h
        obtain ⟨a_129, q_130, h⟩ := h
        refine v_getR q_130 rfl fl_X4_18 dX4_keep_59 q_118 ?_
        refine v_aload_n dX4_keep_62 rfl ?_
        refine v_getI rfl fl_X4_15 dX4_keep_63 q_118 ?_
        refine v_iload_n dX4_keep_66 rfl ?_
        replace h := p_bind_elim h
        obtain ⟨j_131, q_132, h⟩ := h
        refine v_iastP dX4_keep_67 q_132 ?_
        replace h := p_let_elim h
        obtain ⟨I_133, h_134, h⟩ := h
        rw [← h_134]
        refine v_aload_n dX4_keep_68 rfl ?_
        refine v_aload_n dX4_keep_69 rfl ?_
        refine v_getI rfl fl_X4_15 dX4_keep_70 q_118 ?_
        refine v_iconstE (1 : Int32) dX4_keep_73 (by decide) ?_
        refine v_iadd dX4_keep_74 ?_
        refine v_bipush (16 : Int32) dX4_keep_75 (by decide) ?_
        refine v_irem dX4_keep_77 (by decide) ?_
        refine v_putI rfl fl_X4_15 dX4_keep_78 q_118 rfl rfl ?_
        replace h := p_let_elim h
        obtain ⟨I_135, h_136, h⟩ := h
        rw [← h_136]
        refine v_aload_n dX4_keep_81 rfl ?_
        refine v_aload_n dX4_keep_82 rfl ?_
        refine v_getI rfl fl_X4_9 dX4_keep_83 q_118 ?_
        refine v_iconstE (1 : Int32) dX4_keep_86 (by decide) ?_
        refine v_iadd dX4_keep_87 ?_
        refine v_bipush (16 : Int32) dX4_keep_88 (by decide) ?_
        refine v_min dX4_keep_90 ml_X4_33 (by omega) (by decide) (by decide) (Nat.le_of_ble_eq_true rfl) ?_
        refine v_putI rfl fl_X4_9 dX4_keep_93 q_118 rfl rfl ?_
        replace h := p_let_elim h
        obtain ⟨I_137, h_138, h⟩ := h
        rw [← h_138]
        cases h
        exact v_vret dX4_keep_96 rfl (by decide) (by decide) (by rw [← hQ]; exact ⟨rfl, rfl, rfl, rfl, rfl⟩)
      · subst q_111
        refine v_ifnonnull 53 dX4_keep_32 (by decide) ?_
        refine v_aload_n dX4_keep_53 rfl ?_
        refine v_aload_n dX4_keep_54 rfl ?_
        replace h := p_bind_elim h
        obtain ⟨_, q_141, h⟩ := h
        have q_141 := p_ob_spec q_141
        replace h := p_bind_elim h
        obtain ⟨r_139, q_140, h⟩ := h
        refine v_cVn (t_X3_copyFrom q_140) cal_X3_copyFrom ml_X4_29 sel_X3_copyFrom q_141 kk_3 dX4_keep_55 (by omega) (by decide) (by decide) (Nat.le_of_ble_eq_true rfl) rfl ?_
        refine v_aload_n dX4_keep_58 rfl ?_
        replace h := p_bind_elim h
        obtain ⟨a_142, q_143, h⟩ := h
        refine v_getR q_143 rfl fl_X4_18 dX4_keep_59 q_1 ?_
        refine v_aload_n dX4_keep_62 rfl ?_
        refine v_getI rfl fl_X4_15 dX4_keep_63 q_1 ?_
        refine v_iload_n dX4_keep_66 rfl ?_
        replace h := p_bind_elim h
        obtain ⟨j_144, q_145, h⟩ := h
        refine v_iastP dX4_keep_67 q_145 ?_
        replace h := p_let_elim h
        obtain ⟨I_146, h_147, h⟩ := h
        rw [← h_147]
        refine v_aload_n dX4_keep_68 rfl ?_
        refine v_aload_n dX4_keep_69 rfl ?_
        refine v_getI rfl fl_X4_15 dX4_keep_70 q_1 ?_
        refine v_iconstE (1 : Int32) dX4_keep_73 (by decide) ?_
        refine v_iadd dX4_keep_74 ?_
        refine v_bipush (16 : Int32) dX4_keep_75 (by decide) ?_
        refine v_irem dX4_keep_77 (by decide) ?_
        refine v_putI rfl fl_X4_15 dX4_keep_78 q_1 rfl rfl ?_
        replace h := p_let_elim h
        obtain ⟨I_148, h_149, h⟩ := h
        rw [← h_149]
        refine v_aload_n dX4_keep_81 rfl ?_
        refine v_aload_n dX4_keep_82 rfl ?_
        refine v_getI rfl fl_X4_9 dX4_keep_83 q_1 ?_
        refine v_iconstE (1 : Int32) dX4_keep_86 (by decide) ?_
        refine v_iadd dX4_keep_87 ?_
        refine v_bipush (16 : Int32) dX4_keep_88 (by decide) ?_
        refine v_min dX4_keep_90 ml_X4_33 (by omega) (by decide) (by decide) (Nat.le_of_ble_eq_true rfl) ?_
        refine v_putI rfl fl_X4_9 dX4_keep_93 q_1 rfl rfl ?_
        replace h := p_let_elim h
        obtain ⟨I_150, h_151, h⟩ := h
        rw [← h_151]
        cases h
        exact v_vret dX4_keep_96 rfl (by decide) (by decide) (by rw [← hQ]; exact ⟨rfl, rfl, rfl, rfl, rfl⟩)

set_option maxRecDepth 100000 in
def f_X2_runOnce (S : v_S) (I : v_I) (J : v_J) (F : v_F) (p0 : Nat) (p1 : Nat) (p2 : Int32) (p3 : Nat) (p4 : Nat) (p5 : Nat) (p6 : Nat) : Option (Int32 × v_S × v_I × v_J × v_F) :=
(p_ob S 2 p0).bind fun _ =>
(f_X2_hear S I F p0 p3 p4).bind fun r_1 =>
(p_ob S 8 p1).bind fun _ =>
(F p1 6).bind fun a_5 =>
(p_ix S 20 a_5 p2).bind fun j_7 =>
if (r_1 a_5 j_7) = (-1 : Int32) then (
(F p1 3).bind fun a_10 =>
(p_ix S 20 a_10 p2).bind fun j_12 =>
p_let (r_1 a_10 j_12) fun x_14 =>
(F p1 4).bind fun a_16 =>
(p_ix S 20 a_16 p2).bind fun j_18 =>
(f_X2_sumAt S r_1 J F p0 p1 (r_1 a_16 j_18)).bind fun r_20 =>
(F p1 5).bind fun a_22 =>
(p_ix S 20 a_22 p2).bind fun j_24 =>
(f_X2_sumAt S r_1 r_20.2 F p0 p1 (r_1 a_22 j_24)).bind fun r_26 =>
if (lg_cmp r_20.1 (-1000000000000000 : Int64)) = (0 : Int32) then (
some ((0 : Int32), S, r_1, r_26.2, F))
else (
if (lg_cmp r_26.1 (-1000000000000000 : Int64)) = (0 : Int32) then (
some ((0 : Int32), S, r_1, r_26.2, F))
else (
(p_ob S 0 p3).bind fun _ =>
(f_X0_whyNot S r_1 F p3 p4 x_14 r_20.1 r_26.1).bind fun r_30 =>
if r_30 = (0 : Int32) then (
(p_ob S 4 p6).bind fun _ =>
(f_X4_keep S r_1 F p6 x_14 p4).bind fun r_34 =>
(p_ob r_34.1 1 p5).bind fun _ =>
(f_X1_perform r_34.1 r_34.2.1 r_26.2 r_34.2.2 p5 p3 p4 x_14 r_20.1.toInt32 r_26.1.toInt32).bind fun r_37 =>
(p_ob r_34.1 2 p0).bind fun _ =>
p_let (v_up r_37.2.1 p0 0 ((r_37.2.1 p0 0) + (1 : Int32))) fun I_41 =>
if x_14 = (3 : Int32) then (
p_let (v_up I_41 p0 1 r_37.1) fun I_46 =>
some ((1 : Int32), r_34.1, I_46, r_37.2.2, r_34.2.2))
else (
p_let (v_up I_41 p0 1 (I_41 p0 1)) fun I_44 =>
some ((1 : Int32), r_34.1, I_44, r_37.2.2, r_34.2.2)))
else (
some ((0 : Int32), S, r_1, r_26.2, F)))))
else (
(F p0 2).bind fun a_48 =>
(F p1 6).bind fun a_50 =>
(p_ix S 20 a_50 p2).bind fun j_52 =>
(p_ob S 7 a_48).bind fun _ =>
(f_X7_reckon S r_1 J F a_48 p1 (r_1 a_50 j_52)).bind fun r_54 =>
if (lg_cmp r_54.1 (1 : Int64)) = (0 : Int32) then (
(F p1 3).bind fun a_58 =>
(p_ix S 20 a_58 p2).bind fun j_60 =>
p_let (r_1 a_58 j_60) fun x_62 =>
(F p1 4).bind fun a_64 =>
(p_ix S 20 a_64 p2).bind fun j_66 =>
(f_X2_sumAt S r_1 r_54.2 F p0 p1 (r_1 a_64 j_66)).bind fun r_68 =>
(F p1 5).bind fun a_70 =>
(p_ix S 20 a_70 p2).bind fun j_72 =>
(f_X2_sumAt S r_1 r_68.2 F p0 p1 (r_1 a_70 j_72)).bind fun r_74 =>
if (lg_cmp r_68.1 (-1000000000000000 : Int64)) = (0 : Int32) then (
some ((0 : Int32), S, r_1, r_74.2, F))
else (
if (lg_cmp r_74.1 (-1000000000000000 : Int64)) = (0 : Int32) then (
some ((0 : Int32), S, r_1, r_74.2, F))
else (
(p_ob S 0 p3).bind fun _ =>
(f_X0_whyNot S r_1 F p3 p4 x_62 r_68.1 r_74.1).bind fun r_78 =>
if r_78 = (0 : Int32) then (
(p_ob S 4 p6).bind fun _ =>
(f_X4_keep S r_1 F p6 x_62 p4).bind fun r_82 =>
(p_ob r_82.1 1 p5).bind fun _ =>
(f_X1_perform r_82.1 r_82.2.1 r_74.2 r_82.2.2 p5 p3 p4 x_62 r_68.1.toInt32 r_74.1.toInt32).bind fun r_85 =>
(p_ob r_82.1 2 p0).bind fun _ =>
p_let (v_up r_85.2.1 p0 0 ((r_85.2.1 p0 0) + (1 : Int32))) fun I_89 =>
if x_62 = (3 : Int32) then (
p_let (v_up I_89 p0 1 r_85.1) fun I_94 =>
some ((1 : Int32), r_82.1, I_94, r_85.2.2, r_82.2.2))
else (
p_let (v_up I_89 p0 1 (I_89 p0 1)) fun I_92 =>
some ((1 : Int32), r_82.1, I_92, r_85.2.2, r_82.2.2)))
else (
some ((0 : Int32), S, r_1, r_74.2, F)))))
else (
some ((1 : Int32), S, r_1, r_54.2, F)))
set_option maxHeartbeats 4000000 in
set_option maxRecDepth 100000 in
theorem t_X2_runOnce {p0 : Nat} {p1 : Nat} {p2 : Int32} {p3 : Nat} {p4 : Nat} {p5 : Nat} {p6 : Nat} {r : Int32 × v_S × v_I × v_J × v_F} (h : f_X2_runOnce S I J F p0 p1 p2 p3 p4 p5 p6 = some r) : v_R l B D ac (v_EE B wa wb wt sb sL sx) yX2_runOnce cX2_runOnce 13 (some .boolean) 6 3 20 [.ref (B + p0), .ref (B + p1), .int p2, .ref (B + p3), .ref (B + p4), .ref (B + p5), .ref (B + p6)] S I J F (v_D (some (.int r.1)) r.2.1 r.2.2.1 r.2.2.2.1 r.2.2.2.2) := by
  refine v_R.of (by decide) (Nat.le_of_ble_eq_true rfl) fun d hd => ?_
  generalize hQ : v_D (some (.int r.1)) r.2.1 r.2.2.1 r.2.2.2.1 r.2.2.2.2 = Q
  unfold f_X2_runOnce at h
  refine v_sub [(0, .ref (B + p0)), (1, .ref (B + p1)), (2, .int p2), (3, .ref (B + p3)), (4, .ref (B + p4)), (5, .ref (B + p5)), (6, .ref (B + p6))] ⟨rfl, rfl, rfl, rfl, rfl, rfl, rfl, trivial⟩ ?_
  refine v_aload_n dX2_runOnce_0 rfl ?_
  refine v_aload_n dX2_runOnce_1 rfl ?_
  refine v_aload dX2_runOnce_2 rfl ?_
  replace h := p_bind_elim h
  obtain ⟨_, q_3, h⟩ := h
  have q_3 := p_ob_spec q_3
  replace h := p_bind_elim h
  obtain ⟨r_1, q_2, h⟩ := h
  refine v_cVn (t_X2_hear q_2) cal_X2_hear ml_X2_38 sel_X2_hear q_3 kk_2 dX2_runOnce_4 (by omega) (by decide) (by decide) (Nat.le_of_ble_eq_true rfl) rfl ?_
  refine v_aload_n dX2_runOnce_7 rfl ?_
  replace h := p_bind_elim h
  obtain ⟨_, q_4, h⟩ := h
  have q_4 := p_ob_spec q_4
  replace h := p_bind_elim h
  obtain ⟨a_5, q_6, h⟩ := h
  refine v_getR q_6 rfl fl_X2_42 dX2_runOnce_8 q_4 ?_
  refine v_iload_n dX2_runOnce_11 rfl ?_
  replace h := p_bind_elim h
  obtain ⟨j_7, q_8, h⟩ := h
  refine v_ialdP dX2_runOnce_12 q_8 ?_
  refine v_iconstE (-1 : Int32) dX2_runOnce_13 (by decide) ?_
  refine v_icmp_eq 38 dX2_runOnce_14 (by decide) (fun c_9 => ?_) (fun c_9 => ?_)
  · rw [if_pos c_9] at h
    refine v_aload_n dX2_runOnce_38 rfl ?_
    replace h := p_bind_elim h
    obtain ⟨a_10, q_11, h⟩ := h
    refine v_getR q_11 rfl fl_X2_49 dX2_runOnce_39 q_4 ?_
    refine v_iload_n dX2_runOnce_42 rfl ?_
    replace h := p_bind_elim h
    obtain ⟨j_12, q_13, h⟩ := h
    refine v_ialdP dX2_runOnce_43 q_13 ?_
    replace h := p_let_elim h
    obtain ⟨x_14, h_15, h⟩ := h
    rw [← h_15]
    refine v_istore dX2_runOnce_44 (by decide) ?_
    refine v_sub [(0, .ref (B + p0)), (1, .ref (B + p1)), (2, .int p2), (3, .ref (B + p3)), (4, .ref (B + p4)), (5, .ref (B + p5)), (6, .ref (B + p6)), (7, .int x_14)] ⟨rfl, rfl, rfl, rfl, rfl, rfl, rfl, rfl, trivial⟩ ?_
    refine v_aload_n dX2_runOnce_46 rfl ?_
    refine v_aload_n dX2_runOnce_47 rfl ?_
    refine v_aload_n dX2_runOnce_48 rfl ?_
    replace h := p_bind_elim h
    obtain ⟨a_16, q_17, h⟩ := h
    refine v_getR q_17 rfl fl_X2_52 dX2_runOnce_49 q_4 ?_
    refine v_iload_n dX2_runOnce_52 rfl ?_
    replace h := p_bind_elim h
    obtain ⟨j_18, q_19, h⟩ := h
    refine v_ialdP dX2_runOnce_53 q_19 ?_
    replace h := p_bind_elim h
    obtain ⟨r_20, q_21, h⟩ := h
    refine v_cVr (t_X2_sumAt q_21) cal_X2_sumAt ml_X2_55 sel_X2_sumAt q_3 kk_2 dX2_runOnce_54 (by omega) (by decide) (by decide) (Nat.le_of_ble_eq_true rfl) rfl ?_
    refine v_lstore dX2_runOnce_57 (by decide) ?_
    refine v_sub [(0, .ref (B + p0)), (1, .ref (B + p1)), (2, .int p2), (3, .ref (B + p3)), (4, .ref (B + p4)), (5, .ref (B + p5)), (6, .ref (B + p6)), (7, .int x_14), (8, .long r_20.1)] ⟨rfl, rfl, rfl, rfl, rfl, rfl, rfl, rfl, rfl, trivial⟩ ?_
    refine v_aload_n dX2_runOnce_59 rfl ?_
    refine v_aload_n dX2_runOnce_60 rfl ?_
    refine v_aload_n dX2_runOnce_61 rfl ?_
    replace h := p_bind_elim h
    obtain ⟨a_22, q_23, h⟩ := h
    refine v_getR q_23 rfl fl_X2_58 dX2_runOnce_62 q_4 ?_
    refine v_iload_n dX2_runOnce_65 rfl ?_
    replace h := p_bind_elim h
    obtain ⟨j_24, q_25, h⟩ := h
    refine v_ialdP dX2_runOnce_66 q_25 ?_
    replace h := p_bind_elim h
    obtain ⟨r_26, q_27, h⟩ := h
    refine v_cVr (t_X2_sumAt q_27) cal_X2_sumAt ml_X2_55 sel_X2_sumAt q_3 kk_2 dX2_runOnce_67 (by omega) (by decide) (by decide) (Nat.le_of_ble_eq_true rfl) rfl ?_
    refine v_lstore dX2_runOnce_70 (by decide) ?_
    refine v_sub [(0, .ref (B + p0)), (3, .ref (B + p3)), (4, .ref (B + p4)), (5, .ref (B + p5)), (6, .ref (B + p6)), (7, .int x_14), (8, .long r_20.1), (10, .long r_26.1)] ⟨rfl, rfl, rfl, rfl, rfl, rfl, rfl, rfl, trivial⟩ ?_
    refine v_lload dX2_runOnce_72 rfl ?_
    refine v_ldc2 (-1000000000000000 : Int64) dX2_runOnce_74 kn_X2_61 ?_
    refine v_lcmp dX2_runOnce_77 ?_
    refine v_if_eq 105 dX2_runOnce_78 (by decide) (fun c_28 => ?_) (fun c_28 => ?_)
    · rw [if_pos c_28] at h
      refine v_iconstE (0 : Int32) dX2_runOnce_105 (by decide) ?_
      cases h
      exact v_zret dX2_runOnce_106 rfl rfl (by decide) (by decide) (by rw [← hQ]; exact ⟨rfl, rfl, rfl, rfl, rfl⟩)
    · rw [if_neg c_28] at h
      refine v_lload dX2_runOnce_81 rfl ?_
      refine v_ldc2 (-1000000000000000 : Int64) dX2_runOnce_83 kn_X2_61 ?_
      refine v_lcmp dX2_runOnce_86 ?_
      refine v_if_eq 105 dX2_runOnce_87 (by decide) (fun c_29 => ?_) (fun c_29 => ?_)
      · rw [if_pos c_29] at h
        refine v_iconstE (0 : Int32) dX2_runOnce_105 (by decide) ?_
        cases h
        exact v_zret dX2_runOnce_106 rfl rfl (by decide) (by decide) (by rw [← hQ]; exact ⟨rfl, rfl, rfl, rfl, rfl⟩)
      · rw [if_neg c_29] at h
        refine v_aload_n dX2_runOnce_90 rfl ?_
        refine v_aload dX2_runOnce_91 rfl ?_
        refine v_iload dX2_runOnce_93 rfl ?_
        refine v_lload dX2_runOnce_95 rfl ?_
        refine v_lload dX2_runOnce_97 rfl ?_
        replace h := p_bind_elim h
        obtain ⟨_, q_32, h⟩ := h
        have q_32 := p_ob_spec q_32
        replace h := p_bind_elim h
        obtain ⟨r_30, q_31, h⟩ := h
        refine v_cVr (t_X0_whyNot q_31) cal_X0_whyNot ml_X2_63 sel_X0_whyNot q_32 kk_0 dX2_runOnce_99 (by omega) (by decide) (by decide) (Nat.le_of_ble_eq_true rfl) rfl ?_
        refine v_if_eq 107 dX2_runOnce_102 (by decide) (fun c_33 => ?_) (fun c_33 => ?_)
        · rw [if_pos c_33] at h
          refine v_aload dX2_runOnce_107 rfl ?_
          refine v_ifnull dX2_runOnce_109 ?_
          refine v_aload dX2_runOnce_112 rfl ?_
          refine v_iload dX2_runOnce_114 rfl ?_
          refine v_aload dX2_runOnce_116 rfl ?_
          replace h := p_bind_elim h
          obtain ⟨_, q_36, h⟩ := h
          have q_36 := p_ob_spec q_36
          replace h := p_bind_elim h
          obtain ⟨r_34, q_35, h⟩ := h
          refine v_cVnc (t_X4_keep q_35) cal_X4_keep ml_X2_69 sel_X4_keep q_36 kk_4 dX2_runOnce_118 (by omega) (by decide) (by decide) (Nat.le_of_ble_eq_true rfl) rfl ?_
          refine v_aload dX2_runOnce_121 rfl ?_
          refine v_aload_n dX2_runOnce_123 rfl ?_
          refine v_aload dX2_runOnce_124 rfl ?_
          refine v_iload dX2_runOnce_126 rfl ?_
          refine v_lload dX2_runOnce_128 rfl ?_
          refine v_l2i dX2_runOnce_130 ?_
          refine v_lload dX2_runOnce_131 rfl ?_
          refine v_l2i dX2_runOnce_133 ?_
          replace h := p_bind_elim h
          obtain ⟨_, q_39, h⟩ := h
          have q_39 := p_ob_spec q_39
          replace h := p_bind_elim h
          obtain ⟨r_37, q_38, h⟩ := h
          refine v_cVr (t_X1_perform q_38) cal_X1_perform ml_X2_75 sel_X1_perform q_39 kk_1 dX2_runOnce_134 (by omega) (by decide) (by decide) (Nat.le_of_ble_eq_true rfl) rfl ?_
          refine v_istore dX2_runOnce_137 (by decide) ?_
          refine v_sub [(0, .ref (B + p0)), (7, .int x_14), (12, .int r_37.1)] ⟨rfl, rfl, rfl, trivial⟩ ?_
          refine v_aload_n dX2_runOnce_139 rfl ?_
          refine v_dup dX2_runOnce_140 rfl ?_
          replace h := p_bind_elim h
          obtain ⟨_, q_40, h⟩ := h
          have q_40 := p_ob_spec q_40
          refine v_getI rfl fl_X2_9 dX2_runOnce_141 q_40 ?_
          refine v_iconstE (1 : Int32) dX2_runOnce_144 (by decide) ?_
          refine v_iadd dX2_runOnce_145 ?_
          refine v_putI rfl fl_X2_9 dX2_runOnce_146 q_40 rfl rfl ?_
          replace h := p_let_elim h
          obtain ⟨I_41, h_42, h⟩ := h
          rw [← h_42]
          refine v_aload_n dX2_runOnce_149 rfl ?_
          refine v_iload dX2_runOnce_150 rfl ?_
          refine v_iconstE (3 : Int32) dX2_runOnce_152 (by decide) ?_
          refine v_icmp_ne 161 dX2_runOnce_153 (by decide) (fun c_43 => ?_) (fun c_43 => ?_)
          · rw [if_neg c_43] at h
            refine v_aload_n dX2_runOnce_161 rfl ?_
            refine v_getI rfl fl_X2_15 dX2_runOnce_162 q_40 ?_
            refine v_putI rfl fl_X2_15 dX2_runOnce_165 q_40 rfl rfl ?_
            replace h := p_let_elim h
            obtain ⟨I_44, h_45, h⟩ := h
            rw [← h_45]
            refine v_iconstE (1 : Int32) dX2_runOnce_168 (by decide) ?_
            cases h
            exact v_zret dX2_runOnce_169 rfl rfl (by decide) (by decide) (by rw [← hQ]; exact ⟨rfl, rfl, rfl, rfl, rfl⟩)
          · rw [if_pos c_43] at h
            refine v_iload dX2_runOnce_156 rfl ?_
            refine v_goto 165 dX2_runOnce_158 (by decide) ?_
            refine v_putI rfl fl_X2_15 dX2_runOnce_165 q_40 rfl rfl ?_
            replace h := p_let_elim h
            obtain ⟨I_46, h_47, h⟩ := h
            rw [← h_47]
            refine v_iconstE (1 : Int32) dX2_runOnce_168 (by decide) ?_
            cases h
            exact v_zret dX2_runOnce_169 rfl rfl (by decide) (by decide) (by rw [← hQ]; exact ⟨rfl, rfl, rfl, rfl, rfl⟩)
        · rw [if_neg c_33] at h
          refine v_iconstE (0 : Int32) dX2_runOnce_105 (by decide) ?_
          cases h
          exact v_zret dX2_runOnce_106 rfl rfl (by decide) (by decide) (by rw [← hQ]; exact ⟨rfl, rfl, rfl, rfl, rfl⟩)
  · rw [if_neg c_9] at h
    refine v_aload_n dX2_runOnce_17 rfl ?_
    replace h := p_bind_elim h
    obtain ⟨a_48, q_49, h⟩ := h
    refine v_getR q_49 rfl fl_X2_21 dX2_runOnce_18 q_3 ?_
    refine v_aload_n dX2_runOnce_21 rfl ?_
    refine v_aload_n dX2_runOnce_22 rfl ?_
    replace h := p_bind_elim h
    obtain ⟨a_50, q_51, h⟩ := h
    refine v_getR q_51 rfl fl_X2_42 dX2_runOnce_23 q_4 ?_
    refine v_iload_n dX2_runOnce_26 rfl ?_
    replace h := p_bind_elim h
    obtain ⟨j_52, q_53, h⟩ := h
    refine v_ialdP dX2_runOnce_27 q_53 ?_
    replace h := p_bind_elim h
    obtain ⟨_, q_56, h⟩ := h
    have q_56 := p_ob_spec q_56
    replace h := p_bind_elim h
    obtain ⟨r_54, q_55, h⟩ := h
    refine v_cVr (t_X7_reckon q_55) cal_X7_reckon ml_X2_45 sel_X7_reckon q_56 kk_7 dX2_runOnce_28 (by omega) (by decide) (by decide) (Nat.le_of_ble_eq_true rfl) rfl ?_
    refine v_lconst (1 : Int64) dX2_runOnce_31 (by decide) ?_
    refine v_lcmp dX2_runOnce_32 ?_
    refine v_if_eq 38 dX2_runOnce_33 (by decide) (fun c_57 => ?_) (fun c_57 => ?_)
    · rw [if_pos c_57] at h
      refine v_aload_n dX2_runOnce_38 rfl ?_
      replace h := p_bind_elim h
      obtain ⟨a_58, q_59, h⟩ := h
      refine v_getR q_59 rfl fl_X2_49 dX2_runOnce_39 q_4 ?_
      refine v_iload_n dX2_runOnce_42 rfl ?_
      replace h := p_bind_elim h
      obtain ⟨j_60, q_61, h⟩ := h
      refine v_ialdP dX2_runOnce_43 q_61 ?_
      replace h := p_let_elim h
      obtain ⟨x_62, h_63, h⟩ := h
      rw [← h_63]
      refine v_istore dX2_runOnce_44 (by decide) ?_
      refine v_sub [(0, .ref (B + p0)), (1, .ref (B + p1)), (2, .int p2), (3, .ref (B + p3)), (4, .ref (B + p4)), (5, .ref (B + p5)), (6, .ref (B + p6)), (7, .int x_62)] ⟨rfl, rfl, rfl, rfl, rfl, rfl, rfl, rfl, trivial⟩ ?_
      refine v_aload_n dX2_runOnce_46 rfl ?_
      refine v_aload_n dX2_runOnce_47 rfl ?_
      refine v_aload_n dX2_runOnce_48 rfl ?_
      replace h := p_bind_elim h
      obtain ⟨a_64, q_65, h⟩ := h
      refine v_getR q_65 rfl fl_X2_52 dX2_runOnce_49 q_4 ?_
      refine v_iload_n dX2_runOnce_52 rfl ?_
      replace h := p_bind_elim h
      obtain ⟨j_66, q_67, h⟩ := h
      refine v_ialdP dX2_runOnce_53 q_67 ?_
      replace h := p_bind_elim h
      obtain ⟨r_68, q_69, h⟩ := h
      refine v_cVr (t_X2_sumAt q_69) cal_X2_sumAt ml_X2_55 sel_X2_sumAt q_3 kk_2 dX2_runOnce_54 (by omega) (by decide) (by decide) (Nat.le_of_ble_eq_true rfl) rfl ?_
      refine v_lstore dX2_runOnce_57 (by decide) ?_
      refine v_sub [(0, .ref (B + p0)), (1, .ref (B + p1)), (2, .int p2), (3, .ref (B + p3)), (4, .ref (B + p4)), (5, .ref (B + p5)), (6, .ref (B + p6)), (7, .int x_62), (8, .long r_68.1)] ⟨rfl, rfl, rfl, rfl, rfl, rfl, rfl, rfl, rfl, trivial⟩ ?_
      refine v_aload_n dX2_runOnce_59 rfl ?_
      refine v_aload_n dX2_runOnce_60 rfl ?_
      refine v_aload_n dX2_runOnce_61 rfl ?_
      replace h := p_bind_elim h
      obtain ⟨a_70, q_71, h⟩ := h
      refine v_getR q_71 rfl fl_X2_58 dX2_runOnce_62 q_4 ?_
      refine v_iload_n dX2_runOnce_65 rfl ?_
      replace h := p_bind_elim h
      obtain ⟨j_72, q_73, h⟩ := h
      refine v_ialdP dX2_runOnce_66 q_73 ?_
      replace h := p_bind_elim h
      obtain ⟨r_74, q_75, h⟩ := h
      refine v_cVr (t_X2_sumAt q_75) cal_X2_sumAt ml_X2_55 sel_X2_sumAt q_3 kk_2 dX2_runOnce_67 (by omega) (by decide) (by decide) (Nat.le_of_ble_eq_true rfl) rfl ?_
      refine v_lstore dX2_runOnce_70 (by decide) ?_
      refine v_sub [(0, .ref (B + p0)), (3, .ref (B + p3)), (4, .ref (B + p4)), (5, .ref (B + p5)), (6, .ref (B + p6)), (7, .int x_62), (8, .long r_68.1), (10, .long r_74.1)] ⟨rfl, rfl, rfl, rfl, rfl, rfl, rfl, rfl, trivial⟩ ?_
      refine v_lload dX2_runOnce_72 rfl ?_
      refine v_ldc2 (-1000000000000000 : Int64) dX2_runOnce_74 kn_X2_61 ?_
      refine v_lcmp dX2_runOnce_77 ?_
      refine v_if_eq 105 dX2_runOnce_78 (by decide) (fun c_76 => ?_) (fun c_76 => ?_)
      · rw [if_pos c_76] at h
        refine v_iconstE (0 : Int32) dX2_runOnce_105 (by decide) ?_
        cases h
        exact v_zret dX2_runOnce_106 rfl rfl (by decide) (by decide) (by rw [← hQ]; exact ⟨rfl, rfl, rfl, rfl, rfl⟩)
      · rw [if_neg c_76] at h
        refine v_lload dX2_runOnce_81 rfl ?_
        refine v_ldc2 (-1000000000000000 : Int64) dX2_runOnce_83 kn_X2_61 ?_
        refine v_lcmp dX2_runOnce_86 ?_
        refine v_if_eq 105 dX2_runOnce_87 (by decide) (fun c_77 => ?_) (fun c_77 => ?_)
        · rw [if_pos c_77] at h
          refine v_iconstE (0 : Int32) dX2_runOnce_105 (by decide) ?_
          cases h
          exact v_zret dX2_runOnce_106 rfl rfl (by decide) (by decide) (by rw [← hQ]; exact ⟨rfl, rfl, rfl, rfl, rfl⟩)
        · rw [if_neg c_77] at h
          refine v_aload_n dX2_runOnce_90 rfl ?_
          refine v_aload dX2_runOnce_91 rfl ?_
          refine v_iload dX2_runOnce_93 rfl ?_
          refine v_lload dX2_runOnce_95 rfl ?_
          refine v_lload dX2_runOnce_97 rfl ?_
          replace h := p_bind_elim h
          obtain ⟨_, q_80, h⟩ := h
          have q_80 := p_ob_spec q_80
          replace h := p_bind_elim h
          obtain ⟨r_78, q_79, h⟩ := h
          refine v_cVr (t_X0_whyNot q_79) cal_X0_whyNot ml_X2_63 sel_X0_whyNot q_80 kk_0 dX2_runOnce_99 (by omega) (by decide) (by decide) (Nat.le_of_ble_eq_true rfl) rfl ?_
          refine v_if_eq 107 dX2_runOnce_102 (by decide) (fun c_81 => ?_) (fun c_81 => ?_)
          · rw [if_pos c_81] at h
            refine v_aload dX2_runOnce_107 rfl ?_
            refine v_ifnull dX2_runOnce_109 ?_
            refine v_aload dX2_runOnce_112 rfl ?_
            refine v_iload dX2_runOnce_114 rfl ?_
            refine v_aload dX2_runOnce_116 rfl ?_
            replace h := p_bind_elim h
            obtain ⟨_, q_84, h⟩ := h
            have q_84 := p_ob_spec q_84
            replace h := p_bind_elim h
            obtain ⟨r_82, q_83, h⟩ := h
            refine v_cVnc (t_X4_keep q_83) cal_X4_keep ml_X2_69 sel_X4_keep q_84 kk_4 dX2_runOnce_118 (by omega) (by decide) (by decide) (Nat.le_of_ble_eq_true rfl) rfl ?_
            refine v_aload dX2_runOnce_121 rfl ?_
            refine v_aload_n dX2_runOnce_123 rfl ?_
            refine v_aload dX2_runOnce_124 rfl ?_
            refine v_iload dX2_runOnce_126 rfl ?_
            refine v_lload dX2_runOnce_128 rfl ?_
            refine v_l2i dX2_runOnce_130 ?_
            refine v_lload dX2_runOnce_131 rfl ?_
            refine v_l2i dX2_runOnce_133 ?_
            replace h := p_bind_elim h
            obtain ⟨_, q_87, h⟩ := h
            have q_87 := p_ob_spec q_87
            replace h := p_bind_elim h
            obtain ⟨r_85, q_86, h⟩ := h
            refine v_cVr (t_X1_perform q_86) cal_X1_perform ml_X2_75 sel_X1_perform q_87 kk_1 dX2_runOnce_134 (by omega) (by decide) (by decide) (Nat.le_of_ble_eq_true rfl) rfl ?_
            refine v_istore dX2_runOnce_137 (by decide) ?_
            refine v_sub [(0, .ref (B + p0)), (7, .int x_62), (12, .int r_85.1)] ⟨rfl, rfl, rfl, trivial⟩ ?_
            refine v_aload_n dX2_runOnce_139 rfl ?_
            refine v_dup dX2_runOnce_140 rfl ?_
            replace h := p_bind_elim h
            obtain ⟨_, q_88, h⟩ := h
            have q_88 := p_ob_spec q_88
            refine v_getI rfl fl_X2_9 dX2_runOnce_141 q_88 ?_
            refine v_iconstE (1 : Int32) dX2_runOnce_144 (by decide) ?_
            refine v_iadd dX2_runOnce_145 ?_
            refine v_putI rfl fl_X2_9 dX2_runOnce_146 q_88 rfl rfl ?_
            replace h := p_let_elim h
            obtain ⟨I_89, h_90, h⟩ := h
            rw [← h_90]
            refine v_aload_n dX2_runOnce_149 rfl ?_
            refine v_iload dX2_runOnce_150 rfl ?_
            refine v_iconstE (3 : Int32) dX2_runOnce_152 (by decide) ?_
            refine v_icmp_ne 161 dX2_runOnce_153 (by decide) (fun c_91 => ?_) (fun c_91 => ?_)
            · rw [if_neg c_91] at h
              refine v_aload_n dX2_runOnce_161 rfl ?_
              refine v_getI rfl fl_X2_15 dX2_runOnce_162 q_88 ?_
              refine v_putI rfl fl_X2_15 dX2_runOnce_165 q_88 rfl rfl ?_
              replace h := p_let_elim h
              obtain ⟨I_92, h_93, h⟩ := h
              rw [← h_93]
              refine v_iconstE (1 : Int32) dX2_runOnce_168 (by decide) ?_
              cases h
              exact v_zret dX2_runOnce_169 rfl rfl (by decide) (by decide) (by rw [← hQ]; exact ⟨rfl, rfl, rfl, rfl, rfl⟩)
            · rw [if_pos c_91] at h
              refine v_iload dX2_runOnce_156 rfl ?_
              refine v_goto 165 dX2_runOnce_158 (by decide) ?_
              refine v_putI rfl fl_X2_15 dX2_runOnce_165 q_88 rfl rfl ?_
              replace h := p_let_elim h
              obtain ⟨I_94, h_95, h⟩ := h
              rw [← h_95]
              refine v_iconstE (1 : Int32) dX2_runOnce_168 (by decide) ?_
              cases h
              exact v_zret dX2_runOnce_169 rfl rfl (by decide) (by decide) (by rw [← hQ]; exact ⟨rfl, rfl, rfl, rfl, rfl⟩)
          · rw [if_neg c_81] at h
            refine v_iconstE (0 : Int32) dX2_runOnce_105 (by decide) ?_
            cases h
            exact v_zret dX2_runOnce_106 rfl rfl (by decide) (by decide) (by rw [← hQ]; exact ⟨rfl, rfl, rfl, rfl, rfl⟩)
    · rw [if_neg c_57] at h
      refine v_iconstE (1 : Int32) dX2_runOnce_36 (by decide) ?_
      cases h
      exact v_zret dX2_runOnce_37 rfl rfl (by decide) (by decide) (by rw [← hQ]; exact ⟨rfl, rfl, rfl, rfl, rfl⟩)

def f_X2_runOnceN_J165 (S : v_S) (F : v_F) (I : v_I) (J : v_J) (z0 : Int32) (z1 : Nat) : Option (Int32 × v_I × v_J) :=
(p_ob S 2 z1).bind fun _ =>
p_let (v_up I z1 1 z0) fun I_44 =>
some ((1 : Int32), I_44, J)
def f_X2_runOnceN_J121 (S : v_S) (F : v_F) (I : v_I) (J : v_J) (y0 : Nat) (y3 : Nat) (y4 : Nat) (y5 : Nat) (y7 : Int32) (y8 : Int64) (y10 : Int64) : Option (Int32 × v_I × v_J) :=
(p_ob S 1 y5).bind fun _ =>
(f_X1_perform S I J F y5 y3 y4 y7 y8.toInt32 y10.toInt32).bind fun r_36 =>
(p_ob S 2 y0).bind fun _ =>
p_let (v_up r_36.2.1 y0 0 ((r_36.2.1 y0 0) + (1 : Int32))) fun I_40 =>
if y7 = (3 : Int32) then (
f_X2_runOnceN_J165 S F I_40 r_36.2.2 r_36.1 y0)
else (
f_X2_runOnceN_J165 S F I_40 r_36.2.2 (I_40 y0 1) y0)
def f_X2_runOnceN_J38 (S : v_S) (F : v_F) (I : v_I) (J : v_J) (y0 : Nat) (y1 : Nat) (y2 : Int32) (y3 : Nat) (y4 : Nat) (y5 : Nat) : Option (Int32 × v_I × v_J) :=
(p_ob S 8 y1).bind fun _ =>
(F y1 3).bind fun a_11 =>
(p_ix S 20 a_11 y2).bind fun j_13 =>
p_let (I a_11 j_13) fun x_15 =>
(F y1 4).bind fun a_17 =>
(p_ix S 20 a_17 y2).bind fun j_19 =>
(p_ob S 2 y0).bind fun _ =>
(f_X2_sumAt S I J F y0 y1 (I a_17 j_19)).bind fun r_21 =>
(F y1 5).bind fun a_24 =>
(p_ix S 20 a_24 y2).bind fun j_26 =>
(f_X2_sumAt S I r_21.2 F y0 y1 (I a_24 j_26)).bind fun r_28 =>
if (lg_cmp r_21.1 (-1000000000000000 : Int64)) = (0 : Int32) then (
some ((0 : Int32), I, r_28.2))
else (
if (lg_cmp r_28.1 (-1000000000000000 : Int64)) = (0 : Int32) then (
some ((0 : Int32), I, r_28.2))
else (
(p_ob S 0 y3).bind fun _ =>
(f_X0_whyNot S I F y3 y4 x_15 r_21.1 r_28.1).bind fun r_32 =>
if r_32 = (0 : Int32) then (
f_X2_runOnceN_J121 S F I r_28.2 y0 y3 y4 y5 x_15 r_21.1 r_28.1)
else (
some ((0 : Int32), I, r_28.2))))
def f_X2_runOnceN (S : v_S) (I : v_I) (J : v_J) (F : v_F) (p0 : Nat) (p1 : Nat) (p2 : Int32) (p3 : Nat) (p4 : Nat) (p5 : Nat) : Option (Int32 × v_I × v_J) :=
(p_ob S 2 p0).bind fun _ =>
(f_X2_hear S I F p0 p3 p4).bind fun r_1 =>
(p_ob S 8 p1).bind fun _ =>
(F p1 6).bind fun a_5 =>
(p_ix S 20 a_5 p2).bind fun j_7 =>
if (r_1 a_5 j_7) = (-1 : Int32) then (
f_X2_runOnceN_J38 S F r_1 J p0 p1 p2 p3 p4 p5)
else (
(F p0 2).bind fun a_46 =>
(F p1 6).bind fun a_48 =>
(p_ix S 20 a_48 p2).bind fun j_50 =>
(p_ob S 7 a_46).bind fun _ =>
(f_X7_reckon S r_1 J F a_46 p1 (r_1 a_48 j_50)).bind fun r_52 =>
if (lg_cmp r_52.1 (1 : Int64)) = (0 : Int32) then (
f_X2_runOnceN_J38 S F r_1 r_52.2 p0 p1 p2 p3 p4 p5)
else (
some ((1 : Int32), r_1, r_52.2)))
set_option maxHeartbeats 4000000 in
set_option maxRecDepth 100000 in
theorem t_X2_runOnceN {p0 : Nat} {p1 : Nat} {p2 : Int32} {p3 : Nat} {p4 : Nat} {p5 : Nat} {r : Int32 × v_I × v_J} (h : f_X2_runOnceN S I J F p0 p1 p2 p3 p4 p5 = some r) : v_R l B D ac (v_EE B wa wb wt sb sL sx) yX2_runOnce cX2_runOnce 13 (some .boolean) 6 0 0 [.ref (B + p0), .ref (B + p1), .int p2, .ref (B + p3), .ref (B + p4), .ref (B + p5), .null] S I J F (v_D (some (.int r.1)) S r.2.1 r.2.2 F) := by
  refine v_R.of (by decide) (Nat.le_of_ble_eq_true rfl) fun d hd => ?_
  generalize hQ : v_D (some (.int r.1)) S r.2.1 r.2.2 F = Q
  have j165 : ∀ (I : v_I) (J : v_J) (z0 : Int32) (z1 : Nat), f_X2_runOnceN_J165 S F I J z0 z1 = some r → V l B D ac (v_EE B wa wb wt sb sL sx) yX2_runOnce cX2_runOnce 13 (some .boolean) d 0 0 0 0 S I J F 165 [] [.int z0, .ref (B + z1)] Q := by
    intro I J z0 z1 h
    unfold f_X2_runOnceN_J165 at h
    replace h := p_bind_elim h
    obtain ⟨_, q_43, h⟩ := h
    have q_43 := p_ob_spec q_43
    refine v_putI rfl fl_X2_15 dX2_runOnce_165 q_43 rfl rfl ?_
    replace h := p_let_elim h
    obtain ⟨I_44, h_45, h⟩ := h
    rw [← h_45]
    refine v_iconstE (1 : Int32) dX2_runOnce_168 (by decide) ?_
    cases h
    exact v_zret dX2_runOnce_169 rfl rfl (by decide) (by decide) (by rw [← hQ]; exact ⟨rfl, rfl, rfl, rfl, rfl⟩)
  have j121 : ∀ (I : v_I) (J : v_J) (y0 : Nat) (y3 : Nat) (y4 : Nat) (y5 : Nat) (y7 : Int32) (y8 : Int64) (y10 : Int64), f_X2_runOnceN_J121 S F I J y0 y3 y4 y5 y7 y8 y10 = some r → V l B D ac (v_EE B wa wb wt sb sL sx) yX2_runOnce cX2_runOnce 13 (some .boolean) d 0 0 0 0 S I J F 121 [(0, .ref (B + y0)), (3, .ref (B + y3)), (4, .ref (B + y4)), (5, .ref (B + y5)), (7, .int y7), (8, .long y8), (10, .long y10)] [] Q := by
    intro I J y0 y3 y4 y5 y7 y8 y10 h
    unfold f_X2_runOnceN_J121 at h
    refine v_aload dX2_runOnce_121 rfl ?_
    refine v_aload_n dX2_runOnce_123 rfl ?_
    refine v_aload dX2_runOnce_124 rfl ?_
    refine v_iload dX2_runOnce_126 rfl ?_
    refine v_lload dX2_runOnce_128 rfl ?_
    refine v_l2i dX2_runOnce_130 ?_
    refine v_lload dX2_runOnce_131 rfl ?_
    refine v_l2i dX2_runOnce_133 ?_
    replace h := p_bind_elim h
    obtain ⟨_, q_38, h⟩ := h
    have q_38 := p_ob_spec q_38
    replace h := p_bind_elim h
    obtain ⟨r_36, q_37, h⟩ := h
    refine v_cVr (t_X1_perform q_37) cal_X1_perform ml_X2_75 sel_X1_perform q_38 kk_1 dX2_runOnce_134 (by omega) (by decide) (by decide) (Nat.le_of_ble_eq_true rfl) rfl ?_
    refine v_istore dX2_runOnce_137 (by decide) ?_
    refine v_sub [(0, .ref (B + y0)), (7, .int y7), (12, .int r_36.1)] ⟨rfl, rfl, rfl, trivial⟩ ?_
    refine v_aload_n dX2_runOnce_139 rfl ?_
    refine v_dup dX2_runOnce_140 rfl ?_
    replace h := p_bind_elim h
    obtain ⟨_, q_39, h⟩ := h
    have q_39 := p_ob_spec q_39
    refine v_getI rfl fl_X2_9 dX2_runOnce_141 q_39 ?_
    refine v_iconstE (1 : Int32) dX2_runOnce_144 (by decide) ?_
    refine v_iadd dX2_runOnce_145 ?_
    refine v_putI rfl fl_X2_9 dX2_runOnce_146 q_39 rfl rfl ?_
    replace h := p_let_elim h
    obtain ⟨I_40, h_41, h⟩ := h
    rw [← h_41]
    refine v_aload_n dX2_runOnce_149 rfl ?_
    refine v_iload dX2_runOnce_150 rfl ?_
    refine v_iconstE (3 : Int32) dX2_runOnce_152 (by decide) ?_
    refine v_icmp_ne 161 dX2_runOnce_153 (by decide) (fun c_42 => ?_) (fun c_42 => ?_)
    · rw [if_neg c_42] at h
      refine v_aload_n dX2_runOnce_161 rfl ?_
      refine v_getI rfl fl_X2_15 dX2_runOnce_162 q_39 ?_
      refine v_sub [] trivial ?_
      exact j165 _ _ _ _ h
    · rw [if_pos c_42] at h
      refine v_iload dX2_runOnce_156 rfl ?_
      refine v_goto 165 dX2_runOnce_158 (by decide) ?_
      refine v_sub [] trivial ?_
      exact j165 _ _ _ _ h
  have j38 : ∀ (I : v_I) (J : v_J) (y0 : Nat) (y1 : Nat) (y2 : Int32) (y3 : Nat) (y4 : Nat) (y5 : Nat), f_X2_runOnceN_J38 S F I J y0 y1 y2 y3 y4 y5 = some r → V l B D ac (v_EE B wa wb wt sb sL sx) yX2_runOnce cX2_runOnce 13 (some .boolean) d 0 0 0 0 S I J F 38 [(0, .ref (B + y0)), (1, .ref (B + y1)), (2, .int y2), (3, .ref (B + y3)), (4, .ref (B + y4)), (5, .ref (B + y5)), (6, .null)] [] Q := by
    intro I J y0 y1 y2 y3 y4 y5 h
    unfold f_X2_runOnceN_J38 at h
    refine v_aload_n dX2_runOnce_38 rfl ?_
    replace h := p_bind_elim h
    obtain ⟨_, q_10, h⟩ := h
    have q_10 := p_ob_spec q_10
    replace h := p_bind_elim h
    obtain ⟨a_11, q_12, h⟩ := h
    refine v_getR q_12 rfl fl_X2_49 dX2_runOnce_39 q_10 ?_
    refine v_iload_n dX2_runOnce_42 rfl ?_
    replace h := p_bind_elim h
    obtain ⟨j_13, q_14, h⟩ := h
    refine v_ialdP dX2_runOnce_43 q_14 ?_
    replace h := p_let_elim h
    obtain ⟨x_15, h_16, h⟩ := h
    rw [← h_16]
    refine v_istore dX2_runOnce_44 (by decide) ?_
    refine v_sub [(0, .ref (B + y0)), (1, .ref (B + y1)), (2, .int y2), (3, .ref (B + y3)), (4, .ref (B + y4)), (5, .ref (B + y5)), (6, .null), (7, .int x_15)] ⟨rfl, rfl, rfl, rfl, rfl, rfl, rfl, rfl, trivial⟩ ?_
    refine v_aload_n dX2_runOnce_46 rfl ?_
    refine v_aload_n dX2_runOnce_47 rfl ?_
    refine v_aload_n dX2_runOnce_48 rfl ?_
    replace h := p_bind_elim h
    obtain ⟨a_17, q_18, h⟩ := h
    refine v_getR q_18 rfl fl_X2_52 dX2_runOnce_49 q_10 ?_
    refine v_iload_n dX2_runOnce_52 rfl ?_
    replace h := p_bind_elim h
    obtain ⟨j_19, q_20, h⟩ := h
    refine v_ialdP dX2_runOnce_53 q_20 ?_
    replace h := p_bind_elim h
    obtain ⟨_, q_23, h⟩ := h
    have q_23 := p_ob_spec q_23
    replace h := p_bind_elim h
    obtain ⟨r_21, q_22, h⟩ := h
    refine v_cVr (t_X2_sumAt q_22) cal_X2_sumAt ml_X2_55 sel_X2_sumAt q_23 kk_2 dX2_runOnce_54 (by omega) (by decide) (by decide) (Nat.le_of_ble_eq_true rfl) rfl ?_
    refine v_lstore dX2_runOnce_57 (by decide) ?_
    refine v_sub [(0, .ref (B + y0)), (1, .ref (B + y1)), (2, .int y2), (3, .ref (B + y3)), (4, .ref (B + y4)), (5, .ref (B + y5)), (6, .null), (7, .int x_15), (8, .long r_21.1)] ⟨rfl, rfl, rfl, rfl, rfl, rfl, rfl, rfl, rfl, trivial⟩ ?_
    refine v_aload_n dX2_runOnce_59 rfl ?_
    refine v_aload_n dX2_runOnce_60 rfl ?_
    refine v_aload_n dX2_runOnce_61 rfl ?_
    replace h := p_bind_elim h
    obtain ⟨a_24, q_25, h⟩ := h
    refine v_getR q_25 rfl fl_X2_58 dX2_runOnce_62 q_10 ?_
    refine v_iload_n dX2_runOnce_65 rfl ?_
    replace h := p_bind_elim h
    obtain ⟨j_26, q_27, h⟩ := h
    refine v_ialdP dX2_runOnce_66 q_27 ?_
    replace h := p_bind_elim h
    obtain ⟨r_28, q_29, h⟩ := h
    refine v_cVr (t_X2_sumAt q_29) cal_X2_sumAt ml_X2_55 sel_X2_sumAt q_23 kk_2 dX2_runOnce_67 (by omega) (by decide) (by decide) (Nat.le_of_ble_eq_true rfl) rfl ?_
    refine v_lstore dX2_runOnce_70 (by decide) ?_
    refine v_sub [(0, .ref (B + y0)), (3, .ref (B + y3)), (4, .ref (B + y4)), (5, .ref (B + y5)), (6, .null), (7, .int x_15), (8, .long r_21.1), (10, .long r_28.1)] ⟨rfl, rfl, rfl, rfl, rfl, rfl, rfl, rfl, trivial⟩ ?_
    refine v_lload dX2_runOnce_72 rfl ?_
    refine v_ldc2 (-1000000000000000 : Int64) dX2_runOnce_74 kn_X2_61 ?_
    refine v_lcmp dX2_runOnce_77 ?_
    refine v_if_eq 105 dX2_runOnce_78 (by decide) (fun c_30 => ?_) (fun c_30 => ?_)
    · rw [if_pos c_30] at h
      refine v_iconstE (0 : Int32) dX2_runOnce_105 (by decide) ?_
      cases h
      exact v_zret dX2_runOnce_106 rfl rfl (by decide) (by decide) (by rw [← hQ]; exact ⟨rfl, rfl, rfl, rfl, rfl⟩)
    · rw [if_neg c_30] at h
      refine v_lload dX2_runOnce_81 rfl ?_
      refine v_ldc2 (-1000000000000000 : Int64) dX2_runOnce_83 kn_X2_61 ?_
      refine v_lcmp dX2_runOnce_86 ?_
      refine v_if_eq 105 dX2_runOnce_87 (by decide) (fun c_31 => ?_) (fun c_31 => ?_)
      · rw [if_pos c_31] at h
        refine v_iconstE (0 : Int32) dX2_runOnce_105 (by decide) ?_
        cases h
        exact v_zret dX2_runOnce_106 rfl rfl (by decide) (by decide) (by rw [← hQ]; exact ⟨rfl, rfl, rfl, rfl, rfl⟩)
      · rw [if_neg c_31] at h
        refine v_aload_n dX2_runOnce_90 rfl ?_
        refine v_aload dX2_runOnce_91 rfl ?_
        refine v_iload dX2_runOnce_93 rfl ?_
        refine v_lload dX2_runOnce_95 rfl ?_
        refine v_lload dX2_runOnce_97 rfl ?_
        replace h := p_bind_elim h
        obtain ⟨_, q_34, h⟩ := h
        have q_34 := p_ob_spec q_34
        replace h := p_bind_elim h
        obtain ⟨r_32, q_33, h⟩ := h
        refine v_cVr (t_X0_whyNot q_33) cal_X0_whyNot ml_X2_63 sel_X0_whyNot q_34 kk_0 dX2_runOnce_99 (by omega) (by decide) (by decide) (Nat.le_of_ble_eq_true rfl) rfl ?_
        refine v_if_eq 107 dX2_runOnce_102 (by decide) (fun c_35 => ?_) (fun c_35 => ?_)
        · rw [if_pos c_35] at h
          refine v_aloadN dX2_runOnce_107 rfl ?_
          refine v_ifnullN 121 dX2_runOnce_109 (by decide) ?_
          refine v_sub [(0, .ref (B + y0)), (3, .ref (B + y3)), (4, .ref (B + y4)), (5, .ref (B + y5)), (7, .int x_15), (8, .long r_21.1), (10, .long r_28.1)] ⟨rfl, rfl, rfl, rfl, rfl, rfl, rfl, trivial⟩ ?_
          exact j121 _ _ _ _ _ _ _ _ _ h
        · rw [if_neg c_35] at h
          refine v_iconstE (0 : Int32) dX2_runOnce_105 (by decide) ?_
          cases h
          exact v_zret dX2_runOnce_106 rfl rfl (by decide) (by decide) (by rw [← hQ]; exact ⟨rfl, rfl, rfl, rfl, rfl⟩)
  unfold f_X2_runOnceN at h
  refine v_sub [(0, .ref (B + p0)), (1, .ref (B + p1)), (2, .int p2), (3, .ref (B + p3)), (4, .ref (B + p4)), (5, .ref (B + p5)), (6, .null)] ⟨rfl, rfl, rfl, rfl, rfl, rfl, rfl, trivial⟩ ?_
  refine v_aload_n dX2_runOnce_0 rfl ?_
  refine v_aload_n dX2_runOnce_1 rfl ?_
  refine v_aload dX2_runOnce_2 rfl ?_
  replace h := p_bind_elim h
  obtain ⟨_, q_3, h⟩ := h
  have q_3 := p_ob_spec q_3
  replace h := p_bind_elim h
  obtain ⟨r_1, q_2, h⟩ := h
  refine v_cVn (t_X2_hear q_2) cal_X2_hear ml_X2_38 sel_X2_hear q_3 kk_2 dX2_runOnce_4 (by omega) (by decide) (by decide) (Nat.le_of_ble_eq_true rfl) rfl ?_
  refine v_aload_n dX2_runOnce_7 rfl ?_
  replace h := p_bind_elim h
  obtain ⟨_, q_4, h⟩ := h
  have q_4 := p_ob_spec q_4
  replace h := p_bind_elim h
  obtain ⟨a_5, q_6, h⟩ := h
  refine v_getR q_6 rfl fl_X2_42 dX2_runOnce_8 q_4 ?_
  refine v_iload_n dX2_runOnce_11 rfl ?_
  replace h := p_bind_elim h
  obtain ⟨j_7, q_8, h⟩ := h
  refine v_ialdP dX2_runOnce_12 q_8 ?_
  refine v_iconstE (-1 : Int32) dX2_runOnce_13 (by decide) ?_
  refine v_icmp_eq 38 dX2_runOnce_14 (by decide) (fun c_9 => ?_) (fun c_9 => ?_)
  · rw [if_pos c_9] at h
    refine v_sub [(0, .ref (B + p0)), (1, .ref (B + p1)), (2, .int p2), (3, .ref (B + p3)), (4, .ref (B + p4)), (5, .ref (B + p5)), (6, .null)] ⟨rfl, rfl, rfl, rfl, rfl, rfl, rfl, trivial⟩ ?_
    exact j38 _ _ _ _ _ _ _ _ h
  · rw [if_neg c_9] at h
    refine v_aload_n dX2_runOnce_17 rfl ?_
    replace h := p_bind_elim h
    obtain ⟨a_46, q_47, h⟩ := h
    refine v_getR q_47 rfl fl_X2_21 dX2_runOnce_18 q_3 ?_
    refine v_aload_n dX2_runOnce_21 rfl ?_
    refine v_aload_n dX2_runOnce_22 rfl ?_
    replace h := p_bind_elim h
    obtain ⟨a_48, q_49, h⟩ := h
    refine v_getR q_49 rfl fl_X2_42 dX2_runOnce_23 q_4 ?_
    refine v_iload_n dX2_runOnce_26 rfl ?_
    replace h := p_bind_elim h
    obtain ⟨j_50, q_51, h⟩ := h
    refine v_ialdP dX2_runOnce_27 q_51 ?_
    replace h := p_bind_elim h
    obtain ⟨_, q_54, h⟩ := h
    have q_54 := p_ob_spec q_54
    replace h := p_bind_elim h
    obtain ⟨r_52, q_53, h⟩ := h
    refine v_cVr (t_X7_reckon q_53) cal_X7_reckon ml_X2_45 sel_X7_reckon q_54 kk_7 dX2_runOnce_28 (by omega) (by decide) (by decide) (Nat.le_of_ble_eq_true rfl) rfl ?_
    refine v_lconst (1 : Int64) dX2_runOnce_31 (by decide) ?_
    refine v_lcmp dX2_runOnce_32 ?_
    refine v_if_eq 38 dX2_runOnce_33 (by decide) (fun c_55 => ?_) (fun c_55 => ?_)
    · rw [if_pos c_55] at h
      refine v_sub [(0, .ref (B + p0)), (1, .ref (B + p1)), (2, .int p2), (3, .ref (B + p3)), (4, .ref (B + p4)), (5, .ref (B + p5)), (6, .null)] ⟨rfl, rfl, rfl, rfl, rfl, rfl, rfl, trivial⟩ ?_
      exact j38 _ _ _ _ _ _ _ _ h
    · rw [if_neg c_55] at h
      refine v_iconstE (1 : Int32) dX2_runOnce_36 (by decide) ?_
      cases h
      exact v_zret dX2_runOnce_37 rfl rfl (by decide) (by decide) (by rw [← hQ]; exact ⟨rfl, rfl, rfl, rfl, rfl⟩)

def f_X2_runAllN_B35 (S : v_S) (F : v_F) (w0 : Nat) (w1 : Nat) (w2 : Nat) (w3 : Nat) (w4 : Nat) (w6 : Int32) (s35 : Int32 × v_I × v_J) : Option ((Int32 × v_I × v_J) ⊕ (Nat × (Int32 × v_I × v_J))) :=
(p_ob S 8 w1).bind fun _ =>
(F w1 7).bind fun a_14 =>
(p_ix S 20 a_14 w6).bind fun j_16 =>
if (s35.2.1 a_14 j_16) ≤ s35.1 then (
some (.inr (1, (s35.1, s35.2.1, s35.2.2))))
else (
(p_ob S 2 w0).bind fun _ =>
(f_X2_runOnceN S s35.2.1 s35.2.2 F w0 w1 w6 w2 w3 w4).bind fun r_19 =>
if r_19.1 = (0 : Int32) then (
some (.inr (0, (s35.1, r_19.2.1, r_19.2.2))))
else (
p_let (s35.1 + (1 : Int32)) fun x_23 =>
some (.inl (x_23, r_19.2.1, r_19.2.2))))
def f_X2_runAllN_B13 (S : v_S) (F : v_F) (w0 : Nat) (w1 : Nat) (w2 : Nat) (w3 : Nat) (w4 : Nat) (s13 : Int32 × v_I × v_J) : Option ((Int32 × v_I × v_J) ⊕ (Nat × (Int32 × v_I × v_J))) :=
(p_ob S 8 w1).bind fun _ =>
if (s13.2.1 w1 0) ≤ s13.1 then (
some (.inr (1, (s13.1, s13.2.1, s13.2.2))))
else (
(F w1 7).bind fun a_8 =>
(p_len S 20 a_8).bind fun x_10 =>
if x_10 ≤ s13.1 then (
some (.inr (1, (s13.1, s13.2.1, s13.2.2))))
else (
(v_loop (f_X2_runAllN_B35 S F w0 w1 w2 w3 w4 s13.1) FU ((0 : Int32), s13.2.1, s13.2.2)).bind fun q_25 =>
if q_25.1 = 0 then (
some (.inr (0, (s13.1, q_25.2.2.1, q_25.2.2.2))))
else (
p_let (s13.1 + (1 : Int32)) fun x_27 =>
some (.inl (x_27, q_25.2.2.1, q_25.2.2.2)))))
def f_X2_runAllN (S : v_S) (I : v_I) (J : v_J) (F : v_F) (p0 : Nat) (p1 : Nat) (p2 : Nat) (p3 : Nat) (p4 : Nat) : Option (Int32 × v_I × v_J) :=
(p_ob S 2 p0).bind fun _ =>
p_let (v_up I p0 0 (0 : Int32)) fun I_2 =>
p_let (v_up I_2 p0 1 (-1 : Int32)) fun I_4 =>
(v_loop (f_X2_runAllN_B13 S F p0 p1 p2 p3 p4) FU ((0 : Int32), I_4, J)).bind fun q_30 =>
if q_30.1 = 0 then (
some (q_30.2.1, q_30.2.2.1, q_30.2.2.2))
else (
some ((-1 : Int32), q_30.2.2.1, q_30.2.2.2))
set_option maxHeartbeats 4000000 in
set_option maxRecDepth 100000 in
theorem t_X2_runAllN {p0 : Nat} {p1 : Nat} {p2 : Nat} {p3 : Nat} {p4 : Nat} {r : Int32 × v_I × v_J} (h : f_X2_runAllN S I J F p0 p1 p2 p3 p4 = some r) : v_R l B D ac (v_EE B wa wb wt sb sL sx) yX2_runAll cX2_runAll 8 (some .int) 7 0 0 [.ref (B + p0), .ref (B + p1), .ref (B + p2), .ref (B + p3), .ref (B + p4), .null] S I J F (v_D (some (.int r.1)) S r.2.1 r.2.2 F) := by
  refine v_R.of (by decide) (Nat.le_of_ble_eq_true rfl) fun d hd => ?_
  generalize hQ : v_D (some (.int r.1)) S r.2.1 r.2.2 F = Q
  have b13 : ∀ (w0 : Nat) (w1 : Nat) (w2 : Nat) (w3 : Nat) (w4 : Nat) (s13 : Int32 × v_I × v_J) (rx13 : (Int32 × v_I × v_J) ⊕ (Nat × (Int32 × v_I × v_J))), f_X2_runAllN_B13 S F w0 w1 w2 w3 w4 s13 = some rx13 → v_K (fun (sP : Int32 × v_I × v_J) => V l B D ac (v_EE B wa wb wt sb sL sx) yX2_runAll cX2_runAll 8 (some .int) d 0 0 0 0 S sP.2.1 sP.2.2 F 13 [(0, .ref (B + w0)), (1, .ref (B + w1)), (2, .ref (B + w2)), (3, .ref (B + w3)), (4, .ref (B + w4)), (5, .null), (6, .int sP.1)] [] Q) (fun (rE : Nat × (Int32 × v_I × v_J)) => (rE.1 = 0 → V l B D ac (v_EE B wa wb wt sb sL sx) yX2_runAll cX2_runAll 8 (some .int) d 0 0 0 0 S rE.2.2.1 rE.2.2.2 F 63 [(6, .int rE.2.1)] [] Q) ∧ (¬ rE.1 = 0 → V l B D ac (v_EE B wa wb wt sb sL sx) yX2_runAll cX2_runAll 8 (some .int) d 0 0 0 0 S rE.2.2.1 rE.2.2.2 F 78 [] [] Q)) rx13 → V l B D ac (v_EE B wa wb wt sb sL sx) yX2_runAll cX2_runAll 8 (some .int) d 0 0 0 0 S s13.2.1 s13.2.2 F 13 [(0, .ref (B + w0)), (1, .ref (B + w1)), (2, .ref (B + w2)), (3, .ref (B + w3)), (4, .ref (B + w4)), (5, .null), (6, .int s13.1)] [] Q := by
    intro w0 w1 w2 w3 w4 s13 rx13 h hk
    have b35 : ∀ (w0 : Nat) (w1 : Nat) (w2 : Nat) (w3 : Nat) (w4 : Nat) (w6 : Int32) (s35 : Int32 × v_I × v_J) (rx35 : (Int32 × v_I × v_J) ⊕ (Nat × (Int32 × v_I × v_J))), f_X2_runAllN_B35 S F w0 w1 w2 w3 w4 w6 s35 = some rx35 → v_K (fun (sP : Int32 × v_I × v_J) => V l B D ac (v_EE B wa wb wt sb sL sx) yX2_runAll cX2_runAll 8 (some .int) d 0 0 0 0 S sP.2.1 sP.2.2 F 35 [(0, .ref (B + w0)), (1, .ref (B + w1)), (2, .ref (B + w2)), (3, .ref (B + w3)), (4, .ref (B + w4)), (5, .null), (6, .int w6), (7, .int sP.1)] [] Q) (fun (rE : Nat × (Int32 × v_I × v_J)) => (rE.1 = 0 → V l B D ac (v_EE B wa wb wt sb sL sx) yX2_runAll cX2_runAll 8 (some .int) d 0 0 0 0 S rE.2.2.1 rE.2.2.2 F 63 [(6, .int w6)] [] Q) ∧ (¬ rE.1 = 0 → V l B D ac (v_EE B wa wb wt sb sL sx) yX2_runAll cX2_runAll 8 (some .int) d 0 0 0 0 S rE.2.2.1 rE.2.2.2 F 72 [(0, .ref (B + w0)), (1, .ref (B + w1)), (2, .ref (B + w2)), (3, .ref (B + w3)), (4, .ref (B + w4)), (5, .null), (6, .int w6)] [] Q)) rx35 → V l B D ac (v_EE B wa wb wt sb sL sx) yX2_runAll cX2_runAll 8 (some .int) d 0 0 0 0 S s35.2.1 s35.2.2 F 35 [(0, .ref (B + w0)), (1, .ref (B + w1)), (2, .ref (B + w2)), (3, .ref (B + w3)), (4, .ref (B + w4)), (5, .null), (6, .int w6), (7, .int s35.1)] [] Q := by
      intro w0 w1 w2 w3 w4 w6 s35 rx35 h hk
      unfold f_X2_runAllN_B35 at h
      refine v_iload dX2_runAll_35 rfl ?_
      refine v_aload_n dX2_runAll_37 rfl ?_
      replace h := p_bind_elim h
      obtain ⟨_, q_13, h⟩ := h
      have q_13 := p_ob_spec q_13
      replace h := p_bind_elim h
      obtain ⟨a_14, q_15, h⟩ := h
      refine v_getR q_15 rfl fl_X2_30 dX2_runAll_38 q_13 ?_
      refine v_iload dX2_runAll_41 rfl ?_
      replace h := p_bind_elim h
      obtain ⟨j_16, q_17, h⟩ := h
      refine v_ialdP dX2_runAll_43 q_17 ?_
      refine v_icmp_ge 72 dX2_runAll_44 (by decide) (fun c_18 => ?_) (fun c_18 => ?_)
      · rw [if_pos c_18] at h
        cases h
        refine v_sub [(0, .ref (B + w0)), (1, .ref (B + w1)), (2, .ref (B + w2)), (3, .ref (B + w3)), (4, .ref (B + w4)), (5, .null), (6, .int w6)] ⟨rfl, rfl, rfl, rfl, rfl, rfl, rfl, trivial⟩ ?_
        exact (hk.2 (Nat.succ_ne_zero _))
      · rw [if_neg c_18] at h
        refine v_aload_n dX2_runAll_47 rfl ?_
        refine v_aload_n dX2_runAll_48 rfl ?_
        refine v_iload dX2_runAll_49 rfl ?_
        refine v_aload_n dX2_runAll_51 rfl ?_
        refine v_aload_n dX2_runAll_52 rfl ?_
        refine v_aload dX2_runAll_53 rfl ?_
        refine v_aloadN dX2_runAll_55 rfl ?_
        replace h := p_bind_elim h
        obtain ⟨_, q_21, h⟩ := h
        have q_21 := p_ob_spec q_21
        replace h := p_bind_elim h
        obtain ⟨r_19, q_20, h⟩ := h
        refine v_cVr (t_X2_runOnceN q_20) cal_X2_runOnce ml_X2_34 sel_X2_runOnce q_21 kk_2 dX2_runAll_57 (by omega) (by decide) (by decide) (Nat.le_of_ble_eq_true rfl) rfl ?_
        refine v_if_ne 66 dX2_runAll_60 (by decide) (fun c_22 => ?_) (fun c_22 => ?_)
        · rw [if_neg c_22] at h
          replace h := p_let_elim h
          obtain ⟨x_23, h_24, h⟩ := h
          refine v_iincE (1 : Int32) dX2_runAll_66 (by decide) rfl (by decide) ?_
          rw [← h_24]
          refine v_sub [(0, .ref (B + w0)), (1, .ref (B + w1)), (2, .ref (B + w2)), (3, .ref (B + w3)), (4, .ref (B + w4)), (5, .null), (6, .int w6), (7, .int x_23)] ⟨rfl, rfl, rfl, rfl, rfl, rfl, rfl, rfl, trivial⟩ ?_
          refine v_goto 35 dX2_runAll_69 (by decide) ?_
          cases h
          refine v_sub [(0, .ref (B + w0)), (1, .ref (B + w1)), (2, .ref (B + w2)), (3, .ref (B + w3)), (4, .ref (B + w4)), (5, .null), (6, .int w6), (7, .int x_23)] ⟨rfl, rfl, rfl, rfl, rfl, rfl, rfl, rfl, trivial⟩ ?_
          exact hk
        · rw [if_pos c_22] at h
          cases h
          refine v_sub [(6, .int w6)] ⟨rfl, trivial⟩ ?_
          exact hk.1 rfl
    unfold f_X2_runAllN_B13 at h
    refine v_iload dX2_runAll_13 rfl ?_
    refine v_aload_n dX2_runAll_15 rfl ?_
    replace h := p_bind_elim h
    obtain ⟨_, q_6, h⟩ := h
    have q_6 := p_ob_spec q_6
    refine v_getI rfl fl_X2_25 dX2_runAll_16 q_6 ?_
    refine v_icmp_ge 78 dX2_runAll_19 (by decide) (fun c_7 => ?_) (fun c_7 => ?_)
    · rw [if_pos c_7] at h
      cases h
      refine v_sub [] trivial ?_
      exact (hk.2 (Nat.succ_ne_zero _))
    · rw [if_neg c_7] at h
      refine v_iload dX2_runAll_22 rfl ?_
      refine v_aload_n dX2_runAll_24 rfl ?_
      replace h := p_bind_elim h
      obtain ⟨a_8, q_9, h⟩ := h
      refine v_getR q_9 rfl fl_X2_30 dX2_runAll_25 q_6 ?_
      replace h := p_bind_elim h
      obtain ⟨x_10, q_11, h⟩ := h
      refine v_alenPI dX2_runAll_28 q_11 ?_
      refine v_icmp_ge 78 dX2_runAll_29 (by decide) (fun c_12 => ?_) (fun c_12 => ?_)
      · rw [if_pos c_12] at h
        cases h
        refine v_sub [] trivial ?_
        exact (hk.2 (Nat.succ_ne_zero _))
      · rw [if_neg c_12] at h
        refine v_iconstE (0 : Int32) dX2_runAll_32 (by decide) ?_
        refine v_istore dX2_runAll_33 (by decide) ?_
        refine v_sub [(0, .ref (B + w0)), (1, .ref (B + w1)), (2, .ref (B + w2)), (3, .ref (B + w3)), (4, .ref (B + w4)), (5, .null), (6, .int s13.1), (7, .int (0 : Int32))] ⟨rfl, rfl, rfl, rfl, rfl, rfl, rfl, rfl, trivial⟩ ?_
        replace h := p_bind_elim h
        obtain ⟨q_25, h_26, h⟩ := h
        refine v_sub [(0, .ref (B + w0)), (1, .ref (B + w1)), (2, .ref (B + w2)), (3, .ref (B + w3)), (4, .ref (B + w4)), (5, .null), (6, .int s13.1), (7, .int (0 : Int32))] ⟨rfl, rfl, rfl, rfl, rfl, rfl, rfl, rfl, trivial⟩ ?_
        refine v_loopV (fun (sP : Int32 × v_I × v_J) => V l B D ac (v_EE B wa wb wt sb sL sx) yX2_runAll cX2_runAll 8 (some .int) d 0 0 0 0 S sP.2.1 sP.2.2 F 35 [(0, .ref (B + w0)), (1, .ref (B + w1)), (2, .ref (B + w2)), (3, .ref (B + w3)), (4, .ref (B + w4)), (5, .null), (6, .int s13.1), (7, .int sP.1)] [] Q) (fun (rE : Nat × (Int32 × v_I × v_J)) => (rE.1 = 0 → V l B D ac (v_EE B wa wb wt sb sL sx) yX2_runAll cX2_runAll 8 (some .int) d 0 0 0 0 S rE.2.2.1 rE.2.2.2 F 63 [(6, .int s13.1)] [] Q) ∧ (¬ rE.1 = 0 → V l B D ac (v_EE B wa wb wt sb sL sx) yX2_runAll cX2_runAll 8 (some .int) d 0 0 0 0 S rE.2.2.1 rE.2.2.2 F 72 [(0, .ref (B + w0)), (1, .ref (B + w1)), (2, .ref (B + w2)), (3, .ref (B + w3)), (4, .ref (B + w4)), (5, .null), (6, .int s13.1)] [] Q)) (fun s_ x_ hb hk => b35 _ _ _ _ _ _ s_ x_ hb hk) (r := q_25) ?_ h_26
        try dsimp only
        refine ⟨fun c_29 => ?_, fun c_29 => ?_⟩
        · rw [if_pos c_29] at h
          cases h
          refine v_sub [(6, .int s13.1)] ⟨rfl, trivial⟩ ?_
          exact hk.1 rfl
        · rw [if_neg c_29] at h
          replace h := p_let_elim h
          obtain ⟨x_27, h_28, h⟩ := h
          refine v_iincE (1 : Int32) dX2_runAll_72 (by decide) rfl (by decide) ?_
          rw [← h_28]
          refine v_sub [(0, .ref (B + w0)), (1, .ref (B + w1)), (2, .ref (B + w2)), (3, .ref (B + w3)), (4, .ref (B + w4)), (5, .null), (6, .int x_27)] ⟨rfl, rfl, rfl, rfl, rfl, rfl, rfl, trivial⟩ ?_
          refine v_goto 13 dX2_runAll_75 (by decide) ?_
          cases h
          refine v_sub [(0, .ref (B + w0)), (1, .ref (B + w1)), (2, .ref (B + w2)), (3, .ref (B + w3)), (4, .ref (B + w4)), (5, .null), (6, .int x_27)] ⟨rfl, rfl, rfl, rfl, rfl, rfl, rfl, trivial⟩ ?_
          exact hk
  unfold f_X2_runAllN at h
  refine v_sub [(0, .ref (B + p0)), (1, .ref (B + p1)), (2, .ref (B + p2)), (3, .ref (B + p3)), (4, .ref (B + p4)), (5, .null)] ⟨rfl, rfl, rfl, rfl, rfl, rfl, trivial⟩ ?_
  refine v_aload_n dX2_runAll_0 rfl ?_
  refine v_iconstE (0 : Int32) dX2_runAll_1 (by decide) ?_
  replace h := p_bind_elim h
  obtain ⟨_, q_1, h⟩ := h
  have q_1 := p_ob_spec q_1
  refine v_putI rfl fl_X2_9 dX2_runAll_2 q_1 rfl rfl ?_
  replace h := p_let_elim h
  obtain ⟨I_2, h_3, h⟩ := h
  rw [← h_3]
  refine v_aload_n dX2_runAll_5 rfl ?_
  refine v_iconstE (-1 : Int32) dX2_runAll_6 (by decide) ?_
  refine v_putI rfl fl_X2_15 dX2_runAll_7 q_1 rfl rfl ?_
  replace h := p_let_elim h
  obtain ⟨I_4, h_5, h⟩ := h
  rw [← h_5]
  refine v_iconstE (0 : Int32) dX2_runAll_10 (by decide) ?_
  refine v_istore dX2_runAll_11 (by decide) ?_
  refine v_sub [(0, .ref (B + p0)), (1, .ref (B + p1)), (2, .ref (B + p2)), (3, .ref (B + p3)), (4, .ref (B + p4)), (5, .null), (6, .int (0 : Int32))] ⟨rfl, rfl, rfl, rfl, rfl, rfl, rfl, trivial⟩ ?_
  replace h := p_bind_elim h
  obtain ⟨q_30, h_31, h⟩ := h
  refine v_sub [(0, .ref (B + p0)), (1, .ref (B + p1)), (2, .ref (B + p2)), (3, .ref (B + p3)), (4, .ref (B + p4)), (5, .null), (6, .int (0 : Int32))] ⟨rfl, rfl, rfl, rfl, rfl, rfl, rfl, trivial⟩ ?_
  refine v_loopV (fun (sP : Int32 × v_I × v_J) => V l B D ac (v_EE B wa wb wt sb sL sx) yX2_runAll cX2_runAll 8 (some .int) d 0 0 0 0 S sP.2.1 sP.2.2 F 13 [(0, .ref (B + p0)), (1, .ref (B + p1)), (2, .ref (B + p2)), (3, .ref (B + p3)), (4, .ref (B + p4)), (5, .null), (6, .int sP.1)] [] Q) (fun (rE : Nat × (Int32 × v_I × v_J)) => (rE.1 = 0 → V l B D ac (v_EE B wa wb wt sb sL sx) yX2_runAll cX2_runAll 8 (some .int) d 0 0 0 0 S rE.2.2.1 rE.2.2.2 F 63 [(6, .int rE.2.1)] [] Q) ∧ (¬ rE.1 = 0 → V l B D ac (v_EE B wa wb wt sb sL sx) yX2_runAll cX2_runAll 8 (some .int) d 0 0 0 0 S rE.2.2.1 rE.2.2.2 F 78 [] [] Q)) (fun s_ x_ hb hk => b13 _ _ _ _ _ s_ x_ hb hk) (r := q_30) ?_ h_31
  try dsimp only
  refine ⟨fun c_32 => ?_, fun c_32 => ?_⟩
  · rw [if_pos c_32] at h
    refine v_iload dX2_runAll_63 rfl ?_
    cases h
    exact v_iret dX2_runAll_65 rfl (by decide) (by decide) (by rw [← hQ]; exact ⟨rfl, rfl, rfl, rfl, rfl⟩)
  · rw [if_neg c_32] at h
    refine v_iconstE (-1 : Int32) dX2_runAll_78 (by decide) ?_
    cases h
    exact v_iret dX2_runAll_79 rfl (by decide) (by decide) (by rw [← hQ]; exact ⟨rfl, rfl, rfl, rfl, rfl⟩)

def f_X9_fault (S : v_S) (I : v_I) (p0 : Nat) : Option (Int32) :=
(p_ob S 9 p0).bind fun _ =>
some (I p0 16)
set_option maxHeartbeats 4000000 in
set_option maxRecDepth 100000 in
theorem t_X9_fault {p0 : Nat} {r : Int32} (h : f_X9_fault S I p0 = some r) : v_R l B D ac (v_EE B wa wb wt sb sL sx) yX9_fault cX9_fault 1 (some .int) 1 0 0 [.ref (B + p0)] S I J F (v_D (some (.int r)) S I J F) := by
  refine v_R.of (by decide) (Nat.le_of_ble_eq_true rfl) fun d hd => ?_
  generalize hQ : v_D (some (.int r)) S I J F = Q
  unfold f_X9_fault at h
  refine v_sub [(0, .ref (B + p0))] ⟨rfl, trivial⟩ ?_
  refine v_aload_n dX9_fault_0 rfl ?_
  replace h := p_bind_elim h
  obtain ⟨_, q_1, h⟩ := h
  have q_1 := p_ob_spec q_1
  refine v_getI rfl fl_X9_89 dX9_fault_1 q_1 ?_
  cases h
  exact v_iret dX9_fault_4 rfl (by decide) (by decide) (by rw [← hQ]; exact ⟨rfl, rfl, rfl, rfl, rfl⟩)

def f_X9_stopped (S : v_S) (I : v_I) (p0 : Nat) : Option (Int32) :=
(p_ob S 9 p0).bind fun _ =>
some (I p0 17)
set_option maxHeartbeats 4000000 in
set_option maxRecDepth 100000 in
theorem t_X9_stopped {p0 : Nat} {r : Int32} (h : f_X9_stopped S I p0 = some r) : v_R l B D ac (v_EE B wa wb wt sb sL sx) yX9_stopped cX9_stopped 1 (some .int) 1 0 0 [.ref (B + p0)] S I J F (v_D (some (.int r)) S I J F) := by
  refine v_R.of (by decide) (Nat.le_of_ble_eq_true rfl) fun d hd => ?_
  generalize hQ : v_D (some (.int r)) S I J F = Q
  unfold f_X9_stopped at h
  refine v_sub [(0, .ref (B + p0))] ⟨rfl, trivial⟩ ?_
  refine v_aload_n dX9_stopped_0 rfl ?_
  replace h := p_bind_elim h
  obtain ⟨_, q_1, h⟩ := h
  have q_1 := p_ob_spec q_1
  refine v_getI rfl fl_X9_92 dX9_stopped_1 q_1 ?_
  cases h
  exact v_iret dX9_stopped_4 rfl (by decide) (by decide) (by rw [← hQ]; exact ⟨rfl, rfl, rfl, rfl, rfl⟩)

def f_X9_force_J23 (S : v_S) (F : v_F) (I : v_I) (y0 : Nat) (y1 : Int32) : Option (Int32 × v_I) :=
(p_ob S 9 y0).bind fun _ =>
(F y0 0).bind fun a_3 =>
(p_ob S 0 a_3).bind fun _ =>
p_let (I a_3 12) fun x_6 =>
(F y0 0).bind fun a_8 =>
(p_ob S 0 a_8).bind fun _ =>
p_let (v_up I a_8 12 y1) fun I_11 =>
(f_X9_accept S I_11 y0 x_6).bind fun r_13 =>
some (r_13.1, r_13.2)
def f_X9_force (S : v_S) (I : v_I) (F : v_F) (p0 : Nat) (p1 : Int32) : Option (Int32 × v_I) :=
if p1 = (-1 : Int32) then (
f_X9_force_J23 S F I p0 p1)
else (
(p_ob S 9 p0).bind fun _ =>
(F p0 0).bind fun a_16 =>
(p_ob S 0 a_16).bind fun _ =>
(f_X0_lawAt S I F a_16 p1).bind fun r_18 =>
p_nul r_18 (
(f_X9_refuse S I F p0 (-2 : Int32)).bind fun r_23 =>
some (r_23.1, r_23.2)) (fun a_21 =>
f_X9_force_J23 S F I p0 p1))
set_option maxHeartbeats 4000000 in
set_option maxRecDepth 100000 in
theorem t_X9_force {p0 : Nat} {p1 : Int32} {r : Int32 × v_I} (h : f_X9_force S I F p0 p1 = some r) : v_R l B D ac (v_EE B wa wb wt sb sL sx) yX9_force cX9_force 3 (some .int) 2 0 0 [.ref (B + p0), .int p1] S I J F (v_D (some (.int r.1)) S r.2 J F) := by
  refine v_R.of (by decide) (Nat.le_of_ble_eq_true rfl) fun d hd => ?_
  generalize hQ : v_D (some (.int r.1)) S r.2 J F = Q
  have j23 : ∀ (I : v_I) (y0 : Nat) (y1 : Int32), f_X9_force_J23 S F I y0 y1 = some r → V l B D ac (v_EE B wa wb wt sb sL sx) yX9_force cX9_force 3 (some .int) d 0 0 0 0 S I J F 23 [(0, .ref (B + y0)), (1, .int y1)] [] Q := by
    intro I y0 y1 h
    unfold f_X9_force_J23 at h
    refine v_aload_n dX9_force_23 rfl ?_
    replace h := p_bind_elim h
    obtain ⟨_, q_2, h⟩ := h
    have q_2 := p_ob_spec q_2
    replace h := p_bind_elim h
    obtain ⟨a_3, q_4, h⟩ := h
    refine v_getR q_4 rfl fl_X9_12 dX9_force_24 q_2 ?_
    replace h := p_bind_elim h
    obtain ⟨_, q_5, h⟩ := h
    have q_5 := p_ob_spec q_5
    refine v_getI rfl fl_X9_199 dX9_force_27 q_5 ?_
    replace h := p_let_elim h
    obtain ⟨x_6, h_7, h⟩ := h
    rw [← h_7]
    refine v_istore_n dX9_force_30 (by decide) ?_
    refine v_sub [(0, .ref (B + y0)), (1, .int y1), (2, .int x_6)] ⟨rfl, rfl, rfl, trivial⟩ ?_
    refine v_aload_n dX9_force_31 rfl ?_
    replace h := p_bind_elim h
    obtain ⟨a_8, q_9, h⟩ := h
    refine v_getR q_9 rfl fl_X9_12 dX9_force_32 q_2 ?_
    refine v_iload_n dX9_force_35 rfl ?_
    replace h := p_bind_elim h
    obtain ⟨_, q_10, h⟩ := h
    have q_10 := p_ob_spec q_10
    refine v_putI rfl fl_X9_199 dX9_force_36 q_10 rfl rfl ?_
    replace h := p_let_elim h
    obtain ⟨I_11, h_12, h⟩ := h
    rw [← h_12]
    refine v_aload_n dX9_force_39 rfl ?_
    refine v_iload_n dX9_force_40 rfl ?_
    replace h := p_bind_elim h
    obtain ⟨r_13, q_14, h⟩ := h
    refine v_cVr (t_X9_accept q_14) cal_X9_accept ml_X9_113 sel_X9_accept q_2 kk_9 dX9_force_41 (by omega) (by decide) (by decide) (Nat.le_of_ble_eq_true rfl) rfl ?_
    cases h
    exact v_iret dX9_force_44 rfl (by decide) (by decide) (by rw [← hQ]; exact ⟨rfl, rfl, rfl, rfl, rfl⟩)
  unfold f_X9_force at h
  refine v_sub [(0, .ref (B + p0)), (1, .int p1)] ⟨rfl, rfl, trivial⟩ ?_
  refine v_iload_n dX9_force_0 rfl ?_
  refine v_iconstE (-1 : Int32) dX9_force_1 (by decide) ?_
  refine v_icmp_eq 23 dX9_force_2 (by decide) (fun c_1 => ?_) (fun c_1 => ?_)
  · rw [if_pos c_1] at h
    refine v_sub [(0, .ref (B + p0)), (1, .int p1)] ⟨rfl, rfl, trivial⟩ ?_
    exact j23 _ _ _ h
  · rw [if_neg c_1] at h
    refine v_aload_n dX9_force_5 rfl ?_
    replace h := p_bind_elim h
    obtain ⟨_, q_15, h⟩ := h
    have q_15 := p_ob_spec q_15
    replace h := p_bind_elim h
    obtain ⟨a_16, q_17, h⟩ := h
    refine v_getR q_17 rfl fl_X9_12 dX9_force_6 q_15 ?_
    refine v_iload_n dX9_force_9 rfl ?_
    replace h := p_bind_elim h
    obtain ⟨_, q_20, h⟩ := h
    have q_20 := p_ob_spec q_20
    replace h := p_bind_elim h
    obtain ⟨r_18, q_19, h⟩ := h
    refine v_cVr (t_X0_lawAt q_19) cal_X0_lawAt ml_X9_195 sel_X0_lawAt q_20 kk_0 dX9_force_10 (by omega) (by decide) (by decide) (Nat.le_of_ble_eq_true rfl) rfl ?_
    replace h := p_nul_elim h
    rcases h with ⟨q_22, h⟩ | ⟨a_21, q_22, h⟩
    · subst q_22
      refine v_ifnonnullN dX9_force_13 ?_
      refine v_aload_n dX9_force_16 rfl ?_
      refine v_bipush (-2 : Int32) dX9_force_17 (by decide) ?_
      replace h := p_bind_elim h
      obtain ⟨r_23, q_24, h⟩ := h
      refine v_cVr (t_X9_refuse q_24) cal_X9_refuse ml_X9_99 sel_X9_refuse q_15 kk_9 dX9_force_19 (by omega) (by decide) (by decide) (Nat.le_of_ble_eq_true rfl) rfl ?_
      cases h
      exact v_iret dX9_force_22 rfl (by decide) (by decide) (by rw [← hQ]; exact ⟨rfl, rfl, rfl, rfl, rfl⟩)
    · subst q_22
      refine v_ifnonnull 23 dX9_force_13 (by decide) ?_
      refine v_sub [(0, .ref (B + p0)), (1, .int p1)] ⟨rfl, rfl, trivial⟩ ?_
      exact j23 _ _ _ h

def f_X9_act (S : v_S) (I : v_I) (J : v_J) (F : v_F) (p0 : Nat) (p1 : Int32) (p2 : Int32) (p3 : Int32) : Option (Int32 × v_S × v_I × v_J × v_F) :=
(p_ob S 9 p0).bind fun _ =>
(F p0 0).bind fun a_2 =>
(F p0 0).bind fun a_4 =>
(p_ob S 0 a_4).bind fun _ =>
(F a_4 1).bind fun a_7 =>
(p_ob S 0 a_2).bind fun _ =>
(f_X0_whyNot S I F a_2 a_7 p1 p2.toInt64 p3.toInt64).bind fun r_9 =>
if r_9 = (0 : Int32) then (
(F p0 2).bind fun a_13 =>
(F p0 0).bind fun a_15 =>
(p_ob S 0 a_15).bind fun _ =>
(F a_15 1).bind fun a_18 =>
(p_ob S 4 a_13).bind fun _ =>
(f_X4_keep S I F a_13 p1 a_18).bind fun r_20 =>
(p_ob r_20.1 9 p0).bind fun _ =>
(r_20.2.2 p0 3).bind fun a_24 =>
(r_20.2.2 p0 0).bind fun a_26 =>
(r_20.2.2 p0 0).bind fun a_28 =>
(p_ob r_20.1 0 a_28).bind fun _ =>
(r_20.2.2 a_28 1).bind fun a_31 =>
(p_ob r_20.1 1 a_24).bind fun _ =>
(f_X1_perform r_20.1 r_20.2.1 J r_20.2.2 a_24 a_26 a_31 p1 p2 p3).bind fun r_33 =>
(f_X9_accept r_20.1 r_33.2.1 p0 r_33.1).bind fun r_36 =>
some (r_36.1, r_20.1, r_36.2, r_33.2.2, r_20.2.2))
else (
(f_X9_refuse S I F p0 r_9).bind fun r_38 =>
some (r_38.1, S, r_38.2, J, F))
set_option maxHeartbeats 4000000 in
set_option maxRecDepth 100000 in
theorem t_X9_act {p0 : Nat} {p1 : Int32} {p2 : Int32} {p3 : Int32} {r : Int32 × v_S × v_I × v_J × v_F} (h : f_X9_act S I J F p0 p1 p2 p3 = some r) : v_R l B D ac (v_EE B wa wb wt sb sL sx) yX9_act cX9_act 5 (some .int) 6 3 20 [.ref (B + p0), .int p1, .int p2, .int p3] S I J F (v_D (some (.int r.1)) r.2.1 r.2.2.1 r.2.2.2.1 r.2.2.2.2) := by
  refine v_R.of (by decide) (Nat.le_of_ble_eq_true rfl) fun d hd => ?_
  generalize hQ : v_D (some (.int r.1)) r.2.1 r.2.2.1 r.2.2.2.1 r.2.2.2.2 = Q
  unfold f_X9_act at h
  refine v_sub [(0, .ref (B + p0)), (1, .int p1), (2, .int p2), (3, .int p3)] ⟨rfl, rfl, rfl, rfl, trivial⟩ ?_
  refine v_aload_n dX9_act_0 rfl ?_
  replace h := p_bind_elim h
  obtain ⟨_, q_1, h⟩ := h
  have q_1 := p_ob_spec q_1
  replace h := p_bind_elim h
  obtain ⟨a_2, q_3, h⟩ := h
  refine v_getR q_3 rfl fl_X9_12 dX9_act_1 q_1 ?_
  refine v_aload_n dX9_act_4 rfl ?_
  replace h := p_bind_elim h
  obtain ⟨a_4, q_5, h⟩ := h
  refine v_getR q_5 rfl fl_X9_12 dX9_act_5 q_1 ?_
  replace h := p_bind_elim h
  obtain ⟨_, q_6, h⟩ := h
  have q_6 := p_ob_spec q_6
  replace h := p_bind_elim h
  obtain ⟨a_7, q_8, h⟩ := h
  refine v_getR q_8 rfl fl_X9_123 dX9_act_8 q_6 ?_
  refine v_iload_n dX9_act_11 rfl ?_
  refine v_iload_n dX9_act_12 rfl ?_
  refine v_i2l dX9_act_13 ?_
  refine v_iload_n dX9_act_14 rfl ?_
  refine v_i2l dX9_act_15 ?_
  replace h := p_bind_elim h
  obtain ⟨_, q_11, h⟩ := h
  have q_11 := p_ob_spec q_11
  replace h := p_bind_elim h
  obtain ⟨r_9, q_10, h⟩ := h
  refine v_cVr (t_X0_whyNot q_10) cal_X0_whyNot ml_X9_306 sel_X0_whyNot q_11 kk_0 dX9_act_16 (by omega) (by decide) (by decide) (Nat.le_of_ble_eq_true rfl) rfl ?_
  refine v_istore dX9_act_19 (by decide) ?_
  refine v_sub [(0, .ref (B + p0)), (1, .int p1), (2, .int p2), (3, .int p3), (4, .int r_9)] ⟨rfl, rfl, rfl, rfl, rfl, trivial⟩ ?_
  refine v_iload dX9_act_21 rfl ?_
  refine v_if_eq 33 dX9_act_23 (by decide) (fun c_12 => ?_) (fun c_12 => ?_)
  · rw [if_pos c_12] at h
    refine v_aload_n dX9_act_33 rfl ?_
    replace h := p_bind_elim h
    obtain ⟨a_13, q_14, h⟩ := h
    refine v_getR q_14 rfl fl_X9_23 dX9_act_34 q_1 ?_
    refine v_iload_n dX9_act_37 rfl ?_
    refine v_aload_n dX9_act_38 rfl ?_
    replace h := p_bind_elim h
    obtain ⟨a_15, q_16, h⟩ := h
    refine v_getR q_16 rfl fl_X9_12 dX9_act_39 q_1 ?_
    replace h := p_bind_elim h
    obtain ⟨_, q_17, h⟩ := h
    have q_17 := p_ob_spec q_17
    replace h := p_bind_elim h
    obtain ⟨a_18, q_19, h⟩ := h
    refine v_getR q_19 rfl fl_X9_123 dX9_act_42 q_17 ?_
    replace h := p_bind_elim h
    obtain ⟨_, q_22, h⟩ := h
    have q_22 := p_ob_spec q_22
    replace h := p_bind_elim h
    obtain ⟨r_20, q_21, h⟩ := h
    refine v_cVnc (t_X4_keep q_21) cal_X4_keep ml_X9_310 sel_X4_keep q_22 kk_4 dX9_act_45 (by omega) (by decide) (by decide) (Nat.le_of_ble_eq_true rfl) rfl ?_
    refine v_aload_n dX9_act_48 rfl ?_
    refine v_aload_n dX9_act_49 rfl ?_
    replace h := p_bind_elim h
    obtain ⟨_, q_23, h⟩ := h
    have q_23 := p_ob_spec q_23
    replace h := p_bind_elim h
    obtain ⟨a_24, q_25, h⟩ := h
    refine v_getR q_25 rfl fl_X9_30 dX9_act_50 q_23 ?_
    refine v_aload_n dX9_act_53 rfl ?_
    replace h := p_bind_elim h
    obtain ⟨a_26, q_27, h⟩ := h
    refine v_getR q_27 rfl fl_X9_12 dX9_act_54 q_23 ?_
    refine v_aload_n dX9_act_57 rfl ?_
    replace h := p_bind_elim h
    obtain ⟨a_28, q_29, h⟩ := h
    refine v_getR q_29 rfl fl_X9_12 dX9_act_58 q_23 ?_
    replace h := p_bind_elim h
    obtain ⟨_, q_30, h⟩ := h
    have q_30 := p_ob_spec q_30
    replace h := p_bind_elim h
    obtain ⟨a_31, q_32, h⟩ := h
    refine v_getR q_32 rfl fl_X9_123 dX9_act_61 q_30 ?_
    refine v_iload_n dX9_act_64 rfl ?_
    refine v_iload_n dX9_act_65 rfl ?_
    refine v_iload_n dX9_act_66 rfl ?_
    replace h := p_bind_elim h
    obtain ⟨_, q_35, h⟩ := h
    have q_35 := p_ob_spec q_35
    replace h := p_bind_elim h
    obtain ⟨r_33, q_34, h⟩ := h
    refine v_cVr (t_X1_perform q_34) cal_X1_perform ml_X9_314 sel_X1_perform q_35 kk_1 dX9_act_67 (by omega) (by decide) (by decide) (Nat.le_of_ble_eq_true rfl) rfl ?_
    replace h := p_bind_elim h
    obtain ⟨r_36, q_37, h⟩ := h
    refine v_cVr (t_X9_accept q_37) cal_X9_accept ml_X9_113 sel_X9_accept q_23 kk_9 dX9_act_70 (by omega) (by decide) (by decide) (Nat.le_of_ble_eq_true rfl) rfl ?_
    cases h
    exact v_iret dX9_act_73 rfl (by decide) (by decide) (by rw [← hQ]; exact ⟨rfl, rfl, rfl, rfl, rfl⟩)
  · rw [if_neg c_12] at h
    refine v_aload_n dX9_act_26 rfl ?_
    refine v_iload dX9_act_27 rfl ?_
    replace h := p_bind_elim h
    obtain ⟨r_38, q_39, h⟩ := h
    refine v_cVr (t_X9_refuse q_39) cal_X9_refuse ml_X9_99 sel_X9_refuse q_1 kk_9 dX9_act_29 (by omega) (by decide) (by decide) (Nat.le_of_ble_eq_true rfl) rfl ?_
    cases h
    exact v_iret dX9_act_32 rfl (by decide) (by decide) (by rw [← hQ]; exact ⟨rfl, rfl, rfl, rfl, rfl⟩)

def f_X9_touch (S : v_S) (I : v_I) (J : v_J) (F : v_F) (p0 : Nat) (p1 : Int32) : Option (Int32 × v_S × v_I × v_J × v_F) :=
(p_ob S 9 p0).bind fun _ =>
(f_X9_act S I J F p0 (0 : Int32) p1 (0 : Int32)).bind fun r_1 =>
some (r_1.1, r_1.2.1, r_1.2.2.1, r_1.2.2.2.1, r_1.2.2.2.2)
set_option maxHeartbeats 4000000 in
set_option maxRecDepth 100000 in
theorem t_X9_touch {p0 : Nat} {p1 : Int32} {r : Int32 × v_S × v_I × v_J × v_F} (h : f_X9_touch S I J F p0 p1 = some r) : v_R l B D ac (v_EE B wa wb wt sb sL sx) yX9_touch cX9_touch 2 (some .int) 7 3 20 [.ref (B + p0), .int p1] S I J F (v_D (some (.int r.1)) r.2.1 r.2.2.1 r.2.2.2.1 r.2.2.2.2) := by
  refine v_R.of (by decide) (Nat.le_of_ble_eq_true rfl) fun d hd => ?_
  generalize hQ : v_D (some (.int r.1)) r.2.1 r.2.2.1 r.2.2.2.1 r.2.2.2.2 = Q
  unfold f_X9_touch at h
  refine v_sub [(0, .ref (B + p0)), (1, .int p1)] ⟨rfl, rfl, trivial⟩ ?_
  refine v_aload_n dX9_touch_0 rfl ?_
  refine v_iconstE (0 : Int32) dX9_touch_1 (by decide) ?_
  refine v_iload_n dX9_touch_2 rfl ?_
  refine v_iconstE (0 : Int32) dX9_touch_3 (by decide) ?_
  replace h := p_bind_elim h
  obtain ⟨_, q_3, h⟩ := h
  have q_3 := p_ob_spec q_3
  replace h := p_bind_elim h
  obtain ⟨r_1, q_2, h⟩ := h
  refine v_cVrc (t_X9_act q_2) cal_X9_act ml_X9_202 sel_X9_act q_3 kk_9 dX9_touch_4 (by omega) (by decide) (by decide) (Nat.le_of_ble_eq_true rfl) rfl ?_
  cases h
  exact v_iret dX9_touch_7 rfl (by decide) (by decide) (by rw [← hQ]; exact ⟨rfl, rfl, rfl, rfl, rfl⟩)

end p01
