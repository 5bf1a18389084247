noncomputable section p04
variable {l : Launch} {B : Nat} {D : va_G} {ac : Nat → ClassId} {wa wb wt sb sL : Nat} {sx : Nat → Int32} {S : v_S} {I : v_I} {J : v_J} {F : v_F}
def f_X10_terms (S : v_S) (I : v_I) (F : v_F) (p0 : Nat) (p1 : Int32) (p2 : Int32) : Option (Int32 × v_I) :=
(f_X10_isTerm p1 p2).bind fun r_1 =>
if r_1 = (0 : Int32) then (
(p_ob S 10 p0).bind fun _ =>
(f_X10_refuses S I F p0 (-1 : Int32)).bind fun r_23 =>
some (r_23.1, r_23.2))
else (
(p_ob S 10 p0).bind fun _ =>
(F p0 2).bind fun a_5 =>
(f_X10_termAt p1).bind fun r_7 =>
(p_ix S 20 a_5 r_7).bind fun j_9 =>
p_let (I a_5 j_9) fun x_11 =>
(F p0 2).bind fun a_13 =>
(f_X10_termAt p1).bind fun r_15 =>
(p_ix S 20 a_13 r_15).bind fun j_17 =>
p_let (v_up I a_13 j_17 p2) fun I_19 =>
(f_X10_settled S I_19 p0 x_11).bind fun r_21 =>
some (r_21.1, r_21.2))
set_option maxHeartbeats 4000000 in
set_option maxRecDepth 100000 in
theorem t_X10_terms {p0 : Nat} {p1 : Int32} {p2 : Int32} {r : Int32 × v_I} (h : f_X10_terms S I F p0 p1 p2 = some r) : v_R l B D ac (v_EE B wa wb wt sb sL sx) yX10_terms cX10_terms 4 (some .int) 4 0 0 [.ref (B + p0), .int p1, .int p2] S I J F (v_D (some (.int r.1)) S r.2 J F) := by
  refine v_R.of (by decide) (Nat.le_of_ble_eq_true rfl) fun d hd => ?_
  generalize hQ : v_D (some (.int r.1)) S r.2 J F = Q
  unfold f_X10_terms at h
  refine v_sub [(0, .ref (B + p0)), (1, .int p1), (2, .int p2)] ⟨rfl, rfl, rfl, trivial⟩ ?_
  refine v_iload_n dX10_terms_0 rfl ?_
  refine v_iload_n dX10_terms_1 rfl ?_
  replace h := p_bind_elim h
  obtain ⟨r_1, q_2, h⟩ := h
  refine v_cSr (t_X10_isTerm q_2) cal_X10_isTerm ml_X10_153 sta_X10_isTerm dX10_terms_2 (by omega) (by decide) (by decide) (Nat.le_of_ble_eq_true rfl) rfl ?_
  refine v_if_ne 14 dX10_terms_5 (by decide) (fun c_3 => ?_) (fun c_3 => ?_)
  · rw [if_neg c_3] at h
    refine v_aload_n dX10_terms_14 rfl ?_
    replace h := p_bind_elim h
    obtain ⟨_, q_4, h⟩ := h
    have q_4 := p_ob_spec q_4
    replace h := p_bind_elim h
    obtain ⟨a_5, q_6, h⟩ := h
    refine v_getR q_6 rfl fl_X10_28 dX10_terms_15 q_4 ?_
    refine v_iload_n dX10_terms_18 rfl ?_
    replace h := p_bind_elim h
    obtain ⟨r_7, q_8, h⟩ := h
    refine v_cSr (t_X10_termAt q_8) cal_X10_termAt ml_X10_156 sta_X10_termAt dX10_terms_19 (by omega) (by decide) (by decide) (Nat.le_of_ble_eq_true rfl) rfl ?_
    replace h := p_bind_elim h
    obtain ⟨j_9, q_10, h⟩ := h
    refine v_ialdP dX10_terms_22 q_10 ?_
    replace h := p_let_elim h
    obtain ⟨x_11, h_12, h⟩ := h
    rw [← h_12]
    refine v_istore_n dX10_terms_23 (by decide) ?_
    refine v_sub [(0, .ref (B + p0)), (1, .int p1), (2, .int p2), (3, .int x_11)] ⟨rfl, rfl, rfl, rfl, trivial⟩ ?_
    refine v_aload_n dX10_terms_24 rfl ?_
    replace h := p_bind_elim h
    obtain ⟨a_13, q_14, h⟩ := h
    refine v_getR q_14 rfl fl_X10_28 dX10_terms_25 q_4 ?_
    refine v_iload_n dX10_terms_28 rfl ?_
    replace h := p_bind_elim h
    obtain ⟨r_15, q_16, h⟩ := h
    refine v_cSr (t_X10_termAt q_16) cal_X10_termAt ml_X10_156 sta_X10_termAt dX10_terms_29 (by omega) (by decide) (by decide) (Nat.le_of_ble_eq_true rfl) rfl ?_
    refine v_iload_n dX10_terms_32 rfl ?_
    replace h := p_bind_elim h
    obtain ⟨j_17, q_18, h⟩ := h
    refine v_iastP dX10_terms_33 q_18 ?_
    replace h := p_let_elim h
    obtain ⟨I_19, h_20, h⟩ := h
    rw [← h_20]
    refine v_aload_n dX10_terms_34 rfl ?_
    refine v_iload_n dX10_terms_35 rfl ?_
    replace h := p_bind_elim h
    obtain ⟨r_21, q_22, h⟩ := h
    refine v_cVr (t_X10_settled q_22) cal_X10_settled ml_X10_106 sel_X10_settled q_4 kk_10 dX10_terms_36 (by omega) (by decide) (by decide) (Nat.le_of_ble_eq_true rfl) rfl ?_
    cases h
    exact v_iret dX10_terms_39 rfl (by decide) (by decide) (by rw [← hQ]; exact ⟨rfl, rfl, rfl, rfl, rfl⟩)
  · rw [if_pos c_3] at h
    refine v_aload_n dX10_terms_8 rfl ?_
    refine v_iconstE (-1 : Int32) dX10_terms_9 (by decide) ?_
    replace h := p_bind_elim h
    obtain ⟨_, q_25, h⟩ := h
    have q_25 := p_ob_spec q_25
    replace h := p_bind_elim h
    obtain ⟨r_23, q_24, h⟩ := h
    refine v_cVr (t_X10_refuses q_24) cal_X10_refuses ml_X10_103 sel_X10_refuses q_25 kk_10 dX10_terms_10 (by omega) (by decide) (by decide) (Nat.le_of_ble_eq_true rfl) rfl ?_
    cases h
    exact v_iret dX10_terms_13 rfl (by decide) (by decide) (by rw [← hQ]; exact ⟨rfl, rfl, rfl, rfl, rfl⟩)

def f_X10_everybody (S : v_S) (I : v_I) (F : v_F) (p0 : Nat) : Option (Int32) :=
(p_ob S 10 p0).bind fun _ =>
(f_X10_many S I F p0).bind fun r_1 =>
some (((1 : Int32) <<< (r_1 &&& 31)) - (1 : Int32))
set_option maxHeartbeats 4000000 in
set_option maxRecDepth 100000 in
theorem t_X10_everybody {p0 : Nat} {r : Int32} (h : f_X10_everybody S I F p0 = some r) : v_R l B D ac (v_EE B wa wb wt sb sL sx) yX10_everybody cX10_everybody 1 (some .int) 2 0 0 [.ref (B + p0)] S I J F (v_D (some (.int r)) S I J F) := by
  refine v_R.of (by decide) (Nat.le_of_ble_eq_true rfl) fun d hd => ?_
  generalize hQ : v_D (some (.int r)) S I J F = Q
  unfold f_X10_everybody at h
  refine v_sub [(0, .ref (B + p0))] ⟨rfl, trivial⟩ ?_
  refine v_iconstE (1 : Int32) dX10_everybody_0 (by decide) ?_
  refine v_aload_n dX10_everybody_1 rfl ?_
  replace h := p_bind_elim h
  obtain ⟨_, q_3, h⟩ := h
  have q_3 := p_ob_spec q_3
  replace h := p_bind_elim h
  obtain ⟨r_1, q_2, h⟩ := h
  refine v_cVr (t_X10_many q_2) cal_X10_many ml_X10_109 sel_X10_many q_3 kk_10 dX10_everybody_2 (by omega) (by decide) (by decide) (Nat.le_of_ble_eq_true rfl) rfl ?_
  refine v_ishl dX10_everybody_5 ?_
  refine v_iconstE (1 : Int32) dX10_everybody_6 (by decide) ?_
  refine v_isub dX10_everybody_7 ?_
  cases h
  exact v_iret dX10_everybody_8 rfl (by decide) (by decide) (by rw [← hQ]; exact ⟨rfl, rfl, rfl, rfl, rfl⟩)

def f_X10_watchAt (S : v_S) (I : v_I) (F : v_F) (p0 : Nat) (p1 : Int32) : Option (Int32) :=
(p_ob S 10 p0).bind fun _ =>
(F p0 11).bind fun a_2 =>
(p_ix S 21 a_2 (p1 + (2 : Int32))).bind fun j_4 =>
some ((I a_2 j_4) &&& (255 : Int32))
set_option maxHeartbeats 4000000 in
set_option maxRecDepth 100000 in
theorem t_X10_watchAt {p0 : Nat} {p1 : Int32} {r : Int32} (h : f_X10_watchAt S I F p0 p1 = some r) : v_R l B D ac (v_EE B wa wb wt sb sL sx) yX10_watchAt cX10_watchAt 2 (some .int) 1 0 0 [.ref (B + p0), .int p1] S I J F (v_D (some (.int r)) S I J F) := by
  refine v_R.of (by decide) (Nat.le_of_ble_eq_true rfl) fun d hd => ?_
  generalize hQ : v_D (some (.int r)) S I J F = Q
  unfold f_X10_watchAt at h
  refine v_sub [(0, .ref (B + p0)), (1, .int p1)] ⟨rfl, rfl, trivial⟩ ?_
  refine v_aload_n dX10_watchAt_0 rfl ?_
  replace h := p_bind_elim h
  obtain ⟨_, q_1, h⟩ := h
  have q_1 := p_ob_spec q_1
  replace h := p_bind_elim h
  obtain ⟨a_2, q_3, h⟩ := h
  refine v_getR q_3 rfl fl_X10_45 dX10_watchAt_1 q_1 ?_
  refine v_iload_n dX10_watchAt_4 rfl ?_
  refine v_iconstE (2 : Int32) dX10_watchAt_5 (by decide) ?_
  refine v_iadd dX10_watchAt_6 ?_
  replace h := p_bind_elim h
  obtain ⟨j_4, q_5, h⟩ := h
  refine v_baldP dX10_watchAt_7 q_5 ?_
  refine v_sipush (255 : Int32) dX10_watchAt_8 (by decide) ?_
  refine v_iand dX10_watchAt_11 ?_
  cases h
  exact v_iret dX10_watchAt_12 rfl (by decide) (by decide) (by rw [← hQ]; exact ⟨rfl, rfl, rfl, rfl, rfl⟩)

def f_X10_canRow (S : v_S) (I : v_I) (F : v_F) (p0 : Nat) (p1 : Int32) : Option (Int32) :=
(p_ob S 10 p0).bind fun _ =>
(f_X10_many S I F p0).bind fun r_1 =>
if r_1 = (8 : Int32) then (
some ((0 : Int32)))
else (
(F p0 11).bind fun a_5 =>
(p_ix S 21 a_5 p1).bind fun j_7 =>
(f_X10_isNine (I a_5 j_7)).bind fun r_9 =>
if r_9 = (0 : Int32) then (
some ((0 : Int32)))
else (
(F p0 11).bind fun a_12 =>
(p_ix S 21 a_12 (p1 + (1 : Int32))).bind fun j_14 =>
(f_X10_isNine (I a_12 j_14)).bind fun r_16 =>
if r_16 = (0 : Int32) then (
some ((0 : Int32)))
else (
(f_X10_watchAt S I F p0 p1).bind fun r_19 =>
(f_X10_everybody S I F p0).bind fun r_21 =>
if r_21 < r_19 then (
some ((0 : Int32)))
else (
some ((1 : Int32))))))
set_option maxHeartbeats 4000000 in
set_option maxRecDepth 100000 in
theorem t_X10_canRow {p0 : Nat} {p1 : Int32} {r : Int32} (h : f_X10_canRow S I F p0 p1 = some r) : v_R l B D ac (v_EE B wa wb wt sb sL sx) yX10_canRow cX10_canRow 2 (some .boolean) 3 0 0 [.ref (B + p0), .int p1] S I J F (v_D (some (.int r)) S I J F) := by
  refine v_R.of (by decide) (Nat.le_of_ble_eq_true rfl) fun d hd => ?_
  generalize hQ : v_D (some (.int r)) S I J F = Q
  unfold f_X10_canRow at h
  refine v_sub [(0, .ref (B + p0)), (1, .int p1)] ⟨rfl, rfl, trivial⟩ ?_
  refine v_aload_n dX10_canRow_0 rfl ?_
  replace h := p_bind_elim h
  obtain ⟨_, q_3, h⟩ := h
  have q_3 := p_ob_spec q_3
  replace h := p_bind_elim h
  obtain ⟨r_1, q_2, h⟩ := h
  refine v_cVr (t_X10_many q_2) cal_X10_many ml_X10_109 sel_X10_many q_3 kk_10 dX10_canRow_1 (by omega) (by decide) (by decide) (Nat.le_of_ble_eq_true rfl) rfl ?_
  refine v_bipush (8 : Int32) dX10_canRow_4 (by decide) ?_
  refine v_icmp_ne 11 dX10_canRow_6 (by decide) (fun c_4 => ?_) (fun c_4 => ?_)
  · rw [if_neg c_4] at h
    refine v_aload_n dX10_canRow_11 rfl ?_
    replace h := p_bind_elim h
    obtain ⟨a_5, q_6, h⟩ := h
    refine v_getR q_6 rfl fl_X10_45 dX10_canRow_12 q_3 ?_
    refine v_iload_n dX10_canRow_15 rfl ?_
    replace h := p_bind_elim h
    obtain ⟨j_7, q_8, h⟩ := h
    refine v_baldP dX10_canRow_16 q_8 ?_
    replace h := p_bind_elim h
    obtain ⟨r_9, q_10, h⟩ := h
    refine v_cSr (t_X10_isNine q_10) cal_X10_isNine ml_X10_117 sta_X10_isNine dX10_canRow_17 (by omega) (by decide) (by decide) (Nat.le_of_ble_eq_true rfl) rfl ?_
    refine v_if_eq 37 dX10_canRow_20 (by decide) (fun c_11 => ?_) (fun c_11 => ?_)
    · rw [if_pos c_11] at h
      refine v_iconstE (0 : Int32) dX10_canRow_37 (by decide) ?_
      cases h
      exact v_zret dX10_canRow_38 rfl rfl (by decide) (by decide) (by rw [← hQ]; exact ⟨rfl, rfl, rfl, rfl, rfl⟩)
    · rw [if_neg c_11] at h
      refine v_aload_n dX10_canRow_23 rfl ?_
      replace h := p_bind_elim h
      obtain ⟨a_12, q_13, h⟩ := h
      refine v_getR q_13 rfl fl_X10_45 dX10_canRow_24 q_3 ?_
      refine v_iload_n dX10_canRow_27 rfl ?_
      refine v_iconstE (1 : Int32) dX10_canRow_28 (by decide) ?_
      refine v_iadd dX10_canRow_29 ?_
      replace h := p_bind_elim h
      obtain ⟨j_14, q_15, h⟩ := h
      refine v_baldP dX10_canRow_30 q_15 ?_
      replace h := p_bind_elim h
      obtain ⟨r_16, q_17, h⟩ := h
      refine v_cSr (t_X10_isNine q_17) cal_X10_isNine ml_X10_117 sta_X10_isNine dX10_canRow_31 (by omega) (by decide) (by decide) (Nat.le_of_ble_eq_true rfl) rfl ?_
      refine v_if_ne 39 dX10_canRow_34 (by decide) (fun c_18 => ?_) (fun c_18 => ?_)
      · rw [if_neg c_18] at h
        refine v_aload_n dX10_canRow_39 rfl ?_
        refine v_iload_n dX10_canRow_40 rfl ?_
        replace h := p_bind_elim h
        obtain ⟨r_19, q_20, h⟩ := h
        refine v_cVr (t_X10_watchAt q_20) cal_X10_watchAt ml_X10_159 sel_X10_watchAt q_3 kk_10 dX10_canRow_41 (by omega) (by decide) (by decide) (Nat.le_of_ble_eq_true rfl) rfl ?_
        refine v_aload_n dX10_canRow_44 rfl ?_
        replace h := p_bind_elim h
        obtain ⟨r_21, q_22, h⟩ := h
        refine v_cVr (t_X10_everybody q_22) cal_X10_everybody ml_X10_162 sel_X10_everybody q_3 kk_10 dX10_canRow_45 (by omega) (by decide) (by decide) (Nat.le_of_ble_eq_true rfl) rfl ?_
        refine v_icmp_gt 55 dX10_canRow_48 (by decide) (fun c_23 => ?_) (fun c_23 => ?_)
        · rw [if_pos c_23] at h
          refine v_iconstE (0 : Int32) dX10_canRow_55 (by decide) ?_
          cases h
          exact v_zret dX10_canRow_56 rfl rfl (by decide) (by decide) (by rw [← hQ]; exact ⟨rfl, rfl, rfl, rfl, rfl⟩)
        · rw [if_neg c_23] at h
          refine v_iconstE (1 : Int32) dX10_canRow_51 (by decide) ?_
          refine v_goto 56 dX10_canRow_52 (by decide) ?_
          cases h
          exact v_zret dX10_canRow_56 rfl rfl (by decide) (by decide) (by rw [← hQ]; exact ⟨rfl, rfl, rfl, rfl, rfl⟩)
      · rw [if_pos c_18] at h
        refine v_iconstE (0 : Int32) dX10_canRow_37 (by decide) ?_
        cases h
        exact v_zret dX10_canRow_38 rfl rfl (by decide) (by decide) (by rw [← hQ]; exact ⟨rfl, rfl, rfl, rfl, rfl⟩)
  · rw [if_pos c_4] at h
    refine v_iconstE (0 : Int32) dX10_canRow_9 (by decide) ?_
    cases h
    exact v_zret dX10_canRow_10 rfl rfl (by decide) (by decide) (by rw [← hQ]; exact ⟨rfl, rfl, rfl, rfl, rfl⟩)

def f_X10_row_J32_82 (S : v_S) (F : v_F) (w0 : Nat) (w1 : Int32) (w3 : Int32) (I : v_I) (y2 : Int32) (y4 : Int32) : Option ((Int32 × Int32 × v_I) ⊕ (Int32 × Int32 × v_I)) :=
p_let (y4 + (3 : Int32)) fun x_28 =>
some (.inl (y2, x_28, I))
def f_X10_row_B32 (S : v_S) (F : v_F) (w0 : Nat) (w1 : Int32) (w3 : Int32) (s32 : Int32 × Int32 × v_I) : Option ((Int32 × Int32 × v_I) ⊕ (Int32 × Int32 × v_I)) :=
if w1 < (s32.2.1 + (3 : Int32)) then (
some (.inr (s32.1, s32.2.1, s32.2.2)))
else (
(p_ob S 10 w0).bind fun _ =>
(f_X10_canRow S s32.2.2 F w0 s32.2.1).bind fun r_10 =>
if r_10 = (0 : Int32) then (
f_X10_row_J32_82 S F w0 w1 w3 s32.2.2 s32.1 s32.2.1)
else (
(F w0 11).bind fun a_14 =>
(p_ix S 21 a_14 s32.2.1).bind fun j_16 =>
(F w0 11).bind fun a_18 =>
(p_ix S 21 a_18 (s32.2.1 + (1 : Int32))).bind fun j_20 =>
(f_X10_watchAt S s32.2.2 F w0 s32.2.1).bind fun r_22 =>
(f_X10_adds S s32.2.2 F w0 (s32.2.2 a_14 j_16) (s32.2.2 a_18 j_20) r_22).bind fun r_24 =>
p_let (s32.1 + (1 : Int32)) fun x_26 =>
f_X10_row_J32_82 S F w0 w1 w3 r_24.2 x_26 s32.2.1))
def f_X10_row (S : v_S) (I : v_I) (F : v_F) (p0 : Nat) : Option (Int32 × v_I) :=
(p_ob S 10 p0).bind fun _ =>
p_let (I p0 13) fun x_2 =>
p_let (v_up I p0 13 (0 : Int32)) fun I_4 =>
if x_2 = (0 : Int32) then (
(f_X10_refuses S I_4 F p0 (-6 : Int32)).bind fun r_36 =>
some (r_36.1, r_36.2))
else (
p_let ((x_2 + (2 : Int32)) / (3 : Int32)) fun x_7 =>
(v_loop (f_X10_row_B32 S F p0 x_2 x_7) FU ((0 : Int32), (0 : Int32), I_4)).bind fun q_30 =>
p_let (v_up q_30.2.2 p0 6 (x_7 - q_30.1)) fun I_32 =>
(f_X10_settled S I_32 p0 q_30.1).bind fun r_34 =>
some (r_34.1, r_34.2))
set_option maxHeartbeats 4000000 in
set_option maxRecDepth 100000 in
theorem t_X10_row {p0 : Nat} {r : Int32 × v_I} (h : f_X10_row S I F p0 = some r) : v_R l B D ac (v_EE B wa wb wt sb sL sx) yX10_row cX10_row 5 (some .int) 4 0 0 [.ref (B + p0)] S I J F (v_D (some (.int r.1)) S r.2 J F) := by
  refine v_R.of (by decide) (Nat.le_of_ble_eq_true rfl) fun d hd => ?_
  generalize hQ : v_D (some (.int r.1)) S r.2 J F = Q
  have b32 : ∀ (w0 : Nat) (w1 : Int32) (w3 : Int32) (s32 : Int32 × Int32 × v_I) (rx32 : (Int32 × Int32 × v_I) ⊕ (Int32 × Int32 × v_I)), f_X10_row_B32 S F w0 w1 w3 s32 = some rx32 → v_K (fun (sP : Int32 × Int32 × v_I) => V l B D ac (v_EE B wa wb wt sb sL sx) yX10_row cX10_row 5 (some .int) d 0 0 0 0 S sP.2.2 J F 32 [(0, .ref (B + w0)), (1, .int w1), (2, .int sP.1), (3, .int w3), (4, .int sP.2.1)] [] Q) (fun (rE : Int32 × Int32 × v_I) => V l B D ac (v_EE B wa wb wt sb sL sx) yX10_row cX10_row 5 (some .int) d 0 0 0 0 S rE.2.2 J F 88 [(0, .ref (B + w0)), (2, .int rE.1), (3, .int w3)] [] Q) rx32 → V l B D ac (v_EE B wa wb wt sb sL sx) yX10_row cX10_row 5 (some .int) d 0 0 0 0 S s32.2.2 J F 32 [(0, .ref (B + w0)), (1, .int w1), (2, .int s32.1), (3, .int w3), (4, .int s32.2.1)] [] Q := by
    intro w0 w1 w3 s32 rx32 h hk
    have j82 : ∀ (I : v_I) (y2 : Int32) (y4 : Int32), f_X10_row_J32_82 S F w0 w1 w3 I y2 y4 = some rx32 → V l B D ac (v_EE B wa wb wt sb sL sx) yX10_row cX10_row 5 (some .int) d 0 0 0 0 S I J F 82 [(0, .ref (B + w0)), (1, .int w1), (2, .int y2), (3, .int w3), (4, .int y4)] [] Q := by
      intro I y2 y4 h
      unfold f_X10_row_J32_82 at h
      replace h := p_let_elim h
      obtain ⟨x_28, h_29, h⟩ := h
      refine v_iincE (3 : Int32) dX10_row_82 (by decide) rfl (by decide) ?_
      rw [← h_29]
      refine v_sub [(0, .ref (B + w0)), (1, .int w1), (2, .int y2), (3, .int w3), (4, .int x_28)] ⟨rfl, rfl, rfl, rfl, rfl, trivial⟩ ?_
      refine v_goto 32 dX10_row_85 (by decide) ?_
      cases h
      refine v_sub [(0, .ref (B + w0)), (1, .int w1), (2, .int y2), (3, .int w3), (4, .int x_28)] ⟨rfl, rfl, rfl, rfl, rfl, trivial⟩ ?_
      exact hk
    unfold f_X10_row_B32 at h
    refine v_iload dX10_row_32 rfl ?_
    refine v_iconstE (3 : Int32) dX10_row_34 (by decide) ?_
    refine v_iadd dX10_row_35 ?_
    refine v_iload_n dX10_row_36 rfl ?_
    refine v_icmp_gt 88 dX10_row_37 (by decide) (fun c_9 => ?_) (fun c_9 => ?_)
    · rw [if_pos c_9] at h
      cases h
      refine v_sub [(0, .ref (B + w0)), (2, .int s32.1), (3, .int w3)] ⟨rfl, rfl, rfl, trivial⟩ ?_
      exact hk
    · rw [if_neg c_9] at h
      refine v_aload_n dX10_row_40 rfl ?_
      refine v_iload dX10_row_41 rfl ?_
      replace h := p_bind_elim h
      obtain ⟨_, q_12, h⟩ := h
      have q_12 := p_ob_spec q_12
      replace h := p_bind_elim h
      obtain ⟨r_10, q_11, h⟩ := h
      refine v_cVr (t_X10_canRow q_11) cal_X10_canRow ml_X10_168 sel_X10_canRow q_12 kk_10 dX10_row_43 (by omega) (by decide) (by decide) (Nat.le_of_ble_eq_true rfl) rfl ?_
      refine v_if_ne 52 dX10_row_46 (by decide) (fun c_13 => ?_) (fun c_13 => ?_)
      · rw [if_neg c_13] at h
        refine v_aload_n dX10_row_52 rfl ?_
        refine v_aload_n dX10_row_53 rfl ?_
        replace h := p_bind_elim h
        obtain ⟨a_14, q_15, h⟩ := h
        refine v_getR q_15 rfl fl_X10_45 dX10_row_54 q_12 ?_
        refine v_iload dX10_row_57 rfl ?_
        replace h := p_bind_elim h
        obtain ⟨j_16, q_17, h⟩ := h
        refine v_baldP dX10_row_59 q_17 ?_
        refine v_aload_n dX10_row_60 rfl ?_
        replace h := p_bind_elim h
        obtain ⟨a_18, q_19, h⟩ := h
        refine v_getR q_19 rfl fl_X10_45 dX10_row_61 q_12 ?_
        refine v_iload dX10_row_64 rfl ?_
        refine v_iconstE (1 : Int32) dX10_row_66 (by decide) ?_
        refine v_iadd dX10_row_67 ?_
        replace h := p_bind_elim h
        obtain ⟨j_20, q_21, h⟩ := h
        refine v_baldP dX10_row_68 q_21 ?_
        refine v_aload_n dX10_row_69 rfl ?_
        refine v_iload dX10_row_70 rfl ?_
        replace h := p_bind_elim h
        obtain ⟨r_22, q_23, h⟩ := h
        refine v_cVr (t_X10_watchAt q_23) cal_X10_watchAt ml_X10_159 sel_X10_watchAt q_12 kk_10 dX10_row_72 (by omega) (by decide) (by decide) (Nat.le_of_ble_eq_true rfl) rfl ?_
        replace h := p_bind_elim h
        obtain ⟨r_24, q_25, h⟩ := h
        refine v_cVr (t_X10_adds q_25) cal_X10_adds ml_X10_121 sel_X10_adds q_12 kk_10 dX10_row_75 (by omega) (by decide) (by decide) (Nat.le_of_ble_eq_true rfl) rfl ?_
        refine v_pop dX10_row_78 rfl ?_
        replace h := p_let_elim h
        obtain ⟨x_26, h_27, h⟩ := h
        refine v_iincE (1 : Int32) dX10_row_79 (by decide) rfl (by decide) ?_
        rw [← h_27]
        refine v_sub [(0, .ref (B + w0)), (1, .int w1), (2, .int x_26), (3, .int w3), (4, .int s32.2.1)] ⟨rfl, rfl, rfl, rfl, rfl, trivial⟩ ?_
        refine v_sub [(0, .ref (B + w0)), (1, .int w1), (2, .int x_26), (3, .int w3), (4, .int s32.2.1)] ⟨rfl, rfl, rfl, rfl, rfl, trivial⟩ ?_
        exact j82 _ _ _ h
      · rw [if_pos c_13] at h
        refine v_goto 82 dX10_row_49 (by decide) ?_
        refine v_sub [(0, .ref (B + w0)), (1, .int w1), (2, .int s32.1), (3, .int w3), (4, .int s32.2.1)] ⟨rfl, rfl, rfl, rfl, rfl, trivial⟩ ?_
        exact j82 _ _ _ h
  unfold f_X10_row at h
  refine v_sub [(0, .ref (B + p0))] ⟨rfl, trivial⟩ ?_
  refine v_aload_n dX10_row_0 rfl ?_
  replace h := p_bind_elim h
  obtain ⟨_, q_1, h⟩ := h
  have q_1 := p_ob_spec q_1
  refine v_getI rfl fl_X10_165 dX10_row_1 q_1 ?_
  replace h := p_let_elim h
  obtain ⟨x_2, h_3, h⟩ := h
  rw [← h_3]
  refine v_istore_n dX10_row_4 (by decide) ?_
  refine v_sub [(0, .ref (B + p0)), (1, .int x_2)] ⟨rfl, rfl, trivial⟩ ?_
  refine v_aload_n dX10_row_5 rfl ?_
  refine v_iconstE (0 : Int32) dX10_row_6 (by decide) ?_
  refine v_putI rfl fl_X10_165 dX10_row_7 q_1 rfl rfl ?_
  replace h := p_let_elim h
  obtain ⟨I_4, h_5, h⟩ := h
  rw [← h_5]
  refine v_iload_n dX10_row_10 rfl ?_
  refine v_if_ne 21 dX10_row_11 (by decide) (fun c_6 => ?_) (fun c_6 => ?_)
  · rw [if_neg c_6] at h
    refine v_iconstE (0 : Int32) dX10_row_21 (by decide) ?_
    refine v_istore_n dX10_row_22 (by decide) ?_
    refine v_sub [(0, .ref (B + p0)), (1, .int x_2), (2, .int (0 : Int32))] ⟨rfl, rfl, rfl, trivial⟩ ?_
    refine v_iload_n dX10_row_23 rfl ?_
    refine v_iconstE (2 : Int32) dX10_row_24 (by decide) ?_
    refine v_iadd dX10_row_25 ?_
    refine v_iconstE (3 : Int32) dX10_row_26 (by decide) ?_
    refine v_idiv dX10_row_27 (by decide) ?_
    replace h := p_let_elim h
    obtain ⟨x_7, h_8, h⟩ := h
    rw [← h_8]
    refine v_istore_n dX10_row_28 (by decide) ?_
    refine v_sub [(0, .ref (B + p0)), (1, .int x_2), (2, .int (0 : Int32)), (3, .int x_7)] ⟨rfl, rfl, rfl, rfl, trivial⟩ ?_
    refine v_iconstE (0 : Int32) dX10_row_29 (by decide) ?_
    refine v_istore dX10_row_30 (by decide) ?_
    refine v_sub [(0, .ref (B + p0)), (1, .int x_2), (2, .int (0 : Int32)), (3, .int x_7), (4, .int (0 : Int32))] ⟨rfl, rfl, rfl, rfl, rfl, trivial⟩ ?_
    replace h := p_bind_elim h
    obtain ⟨q_30, h_31, h⟩ := h
    refine v_sub [(0, .ref (B + p0)), (1, .int x_2), (2, .int (0 : Int32)), (3, .int x_7), (4, .int (0 : Int32))] ⟨rfl, rfl, rfl, rfl, rfl, trivial⟩ ?_
    refine v_loopV (fun (sP : Int32 × Int32 × v_I) => V l B D ac (v_EE B wa wb wt sb sL sx) yX10_row cX10_row 5 (some .int) d 0 0 0 0 S sP.2.2 J F 32 [(0, .ref (B + p0)), (1, .int x_2), (2, .int sP.1), (3, .int x_7), (4, .int sP.2.1)] [] Q) (fun (rE : Int32 × Int32 × v_I) => V l B D ac (v_EE B wa wb wt sb sL sx) yX10_row cX10_row 5 (some .int) d 0 0 0 0 S rE.2.2 J F 88 [(0, .ref (B + p0)), (2, .int rE.1), (3, .int x_7)] [] Q) (fun s_ x_ hb hk => b32 _ _ _ s_ x_ hb hk) (r := q_30) ?_ h_31
    try dsimp only
    refine v_aload_n dX10_row_88 rfl ?_
    refine v_iload_n dX10_row_89 rfl ?_
    refine v_iload_n dX10_row_90 rfl ?_
    refine v_isub dX10_row_91 ?_
    refine v_putI rfl fl_X10_171 dX10_row_92 q_1 rfl rfl ?_
    replace h := p_let_elim h
    obtain ⟨I_32, h_33, h⟩ := h
    rw [← h_33]
    refine v_aload_n dX10_row_95 rfl ?_
    refine v_iload_n dX10_row_96 rfl ?_
    replace h := p_bind_elim h
    obtain ⟨r_34, q_35, h⟩ := h
    refine v_cVr (t_X10_settled q_35) cal_X10_settled ml_X10_106 sel_X10_settled q_1 kk_10 dX10_row_97 (by omega) (by decide) (by decide) (Nat.le_of_ble_eq_true rfl) rfl ?_
    cases h
    exact v_iret dX10_row_100 rfl (by decide) (by decide) (by rw [← hQ]; exact ⟨rfl, rfl, rfl, rfl, rfl⟩)
  · rw [if_pos c_6] at h
    refine v_aload_n dX10_row_14 rfl ?_
    refine v_bipush (-6 : Int32) dX10_row_15 (by decide) ?_
    replace h := p_bind_elim h
    obtain ⟨r_36, q_37, h⟩ := h
    refine v_cVr (t_X10_refuses q_37) cal_X10_refuses ml_X10_103 sel_X10_refuses q_1 kk_10 dX10_row_17 (by omega) (by decide) (by decide) (Nat.le_of_ble_eq_true rfl) rfl ?_
    cases h
    exact v_iret dX10_row_20 rfl (by decide) (by decide) (by rw [← hQ]; exact ⟨rfl, rfl, rfl, rfl, rfl⟩)

def f_X10_burrs (S : v_S) (I : v_I) (p0 : Nat) : Option (Int32) :=
(p_ob S 10 p0).bind fun _ =>
some (I p0 6)
set_option maxHeartbeats 4000000 in
set_option maxRecDepth 100000 in
theorem t_X10_burrs {p0 : Nat} {r : Int32} (h : f_X10_burrs S I p0 = some r) : v_R l B D ac (v_EE B wa wb wt sb sL sx) yX10_burrs cX10_burrs 1 (some .int) 1 0 0 [.ref (B + p0)] S I J F (v_D (some (.int r)) S I J F) := by
  refine v_R.of (by decide) (Nat.le_of_ble_eq_true rfl) fun d hd => ?_
  generalize hQ : v_D (some (.int r)) S I J F = Q
  unfold f_X10_burrs at h
  refine v_sub [(0, .ref (B + p0))] ⟨rfl, trivial⟩ ?_
  refine v_aload_n dX10_burrs_0 rfl ?_
  replace h := p_bind_elim h
  obtain ⟨_, q_1, h⟩ := h
  have q_1 := p_ob_spec q_1
  refine v_getI rfl fl_X10_171 dX10_burrs_1 q_1 ?_
  cases h
  exact v_iret dX10_burrs_4 rfl (by decide) (by decide) (by rw [← hQ]; exact ⟨rfl, rfl, rfl, rfl, rfl⟩)

def f_X10_feed_B55 (S : v_S) (F : v_F) (w0 : Nat) (s55 : Int32 × v_I) : Option ((Int32 × v_I) ⊕ (Int32 × v_I)) :=
if (20 : Int32) ≤ s55.1 then (
some (.inr (s55.1, s55.2)))
else (
(p_ob S 10 w0).bind fun _ =>
(F w0 11).bind fun a_35 =>
(F w0 12).bind fun a_37 =>
(p_ix S 20 a_37 (s55.1 / (4 : Int32))).bind fun j_39 =>
(p_ix S 21 a_35 ((s55.2 w0 13) + s55.1)).bind fun j_41 =>
p_let (v_up s55.2 a_35 j_41 (vp_nar .byte (((s55.2 a_37 j_39) >>> (((24 : Int32) - ((8 : Int32) * (s55.1 - s55.1 / (4 : Int32) * (4 : Int32)))) &&& 31)).toInt8.toInt32))) fun I_43 =>
p_let (s55.1 + (1 : Int32)) fun x_45 =>
some (.inl (x_45, I_43)))
def f_X10_feed (S : v_S) (I : v_I) (F : v_F) (p0 : Nat) (p1 : Int32) (p2 : Int32) (p3 : Int32) (p4 : Int32) (p5 : Int32) : Option (Int32 × v_I) :=
(p_ob S 10 p0).bind fun _ =>
if ((I p0 13) + (20 : Int32)) ≤ (400 : Int32) then (
(F p0 12).bind fun a_3 =>
(p_ix S 20 a_3 (0 : Int32)).bind fun j_5 =>
p_let (v_up I a_3 j_5 p1) fun I_7 =>
(F p0 12).bind fun a_9 =>
(p_ix S 20 a_9 (1 : Int32)).bind fun j_11 =>
p_let (v_up I_7 a_9 j_11 p2) fun I_13 =>
(F p0 12).bind fun a_15 =>
(p_ix S 20 a_15 (2 : Int32)).bind fun j_17 =>
p_let (v_up I_13 a_15 j_17 p3) fun I_19 =>
(F p0 12).bind fun a_21 =>
(p_ix S 20 a_21 (3 : Int32)).bind fun j_23 =>
p_let (v_up I_19 a_21 j_23 p4) fun I_25 =>
(F p0 12).bind fun a_27 =>
(p_ix S 20 a_27 (4 : Int32)).bind fun j_29 =>
p_let (v_up I_25 a_27 j_29 p5) fun I_31 =>
(v_loop (f_X10_feed_B55 S F p0) FU ((0 : Int32), I_31)).bind fun q_47 =>
p_let (v_up q_47.2 p0 13 ((q_47.2 p0 13) + (20 : Int32))) fun I_49 =>
some (I_49 p0 13, I_49))
else (
some ((-1 : Int32), I))
set_option maxHeartbeats 4000000 in
set_option maxRecDepth 100000 in
theorem t_X10_feed {p0 : Nat} {p1 : Int32} {p2 : Int32} {p3 : Int32} {p4 : Int32} {p5 : Int32} {r : Int32 × v_I} (h : f_X10_feed S I F p0 p1 p2 p3 p4 p5 = some r) : v_R l B D ac (v_EE B wa wb wt sb sL sx) yX10_feed cX10_feed 7 (some .int) 1 0 0 [.ref (B + p0), .int p1, .int p2, .int p3, .int p4, .int p5] S I J F (v_D (some (.int r.1)) S r.2 J F) := by
  refine v_R.of (by decide) (Nat.le_of_ble_eq_true rfl) fun d hd => ?_
  generalize hQ : v_D (some (.int r.1)) S r.2 J F = Q
  have b55 : ∀ (w0 : Nat) (s55 : Int32 × v_I) (rx55 : (Int32 × v_I) ⊕ (Int32 × v_I)), f_X10_feed_B55 S F w0 s55 = some rx55 → v_K (fun (sP : Int32 × v_I) => V l B D ac (v_EE B wa wb wt sb sL sx) yX10_feed cX10_feed 7 (some .int) d 0 0 0 0 S sP.2 J F 55 [(0, .ref (B + w0)), (6, .int sP.1)] [] Q) (fun (rE : Int32 × v_I) => V l B D ac (v_EE B wa wb wt sb sL sx) yX10_feed cX10_feed 7 (some .int) d 0 0 0 0 S rE.2 J F 101 [(0, .ref (B + w0))] [] Q) rx55 → V l B D ac (v_EE B wa wb wt sb sL sx) yX10_feed cX10_feed 7 (some .int) d 0 0 0 0 S s55.2 J F 55 [(0, .ref (B + w0)), (6, .int s55.1)] [] Q := by
    intro w0 s55 rx55 h hk
    unfold f_X10_feed_B55 at h
    refine v_iload dX10_feed_55 rfl ?_
    refine v_bipush (20 : Int32) dX10_feed_57 (by decide) ?_
    refine v_icmp_ge 101 dX10_feed_59 (by decide) (fun c_33 => ?_) (fun c_33 => ?_)
    · rw [if_pos c_33] at h
      cases h
      refine v_sub [(0, .ref (B + w0))] ⟨rfl, trivial⟩ ?_
      exact hk
    · rw [if_neg c_33] at h
      refine v_aload_n dX10_feed_62 rfl ?_
      replace h := p_bind_elim h
      obtain ⟨_, q_34, h⟩ := h
      have q_34 := p_ob_spec q_34
      replace h := p_bind_elim h
      obtain ⟨a_35, q_36, h⟩ := h
      refine v_getR q_36 rfl fl_X10_45 dX10_feed_63 q_34 ?_
      refine v_aload_n dX10_feed_66 rfl ?_
      refine v_getI rfl fl_X10_165 dX10_feed_67 q_34 ?_
      refine v_iload dX10_feed_70 rfl ?_
      refine v_iadd dX10_feed_72 ?_
      refine v_aload_n dX10_feed_73 rfl ?_
      replace h := p_bind_elim h
      obtain ⟨a_37, q_38, h⟩ := h
      refine v_getR q_38 rfl fl_X10_48 dX10_feed_74 q_34 ?_
      refine v_iload dX10_feed_77 rfl ?_
      refine v_iconstE (4 : Int32) dX10_feed_79 (by decide) ?_
      refine v_idiv dX10_feed_80 (by decide) ?_
      replace h := p_bind_elim h
      obtain ⟨j_39, q_40, h⟩ := h
      refine v_ialdP dX10_feed_81 q_40 ?_
      refine v_bipush (24 : Int32) dX10_feed_82 (by decide) ?_
      refine v_bipush (8 : Int32) dX10_feed_84 (by decide) ?_
      refine v_iload dX10_feed_86 rfl ?_
      refine v_iconstE (4 : Int32) dX10_feed_88 (by decide) ?_
      refine v_irem dX10_feed_89 (by decide) ?_
      refine v_imul dX10_feed_90 ?_
      refine v_isub dX10_feed_91 ?_
      refine v_ishr dX10_feed_92 ?_
      refine v_i2b dX10_feed_93 ?_
      replace h := p_bind_elim h
      obtain ⟨j_41, q_42, h⟩ := h
      refine v_bastP dX10_feed_94 q_42 ?_
      replace h := p_let_elim h
      obtain ⟨I_43, h_44, h⟩ := h
      rw [← h_44]
      replace h := p_let_elim h
      obtain ⟨x_45, h_46, h⟩ := h
      refine v_iincE (1 : Int32) dX10_feed_95 (by decide) rfl (by decide) ?_
      rw [← h_46]
      refine v_sub [(0, .ref (B + w0)), (6, .int x_45)] ⟨rfl, rfl, trivial⟩ ?_
      refine v_goto 55 dX10_feed_98 (by decide) ?_
      cases h
      refine v_sub [(0, .ref (B + w0)), (6, .int x_45)] ⟨rfl, rfl, trivial⟩ ?_
      exact hk
  unfold f_X10_feed at h
  refine v_sub [(0, .ref (B + p0)), (1, .int p1), (2, .int p2), (3, .int p3), (4, .int p4), (5, .int p5)] ⟨rfl, rfl, rfl, rfl, rfl, rfl, trivial⟩ ?_
  refine v_aload_n dX10_feed_0 rfl ?_
  replace h := p_bind_elim h
  obtain ⟨_, q_1, h⟩ := h
  have q_1 := p_ob_spec q_1
  refine v_getI rfl fl_X10_165 dX10_feed_1 q_1 ?_
  refine v_bipush (20 : Int32) dX10_feed_4 (by decide) ?_
  refine v_iadd dX10_feed_6 ?_
  refine v_sipush (400 : Int32) dX10_feed_7 (by decide) ?_
  refine v_icmp_le 15 dX10_feed_10 (by decide) (fun c_2 => ?_) (fun c_2 => ?_)
  · rw [if_pos c_2] at h
    refine v_aload_n dX10_feed_15 rfl ?_
    replace h := p_bind_elim h
    obtain ⟨a_3, q_4, h⟩ := h
    refine v_getR q_4 rfl fl_X10_48 dX10_feed_16 q_1 ?_
    refine v_iconstE (0 : Int32) dX10_feed_19 (by decide) ?_
    refine v_iload_n dX10_feed_20 rfl ?_
    replace h := p_bind_elim h
    obtain ⟨j_5, q_6, h⟩ := h
    refine v_iastP dX10_feed_21 q_6 ?_
    replace h := p_let_elim h
    obtain ⟨I_7, h_8, h⟩ := h
    rw [← h_8]
    refine v_aload_n dX10_feed_22 rfl ?_
    replace h := p_bind_elim h
    obtain ⟨a_9, q_10, h⟩ := h
    refine v_getR q_10 rfl fl_X10_48 dX10_feed_23 q_1 ?_
    refine v_iconstE (1 : Int32) dX10_feed_26 (by decide) ?_
    refine v_iload_n dX10_feed_27 rfl ?_
    replace h := p_bind_elim h
    obtain ⟨j_11, q_12, h⟩ := h
    refine v_iastP dX10_feed_28 q_12 ?_
    replace h := p_let_elim h
    obtain ⟨I_13, h_14, h⟩ := h
    rw [← h_14]
    refine v_aload_n dX10_feed_29 rfl ?_
    replace h := p_bind_elim h
    obtain ⟨a_15, q_16, h⟩ := h
    refine v_getR q_16 rfl fl_X10_48 dX10_feed_30 q_1 ?_
    refine v_iconstE (2 : Int32) dX10_feed_33 (by decide) ?_
    refine v_iload_n dX10_feed_34 rfl ?_
    replace h := p_bind_elim h
    obtain ⟨j_17, q_18, h⟩ := h
    refine v_iastP dX10_feed_35 q_18 ?_
    replace h := p_let_elim h
    obtain ⟨I_19, h_20, h⟩ := h
    rw [← h_20]
    refine v_aload_n dX10_feed_36 rfl ?_
    replace h := p_bind_elim h
    obtain ⟨a_21, q_22, h⟩ := h
    refine v_getR q_22 rfl fl_X10_48 dX10_feed_37 q_1 ?_
    refine v_iconstE (3 : Int32) dX10_feed_40 (by decide) ?_
    refine v_iload dX10_feed_41 rfl ?_
    replace h := p_bind_elim h
    obtain ⟨j_23, q_24, h⟩ := h
    refine v_iastP dX10_feed_43 q_24 ?_
    replace h := p_let_elim h
    obtain ⟨I_25, h_26, h⟩ := h
    rw [← h_26]
    refine v_aload_n dX10_feed_44 rfl ?_
    replace h := p_bind_elim h
    obtain ⟨a_27, q_28, h⟩ := h
    refine v_getR q_28 rfl fl_X10_48 dX10_feed_45 q_1 ?_
    refine v_iconstE (4 : Int32) dX10_feed_48 (by decide) ?_
    refine v_iload dX10_feed_49 rfl ?_
    replace h := p_bind_elim h
    obtain ⟨j_29, q_30, h⟩ := h
    refine v_iastP dX10_feed_51 q_30 ?_
    replace h := p_let_elim h
    obtain ⟨I_31, h_32, h⟩ := h
    rw [← h_32]
    refine v_iconstE (0 : Int32) dX10_feed_52 (by decide) ?_
    refine v_istore dX10_feed_53 (by decide) ?_
    refine v_sub [(0, .ref (B + p0)), (6, .int (0 : Int32))] ⟨rfl, rfl, trivial⟩ ?_
    replace h := p_bind_elim h
    obtain ⟨q_47, h_48, h⟩ := h
    refine v_sub [(0, .ref (B + p0)), (6, .int (0 : Int32))] ⟨rfl, rfl, trivial⟩ ?_
    refine v_loopV (fun (sP : Int32 × v_I) => V l B D ac (v_EE B wa wb wt sb sL sx) yX10_feed cX10_feed 7 (some .int) d 0 0 0 0 S sP.2 J F 55 [(0, .ref (B + p0)), (6, .int sP.1)] [] Q) (fun (rE : Int32 × v_I) => V l B D ac (v_EE B wa wb wt sb sL sx) yX10_feed cX10_feed 7 (some .int) d 0 0 0 0 S rE.2 J F 101 [(0, .ref (B + p0))] [] Q) (fun s_ x_ hb hk => b55 _ s_ x_ hb hk) (r := q_47) ?_ h_48
    try dsimp only
    refine v_aload_n dX10_feed_101 rfl ?_
    refine v_dup dX10_feed_102 rfl ?_
    refine v_getI rfl fl_X10_165 dX10_feed_103 q_1 ?_
    refine v_bipush (20 : Int32) dX10_feed_106 (by decide) ?_
    refine v_iadd dX10_feed_108 ?_
    refine v_putI rfl fl_X10_165 dX10_feed_109 q_1 rfl rfl ?_
    replace h := p_let_elim h
    obtain ⟨I_49, h_50, h⟩ := h
    rw [← h_50]
    refine v_aload_n dX10_feed_112 rfl ?_
    refine v_getI rfl fl_X10_165 dX10_feed_113 q_1 ?_
    cases h
    exact v_iret dX10_feed_116 rfl (by decide) (by decide) (by rw [← hQ]; exact ⟨rfl, rfl, rfl, rfl, rfl⟩)
  · rw [if_neg c_2] at h
    refine v_iconstE (-1 : Int32) dX10_feed_13 (by decide) ?_
    cases h
    exact v_iret dX10_feed_14 rfl (by decide) (by decide) (by rw [← hQ]; exact ⟨rfl, rfl, rfl, rfl, rfl⟩)

def f_X10_end (S : v_S) (I : v_I) (p0 : Nat) (p1 : Int32) : Option (Int32 × v_I) :=
(p_ob S 10 p0).bind fun _ =>
(f_X10_lies p1 (0 : Int32) (I p0 13)).bind fun r_2 =>
if r_2 = (0 : Int32) then (
some ((-1 : Int32), I))
else (
p_let (v_up I p0 13 p1) fun I_5 =>
some (p1, I_5))
set_option maxHeartbeats 4000000 in
set_option maxRecDepth 100000 in
theorem t_X10_end {p0 : Nat} {p1 : Int32} {r : Int32 × v_I} (h : f_X10_end S I p0 p1 = some r) : v_R l B D ac (v_EE B wa wb wt sb sL sx) yX10_end cX10_end 2 (some .int) 2 0 0 [.ref (B + p0), .int p1] S I J F (v_D (some (.int r.1)) S r.2 J F) := by
  refine v_R.of (by decide) (Nat.le_of_ble_eq_true rfl) fun d hd => ?_
  generalize hQ : v_D (some (.int r.1)) S r.2 J F = Q
  unfold f_X10_end at h
  refine v_sub [(0, .ref (B + p0)), (1, .int p1)] ⟨rfl, rfl, trivial⟩ ?_
  refine v_iload_n dX10_end_0 rfl ?_
  refine v_iconstE (0 : Int32) dX10_end_1 (by decide) ?_
  refine v_aload_n dX10_end_2 rfl ?_
  replace h := p_bind_elim h
  obtain ⟨_, q_1, h⟩ := h
  have q_1 := p_ob_spec q_1
  refine v_getI rfl fl_X10_165 dX10_end_3 q_1 ?_
  replace h := p_bind_elim h
  obtain ⟨r_2, q_3, h⟩ := h
  refine v_cSr (t_X10_lies q_3) cal_X10_lies ml_X10_18 sta_X10_lies dX10_end_6 (by omega) (by decide) (by decide) (Nat.le_of_ble_eq_true rfl) rfl ?_
  refine v_if_ne 14 dX10_end_9 (by decide) (fun c_4 => ?_) (fun c_4 => ?_)
  · rw [if_neg c_4] at h
    refine v_aload_n dX10_end_14 rfl ?_
    refine v_iload_n dX10_end_15 rfl ?_
    refine v_putI rfl fl_X10_165 dX10_end_16 q_1 rfl rfl ?_
    replace h := p_let_elim h
    obtain ⟨I_5, h_6, h⟩ := h
    rw [← h_6]
    refine v_iload_n dX10_end_19 rfl ?_
    cases h
    exact v_iret dX10_end_20 rfl (by decide) (by decide) (by rw [← hQ]; exact ⟨rfl, rfl, rfl, rfl, rfl⟩)
  · rw [if_pos c_4] at h
    refine v_iconstE (-1 : Int32) dX10_end_12 (by decide) ?_
    cases h
    exact v_iret dX10_end_13 rfl (by decide) (by decide) (by rw [← hQ]; exact ⟨rfl, rfl, rfl, rfl, rfl⟩)

def f_X10_lays_B15 (S : v_S) (F : v_F) (w0 : Nat) (w1 : Int32) (s15 : Int32 × v_I) : Option ((Int32 × v_I) ⊕ (Int32 × v_I)) :=
(p_ob S 10 w0).bind fun _ =>
if (s15.2 w0 18) ≤ s15.1 then (
some (.inr (s15.1, s15.2)))
else (
(F w0 2).bind fun a_10 =>
(F w0 15).bind fun a_12 =>
(p_ix S 20 a_12 s15.1).bind fun j_14 =>
(p_ix S 20 a_10 (((60 : Int32) + ((400 : Int32) * w1)) + s15.1)).bind fun j_16 =>
p_let (v_up s15.2 a_10 j_16 (s15.2 a_12 j_14)) fun I_18 =>
(F w0 2).bind fun a_20 =>
(F w0 16).bind fun a_22 =>
(p_ix S 20 a_22 s15.1).bind fun j_24 =>
(p_ix S 20 a_20 (((2860 : Int32) + ((400 : Int32) * w1)) + s15.1)).bind fun j_26 =>
p_let (v_up I_18 a_20 j_26 (I_18 a_22 j_24)) fun I_28 =>
p_let (s15.1 + (1 : Int32)) fun x_30 =>
some (.inl (x_30, I_28)))
def f_X10_lays (S : v_S) (I : v_I) (F : v_F) (p0 : Nat) (p1 : Int32) : Option (v_I) :=
(p_ob S 10 p0).bind fun _ =>
(F p0 2).bind fun a_2 =>
(p_ix S 20 a_2 ((53 : Int32) + p1)).bind fun j_4 =>
p_let (v_up I a_2 j_4 (I p0 18)) fun I_6 =>
(v_loop (f_X10_lays_B15 S F p0 p1) FU ((0 : Int32), I_6)).bind fun q_32 =>
some (q_32.2)
set_option maxHeartbeats 4000000 in
set_option maxRecDepth 100000 in
theorem t_X10_lays {p0 : Nat} {p1 : Int32} {r : v_I} (h : f_X10_lays S I F p0 p1 = some r) : v_R l B D ac (v_EE B wa wb wt sb sL sx) yX10_lays cX10_lays 3 none 1 0 0 [.ref (B + p0), .int p1] S I J F (v_D none S r J F) := by
  refine v_R.of (by decide) (Nat.le_of_ble_eq_true rfl) fun d hd => ?_
  generalize hQ : v_D none S r J F = Q
  have b15 : ∀ (w0 : Nat) (w1 : Int32) (s15 : Int32 × v_I) (rx15 : (Int32 × v_I) ⊕ (Int32 × v_I)), f_X10_lays_B15 S F w0 w1 s15 = some rx15 → v_K (fun (sP : Int32 × v_I) => V l B D ac (v_EE B wa wb wt sb sL sx) yX10_lays cX10_lays 3 none d 0 0 0 0 S sP.2 J F 15 [(0, .ref (B + w0)), (1, .int w1), (2, .int sP.1)] [] Q) (fun (rE : Int32 × v_I) => V l B D ac (v_EE B wa wb wt sb sL sx) yX10_lays cX10_lays 3 none d 0 0 0 0 S rE.2 J F 72 [] [] Q) rx15 → V l B D ac (v_EE B wa wb wt sb sL sx) yX10_lays cX10_lays 3 none d 0 0 0 0 S s15.2 J F 15 [(0, .ref (B + w0)), (1, .int w1), (2, .int s15.1)] [] Q := by
    intro w0 w1 s15 rx15 h hk
    unfold f_X10_lays_B15 at h
    refine v_iload_n dX10_lays_15 rfl ?_
    refine v_aload_n dX10_lays_16 rfl ?_
    replace h := p_bind_elim h
    obtain ⟨_, q_8, h⟩ := h
    have q_8 := p_ob_spec q_8
    refine v_getI rfl fl_X10_174 dX10_lays_17 q_8 ?_
    refine v_icmp_ge 72 dX10_lays_20 (by decide) (fun c_9 => ?_) (fun c_9 => ?_)
    · rw [if_pos c_9] at h
      cases h
      refine v_sub [] trivial ?_
      exact hk
    · rw [if_neg c_9] at h
      refine v_aload_n dX10_lays_23 rfl ?_
      replace h := p_bind_elim h
      obtain ⟨a_10, q_11, h⟩ := h
      refine v_getR q_11 rfl fl_X10_28 dX10_lays_24 q_8 ?_
      refine v_bipush (60 : Int32) dX10_lays_27 (by decide) ?_
      refine v_sipush (400 : Int32) dX10_lays_29 (by decide) ?_
      refine v_iload_n dX10_lays_32 rfl ?_
      refine v_imul dX10_lays_33 ?_
      refine v_iadd dX10_lays_34 ?_
      refine v_iload_n dX10_lays_35 rfl ?_
      refine v_iadd dX10_lays_36 ?_
      refine v_aload_n dX10_lays_37 rfl ?_
      replace h := p_bind_elim h
      obtain ⟨a_12, q_13, h⟩ := h
      refine v_getR q_13 rfl fl_X10_54 dX10_lays_38 q_8 ?_
      refine v_iload_n dX10_lays_41 rfl ?_
      replace h := p_bind_elim h
      obtain ⟨j_14, q_15, h⟩ := h
      refine v_ialdP dX10_lays_42 q_15 ?_
      replace h := p_bind_elim h
      obtain ⟨j_16, q_17, h⟩ := h
      refine v_iastP dX10_lays_43 q_17 ?_
      replace h := p_let_elim h
      obtain ⟨I_18, h_19, h⟩ := h
      rw [← h_19]
      refine v_aload_n dX10_lays_44 rfl ?_
      replace h := p_bind_elim h
      obtain ⟨a_20, q_21, h⟩ := h
      refine v_getR q_21 rfl fl_X10_28 dX10_lays_45 q_8 ?_
      refine v_sipush (2860 : Int32) dX10_lays_48 (by decide) ?_
      refine v_sipush (400 : Int32) dX10_lays_51 (by decide) ?_
      refine v_iload_n dX10_lays_54 rfl ?_
      refine v_imul dX10_lays_55 ?_
      refine v_iadd dX10_lays_56 ?_
      refine v_iload_n dX10_lays_57 rfl ?_
      refine v_iadd dX10_lays_58 ?_
      refine v_aload_n dX10_lays_59 rfl ?_
      replace h := p_bind_elim h
      obtain ⟨a_22, q_23, h⟩ := h
      refine v_getR q_23 rfl fl_X10_57 dX10_lays_60 q_8 ?_
      refine v_iload_n dX10_lays_63 rfl ?_
      replace h := p_bind_elim h
      obtain ⟨j_24, q_25, h⟩ := h
      refine v_ialdP dX10_lays_64 q_25 ?_
      replace h := p_bind_elim h
      obtain ⟨j_26, q_27, h⟩ := h
      refine v_iastP dX10_lays_65 q_27 ?_
      replace h := p_let_elim h
      obtain ⟨I_28, h_29, h⟩ := h
      rw [← h_29]
      replace h := p_let_elim h
      obtain ⟨x_30, h_31, h⟩ := h
      refine v_iincE (1 : Int32) dX10_lays_66 (by decide) rfl (by decide) ?_
      rw [← h_31]
      refine v_sub [(0, .ref (B + w0)), (1, .int w1), (2, .int x_30)] ⟨rfl, rfl, rfl, trivial⟩ ?_
      refine v_goto 15 dX10_lays_69 (by decide) ?_
      cases h
      refine v_sub [(0, .ref (B + w0)), (1, .int w1), (2, .int x_30)] ⟨rfl, rfl, rfl, trivial⟩ ?_
      exact hk
  unfold f_X10_lays at h
  refine v_sub [(0, .ref (B + p0)), (1, .int p1)] ⟨rfl, rfl, trivial⟩ ?_
  refine v_aload_n dX10_lays_0 rfl ?_
  replace h := p_bind_elim h
  obtain ⟨_, q_1, h⟩ := h
  have q_1 := p_ob_spec q_1
  replace h := p_bind_elim h
  obtain ⟨a_2, q_3, h⟩ := h
  refine v_getR q_3 rfl fl_X10_28 dX10_lays_1 q_1 ?_
  refine v_bipush (53 : Int32) dX10_lays_4 (by decide) ?_
  refine v_iload_n dX10_lays_6 rfl ?_
  refine v_iadd dX10_lays_7 ?_
  refine v_aload_n dX10_lays_8 rfl ?_
  refine v_getI rfl fl_X10_174 dX10_lays_9 q_1 ?_
  replace h := p_bind_elim h
  obtain ⟨j_4, q_5, h⟩ := h
  refine v_iastP dX10_lays_12 q_5 ?_
  replace h := p_let_elim h
  obtain ⟨I_6, h_7, h⟩ := h
  rw [← h_7]
  refine v_iconstE (0 : Int32) dX10_lays_13 (by decide) ?_
  refine v_istore_n dX10_lays_14 (by decide) ?_
  refine v_sub [(0, .ref (B + p0)), (1, .int p1), (2, .int (0 : Int32))] ⟨rfl, rfl, rfl, trivial⟩ ?_
  replace h := p_bind_elim h
  obtain ⟨q_32, h_33, h⟩ := h
  refine v_sub [(0, .ref (B + p0)), (1, .int p1), (2, .int (0 : Int32))] ⟨rfl, rfl, rfl, trivial⟩ ?_
  refine v_loopV (fun (sP : Int32 × v_I) => V l B D ac (v_EE B wa wb wt sb sL sx) yX10_lays cX10_lays 3 none d 0 0 0 0 S sP.2 J F 15 [(0, .ref (B + p0)), (1, .int p1), (2, .int sP.1)] [] Q) (fun (rE : Int32 × v_I) => V l B D ac (v_EE B wa wb wt sb sL sx) yX10_lays cX10_lays 3 none d 0 0 0 0 S rE.2 J F 72 [] [] Q) (fun s_ x_ hb hk => b15 _ _ s_ x_ hb hk) (r := q_32) ?_ h_33
  try dsimp only
  cases h
  exact v_vret dX10_lays_72 rfl (by decide) (by decide) (by rw [← hQ]; exact ⟨rfl, rfl, rfl, rfl, rfl⟩)

def f_X10_fine (S : v_S) (I : v_I) (p0 : Nat) : Option (Int32) :=
(p_ob S 10 p0).bind fun _ =>
if (I p0 21) = (-1 : Int32) then (
some ((1 : Int32)))
else (
some ((0 : Int32)))
set_option maxHeartbeats 4000000 in
set_option maxRecDepth 100000 in
theorem t_X10_fine {p0 : Nat} {r : Int32} (h : f_X10_fine S I p0 = some r) : v_R l B D ac (v_EE B wa wb wt sb sL sx) yX10_fine cX10_fine 1 (some .boolean) 1 0 0 [.ref (B + p0)] S I J F (v_D (some (.int r)) S I J F) := by
  refine v_R.of (by decide) (Nat.le_of_ble_eq_true rfl) fun d hd => ?_
  generalize hQ : v_D (some (.int r)) S I J F = Q
  unfold f_X10_fine at h
  refine v_sub [(0, .ref (B + p0))] ⟨rfl, trivial⟩ ?_
  refine v_aload_n dX10_fine_0 rfl ?_
  replace h := p_bind_elim h
  obtain ⟨_, q_1, h⟩ := h
  have q_1 := p_ob_spec q_1
  refine v_getI rfl fl_X10_187 dX10_fine_1 q_1 ?_
  refine v_iconstE (-1 : Int32) dX10_fine_4 (by decide) ?_
  refine v_icmp_ne 12 dX10_fine_5 (by decide) (fun c_2 => ?_) (fun c_2 => ?_)
  · rw [if_neg c_2] at h
    refine v_iconstE (0 : Int32) dX10_fine_12 (by decide) ?_
    cases h
    exact v_zret dX10_fine_13 rfl rfl (by decide) (by decide) (by rw [← hQ]; exact ⟨rfl, rfl, rfl, rfl, rfl⟩)
  · rw [if_pos c_2] at h
    refine v_iconstE (1 : Int32) dX10_fine_8 (by decide) ?_
    refine v_goto 13 dX10_fine_9 (by decide) ?_
    cases h
    exact v_zret dX10_fine_13 rfl rfl (by decide) (by decide) (by rw [← hQ]; exact ⟨rfl, rfl, rfl, rfl, rfl⟩)

def f_X10_faults (S : v_S) (I : v_I) (F : v_F) (p0 : Nat) : Option (v_I) :=
(p_ob S 10 p0).bind fun _ =>
(f_X10_fine S I p0).bind fun r_1 =>
if r_1 = (0 : Int32) then (
some (I))
else (
(F p0 17).bind fun a_5 =>
(p_ix S 20 a_5 (I p0 19)).bind fun j_7 =>
p_let (v_up I p0 21 (I a_5 j_7)) fun I_9 =>
some (I_9))
set_option maxHeartbeats 4000000 in
set_option maxRecDepth 100000 in
theorem t_X10_faults {p0 : Nat} {r : v_I} (h : f_X10_faults S I F p0 = some r) : v_R l B D ac (v_EE B wa wb wt sb sL sx) yX10_faults cX10_faults 1 none 2 0 0 [.ref (B + p0)] S I J F (v_D none S r J F) := by
  refine v_R.of (by decide) (Nat.le_of_ble_eq_true rfl) fun d hd => ?_
  generalize hQ : v_D none S r J F = Q
  unfold f_X10_faults at h
  refine v_sub [(0, .ref (B + p0))] ⟨rfl, trivial⟩ ?_
  refine v_aload_n dX10_faults_0 rfl ?_
  replace h := p_bind_elim h
  obtain ⟨_, q_3, h⟩ := h
  have q_3 := p_ob_spec q_3
  replace h := p_bind_elim h
  obtain ⟨r_1, q_2, h⟩ := h
  refine v_cVr (t_X10_fine q_2) cal_X10_fine ml_X10_190 sel_X10_fine q_3 kk_10 dX10_faults_1 (by omega) (by decide) (by decide) (Nat.le_of_ble_eq_true rfl) rfl ?_
  refine v_if_eq 20 dX10_faults_4 (by decide) (fun c_4 => ?_) (fun c_4 => ?_)
  · rw [if_pos c_4] at h
    cases h
    exact v_vret dX10_faults_20 rfl (by decide) (by decide) (by rw [← hQ]; exact ⟨rfl, rfl, rfl, rfl, rfl⟩)
  · rw [if_neg c_4] at h
    refine v_aload_n dX10_faults_7 rfl ?_
    refine v_aload_n dX10_faults_8 rfl ?_
    replace h := p_bind_elim h
    obtain ⟨a_5, q_6, h⟩ := h
    refine v_getR q_6 rfl fl_X10_60 dX10_faults_9 q_3 ?_
    refine v_aload_n dX10_faults_12 rfl ?_
    refine v_getI rfl fl_X10_194 dX10_faults_13 q_3 ?_
    replace h := p_bind_elim h
    obtain ⟨j_7, q_8, h⟩ := h
    refine v_ialdP dX10_faults_16 q_8 ?_
    refine v_putI rfl fl_X10_187 dX10_faults_17 q_3 rfl rfl ?_
    replace h := p_let_elim h
    obtain ⟨I_9, h_10, h⟩ := h
    rw [← h_10]
    cases h
    exact v_vret dX10_faults_20 rfl (by decide) (by decide) (by rw [← hQ]; exact ⟨rfl, rfl, rfl, rfl, rfl⟩)

def f_X10_takes0_J25 (S : v_S) (F : v_F) (I : v_I) (y0 : Nat) (z0 : Int32) : Option (Int32 × v_I) :=
if z0 = (0 : Int32) then (
(p_bl z0).bind fun _ =>
some (z0, I))
else (
(p_ob S 10 y0).bind fun _ =>
p_let (v_up I y0 19 ((I y0 19) + (1 : Int32))) fun I_8 =>
(p_bl z0).bind fun _ =>
some (z0, I_8))
def f_X10_takes0_J24 (S : v_S) (F : v_F) (I : v_I) (y0 : Nat) : Option (Int32 × v_I) :=
f_X10_takes0_J25 S F I y0 (0 : Int32)
def f_X10_takes0 (S : v_S) (I : v_I) (F : v_F) (p0 : Nat) (p1 : Int32) : Option (Int32 × v_I) :=
(p_ob S 10 p0).bind fun _ =>
(f_X10_fine S I p0).bind fun r_1 =>
if r_1 = (0 : Int32) then (
f_X10_takes0_J24 S F I p0)
else (
(F p0 15).bind fun a_11 =>
(p_ix S 20 a_11 (I p0 19)).bind fun j_13 =>
if (I a_11 j_13) = p1 then (
f_X10_takes0_J25 S F I p0 (1 : Int32))
else (
f_X10_takes0_J24 S F I p0))
set_option maxHeartbeats 4000000 in
set_option maxRecDepth 100000 in
theorem t_X10_takes0 {p0 : Nat} {p1 : Int32} {r : Int32 × v_I} (h : f_X10_takes0 S I F p0 p1 = some r) : v_R l B D ac (v_EE B wa wb wt sb sL sx) yX10_takes0 cX10_takes0 3 (some .boolean) 2 0 0 [.ref (B + p0), .int p1] S I J F (v_D (some (.int r.1)) S r.2 J F) := by
  refine v_R.of (by decide) (Nat.le_of_ble_eq_true rfl) fun d hd => ?_
  generalize hQ : v_D (some (.int r.1)) S r.2 J F = Q
  have j25 : ∀ (I : v_I) (y0 : Nat) (z0 : Int32), f_X10_takes0_J25 S F I y0 z0 = some r → V l B D ac (v_EE B wa wb wt sb sL sx) yX10_takes0 cX10_takes0 3 (some .boolean) d 0 0 0 0 S I J F 25 [(0, .ref (B + y0))] [.int z0] Q := by
    intro I y0 z0 h
    unfold f_X10_takes0_J25 at h
    refine v_istore_n dX10_takes0_25 (by decide) ?_
    refine v_sub [(0, .ref (B + y0)), (2, .int z0)] ⟨rfl, rfl, trivial⟩ ?_
    refine v_iload_n dX10_takes0_26 rfl ?_
    refine v_if_eq 40 dX10_takes0_27 (by decide) (fun c_5 => ?_) (fun c_5 => ?_)
    · rw [if_pos c_5] at h
      refine v_iload_n dX10_takes0_40 rfl ?_
      replace h := p_bind_elim h
      obtain ⟨_, q_6, h⟩ := h
      cases h
      exact v_zret dX10_takes0_41 rfl (p_bl_spec q_6).1 (by decide) (by decide) (by rw [← hQ]; exact ⟨rfl, rfl, rfl, rfl, rfl⟩)
    · rw [if_neg c_5] at h
      refine v_aload_n dX10_takes0_30 rfl ?_
      refine v_dup dX10_takes0_31 rfl ?_
      replace h := p_bind_elim h
      obtain ⟨_, q_7, h⟩ := h
      have q_7 := p_ob_spec q_7
      refine v_getI rfl fl_X10_194 dX10_takes0_32 q_7 ?_
      refine v_iconstE (1 : Int32) dX10_takes0_35 (by decide) ?_
      refine v_iadd dX10_takes0_36 ?_
      refine v_putI rfl fl_X10_194 dX10_takes0_37 q_7 rfl rfl ?_
      replace h := p_let_elim h
      obtain ⟨I_8, h_9, h⟩ := h
      rw [← h_9]
      refine v_iload_n dX10_takes0_40 rfl ?_
      replace h := p_bind_elim h
      obtain ⟨_, q_10, h⟩ := h
      cases h
      exact v_zret dX10_takes0_41 rfl (p_bl_spec q_10).1 (by decide) (by decide) (by rw [← hQ]; exact ⟨rfl, rfl, rfl, rfl, rfl⟩)
  have j24 : ∀ (I : v_I) (y0 : Nat), f_X10_takes0_J24 S F I y0 = some r → V l B D ac (v_EE B wa wb wt sb sL sx) yX10_takes0 cX10_takes0 3 (some .boolean) d 0 0 0 0 S I J F 24 [(0, .ref (B + y0))] [] Q := by
    intro I y0 h
    unfold f_X10_takes0_J24 at h
    refine v_iconstE (0 : Int32) dX10_takes0_24 (by decide) ?_
    refine v_sub [(0, .ref (B + y0))] ⟨rfl, trivial⟩ ?_
    exact j25 _ _ _ h
  unfold f_X10_takes0 at h
  refine v_sub [(0, .ref (B + p0)), (1, .int p1)] ⟨rfl, rfl, trivial⟩ ?_
  refine v_aload_n dX10_takes0_0 rfl ?_
  replace h := p_bind_elim h
  obtain ⟨_, q_3, h⟩ := h
  have q_3 := p_ob_spec q_3
  replace h := p_bind_elim h
  obtain ⟨r_1, q_2, h⟩ := h
  refine v_cVr (t_X10_fine q_2) cal_X10_fine ml_X10_190 sel_X10_fine q_3 kk_10 dX10_takes0_1 (by omega) (by decide) (by decide) (Nat.le_of_ble_eq_true rfl) rfl ?_
  refine v_if_eq 24 dX10_takes0_4 (by decide) (fun c_4 => ?_) (fun c_4 => ?_)
  · rw [if_pos c_4] at h
    refine v_sub [(0, .ref (B + p0))] ⟨rfl, trivial⟩ ?_
    exact j24 _ _ h
  · rw [if_neg c_4] at h
    refine v_aload_n dX10_takes0_7 rfl ?_
    replace h := p_bind_elim h
    obtain ⟨a_11, q_12, h⟩ := h
    refine v_getR q_12 rfl fl_X10_54 dX10_takes0_8 q_3 ?_
    refine v_aload_n dX10_takes0_11 rfl ?_
    refine v_getI rfl fl_X10_194 dX10_takes0_12 q_3 ?_
    replace h := p_bind_elim h
    obtain ⟨j_13, q_14, h⟩ := h
    refine v_ialdP dX10_takes0_15 q_14 ?_
    refine v_iload_n dX10_takes0_16 rfl ?_
    refine v_icmp_ne 24 dX10_takes0_17 (by decide) (fun c_15 => ?_) (fun c_15 => ?_)
    · rw [if_neg c_15] at h
      refine v_sub [(0, .ref (B + p0))] ⟨rfl, trivial⟩ ?_
      exact j24 _ _ h
    · rw [if_pos c_15] at h
      refine v_iconstE (1 : Int32) dX10_takes0_20 (by decide) ?_
      refine v_goto 25 dX10_takes0_21 (by decide) ?_
      refine v_sub [(0, .ref (B + p0))] ⟨rfl, trivial⟩ ?_
      exact j25 _ _ _ h

def f_X10_must (S : v_S) (I : v_I) (F : v_F) (p0 : Nat) (p1 : Int32) : Option (v_I) :=
(p_ob S 10 p0).bind fun _ =>
(f_X10_takes0 S I F p0 p1).bind fun r_1 =>
if r_1.1 = (0 : Int32) then (
(f_X10_faults S r_1.2 F p0).bind fun r_5 =>
some (r_5))
else (
some (r_1.2))
set_option maxHeartbeats 4000000 in
set_option maxRecDepth 100000 in
theorem t_X10_must {p0 : Nat} {p1 : Int32} {r : v_I} (h : f_X10_must S I F p0 p1 = some r) : v_R l B D ac (v_EE B wa wb wt sb sL sx) yX10_must cX10_must 2 none 3 0 0 [.ref (B + p0), .int p1] S I J F (v_D none S r J F) := by
  refine v_R.of (by decide) (Nat.le_of_ble_eq_true rfl) fun d hd => ?_
  generalize hQ : v_D none S r J F = Q
  unfold f_X10_must at h
  refine v_sub [(0, .ref (B + p0)), (1, .int p1)] ⟨rfl, rfl, trivial⟩ ?_
  refine v_aload_n dX10_must_0 rfl ?_
  refine v_iload_n dX10_must_1 rfl ?_
  replace h := p_bind_elim h
  obtain ⟨_, q_3, h⟩ := h
  have q_3 := p_ob_spec q_3
  replace h := p_bind_elim h
  obtain ⟨r_1, q_2, h⟩ := h
  refine v_cVr (t_X10_takes0 q_2) cal_X10_takes0 ml_X10_197 sel_X10_takes0 q_3 kk_10 dX10_must_2 (by omega) (by decide) (by decide) (Nat.le_of_ble_eq_true rfl) rfl ?_
  refine v_if_ne 12 dX10_must_5 (by decide) (fun c_4 => ?_) (fun c_4 => ?_)
  · rw [if_neg c_4] at h
    cases h
    exact v_vret dX10_must_12 rfl (by decide) (by decide) (by rw [← hQ]; exact ⟨rfl, rfl, rfl, rfl, rfl⟩)
  · rw [if_pos c_4] at h
    refine v_aload_n dX10_must_8 rfl ?_
    replace h := p_bind_elim h
    obtain ⟨r_5, q_6, h⟩ := h
    refine v_cVn (t_X10_faults q_6) cal_X10_faults ml_X10_200 sel_X10_faults q_3 kk_10 dX10_must_9 (by omega) (by decide) (by decide) (Nat.le_of_ble_eq_true rfl) rfl ?_
    cases h
    exact v_vret dX10_must_12 rfl (by decide) (by decide) (by rw [← hQ]; exact ⟨rfl, rfl, rfl, rfl, rfl⟩)

def f_X10_leaf_J13 (S : v_S) (F : v_F) (I : v_I) (y0 : Nat) : Option (v_I) :=
(p_ob S 10 y0).bind fun _ =>
p_let (v_up I y0 20 ((I y0 20) + (1 : Int32))) fun I_4 =>
(f_X10_fine S I_4 y0).bind fun r_6 =>
if r_6 = (0 : Int32) then (
some (I_4))
else (
p_let (v_up I_4 y0 19 ((I_4 y0 19) + (1 : Int32))) fun I_9 =>
some (I_9))
def f_X10_leaf (S : v_S) (I : v_I) (F : v_F) (p0 : Nat) : Option (v_I) :=
(p_ob S 10 p0).bind fun _ =>
if (I p0 20) = (50 : Int32) then (
(f_X10_faults S I F p0).bind fun r_11 =>
f_X10_leaf_J13 S F r_11 p0)
else (
f_X10_leaf_J13 S F I p0)
set_option maxHeartbeats 4000000 in
set_option maxRecDepth 100000 in
theorem t_X10_leaf {p0 : Nat} {r : v_I} (h : f_X10_leaf S I F p0 = some r) : v_R l B D ac (v_EE B wa wb wt sb sL sx) yX10_leaf cX10_leaf 1 none 3 0 0 [.ref (B + p0)] S I J F (v_D none S r J F) := by
  refine v_R.of (by decide) (Nat.le_of_ble_eq_true rfl) fun d hd => ?_
  generalize hQ : v_D none S r J F = Q
  have j13 : ∀ (I : v_I) (y0 : Nat), f_X10_leaf_J13 S F I y0 = some r → V l B D ac (v_EE B wa wb wt sb sL sx) yX10_leaf cX10_leaf 1 none d 0 0 0 0 S I J F 13 [(0, .ref (B + y0))] [] Q := by
    intro I y0 h
    unfold f_X10_leaf_J13 at h
    refine v_aload_n dX10_leaf_13 rfl ?_
    refine v_dup dX10_leaf_14 rfl ?_
    replace h := p_bind_elim h
    obtain ⟨_, q_3, h⟩ := h
    have q_3 := p_ob_spec q_3
    refine v_getI rfl fl_X10_203 dX10_leaf_15 q_3 ?_
    refine v_iconstE (1 : Int32) dX10_leaf_18 (by decide) ?_
    refine v_iadd dX10_leaf_19 ?_
    refine v_putI rfl fl_X10_203 dX10_leaf_20 q_3 rfl rfl ?_
    replace h := p_let_elim h
    obtain ⟨I_4, h_5, h⟩ := h
    rw [← h_5]
    refine v_aload_n dX10_leaf_23 rfl ?_
    replace h := p_bind_elim h
    obtain ⟨r_6, q_7, h⟩ := h
    refine v_cVr (t_X10_fine q_7) cal_X10_fine ml_X10_190 sel_X10_fine q_3 kk_10 dX10_leaf_24 (by omega) (by decide) (by decide) (Nat.le_of_ble_eq_true rfl) rfl ?_
    refine v_if_eq 40 dX10_leaf_27 (by decide) (fun c_8 => ?_) (fun c_8 => ?_)
    · rw [if_pos c_8] at h
      cases h
      exact v_vret dX10_leaf_40 rfl (by decide) (by decide) (by rw [← hQ]; exact ⟨rfl, rfl, rfl, rfl, rfl⟩)
    · rw [if_neg c_8] at h
      refine v_aload_n dX10_leaf_30 rfl ?_
      refine v_dup dX10_leaf_31 rfl ?_
      refine v_getI rfl fl_X10_194 dX10_leaf_32 q_3 ?_
      refine v_iconstE (1 : Int32) dX10_leaf_35 (by decide) ?_
      refine v_iadd dX10_leaf_36 ?_
      refine v_putI rfl fl_X10_194 dX10_leaf_37 q_3 rfl rfl ?_
      replace h := p_let_elim h
      obtain ⟨I_9, h_10, h⟩ := h
      rw [← h_10]
      cases h
      exact v_vret dX10_leaf_40 rfl (by decide) (by decide) (by rw [← hQ]; exact ⟨rfl, rfl, rfl, rfl, rfl⟩)
  unfold f_X10_leaf at h
  refine v_sub [(0, .ref (B + p0))] ⟨rfl, trivial⟩ ?_
  refine v_aload_n dX10_leaf_0 rfl ?_
  replace h := p_bind_elim h
  obtain ⟨_, q_1, h⟩ := h
  have q_1 := p_ob_spec q_1
  refine v_getI rfl fl_X10_203 dX10_leaf_1 q_1 ?_
  refine v_bipush (50 : Int32) dX10_leaf_4 (by decide) ?_
  refine v_icmp_ne 13 dX10_leaf_6 (by decide) (fun c_2 => ?_) (fun c_2 => ?_)
  · rw [if_neg c_2] at h
    refine v_sub [(0, .ref (B + p0))] ⟨rfl, trivial⟩ ?_
    exact j13 _ _ h
  · rw [if_pos c_2] at h
    refine v_aload_n dX10_leaf_9 rfl ?_
    replace h := p_bind_elim h
    obtain ⟨r_11, q_12, h⟩ := h
    refine v_cVn (t_X10_faults q_12) cal_X10_faults ml_X10_200 sel_X10_faults q_1 kk_10 dX10_leaf_10 (by omega) (by decide) (by decide) (Nat.le_of_ble_eq_true rfl) rfl ?_
    refine v_sub [(0, .ref (B + p0))] ⟨rfl, trivial⟩ ?_
    exact j13 _ _ h

def f_X10_mustNumber_J42 (S : v_S) (F : v_F) (I : v_I) (y0 : Nat) : Option (v_I) :=
(p_ob S 10 y0).bind fun _ =>
(f_X10_fine S I y0).bind fun r_5 =>
if r_5 = (0 : Int32) then (
some (I))
else (
p_let (v_up I y0 19 ((I y0 19) + (1 : Int32))) fun I_9 =>
some (I_9))
def f_X10_mustNumber_J38 (S : v_S) (F : v_F) (I : v_I) (y0 : Nat) : Option (v_I) :=
(p_ob S 10 y0).bind fun _ =>
(f_X10_faults S I F y0).bind fun r_16 =>
f_X10_mustNumber_J42 S F r_16 y0
def f_X10_mustNumber (S : v_S) (I : v_I) (F : v_F) (p0 : Nat) (p1 : Int32) (p2 : Int32) : Option (v_I) :=
(p_ob S 10 p0).bind fun _ =>
(f_X10_fine S I p0).bind fun r_1 =>
if r_1 = (0 : Int32) then (
f_X10_mustNumber_J42 S F I p0)
else (
(F p0 15).bind fun a_11 =>
(p_ix S 20 a_11 (I p0 19)).bind fun j_13 =>
if (I a_11 j_13) = (50 : Int32) then (
(F p0 16).bind fun a_19 =>
(p_ix S 20 a_19 (I p0 19)).bind fun j_21 =>
(f_X10_lies (I a_19 j_21) p1 p2).bind fun r_23 =>
if r_23 = (0 : Int32) then (
f_X10_mustNumber_J38 S F I p0)
else (
f_X10_mustNumber_J42 S F I p0))
else (
f_X10_mustNumber_J38 S F I p0))
set_option maxHeartbeats 4000000 in
set_option maxRecDepth 100000 in
theorem t_X10_mustNumber {p0 : Nat} {p1 : Int32} {p2 : Int32} {r : v_I} (h : f_X10_mustNumber S I F p0 p1 p2 = some r) : v_R l B D ac (v_EE B wa wb wt sb sL sx) yX10_mustNumber cX10_mustNumber 3 none 3 0 0 [.ref (B + p0), .int p1, .int p2] S I J F (v_D none S r J F) := by
  refine v_R.of (by decide) (Nat.le_of_ble_eq_true rfl) fun d hd => ?_
  generalize hQ : v_D none S r J F = Q
  have j42 : ∀ (I : v_I) (y0 : Nat), f_X10_mustNumber_J42 S F I y0 = some r → V l B D ac (v_EE B wa wb wt sb sL sx) yX10_mustNumber cX10_mustNumber 3 none d 0 0 0 0 S I J F 42 [(0, .ref (B + y0))] [] Q := by
    intro I y0 h
    unfold f_X10_mustNumber_J42 at h
    refine v_aload_n dX10_mustNumber_42 rfl ?_
    replace h := p_bind_elim h
    obtain ⟨_, q_7, h⟩ := h
    have q_7 := p_ob_spec q_7
    replace h := p_bind_elim h
    obtain ⟨r_5, q_6, h⟩ := h
    refine v_cVr (t_X10_fine q_6) cal_X10_fine ml_X10_190 sel_X10_fine q_7 kk_10 dX10_mustNumber_43 (by omega) (by decide) (by decide) (Nat.le_of_ble_eq_true rfl) rfl ?_
    refine v_if_eq 59 dX10_mustNumber_46 (by decide) (fun c_8 => ?_) (fun c_8 => ?_)
    · rw [if_pos c_8] at h
      cases h
      exact v_vret dX10_mustNumber_59 rfl (by decide) (by decide) (by rw [← hQ]; exact ⟨rfl, rfl, rfl, rfl, rfl⟩)
    · rw [if_neg c_8] at h
      refine v_aload_n dX10_mustNumber_49 rfl ?_
      refine v_dup dX10_mustNumber_50 rfl ?_
      refine v_getI rfl fl_X10_194 dX10_mustNumber_51 q_7 ?_
      refine v_iconstE (1 : Int32) dX10_mustNumber_54 (by decide) ?_
      refine v_iadd dX10_mustNumber_55 ?_
      refine v_putI rfl fl_X10_194 dX10_mustNumber_56 q_7 rfl rfl ?_
      replace h := p_let_elim h
      obtain ⟨I_9, h_10, h⟩ := h
      rw [← h_10]
      cases h
      exact v_vret dX10_mustNumber_59 rfl (by decide) (by decide) (by rw [← hQ]; exact ⟨rfl, rfl, rfl, rfl, rfl⟩)
  have j38 : ∀ (I : v_I) (y0 : Nat), f_X10_mustNumber_J38 S F I y0 = some r → V l B D ac (v_EE B wa wb wt sb sL sx) yX10_mustNumber cX10_mustNumber 3 none d 0 0 0 0 S I J F 38 [(0, .ref (B + y0))] [] Q := by
    intro I y0 h
    unfold f_X10_mustNumber_J38 at h
    refine v_aload_n dX10_mustNumber_38 rfl ?_
    replace h := p_bind_elim h
    obtain ⟨_, q_18, h⟩ := h
    have q_18 := p_ob_spec q_18
    replace h := p_bind_elim h
    obtain ⟨r_16, q_17, h⟩ := h
    refine v_cVn (t_X10_faults q_17) cal_X10_faults ml_X10_200 sel_X10_faults q_18 kk_10 dX10_mustNumber_39 (by omega) (by decide) (by decide) (Nat.le_of_ble_eq_true rfl) rfl ?_
    refine v_sub [(0, .ref (B + y0))] ⟨rfl, trivial⟩ ?_
    exact j42 _ _ h
  unfold f_X10_mustNumber at h
  refine v_sub [(0, .ref (B + p0)), (1, .int p1), (2, .int p2)] ⟨rfl, rfl, rfl, trivial⟩ ?_
  refine v_aload_n dX10_mustNumber_0 rfl ?_
  replace h := p_bind_elim h
  obtain ⟨_, q_3, h⟩ := h
  have q_3 := p_ob_spec q_3
  replace h := p_bind_elim h
  obtain ⟨r_1, q_2, h⟩ := h
  refine v_cVr (t_X10_fine q_2) cal_X10_fine ml_X10_190 sel_X10_fine q_3 kk_10 dX10_mustNumber_1 (by omega) (by decide) (by decide) (Nat.le_of_ble_eq_true rfl) rfl ?_
  refine v_if_eq 42 dX10_mustNumber_4 (by decide) (fun c_4 => ?_) (fun c_4 => ?_)
  · rw [if_pos c_4] at h
    refine v_sub [(0, .ref (B + p0))] ⟨rfl, trivial⟩ ?_
    exact j42 _ _ h
  · rw [if_neg c_4] at h
    refine v_aload_n dX10_mustNumber_7 rfl ?_
    replace h := p_bind_elim h
    obtain ⟨a_11, q_12, h⟩ := h
    refine v_getR q_12 rfl fl_X10_54 dX10_mustNumber_8 q_3 ?_
    refine v_aload_n dX10_mustNumber_11 rfl ?_
    refine v_getI rfl fl_X10_194 dX10_mustNumber_12 q_3 ?_
    replace h := p_bind_elim h
    obtain ⟨j_13, q_14, h⟩ := h
    refine v_ialdP dX10_mustNumber_15 q_14 ?_
    refine v_bipush (50 : Int32) dX10_mustNumber_16 (by decide) ?_
    refine v_icmp_ne 38 dX10_mustNumber_18 (by decide) (fun c_15 => ?_) (fun c_15 => ?_)
    · rw [if_neg c_15] at h
      refine v_sub [(0, .ref (B + p0))] ⟨rfl, trivial⟩ ?_
      exact j38 _ _ h
    · rw [if_pos c_15] at h
      refine v_aload_n dX10_mustNumber_21 rfl ?_
      replace h := p_bind_elim h
      obtain ⟨a_19, q_20, h⟩ := h
      refine v_getR q_20 rfl fl_X10_57 dX10_mustNumber_22 q_3 ?_
      refine v_aload_n dX10_mustNumber_25 rfl ?_
      refine v_getI rfl fl_X10_194 dX10_mustNumber_26 q_3 ?_
      replace h := p_bind_elim h
      obtain ⟨j_21, q_22, h⟩ := h
      refine v_ialdP dX10_mustNumber_29 q_22 ?_
      refine v_iload_n dX10_mustNumber_30 rfl ?_
      refine v_iload_n dX10_mustNumber_31 rfl ?_
      replace h := p_bind_elim h
      obtain ⟨r_23, q_24, h⟩ := h
      refine v_cSr (t_X10_lies q_24) cal_X10_lies ml_X10_18 sta_X10_lies dX10_mustNumber_32 (by omega) (by decide) (by decide) (Nat.le_of_ble_eq_true rfl) rfl ?_
      refine v_if_ne 42 dX10_mustNumber_35 (by decide) (fun c_25 => ?_) (fun c_25 => ?_)
      · rw [if_neg c_25] at h
        refine v_sub [(0, .ref (B + p0))] ⟨rfl, trivial⟩ ?_
        exact j42 _ _ h
      · rw [if_pos c_25] at h
        refine v_sub [(0, .ref (B + p0))] ⟨rfl, trivial⟩ ?_
        exact j38 _ _ h

def f_X10_isDigit (p0 : Int32) : Option (Int32) :=
if p0 < (48 : Int32) then (
some ((0 : Int32)))
else (
if (57 : Int32) < p0 then (
some ((0 : Int32)))
else (
some ((1 : Int32))))
set_option maxHeartbeats 4000000 in
set_option maxRecDepth 100000 in
theorem t_X10_isDigit {p0 : Int32} {r : Int32} (h : f_X10_isDigit p0 = some r) : v_R l B D ac (v_EE B wa wb wt sb sL sx) yX10_isDigit cX10_isDigit 1 (some .boolean) 1 0 0 [.int p0] S I J F (v_D (some (.int r)) S I J F) := by
  refine v_R.of (by decide) (Nat.le_of_ble_eq_true rfl) fun d hd => ?_
  generalize hQ : v_D (some (.int r)) S I J F = Q
  unfold f_X10_isDigit at h
  refine v_sub [(0, .int p0)] ⟨rfl, trivial⟩ ?_
  refine v_iload_n dX10_isDigit_0 rfl ?_
  refine v_bipush (48 : Int32) dX10_isDigit_1 (by decide) ?_
  refine v_icmp_lt 16 dX10_isDigit_3 (by decide) (fun c_1 => ?_) (fun c_1 => ?_)
  · rw [if_pos c_1] at h
    refine v_iconstE (0 : Int32) dX10_isDigit_16 (by decide) ?_
    cases h
    exact v_zret dX10_isDigit_17 rfl rfl (by decide) (by decide) (by rw [← hQ]; exact ⟨rfl, rfl, rfl, rfl, rfl⟩)
  · rw [if_neg c_1] at h
    refine v_iload_n dX10_isDigit_6 rfl ?_
    refine v_bipush (57 : Int32) dX10_isDigit_7 (by decide) ?_
    refine v_icmp_gt 16 dX10_isDigit_9 (by decide) (fun c_2 => ?_) (fun c_2 => ?_)
    · rw [if_pos c_2] at h
      refine v_iconstE (0 : Int32) dX10_isDigit_16 (by decide) ?_
      cases h
      exact v_zret dX10_isDigit_17 rfl rfl (by decide) (by decide) (by rw [← hQ]; exact ⟨rfl, rfl, rfl, rfl, rfl⟩)
    · rw [if_neg c_2] at h
      refine v_iconstE (1 : Int32) dX10_isDigit_12 (by decide) ?_
      refine v_goto 17 dX10_isDigit_13 (by decide) ?_
      cases h
      exact v_zret dX10_isDigit_17 rfl rfl (by decide) (by decide) (by rw [← hQ]; exact ⟨rfl, rfl, rfl, rfl, rfl⟩)

def f_X10_isSmall (p0 : Int32) : Option (Int32) :=
if p0 < (97 : Int32) then (
some ((0 : Int32)))
else (
if (122 : Int32) < p0 then (
some ((0 : Int32)))
else (
some ((1 : Int32))))
set_option maxHeartbeats 4000000 in
set_option maxRecDepth 100000 in
theorem t_X10_isSmall {p0 : Int32} {r : Int32} (h : f_X10_isSmall p0 = some r) : v_R l B D ac (v_EE B wa wb wt sb sL sx) yX10_isSmall cX10_isSmall 1 (some .boolean) 1 0 0 [.int p0] S I J F (v_D (some (.int r)) S I J F) := by
  refine v_R.of (by decide) (Nat.le_of_ble_eq_true rfl) fun d hd => ?_
  generalize hQ : v_D (some (.int r)) S I J F = Q
  unfold f_X10_isSmall at h
  refine v_sub [(0, .int p0)] ⟨rfl, trivial⟩ ?_
  refine v_iload_n dX10_isSmall_0 rfl ?_
  refine v_bipush (97 : Int32) dX10_isSmall_1 (by decide) ?_
  refine v_icmp_lt 16 dX10_isSmall_3 (by decide) (fun c_1 => ?_) (fun c_1 => ?_)
  · rw [if_pos c_1] at h
    refine v_iconstE (0 : Int32) dX10_isSmall_16 (by decide) ?_
    cases h
    exact v_zret dX10_isSmall_17 rfl rfl (by decide) (by decide) (by rw [← hQ]; exact ⟨rfl, rfl, rfl, rfl, rfl⟩)
  · rw [if_neg c_1] at h
    refine v_iload_n dX10_isSmall_6 rfl ?_
    refine v_bipush (122 : Int32) dX10_isSmall_7 (by decide) ?_
    refine v_icmp_gt 16 dX10_isSmall_9 (by decide) (fun c_2 => ?_) (fun c_2 => ?_)
    · rw [if_pos c_2] at h
      refine v_iconstE (0 : Int32) dX10_isSmall_16 (by decide) ?_
      cases h
      exact v_zret dX10_isSmall_17 rfl rfl (by decide) (by decide) (by rw [← hQ]; exact ⟨rfl, rfl, rfl, rfl, rfl⟩)
    · rw [if_neg c_2] at h
      refine v_iconstE (1 : Int32) dX10_isSmall_12 (by decide) ?_
      refine v_goto 17 dX10_isSmall_13 (by decide) ?_
      cases h
      exact v_zret dX10_isSmall_17 rfl rfl (by decide) (by decide) (by rw [← hQ]; exact ⟨rfl, rfl, rfl, rfl, rfl⟩)

def f_X10_wordOf_B18 (S : v_S) (I : v_I) (F : v_F) (w0 : Nat) (w1 : Int32) (w2 : Int32) (w3 : Int32) (w4 : Int32) (s18 : Int32) : Option ((Int32) ⊕ (Int32)) :=
(p_ob S 10 w0).bind fun _ =>
(F w0 7).bind fun a_8 =>
(p_ix S 21 a_8 (w4 + s18)).bind fun j_10 =>
if (I a_8 j_10) = (32 : Int32) then (
some (.inr s18))
else (
p_let (s18 + (1 : Int32)) fun x_13 =>
some (.inl x_13))
def f_X10_wordOf_J57_96 (S : v_S) (I : v_I) (F : v_F) (w0 : Nat) (w1 : Int32) (w2 : Int32) (w3 : Int32) (w4 : Int32) (w5 : Int32) (y7 : Int32) (z0 : Int32) : Option ((Int32 × Int32) ⊕ (Int32 × Int32)) :=
p_let (y7 + (1 : Int32)) fun x_30 =>
some (.inl (z0, x_30))
def f_X10_wordOf_B57 (S : v_S) (I : v_I) (F : v_F) (w0 : Nat) (w1 : Int32) (w2 : Int32) (w3 : Int32) (w4 : Int32) (w5 : Int32) (s57 : Int32 × Int32) : Option ((Int32 × Int32) ⊕ (Int32 × Int32)) :=
if w5 ≤ s57.2 then (
some (.inr (s57.1, s57.2)))
else (
if s57.1 = (0 : Int32) then (
some (.inr (s57.1, s57.2)))
else (
(p_ob S 10 w0).bind fun _ =>
(F w0 7).bind fun a_21 =>
(p_ix S 21 a_21 (w4 + s57.2)).bind fun j_23 =>
(F w0 11).bind fun a_25 =>
(p_ix S 21 a_25 (w1 + s57.2)).bind fun j_27 =>
if (I a_21 j_23) = (I a_25 j_27) then (
f_X10_wordOf_J57_96 S I F w0 w1 w2 w3 w4 w5 s57.2 (1 : Int32))
else (
f_X10_wordOf_J57_96 S I F w0 w1 w2 w3 w4 w5 s57.2 (0 : Int32))))
def f_X10_wordOf_J5_104 (S : v_S) (I : v_I) (F : v_F) (w0 : Nat) (w1 : Int32) (w2 : Int32) (y3 : Int32) (y4 : Int32) (y5 : Int32) (y6 : Int32) : Option ((Int32 × Int32) ⊕ (Nat × (Int32 × Int32))) :=
if y6 = (0 : Int32) then (
p_let (y4 + (y5 + (1 : Int32))) fun x_35 =>
p_let (y3 + (1 : Int32)) fun x_37 =>
some (.inl (x_37, x_35)))
else (
some (.inr (0, (y3, y4))))
def f_X10_wordOf_J5_52 (S : v_S) (I : v_I) (F : v_F) (w0 : Nat) (w1 : Int32) (w2 : Int32) (y3 : Int32) (y4 : Int32) (y5 : Int32) (z0 : Int32) : Option ((Int32 × Int32) ⊕ (Nat × (Int32 × Int32))) :=
(v_loop (f_X10_wordOf_B57 S I F w0 w1 w2 y3 y4 y5) FU (z0, (0 : Int32))).bind fun q_32 =>
f_X10_wordOf_J5_104 S I F w0 w1 w2 y3 y4 y5 q_32.1
def f_X10_wordOf_B5 (S : v_S) (I : v_I) (F : v_F) (w0 : Nat) (w1 : Int32) (w2 : Int32) (s5 : Int32 × Int32) : Option ((Int32 × Int32) ⊕ (Nat × (Int32 × Int32))) :=
(p_ob S 10 w0).bind fun _ =>
(F w0 7).bind fun a_2 =>
(p_len S 21 a_2).bind fun x_4 =>
if x_4 ≤ s5.2 then (
some (.inr (1, (s5.1, s5.2))))
else (
(v_loop (f_X10_wordOf_B18 S I F w0 w1 w2 s5.1 s5.2) FU (0 : Int32)).bind fun q_15 =>
if q_15 = (w2 - w1) then (
f_X10_wordOf_J5_52 S I F w0 w1 w2 s5.1 s5.2 q_15 (1 : Int32))
else (
f_X10_wordOf_J5_52 S I F w0 w1 w2 s5.1 s5.2 q_15 (0 : Int32)))
def f_X10_wordOf (S : v_S) (I : v_I) (F : v_F) (p0 : Nat) (p1 : Int32) (p2 : Int32) : Option (Int32) :=
(v_loop (f_X10_wordOf_B5 S I F p0 p1 p2) FU ((1 : Int32), (0 : Int32))).bind fun q_39 =>
if q_39.1 = 0 then (
some (q_39.2.1))
else (
some ((0 : Int32)))
set_option maxHeartbeats 4000000 in
set_option maxRecDepth 100000 in
theorem t_X10_wordOf {p0 : Nat} {p1 : Int32} {p2 : Int32} {r : Int32} (h : f_X10_wordOf S I F p0 p1 p2 = some r) : v_R l B D ac (v_EE B wa wb wt sb sL sx) yX10_wordOf cX10_wordOf 8 (some .int) 1 0 0 [.ref (B + p0), .int p1, .int p2] S I J F (v_D (some (.int r)) S I J F) := by
  refine v_R.of (by decide) (Nat.le_of_ble_eq_true rfl) fun d hd => ?_
  generalize hQ : v_D (some (.int r)) S I J F = Q
  have b5 : ∀ (w0 : Nat) (w1 : Int32) (w2 : Int32) (s5 : Int32 × Int32) (rx5 : (Int32 × Int32) ⊕ (Nat × (Int32 × Int32))), f_X10_wordOf_B5 S I F w0 w1 w2 s5 = some rx5 → v_K (fun (sP : Int32 × Int32) => V l B D ac (v_EE B wa wb wt sb sL sx) yX10_wordOf cX10_wordOf 8 (some .int) d 0 0 0 0 S I J F 5 [(0, .ref (B + w0)), (1, .int w1), (2, .int w2), (3, .int sP.1), (4, .int sP.2)] [] Q) (fun (rE : Nat × (Int32 × Int32)) => (rE.1 = 0 → V l B D ac (v_EE B wa wb wt sb sL sx) yX10_wordOf cX10_wordOf 8 (some .int) d 0 0 0 0 S I J F 109 [(3, .int rE.2.1)] [] Q) ∧ (¬ rE.1 = 0 → V l B D ac (v_EE B wa wb wt sb sL sx) yX10_wordOf cX10_wordOf 8 (some .int) d 0 0 0 0 S I J F 126 [] [] Q)) rx5 → V l B D ac (v_EE B wa wb wt sb sL sx) yX10_wordOf cX10_wordOf 8 (some .int) d 0 0 0 0 S I J F 5 [(0, .ref (B + w0)), (1, .int w1), (2, .int w2), (3, .int s5.1), (4, .int s5.2)] [] Q := by
    intro w0 w1 w2 s5 rx5 h hk
    have b18 : ∀ (w0 : Nat) (w1 : Int32) (w2 : Int32) (w3 : Int32) (w4 : Int32) (s18 : Int32) (rx18 : (Int32) ⊕ (Int32)), f_X10_wordOf_B18 S I F w0 w1 w2 w3 w4 s18 = some rx18 → v_K (fun (sP : Int32) => V l B D ac (v_EE B wa wb wt sb sL sx) yX10_wordOf cX10_wordOf 8 (some .int) d 0 0 0 0 S I J F 18 [(0, .ref (B + w0)), (1, .int w1), (2, .int w2), (3, .int w3), (4, .int w4), (5, .int sP)] [] Q) (fun (rE : Int32) => V l B D ac (v_EE B wa wb wt sb sL sx) yX10_wordOf cX10_wordOf 8 (some .int) d 0 0 0 0 S I J F 39 [(0, .ref (B + w0)), (1, .int w1), (2, .int w2), (3, .int w3), (4, .int w4), (5, .int rE)] [] Q) rx18 → V l B D ac (v_EE B wa wb wt sb sL sx) yX10_wordOf cX10_wordOf 8 (some .int) d 0 0 0 0 S I J F 18 [(0, .ref (B + w0)), (1, .int w1), (2, .int w2), (3, .int w3), (4, .int w4), (5, .int s18)] [] Q := by
      intro w0 w1 w2 w3 w4 s18 rx18 h hk
      unfold f_X10_wordOf_B18 at h
      refine v_aload_n dX10_wordOf_18 rfl ?_
      replace h := p_bind_elim h
      obtain ⟨_, q_7, h⟩ := h
      have q_7 := p_ob_spec q_7
      replace h := p_bind_elim h
      obtain ⟨a_8, q_9, h⟩ := h
      refine v_getR q_9 rfl fl_X10_41 dX10_wordOf_19 q_7 ?_
      refine v_iload dX10_wordOf_22 rfl ?_
      refine v_iload dX10_wordOf_24 rfl ?_
      refine v_iadd dX10_wordOf_26 ?_
      replace h := p_bind_elim h
      obtain ⟨j_10, q_11, h⟩ := h
      refine v_baldP dX10_wordOf_27 q_11 ?_
      refine v_bipush (32 : Int32) dX10_wordOf_28 (by decide) ?_
      refine v_icmp_eq 39 dX10_wordOf_30 (by decide) (fun c_12 => ?_) (fun c_12 => ?_)
      · rw [if_pos c_12] at h
        cases h
        refine v_sub [(0, .ref (B + w0)), (1, .int w1), (2, .int w2), (3, .int w3), (4, .int w4), (5, .int s18)] ⟨rfl, rfl, rfl, rfl, rfl, rfl, trivial⟩ ?_
        exact hk
      · rw [if_neg c_12] at h
        replace h := p_let_elim h
        obtain ⟨x_13, h_14, h⟩ := h
        refine v_iincE (1 : Int32) dX10_wordOf_33 (by decide) rfl (by decide) ?_
        rw [← h_14]
        refine v_sub [(0, .ref (B + w0)), (1, .int w1), (2, .int w2), (3, .int w3), (4, .int w4), (5, .int x_13)] ⟨rfl, rfl, rfl, rfl, rfl, rfl, trivial⟩ ?_
        refine v_goto 18 dX10_wordOf_36 (by decide) ?_
        cases h
        refine v_sub [(0, .ref (B + w0)), (1, .int w1), (2, .int w2), (3, .int w3), (4, .int w4), (5, .int x_13)] ⟨rfl, rfl, rfl, rfl, rfl, rfl, trivial⟩ ?_
        exact hk
    have b57 : ∀ (w0 : Nat) (w1 : Int32) (w2 : Int32) (w3 : Int32) (w4 : Int32) (w5 : Int32) (s57 : Int32 × Int32) (rx57 : (Int32 × Int32) ⊕ (Int32 × Int32)), f_X10_wordOf_B57 S I F w0 w1 w2 w3 w4 w5 s57 = some rx57 → v_K (fun (sP : Int32 × Int32) => V l B D ac (v_EE B wa wb wt sb sL sx) yX10_wordOf cX10_wordOf 8 (some .int) d 0 0 0 0 S I J F 57 [(0, .ref (B + w0)), (1, .int w1), (2, .int w2), (3, .int w3), (4, .int w4), (5, .int w5), (6, .int sP.1), (7, .int sP.2)] [] Q) (fun (rE : Int32 × Int32) => V l B D ac (v_EE B wa wb wt sb sL sx) yX10_wordOf cX10_wordOf 8 (some .int) d 0 0 0 0 S I J F 104 [(0, .ref (B + w0)), (1, .int w1), (2, .int w2), (3, .int w3), (4, .int w4), (5, .int w5), (6, .int rE.1)] [] Q) rx57 → V l B D ac (v_EE B wa wb wt sb sL sx) yX10_wordOf cX10_wordOf 8 (some .int) d 0 0 0 0 S I J F 57 [(0, .ref (B + w0)), (1, .int w1), (2, .int w2), (3, .int w3), (4, .int w4), (5, .int w5), (6, .int s57.1), (7, .int s57.2)] [] Q := by
      intro w0 w1 w2 w3 w4 w5 s57 rx57 h hk
      have j96 : ∀ (y7 : Int32) (z0 : Int32), f_X10_wordOf_J57_96 S I F w0 w1 w2 w3 w4 w5 y7 z0 = some rx57 → V l B D ac (v_EE B wa wb wt sb sL sx) yX10_wordOf cX10_wordOf 8 (some .int) d 0 0 0 0 S I J F 96 [(0, .ref (B + w0)), (1, .int w1), (2, .int w2), (3, .int w3), (4, .int w4), (5, .int w5), (7, .int y7)] [.int z0] Q := by
        intro y7 z0 h
        unfold f_X10_wordOf_J57_96 at h
        refine v_istore dX10_wordOf_96 (by decide) ?_
        refine v_sub [(0, .ref (B + w0)), (1, .int w1), (2, .int w2), (3, .int w3), (4, .int w4), (5, .int w5), (6, .int z0), (7, .int y7)] ⟨rfl, rfl, rfl, rfl, rfl, rfl, rfl, rfl, trivial⟩ ?_
        replace h := p_let_elim h
        obtain ⟨x_30, h_31, h⟩ := h
        refine v_iincE (1 : Int32) dX10_wordOf_98 (by decide) rfl (by decide) ?_
        rw [← h_31]
        refine v_sub [(0, .ref (B + w0)), (1, .int w1), (2, .int w2), (3, .int w3), (4, .int w4), (5, .int w5), (6, .int z0), (7, .int x_30)] ⟨rfl, rfl, rfl, rfl, rfl, rfl, rfl, rfl, trivial⟩ ?_
        refine v_goto 57 dX10_wordOf_101 (by decide) ?_
        cases h
        refine v_sub [(0, .ref (B + w0)), (1, .int w1), (2, .int w2), (3, .int w3), (4, .int w4), (5, .int w5), (6, .int z0), (7, .int x_30)] ⟨rfl, rfl, rfl, rfl, rfl, rfl, rfl, rfl, trivial⟩ ?_
        exact hk
      unfold f_X10_wordOf_B57 at h
      refine v_iload dX10_wordOf_57 rfl ?_
      refine v_iload dX10_wordOf_59 rfl ?_
      refine v_icmp_ge 104 dX10_wordOf_61 (by decide) (fun c_18 => ?_) (fun c_18 => ?_)
      · rw [if_pos c_18] at h
        cases h
        refine v_sub [(0, .ref (B + w0)), (1, .int w1), (2, .int w2), (3, .int w3), (4, .int w4), (5, .int w5), (6, .int s57.1)] ⟨rfl, rfl, rfl, rfl, rfl, rfl, rfl, trivial⟩ ?_
        exact hk
      · rw [if_neg c_18] at h
        refine v_iload dX10_wordOf_64 rfl ?_
        refine v_if_eq 104 dX10_wordOf_66 (by decide) (fun c_19 => ?_) (fun c_19 => ?_)
        · rw [if_pos c_19] at h
          cases h
          refine v_sub [(0, .ref (B + w0)), (1, .int w1), (2, .int w2), (3, .int w3), (4, .int w4), (5, .int w5), (6, .int s57.1)] ⟨rfl, rfl, rfl, rfl, rfl, rfl, rfl, trivial⟩ ?_
          exact hk
        · rw [if_neg c_19] at h
          refine v_aload_n dX10_wordOf_69 rfl ?_
          replace h := p_bind_elim h
          obtain ⟨_, q_20, h⟩ := h
          have q_20 := p_ob_spec q_20
          replace h := p_bind_elim h
          obtain ⟨a_21, q_22, h⟩ := h
          refine v_getR q_22 rfl fl_X10_41 dX10_wordOf_70 q_20 ?_
          refine v_iload dX10_wordOf_73 rfl ?_
          refine v_iload dX10_wordOf_75 rfl ?_
          refine v_iadd dX10_wordOf_77 ?_
          replace h := p_bind_elim h
          obtain ⟨j_23, q_24, h⟩ := h
          refine v_baldP dX10_wordOf_78 q_24 ?_
          refine v_aload_n dX10_wordOf_79 rfl ?_
          replace h := p_bind_elim h
          obtain ⟨a_25, q_26, h⟩ := h
          refine v_getR q_26 rfl fl_X10_45 dX10_wordOf_80 q_20 ?_
          refine v_iload_n dX10_wordOf_83 rfl ?_
          refine v_iload dX10_wordOf_84 rfl ?_
          refine v_iadd dX10_wordOf_86 ?_
          replace h := p_bind_elim h
          obtain ⟨j_27, q_28, h⟩ := h
          refine v_baldP dX10_wordOf_87 q_28 ?_
          refine v_icmp_ne 95 dX10_wordOf_88 (by decide) (fun c_29 => ?_) (fun c_29 => ?_)
          · rw [if_neg c_29] at h
            refine v_iconstE (0 : Int32) dX10_wordOf_95 (by decide) ?_
            refine v_sub [(0, .ref (B + w0)), (1, .int w1), (2, .int w2), (3, .int w3), (4, .int w4), (5, .int w5), (7, .int s57.2)] ⟨rfl, rfl, rfl, rfl, rfl, rfl, rfl, trivial⟩ ?_
            exact j96 _ _ h
          · rw [if_pos c_29] at h
            refine v_iconstE (1 : Int32) dX10_wordOf_91 (by decide) ?_
            refine v_goto 96 dX10_wordOf_92 (by decide) ?_
            refine v_sub [(0, .ref (B + w0)), (1, .int w1), (2, .int w2), (3, .int w3), (4, .int w4), (5, .int w5), (7, .int s57.2)] ⟨rfl, rfl, rfl, rfl, rfl, rfl, rfl, trivial⟩ ?_
            exact j96 _ _ h
    have j104 : ∀ (y3 : Int32) (y4 : Int32) (y5 : Int32) (y6 : Int32), f_X10_wordOf_J5_104 S I F w0 w1 w2 y3 y4 y5 y6 = some rx5 → V l B D ac (v_EE B wa wb wt sb sL sx) yX10_wordOf cX10_wordOf 8 (some .int) d 0 0 0 0 S I J F 104 [(0, .ref (B + w0)), (1, .int w1), (2, .int w2), (3, .int y3), (4, .int y4), (5, .int y5), (6, .int y6)] [] Q := by
      intro y3 y4 y5 y6 h
      unfold f_X10_wordOf_J5_104 at h
      refine v_iload dX10_wordOf_104 rfl ?_
      refine v_if_eq 111 dX10_wordOf_106 (by decide) (fun c_34 => ?_) (fun c_34 => ?_)
      · rw [if_pos c_34] at h
        refine v_iload dX10_wordOf_111 rfl ?_
        refine v_iload dX10_wordOf_113 rfl ?_
        refine v_iconstE (1 : Int32) dX10_wordOf_115 (by decide) ?_
        refine v_iadd dX10_wordOf_116 ?_
        refine v_iadd dX10_wordOf_117 ?_
        replace h := p_let_elim h
        obtain ⟨x_35, h_36, h⟩ := h
        rw [← h_36]
        refine v_istore dX10_wordOf_118 (by decide) ?_
        refine v_sub [(0, .ref (B + w0)), (1, .int w1), (2, .int w2), (3, .int y3), (4, .int x_35)] ⟨rfl, rfl, rfl, rfl, rfl, trivial⟩ ?_
        replace h := p_let_elim h
        obtain ⟨x_37, h_38, h⟩ := h
        refine v_iincE (1 : Int32) dX10_wordOf_120 (by decide) rfl (by decide) ?_
        rw [← h_38]
        refine v_sub [(0, .ref (B + w0)), (1, .int w1), (2, .int w2), (3, .int x_37), (4, .int x_35)] ⟨rfl, rfl, rfl, rfl, rfl, trivial⟩ ?_
        refine v_goto 5 dX10_wordOf_123 (by decide) ?_
        cases h
        refine v_sub [(0, .ref (B + w0)), (1, .int w1), (2, .int w2), (3, .int x_37), (4, .int x_35)] ⟨rfl, rfl, rfl, rfl, rfl, trivial⟩ ?_
        exact hk
      · rw [if_neg c_34] at h
        cases h
        refine v_sub [(3, .int y3)] ⟨rfl, trivial⟩ ?_
        exact hk.1 rfl
    have j52 : ∀ (y3 : Int32) (y4 : Int32) (y5 : Int32) (z0 : Int32), f_X10_wordOf_J5_52 S I F w0 w1 w2 y3 y4 y5 z0 = some rx5 → V l B D ac (v_EE B wa wb wt sb sL sx) yX10_wordOf cX10_wordOf 8 (some .int) d 0 0 0 0 S I J F 52 [(0, .ref (B + w0)), (1, .int w1), (2, .int w2), (3, .int y3), (4, .int y4), (5, .int y5)] [.int z0] Q := by
      intro y3 y4 y5 z0 h
      unfold f_X10_wordOf_J5_52 at h
      refine v_istore dX10_wordOf_52 (by decide) ?_
      refine v_sub [(0, .ref (B + w0)), (1, .int w1), (2, .int w2), (3, .int y3), (4, .int y4), (5, .int y5), (6, .int z0)] ⟨rfl, rfl, rfl, rfl, rfl, rfl, rfl, trivial⟩ ?_
      refine v_iconstE (0 : Int32) dX10_wordOf_54 (by decide) ?_
      refine v_istore dX10_wordOf_55 (by decide) ?_
      refine v_sub [(0, .ref (B + w0)), (1, .int w1), (2, .int w2), (3, .int y3), (4, .int y4), (5, .int y5), (6, .int z0), (7, .int (0 : Int32))] ⟨rfl, rfl, rfl, rfl, rfl, rfl, rfl, rfl, trivial⟩ ?_
      replace h := p_bind_elim h
      obtain ⟨q_32, h_33, h⟩ := h
      refine v_sub [(0, .ref (B + w0)), (1, .int w1), (2, .int w2), (3, .int y3), (4, .int y4), (5, .int y5), (6, .int z0), (7, .int (0 : Int32))] ⟨rfl, rfl, rfl, rfl, rfl, rfl, rfl, rfl, trivial⟩ ?_
      refine v_loopV (fun (sP : Int32 × Int32) => V l B D ac (v_EE B wa wb wt sb sL sx) yX10_wordOf cX10_wordOf 8 (some .int) d 0 0 0 0 S I J F 57 [(0, .ref (B + w0)), (1, .int w1), (2, .int w2), (3, .int y3), (4, .int y4), (5, .int y5), (6, .int sP.1), (7, .int sP.2)] [] Q) (fun (rE : Int32 × Int32) => V l B D ac (v_EE B wa wb wt sb sL sx) yX10_wordOf cX10_wordOf 8 (some .int) d 0 0 0 0 S I J F 104 [(0, .ref (B + w0)), (1, .int w1), (2, .int w2), (3, .int y3), (4, .int y4), (5, .int y5), (6, .int rE.1)] [] Q) (fun s_ x_ hb hk => b57 _ _ _ _ _ _ s_ x_ hb hk) (r := q_32) ?_ h_33
      try dsimp only
      refine v_sub [(0, .ref (B + w0)), (1, .int w1), (2, .int w2), (3, .int y3), (4, .int y4), (5, .int y5), (6, .int q_32.1)] ⟨rfl, rfl, rfl, rfl, rfl, rfl, rfl, trivial⟩ ?_
      exact j104 _ _ _ _ h
    unfold f_X10_wordOf_B5 at h
    refine v_iload dX10_wordOf_5 rfl ?_
    refine v_aload_n dX10_wordOf_7 rfl ?_
    replace h := p_bind_elim h
    obtain ⟨_, q_1, h⟩ := h
    have q_1 := p_ob_spec q_1
    replace h := p_bind_elim h
    obtain ⟨a_2, q_3, h⟩ := h
    refine v_getR q_3 rfl fl_X10_41 dX10_wordOf_8 q_1 ?_
    replace h := p_bind_elim h
    obtain ⟨x_4, q_5, h⟩ := h
    refine v_alenPB dX10_wordOf_11 q_5 ?_
    refine v_icmp_ge 126 dX10_wordOf_12 (by decide) (fun c_6 => ?_) (fun c_6 => ?_)
    · rw [if_pos c_6] at h
      cases h
      refine v_sub [] trivial ?_
      exact (hk.2 (Nat.succ_ne_zero _))
    · rw [if_neg c_6] at h
      refine v_iconstE (0 : Int32) dX10_wordOf_15 (by decide) ?_
      refine v_istore dX10_wordOf_16 (by decide) ?_
      refine v_sub [(0, .ref (B + w0)), (1, .int w1), (2, .int w2), (3, .int s5.1), (4, .int s5.2), (5, .int (0 : Int32))] ⟨rfl, rfl, rfl, rfl, rfl, rfl, trivial⟩ ?_
      replace h := p_bind_elim h
      obtain ⟨q_15, h_16, h⟩ := h
      refine v_sub [(0, .ref (B + w0)), (1, .int w1), (2, .int w2), (3, .int s5.1), (4, .int s5.2), (5, .int (0 : Int32))] ⟨rfl, rfl, rfl, rfl, rfl, rfl, trivial⟩ ?_
      refine v_loopV (fun (sP : Int32) => V l B D ac (v_EE B wa wb wt sb sL sx) yX10_wordOf cX10_wordOf 8 (some .int) d 0 0 0 0 S I J F 18 [(0, .ref (B + w0)), (1, .int w1), (2, .int w2), (3, .int s5.1), (4, .int s5.2), (5, .int sP)] [] Q) (fun (rE : Int32) => V l B D ac (v_EE B wa wb wt sb sL sx) yX10_wordOf cX10_wordOf 8 (some .int) d 0 0 0 0 S I J F 39 [(0, .ref (B + w0)), (1, .int w1), (2, .int w2), (3, .int s5.1), (4, .int s5.2), (5, .int rE)] [] Q) (fun s_ x_ hb hk => b18 _ _ _ _ _ s_ x_ hb hk) (r := q_15) ?_ h_16
      try dsimp only
      refine v_iload dX10_wordOf_39 rfl ?_
      refine v_iload_n dX10_wordOf_41 rfl ?_
      refine v_iload_n dX10_wordOf_42 rfl ?_
      refine v_isub dX10_wordOf_43 ?_
      refine v_icmp_ne 51 dX10_wordOf_44 (by decide) (fun c_17 => ?_) (fun c_17 => ?_)
      · rw [if_neg c_17] at h
        refine v_iconstE (0 : Int32) dX10_wordOf_51 (by decide) ?_
        refine v_sub [(0, .ref (B + w0)), (1, .int w1), (2, .int w2), (3, .int s5.1), (4, .int s5.2), (5, .int q_15)] ⟨rfl, rfl, rfl, rfl, rfl, rfl, trivial⟩ ?_
        exact j52 _ _ _ _ h
      · rw [if_pos c_17] at h
        refine v_iconstE (1 : Int32) dX10_wordOf_47 (by decide) ?_
        refine v_goto 52 dX10_wordOf_48 (by decide) ?_
        refine v_sub [(0, .ref (B + w0)), (1, .int w1), (2, .int w2), (3, .int s5.1), (4, .int s5.2), (5, .int q_15)] ⟨rfl, rfl, rfl, rfl, rfl, rfl, trivial⟩ ?_
        exact j52 _ _ _ _ h
  unfold f_X10_wordOf at h
  refine v_sub [(0, .ref (B + p0)), (1, .int p1), (2, .int p2)] ⟨rfl, rfl, rfl, trivial⟩ ?_
  refine v_iconstE (1 : Int32) dX10_wordOf_0 (by decide) ?_
  refine v_istore_n dX10_wordOf_1 (by decide) ?_
  refine v_sub [(0, .ref (B + p0)), (1, .int p1), (2, .int p2), (3, .int (1 : Int32))] ⟨rfl, rfl, rfl, rfl, trivial⟩ ?_
  refine v_iconstE (0 : Int32) dX10_wordOf_2 (by decide) ?_
  refine v_istore dX10_wordOf_3 (by decide) ?_
  refine v_sub [(0, .ref (B + p0)), (1, .int p1), (2, .int p2), (3, .int (1 : Int32)), (4, .int (0 : Int32))] ⟨rfl, rfl, rfl, rfl, rfl, trivial⟩ ?_
  replace h := p_bind_elim h
  obtain ⟨q_39, h_40, h⟩ := h
  refine v_sub [(0, .ref (B + p0)), (1, .int p1), (2, .int p2), (3, .int (1 : Int32)), (4, .int (0 : Int32))] ⟨rfl, rfl, rfl, rfl, rfl, trivial⟩ ?_
  refine v_loopV (fun (sP : Int32 × Int32) => V l B D ac (v_EE B wa wb wt sb sL sx) yX10_wordOf cX10_wordOf 8 (some .int) d 0 0 0 0 S I J F 5 [(0, .ref (B + p0)), (1, .int p1), (2, .int p2), (3, .int sP.1), (4, .int sP.2)] [] Q) (fun (rE : Nat × (Int32 × Int32)) => (rE.1 = 0 → V l B D ac (v_EE B wa wb wt sb sL sx) yX10_wordOf cX10_wordOf 8 (some .int) d 0 0 0 0 S I J F 109 [(3, .int rE.2.1)] [] Q) ∧ (¬ rE.1 = 0 → V l B D ac (v_EE B wa wb wt sb sL sx) yX10_wordOf cX10_wordOf 8 (some .int) d 0 0 0 0 S I J F 126 [] [] Q)) (fun s_ x_ hb hk => b5 _ _ _ s_ x_ hb hk) (r := q_39) ?_ h_40
  try dsimp only
  refine ⟨fun c_41 => ?_, fun c_41 => ?_⟩
  · rw [if_pos c_41] at h
    refine v_iload_n dX10_wordOf_109 rfl ?_
    cases h
    exact v_iret dX10_wordOf_110 rfl (by decide) (by decide) (by rw [← hQ]; exact ⟨rfl, rfl, rfl, rfl, rfl⟩)
  · rw [if_neg c_41] at h
    refine v_iconstE (0 : Int32) dX10_wordOf_126 (by decide) ?_
    cases h
    exact v_iret dX10_wordOf_127 rfl (by decide) (by decide) (by rw [← hQ]; exact ⟨rfl, rfl, rfl, rfl, rfl⟩)

def f_X10_splits_J169_240 (S : v_S) (F : v_F) (w0 : Nat) (w1 : Int32) (w3 : Int32) (w4 : Int32) (I : v_I) (y5 : Int32) (z0 : Int32) (z1 : Int32) (z2 : Nat) : Option ((Int32 × v_I) ⊕ (Int32 × v_I)) :=
(p_ix S 20 z2 z1).bind fun j_66 =>
p_let (v_up I z2 j_66 z0) fun I_68 =>
p_let (y5 + (1 : Int32)) fun x_70 =>
some (.inl (x_70, I_68))
def f_X10_splits_B169 (S : v_S) (F : v_F) (w0 : Nat) (w1 : Int32) (w3 : Int32) (w4 : Int32) (s169 : Int32 × v_I) : Option ((Int32 × v_I) ⊕ (Int32 × v_I)) :=
if w4 ≤ s169.1 then (
some (.inr (s169.1, s169.2)))
else (
(f_X10_isDigit w3).bind fun r_47 =>
if r_47 = (0 : Int32) then (
some (.inr (s169.1, s169.2)))
else (
(p_ob S 10 w0).bind fun _ =>
(F w0 16).bind fun a_51 =>
(F w0 16).bind fun a_53 =>
(p_ix S 20 a_53 (s169.2 w0 18)).bind fun j_55 =>
if (s169.2 a_53 j_55) ≤ (1000000 : Int32) then (
(F w0 16).bind fun a_58 =>
(p_ix S 20 a_58 (s169.2 w0 18)).bind fun j_60 =>
(F w0 11).bind fun a_62 =>
(p_ix S 21 a_62 s169.1).bind fun j_64 =>
f_X10_splits_J169_240 S F w0 w1 w3 w4 s169.2 s169.1 ((((10 : Int32) * (s169.2 a_58 j_60)) + (s169.2 a_62 j_64)) - (48 : Int32)) (s169.2 w0 18) a_51)
else (
(F w0 16).bind fun a_72 =>
(p_ix S 20 a_72 (s169.2 w0 18)).bind fun j_74 =>
f_X10_splits_J169_240 S F w0 w1 w3 w4 s169.2 s169.1 (s169.2 a_72 j_74) (s169.2 w0 18) a_51)))
def f_X10_splits_J7_247 (S : v_S) (F : v_F) (w0 : Nat) (w1 : Int32) (I : v_I) (y4 : Int32) : Option ((Int32 × v_I) ⊕ (Int32 × v_I)) :=
(p_ob S 10 w0).bind fun _ =>
p_let (v_up I w0 18 ((I w0 18) + (1 : Int32))) fun I_79 =>
some (.inl (y4, I_79))
def f_X10_splits_J7_165 (S : v_S) (F : v_F) (w0 : Nat) (w1 : Int32) (I : v_I) (y2 : Int32) (y3 : Int32) (y4 : Int32) (z0 : Int32) (z1 : Int32) (z2 : Nat) : Option ((Int32 × v_I) ⊕ (Int32 × v_I)) :=
(p_ix S 20 z2 z1).bind fun j_42 =>
p_let (v_up I z2 j_42 z0) fun I_44 =>
(v_loop (f_X10_splits_B169 S F w0 w1 y3 y4) FU (y2, I_44)).bind fun q_76 =>
f_X10_splits_J7_247 S F w0 w1 q_76.2 y4
def f_X10_splits_J7_100 (S : v_S) (F : v_F) (w0 : Nat) (w1 : Int32) (I : v_I) (y2 : Int32) (y3 : Int32) (y4 : Int32) : Option ((Int32 × v_I) ⊕ (Int32 × v_I)) :=
(p_ob S 10 w0).bind fun _ =>
(F w0 17).bind fun a_22 =>
(p_ix S 20 a_22 (I w0 18)).bind fun j_24 =>
p_let (v_up I a_22 j_24 y2) fun I_26 =>
(F w0 16).bind fun a_28 =>
(p_ix S 20 a_28 (I_26 w0 18)).bind fun j_30 =>
p_let (v_up I_26 a_28 j_30 (0 : Int32)) fun I_32 =>
(F w0 15).bind fun a_34 =>
(f_X10_isSmall y3).bind fun r_36 =>
if r_36 = (0 : Int32) then (
(f_X10_isDigit y3).bind fun r_39 =>
if r_39 = (0 : Int32) then (
f_X10_splits_J7_165 S F w0 w1 I_32 y2 y3 y4 ((100 : Int32) + (y3 &&& (255 : Int32))) (I_32 w0 18) a_34)
else (
f_X10_splits_J7_165 S F w0 w1 I_32 y2 y3 y4 (50 : Int32) (I_32 w0 18) a_34))
else (
(f_X10_wordOf S I_32 F w0 y2 y4).bind fun r_81 =>
f_X10_splits_J7_165 S F w0 w1 I_32 y2 y3 y4 r_81 (I_32 w0 18) a_34)
def f_X10_splits_B75 (S : v_S) (F : v_F) (I : v_I) (w0 : Nat) (w1 : Int32) (w2 : Int32) (w3 : Int32) (s75 : Int32) : Option ((Int32) ⊕ (Int32)) :=
if w1 ≤ s75 then (
some (.inr s75))
else (
(p_ob S 10 w0).bind fun _ =>
(F w0 11).bind fun a_85 =>
(p_ix S 21 a_85 s75).bind fun j_87 =>
(f_X10_isDigit (I a_85 j_87)).bind fun r_89 =>
if r_89 = (0 : Int32) then (
some (.inr s75))
else (
p_let (s75 + (1 : Int32)) fun x_92 =>
some (.inl x_92)))
def f_X10_splits_J7_68 (S : v_S) (F : v_F) (w0 : Nat) (w1 : Int32) (I : v_I) (y2 : Int32) (y3 : Int32) (y4 : Int32) : Option ((Int32 × v_I) ⊕ (Int32 × v_I)) :=
(f_X10_isDigit y3).bind fun r_18 =>
if r_18 = (0 : Int32) then (
f_X10_splits_J7_100 S F w0 w1 I y2 y3 y4)
else (
(v_loop (f_X10_splits_B75 S F I w0 w1 y2 y3) FU y4).bind fun q_94 =>
f_X10_splits_J7_100 S F w0 w1 I y2 y3 q_94)
def f_X10_splits_B43 (S : v_S) (F : v_F) (I : v_I) (w0 : Nat) (w1 : Int32) (w2 : Int32) (w3 : Int32) (s43 : Int32) : Option ((Int32) ⊕ (Int32)) :=
if w1 ≤ s43 then (
some (.inr s43))
else (
(p_ob S 10 w0).bind fun _ =>
(F w0 11).bind fun a_98 =>
(p_ix S 21 a_98 s43).bind fun j_100 =>
(f_X10_isSmall (I a_98 j_100)).bind fun r_102 =>
if r_102 = (0 : Int32) then (
some (.inr s43))
else (
p_let (s43 + (1 : Int32)) fun x_105 =>
some (.inl x_105)))
def f_X10_splits_B7 (S : v_S) (F : v_F) (w0 : Nat) (w1 : Int32) (s7 : Int32 × v_I) : Option ((Int32 × v_I) ⊕ (Int32 × v_I)) :=
if w1 ≤ s7.1 then (
some (.inr (s7.1, s7.2)))
else (
(p_ob S 10 w0).bind fun _ =>
(F w0 11).bind fun a_6 =>
(p_ix S 21 a_6 s7.1).bind fun j_8 =>
p_let (s7.2 a_6 j_8) fun x_10 =>
if x_10 = (32 : Int32) then (
p_let (s7.1 + (1 : Int32)) fun x_109 =>
some (.inl (x_109, s7.2)))
else (
p_let (s7.1 + (1 : Int32)) fun x_13 =>
(f_X10_isSmall x_10).bind fun r_15 =>
if r_15 = (0 : Int32) then (
f_X10_splits_J7_68 S F w0 w1 s7.2 s7.1 x_10 x_13)
else (
(v_loop (f_X10_splits_B43 S F s7.2 w0 w1 s7.1 x_10) FU x_13).bind fun q_107 =>
f_X10_splits_J7_68 S F w0 w1 s7.2 s7.1 x_10 q_107)))
def f_X10_splits (S : v_S) (I : v_I) (F : v_F) (p0 : Nat) (p1 : Int32) : Option (v_I) :=
(p_ob S 10 p0).bind fun _ =>
p_let (v_up I p0 18 (0 : Int32)) fun I_2 =>
(v_loop (f_X10_splits_B7 S F p0 p1) FU ((0 : Int32), I_2)).bind fun q_111 =>
(F p0 17).bind fun a_113 =>
(p_ix S 20 a_113 (q_111.2 p0 18)).bind fun j_115 =>
p_let (v_up q_111.2 a_113 j_115 p1) fun I_117 =>
(F p0 15).bind fun a_119 =>
(p_ix S 20 a_119 (I_117 p0 18)).bind fun j_121 =>
p_let (v_up I_117 a_119 j_121 (0 : Int32)) fun I_123 =>
(F p0 16).bind fun a_125 =>
(p_ix S 20 a_125 (I_123 p0 18)).bind fun j_127 =>
p_let (v_up I_123 a_125 j_127 (0 : Int32)) fun I_129 =>
some (I_129)
set_option maxHeartbeats 4000000 in
set_option maxRecDepth 100000 in
theorem t_X10_splits {p0 : Nat} {p1 : Int32} {r : v_I} (h : f_X10_splits S I F p0 p1 = some r) : v_R l B D ac (v_EE B wa wb wt sb sL sx) yX10_splits cX10_splits 6 none 2 0 0 [.ref (B + p0), .int p1] S I J F (v_D none S r J F) := by
  refine v_R.of (by decide) (Nat.le_of_ble_eq_true rfl) fun d hd => ?_
  generalize hQ : v_D none S r J F = Q
  have b7 : ∀ (w0 : Nat) (w1 : Int32) (s7 : Int32 × v_I) (rx7 : (Int32 × v_I) ⊕ (Int32 × v_I)), f_X10_splits_B7 S F w0 w1 s7 = some rx7 → v_K (fun (sP : Int32 × v_I) => V l B D ac (v_EE B wa wb wt sb sL sx) yX10_splits cX10_splits 6 none d 0 0 0 0 S sP.2 J F 7 [(0, .ref (B + w0)), (1, .int w1), (2, .int sP.1)] [] Q) (fun (rE : Int32 × v_I) => V l B D ac (v_EE B wa wb wt sb sL sx) yX10_splits cX10_splits 6 none d 0 0 0 0 S rE.2 J F 263 [(0, .ref (B + w0)), (1, .int w1)] [] Q) rx7 → V l B D ac (v_EE B wa wb wt sb sL sx) yX10_splits cX10_splits 6 none d 0 0 0 0 S s7.2 J F 7 [(0, .ref (B + w0)), (1, .int w1), (2, .int s7.1)] [] Q := by
    intro w0 w1 s7 rx7 h hk
    have b169 : ∀ (w0 : Nat) (w1 : Int32) (w3 : Int32) (w4 : Int32) (s169 : Int32 × v_I) (rx169 : (Int32 × v_I) ⊕ (Int32 × v_I)), f_X10_splits_B169 S F w0 w1 w3 w4 s169 = some rx169 → v_K (fun (sP : Int32 × v_I) => V l B D ac (v_EE B wa wb wt sb sL sx) yX10_splits cX10_splits 6 none d 0 0 0 0 S sP.2 J F 169 [(0, .ref (B + w0)), (1, .int w1), (3, .int w3), (4, .int w4), (5, .int sP.1)] [] Q) (fun (rE : Int32 × v_I) => V l B D ac (v_EE B wa wb wt sb sL sx) yX10_splits cX10_splits 6 none d 0 0 0 0 S rE.2 J F 247 [(0, .ref (B + w0)), (1, .int w1), (4, .int w4)] [] Q) rx169 → V l B D ac (v_EE B wa wb wt sb sL sx) yX10_splits cX10_splits 6 none d 0 0 0 0 S s169.2 J F 169 [(0, .ref (B + w0)), (1, .int w1), (3, .int w3), (4, .int w4), (5, .int s169.1)] [] Q := by
      intro w0 w1 w3 w4 s169 rx169 h hk
      have j240 : ∀ (I : v_I) (y5 : Int32) (z0 : Int32) (z1 : Int32) (z2 : Nat), f_X10_splits_J169_240 S F w0 w1 w3 w4 I y5 z0 z1 z2 = some rx169 → V l B D ac (v_EE B wa wb wt sb sL sx) yX10_splits cX10_splits 6 none d 0 0 0 0 S I J F 240 [(0, .ref (B + w0)), (1, .int w1), (3, .int w3), (4, .int w4), (5, .int y5)] [.int z0, .int z1, .ref (B + z2)] Q := by
        intro I y5 z0 z1 z2 h
        unfold f_X10_splits_J169_240 at h
        replace h := p_bind_elim h
        obtain ⟨j_66, q_67, h⟩ := h
        refine v_iastP dX10_splits_240 q_67 ?_
        replace h := p_let_elim h
        obtain ⟨I_68, h_69, h⟩ := h
        rw [← h_69]
        replace h := p_let_elim h
        obtain ⟨x_70, h_71, h⟩ := h
        refine v_iincE (1 : Int32) dX10_splits_241 (by decide) rfl (by decide) ?_
        rw [← h_71]
        refine v_sub [(0, .ref (B + w0)), (1, .int w1), (3, .int w3), (4, .int w4), (5, .int x_70)] ⟨rfl, rfl, rfl, rfl, rfl, trivial⟩ ?_
        refine v_goto 169 dX10_splits_244 (by decide) ?_
        cases h
        refine v_sub [(0, .ref (B + w0)), (1, .int w1), (3, .int w3), (4, .int w4), (5, .int x_70)] ⟨rfl, rfl, rfl, rfl, rfl, trivial⟩ ?_
        exact hk
      unfold f_X10_splits_B169 at h
      refine v_iload dX10_splits_169 rfl ?_
      refine v_iload dX10_splits_171 rfl ?_
      refine v_icmp_ge 247 dX10_splits_173 (by decide) (fun c_46 => ?_) (fun c_46 => ?_)
      · rw [if_pos c_46] at h
        cases h
        refine v_sub [(0, .ref (B + w0)), (1, .int w1), (4, .int w4)] ⟨rfl, rfl, rfl, trivial⟩ ?_
        exact hk
      · rw [if_neg c_46] at h
        refine v_iload_n dX10_splits_176 rfl ?_
        replace h := p_bind_elim h
        obtain ⟨r_47, q_48, h⟩ := h
        refine v_cSr (t_X10_isDigit q_48) cal_X10_isDigit ml_X10_180 sta_X10_isDigit dX10_splits_177 (by omega) (by decide) (by decide) (Nat.le_of_ble_eq_true rfl) rfl ?_
        refine v_if_eq 247 dX10_splits_180 (by decide) (fun c_49 => ?_) (fun c_49 => ?_)
        · rw [if_pos c_49] at h
          cases h
          refine v_sub [(0, .ref (B + w0)), (1, .int w1), (4, .int w4)] ⟨rfl, rfl, rfl, trivial⟩ ?_
          exact hk
        · rw [if_neg c_49] at h
          refine v_aload_n dX10_splits_183 rfl ?_
          replace h := p_bind_elim h
          obtain ⟨_, q_50, h⟩ := h
          have q_50 := p_ob_spec q_50
          replace h := p_bind_elim h
          obtain ⟨a_51, q_52, h⟩ := h
          refine v_getR q_52 rfl fl_X10_57 dX10_splits_184 q_50 ?_
          refine v_aload_n dX10_splits_187 rfl ?_
          refine v_getI rfl fl_X10_174 dX10_splits_188 q_50 ?_
          refine v_aload_n dX10_splits_191 rfl ?_
          replace h := p_bind_elim h
          obtain ⟨a_53, q_54, h⟩ := h
          refine v_getR q_54 rfl fl_X10_57 dX10_splits_192 q_50 ?_
          refine v_aload_n dX10_splits_195 rfl ?_
          refine v_getI rfl fl_X10_174 dX10_splits_196 q_50 ?_
          replace h := p_bind_elim h
          obtain ⟨j_55, q_56, h⟩ := h
          refine v_ialdP dX10_splits_199 q_56 ?_
          refine v_ldc (1000000 : Int32) dX10_splits_200 kn_X10_186 ?_
          refine v_icmp_le 217 dX10_splits_202 (by decide) (fun c_57 => ?_) (fun c_57 => ?_)
          · rw [if_pos c_57] at h
            refine v_bipush (10 : Int32) dX10_splits_217 (by decide) ?_
            refine v_aload_n dX10_splits_219 rfl ?_
            replace h := p_bind_elim h
            obtain ⟨a_58, q_59, h⟩ := h
            refine v_getR q_59 rfl fl_X10_57 dX10_splits_220 q_50 ?_
            refine v_aload_n dX10_splits_223 rfl ?_
            refine v_getI rfl fl_X10_174 dX10_splits_224 q_50 ?_
            replace h := p_bind_elim h
            obtain ⟨j_60, q_61, h⟩ := h
            refine v_ialdP dX10_splits_227 q_61 ?_
            refine v_imul dX10_splits_228 ?_
            refine v_aload_n dX10_splits_229 rfl ?_
            replace h := p_bind_elim h
            obtain ⟨a_62, q_63, h⟩ := h
            refine v_getR q_63 rfl fl_X10_45 dX10_splits_230 q_50 ?_
            refine v_iload dX10_splits_233 rfl ?_
            replace h := p_bind_elim h
            obtain ⟨j_64, q_65, h⟩ := h
            refine v_baldP dX10_splits_235 q_65 ?_
            refine v_iadd dX10_splits_236 ?_
            refine v_bipush (48 : Int32) dX10_splits_237 (by decide) ?_
            refine v_isub dX10_splits_239 ?_
            refine v_sub [(0, .ref (B + w0)), (1, .int w1), (3, .int w3), (4, .int w4), (5, .int s169.1)] ⟨rfl, rfl, rfl, rfl, rfl, trivial⟩ ?_
            exact j240 _ _ _ _ _ h
          · rw [if_neg c_57] at h
            refine v_aload_n dX10_splits_205 rfl ?_
            replace h := p_bind_elim h
            obtain ⟨a_72, q_73, h⟩ := h
            refine v_getR q_73 rfl fl_X10_57 dX10_splits_206 q_50 ?_
            refine v_aload_n dX10_splits_209 rfl ?_
            refine v_getI rfl fl_X10_174 dX10_splits_210 q_50 ?_
            replace h := p_bind_elim h
            obtain ⟨j_74, q_75, h⟩ := h
            refine v_ialdP dX10_splits_213 q_75 ?_
            refine v_goto 240 dX10_splits_214 (by decide) ?_
            refine v_sub [(0, .ref (B + w0)), (1, .int w1), (3, .int w3), (4, .int w4), (5, .int s169.1)] ⟨rfl, rfl, rfl, rfl, rfl, trivial⟩ ?_
            exact j240 _ _ _ _ _ h
    have j247 : ∀ (I : v_I) (y4 : Int32), f_X10_splits_J7_247 S F w0 w1 I y4 = some rx7 → V l B D ac (v_EE B wa wb wt sb sL sx) yX10_splits cX10_splits 6 none d 0 0 0 0 S I J F 247 [(0, .ref (B + w0)), (1, .int w1), (4, .int y4)] [] Q := by
      intro I y4 h
      unfold f_X10_splits_J7_247 at h
      refine v_aload_n dX10_splits_247 rfl ?_
      refine v_dup dX10_splits_248 rfl ?_
      replace h := p_bind_elim h
      obtain ⟨_, q_78, h⟩ := h
      have q_78 := p_ob_spec q_78
      refine v_getI rfl fl_X10_174 dX10_splits_249 q_78 ?_
      refine v_iconstE (1 : Int32) dX10_splits_252 (by decide) ?_
      refine v_iadd dX10_splits_253 ?_
      refine v_putI rfl fl_X10_174 dX10_splits_254 q_78 rfl rfl ?_
      replace h := p_let_elim h
      obtain ⟨I_79, h_80, h⟩ := h
      rw [← h_80]
      refine v_iload dX10_splits_257 rfl ?_
      refine v_istore_n dX10_splits_259 (by decide) ?_
      refine v_sub [(0, .ref (B + w0)), (1, .int w1), (2, .int y4)] ⟨rfl, rfl, rfl, trivial⟩ ?_
      refine v_goto 7 dX10_splits_260 (by decide) ?_
      cases h
      refine v_sub [(0, .ref (B + w0)), (1, .int w1), (2, .int y4)] ⟨rfl, rfl, rfl, trivial⟩ ?_
      exact hk
    have j165 : ∀ (I : v_I) (y2 : Int32) (y3 : Int32) (y4 : Int32) (z0 : Int32) (z1 : Int32) (z2 : Nat), f_X10_splits_J7_165 S F w0 w1 I y2 y3 y4 z0 z1 z2 = some rx7 → V l B D ac (v_EE B wa wb wt sb sL sx) yX10_splits cX10_splits 6 none d 0 0 0 0 S I J F 165 [(0, .ref (B + w0)), (1, .int w1), (2, .int y2), (3, .int y3), (4, .int y4)] [.int z0, .int z1, .ref (B + z2)] Q := by
      intro I y2 y3 y4 z0 z1 z2 h
      unfold f_X10_splits_J7_165 at h
      replace h := p_bind_elim h
      obtain ⟨j_42, q_43, h⟩ := h
      refine v_iastP dX10_splits_165 q_43 ?_
      replace h := p_let_elim h
      obtain ⟨I_44, h_45, h⟩ := h
      rw [← h_45]
      refine v_iload_n dX10_splits_166 rfl ?_
      refine v_istore dX10_splits_167 (by decide) ?_
      refine v_sub [(0, .ref (B + w0)), (1, .int w1), (3, .int y3), (4, .int y4), (5, .int y2)] ⟨rfl, rfl, rfl, rfl, rfl, trivial⟩ ?_
      replace h := p_bind_elim h
      obtain ⟨q_76, h_77, h⟩ := h
      refine v_sub [(0, .ref (B + w0)), (1, .int w1), (3, .int y3), (4, .int y4), (5, .int y2)] ⟨rfl, rfl, rfl, rfl, rfl, trivial⟩ ?_
      refine v_loopV (fun (sP : Int32 × v_I) => V l B D ac (v_EE B wa wb wt sb sL sx) yX10_splits cX10_splits 6 none d 0 0 0 0 S sP.2 J F 169 [(0, .ref (B + w0)), (1, .int w1), (3, .int y3), (4, .int y4), (5, .int sP.1)] [] Q) (fun (rE : Int32 × v_I) => V l B D ac (v_EE B wa wb wt sb sL sx) yX10_splits cX10_splits 6 none d 0 0 0 0 S rE.2 J F 247 [(0, .ref (B + w0)), (1, .int w1), (4, .int y4)] [] Q) (fun s_ x_ hb hk => b169 _ _ _ _ s_ x_ hb hk) (r := q_76) ?_ h_77
      try dsimp only
      refine v_sub [(0, .ref (B + w0)), (1, .int w1), (4, .int y4)] ⟨rfl, rfl, rfl, trivial⟩ ?_
      exact j247 _ _ h
    have j100 : ∀ (I : v_I) (y2 : Int32) (y3 : Int32) (y4 : Int32), f_X10_splits_J7_100 S F w0 w1 I y2 y3 y4 = some rx7 → V l B D ac (v_EE B wa wb wt sb sL sx) yX10_splits cX10_splits 6 none d 0 0 0 0 S I J F 100 [(0, .ref (B + w0)), (1, .int w1), (2, .int y2), (3, .int y3), (4, .int y4)] [] Q := by
      intro I y2 y3 y4 h
      unfold f_X10_splits_J7_100 at h
      refine v_aload_n dX10_splits_100 rfl ?_
      replace h := p_bind_elim h
      obtain ⟨_, q_21, h⟩ := h
      have q_21 := p_ob_spec q_21
      replace h := p_bind_elim h
      obtain ⟨a_22, q_23, h⟩ := h
      refine v_getR q_23 rfl fl_X10_60 dX10_splits_101 q_21 ?_
      refine v_aload_n dX10_splits_104 rfl ?_
      refine v_getI rfl fl_X10_174 dX10_splits_105 q_21 ?_
      refine v_iload_n dX10_splits_108 rfl ?_
      replace h := p_bind_elim h
      obtain ⟨j_24, q_25, h⟩ := h
      refine v_iastP dX10_splits_109 q_25 ?_
      replace h := p_let_elim h
      obtain ⟨I_26, h_27, h⟩ := h
      rw [← h_27]
      refine v_aload_n dX10_splits_110 rfl ?_
      replace h := p_bind_elim h
      obtain ⟨a_28, q_29, h⟩ := h
      refine v_getR q_29 rfl fl_X10_57 dX10_splits_111 q_21 ?_
      refine v_aload_n dX10_splits_114 rfl ?_
      refine v_getI rfl fl_X10_174 dX10_splits_115 q_21 ?_
      refine v_iconstE (0 : Int32) dX10_splits_118 (by decide) ?_
      replace h := p_bind_elim h
      obtain ⟨j_30, q_31, h⟩ := h
      refine v_iastP dX10_splits_119 q_31 ?_
      replace h := p_let_elim h
      obtain ⟨I_32, h_33, h⟩ := h
      rw [← h_33]
      refine v_aload_n dX10_splits_120 rfl ?_
      replace h := p_bind_elim h
      obtain ⟨a_34, q_35, h⟩ := h
      refine v_getR q_35 rfl fl_X10_54 dX10_splits_121 q_21 ?_
      refine v_aload_n dX10_splits_124 rfl ?_
      refine v_getI rfl fl_X10_174 dX10_splits_125 q_21 ?_
      refine v_iload_n dX10_splits_128 rfl ?_
      replace h := p_bind_elim h
      obtain ⟨r_36, q_37, h⟩ := h
      refine v_cSr (t_X10_isSmall q_37) cal_X10_isSmall ml_X10_177 sta_X10_isSmall dX10_splits_129 (by omega) (by decide) (by decide) (Nat.le_of_ble_eq_true rfl) rfl ?_
      refine v_if_eq 145 dX10_splits_132 (by decide) (fun c_38 => ?_) (fun c_38 => ?_)
      · rw [if_pos c_38] at h
        refine v_iload_n dX10_splits_145 rfl ?_
        replace h := p_bind_elim h
        obtain ⟨r_39, q_40, h⟩ := h
        refine v_cSr (t_X10_isDigit q_40) cal_X10_isDigit ml_X10_180 sta_X10_isDigit dX10_splits_146 (by omega) (by decide) (by decide) (Nat.le_of_ble_eq_true rfl) rfl ?_
        refine v_if_eq 157 dX10_splits_149 (by decide) (fun c_41 => ?_) (fun c_41 => ?_)
        · rw [if_pos c_41] at h
          refine v_bipush (100 : Int32) dX10_splits_157 (by decide) ?_
          refine v_iload_n dX10_splits_159 rfl ?_
          refine v_sipush (255 : Int32) dX10_splits_160 (by decide) ?_
          refine v_iand dX10_splits_163 ?_
          refine v_iadd dX10_splits_164 ?_
          refine v_sub [(0, .ref (B + w0)), (1, .int w1), (2, .int y2), (3, .int y3), (4, .int y4)] ⟨rfl, rfl, rfl, rfl, rfl, trivial⟩ ?_
          exact j165 _ _ _ _ _ _ _ h
        · rw [if_neg c_41] at h
          refine v_bipush (50 : Int32) dX10_splits_152 (by decide) ?_
          refine v_goto 165 dX10_splits_154 (by decide) ?_
          refine v_sub [(0, .ref (B + w0)), (1, .int w1), (2, .int y2), (3, .int y3), (4, .int y4)] ⟨rfl, rfl, rfl, rfl, rfl, trivial⟩ ?_
          exact j165 _ _ _ _ _ _ _ h
      · rw [if_neg c_38] at h
        refine v_aload_n dX10_splits_135 rfl ?_
        refine v_iload_n dX10_splits_136 rfl ?_
        refine v_iload dX10_splits_137 rfl ?_
        replace h := p_bind_elim h
        obtain ⟨r_81, q_82, h⟩ := h
        refine v_cVr (t_X10_wordOf q_82) cal_X10_wordOf ml_X10_183 sel_X10_wordOf q_21 kk_10 dX10_splits_139 (by omega) (by decide) (by decide) (Nat.le_of_ble_eq_true rfl) rfl ?_
        refine v_goto 165 dX10_splits_142 (by decide) ?_
        refine v_sub [(0, .ref (B + w0)), (1, .int w1), (2, .int y2), (3, .int y3), (4, .int y4)] ⟨rfl, rfl, rfl, rfl, rfl, trivial⟩ ?_
        exact j165 _ _ _ _ _ _ _ h
    have b75 : ∀ (I : v_I) (w0 : Nat) (w1 : Int32) (w2 : Int32) (w3 : Int32) (s75 : Int32) (rx75 : (Int32) ⊕ (Int32)), f_X10_splits_B75 S F I w0 w1 w2 w3 s75 = some rx75 → v_K (fun (sP : Int32) => V l B D ac (v_EE B wa wb wt sb sL sx) yX10_splits cX10_splits 6 none d 0 0 0 0 S I J F 75 [(0, .ref (B + w0)), (1, .int w1), (2, .int w2), (3, .int w3), (4, .int sP)] [] Q) (fun (rE : Int32) => V l B D ac (v_EE B wa wb wt sb sL sx) yX10_splits cX10_splits 6 none d 0 0 0 0 S I J F 100 [(0, .ref (B + w0)), (1, .int w1), (2, .int w2), (3, .int w3), (4, .int rE)] [] Q) rx75 → V l B D ac (v_EE B wa wb wt sb sL sx) yX10_splits cX10_splits 6 none d 0 0 0 0 S I J F 75 [(0, .ref (B + w0)), (1, .int w1), (2, .int w2), (3, .int w3), (4, .int s75)] [] Q := by
      intro I w0 w1 w2 w3 s75 rx75 h hk
      unfold f_X10_splits_B75 at h
      refine v_iload dX10_splits_75 rfl ?_
      refine v_iload_n dX10_splits_77 rfl ?_
      refine v_icmp_ge 100 dX10_splits_78 (by decide) (fun c_83 => ?_) (fun c_83 => ?_)
      · rw [if_pos c_83] at h
        cases h
        refine v_sub [(0, .ref (B + w0)), (1, .int w1), (2, .int w2), (3, .int w3), (4, .int s75)] ⟨rfl, rfl, rfl, rfl, rfl, trivial⟩ ?_
        exact hk
      · rw [if_neg c_83] at h
        refine v_aload_n dX10_splits_81 rfl ?_
        replace h := p_bind_elim h
        obtain ⟨_, q_84, h⟩ := h
        have q_84 := p_ob_spec q_84
        replace h := p_bind_elim h
        obtain ⟨a_85, q_86, h⟩ := h
        refine v_getR q_86 rfl fl_X10_45 dX10_splits_82 q_84 ?_
        refine v_iload dX10_splits_85 rfl ?_
        replace h := p_bind_elim h
        obtain ⟨j_87, q_88, h⟩ := h
        refine v_baldP dX10_splits_87 q_88 ?_
        replace h := p_bind_elim h
        obtain ⟨r_89, q_90, h⟩ := h
        refine v_cSr (t_X10_isDigit q_90) cal_X10_isDigit ml_X10_180 sta_X10_isDigit dX10_splits_88 (by omega) (by decide) (by decide) (Nat.le_of_ble_eq_true rfl) rfl ?_
        refine v_if_eq 100 dX10_splits_91 (by decide) (fun c_91 => ?_) (fun c_91 => ?_)
        · rw [if_pos c_91] at h
          cases h
          refine v_sub [(0, .ref (B + w0)), (1, .int w1), (2, .int w2), (3, .int w3), (4, .int s75)] ⟨rfl, rfl, rfl, rfl, rfl, trivial⟩ ?_
          exact hk
        · rw [if_neg c_91] at h
          replace h := p_let_elim h
          obtain ⟨x_92, h_93, h⟩ := h
          refine v_iincE (1 : Int32) dX10_splits_94 (by decide) rfl (by decide) ?_
          rw [← h_93]
          refine v_sub [(0, .ref (B + w0)), (1, .int w1), (2, .int w2), (3, .int w3), (4, .int x_92)] ⟨rfl, rfl, rfl, rfl, rfl, trivial⟩ ?_
          refine v_goto 75 dX10_splits_97 (by decide) ?_
          cases h
          refine v_sub [(0, .ref (B + w0)), (1, .int w1), (2, .int w2), (3, .int w3), (4, .int x_92)] ⟨rfl, rfl, rfl, rfl, rfl, trivial⟩ ?_
          exact hk
    have j68 : ∀ (I : v_I) (y2 : Int32) (y3 : Int32) (y4 : Int32), f_X10_splits_J7_68 S F w0 w1 I y2 y3 y4 = some rx7 → V l B D ac (v_EE B wa wb wt sb sL sx) yX10_splits cX10_splits 6 none d 0 0 0 0 S I J F 68 [(0, .ref (B + w0)), (1, .int w1), (2, .int y2), (3, .int y3), (4, .int y4)] [] Q := by
      intro I y2 y3 y4 h
      unfold f_X10_splits_J7_68 at h
      refine v_iload_n dX10_splits_68 rfl ?_
      replace h := p_bind_elim h
      obtain ⟨r_18, q_19, h⟩ := h
      refine v_cSr (t_X10_isDigit q_19) cal_X10_isDigit ml_X10_180 sta_X10_isDigit dX10_splits_69 (by omega) (by decide) (by decide) (Nat.le_of_ble_eq_true rfl) rfl ?_
      refine v_if_eq 100 dX10_splits_72 (by decide) (fun c_20 => ?_) (fun c_20 => ?_)
      · rw [if_pos c_20] at h
        refine v_sub [(0, .ref (B + w0)), (1, .int w1), (2, .int y2), (3, .int y3), (4, .int y4)] ⟨rfl, rfl, rfl, rfl, rfl, trivial⟩ ?_
        exact j100 _ _ _ _ h
      · rw [if_neg c_20] at h
        replace h := p_bind_elim h
        obtain ⟨q_94, h_95, h⟩ := h
        refine v_sub [(0, .ref (B + w0)), (1, .int w1), (2, .int y2), (3, .int y3), (4, .int y4)] ⟨rfl, rfl, rfl, rfl, rfl, trivial⟩ ?_
        refine v_loopV (fun (sP : Int32) => V l B D ac (v_EE B wa wb wt sb sL sx) yX10_splits cX10_splits 6 none d 0 0 0 0 S I J F 75 [(0, .ref (B + w0)), (1, .int w1), (2, .int y2), (3, .int y3), (4, .int sP)] [] Q) (fun (rE : Int32) => V l B D ac (v_EE B wa wb wt sb sL sx) yX10_splits cX10_splits 6 none d 0 0 0 0 S I J F 100 [(0, .ref (B + w0)), (1, .int w1), (2, .int y2), (3, .int y3), (4, .int rE)] [] Q) (fun s_ x_ hb hk => b75 _ _ _ _ _ s_ x_ hb hk) (r := q_94) ?_ h_95
        try dsimp only
        refine v_sub [(0, .ref (B + w0)), (1, .int w1), (2, .int y2), (3, .int y3), (4, .int q_94)] ⟨rfl, rfl, rfl, rfl, rfl, trivial⟩ ?_
        exact j100 _ _ _ _ h
    have b43 : ∀ (I : v_I) (w0 : Nat) (w1 : Int32) (w2 : Int32) (w3 : Int32) (s43 : Int32) (rx43 : (Int32) ⊕ (Int32)), f_X10_splits_B43 S F I w0 w1 w2 w3 s43 = some rx43 → v_K (fun (sP : Int32) => V l B D ac (v_EE B wa wb wt sb sL sx) yX10_splits cX10_splits 6 none d 0 0 0 0 S I J F 43 [(0, .ref (B + w0)), (1, .int w1), (2, .int w2), (3, .int w3), (4, .int sP)] [] Q) (fun (rE : Int32) => V l B D ac (v_EE B wa wb wt sb sL sx) yX10_splits cX10_splits 6 none d 0 0 0 0 S I J F 68 [(0, .ref (B + w0)), (1, .int w1), (2, .int w2), (3, .int w3), (4, .int rE)] [] Q) rx43 → V l B D ac (v_EE B wa wb wt sb sL sx) yX10_splits cX10_splits 6 none d 0 0 0 0 S I J F 43 [(0, .ref (B + w0)), (1, .int w1), (2, .int w2), (3, .int w3), (4, .int s43)] [] Q := by
      intro I w0 w1 w2 w3 s43 rx43 h hk
      unfold f_X10_splits_B43 at h
      refine v_iload dX10_splits_43 rfl ?_
      refine v_iload_n dX10_splits_45 rfl ?_
      refine v_icmp_ge 68 dX10_splits_46 (by decide) (fun c_96 => ?_) (fun c_96 => ?_)
      · rw [if_pos c_96] at h
        cases h
        refine v_sub [(0, .ref (B + w0)), (1, .int w1), (2, .int w2), (3, .int w3), (4, .int s43)] ⟨rfl, rfl, rfl, rfl, rfl, trivial⟩ ?_
        exact hk
      · rw [if_neg c_96] at h
        refine v_aload_n dX10_splits_49 rfl ?_
        replace h := p_bind_elim h
        obtain ⟨_, q_97, h⟩ := h
        have q_97 := p_ob_spec q_97
        replace h := p_bind_elim h
        obtain ⟨a_98, q_99, h⟩ := h
        refine v_getR q_99 rfl fl_X10_45 dX10_splits_50 q_97 ?_
        refine v_iload dX10_splits_53 rfl ?_
        replace h := p_bind_elim h
        obtain ⟨j_100, q_101, h⟩ := h
        refine v_baldP dX10_splits_55 q_101 ?_
        replace h := p_bind_elim h
        obtain ⟨r_102, q_103, h⟩ := h
        refine v_cSr (t_X10_isSmall q_103) cal_X10_isSmall ml_X10_177 sta_X10_isSmall dX10_splits_56 (by omega) (by decide) (by decide) (Nat.le_of_ble_eq_true rfl) rfl ?_
        refine v_if_eq 68 dX10_splits_59 (by decide) (fun c_104 => ?_) (fun c_104 => ?_)
        · rw [if_pos c_104] at h
          cases h
          refine v_sub [(0, .ref (B + w0)), (1, .int w1), (2, .int w2), (3, .int w3), (4, .int s43)] ⟨rfl, rfl, rfl, rfl, rfl, trivial⟩ ?_
          exact hk
        · rw [if_neg c_104] at h
          replace h := p_let_elim h
          obtain ⟨x_105, h_106, h⟩ := h
          refine v_iincE (1 : Int32) dX10_splits_62 (by decide) rfl (by decide) ?_
          rw [← h_106]
          refine v_sub [(0, .ref (B + w0)), (1, .int w1), (2, .int w2), (3, .int w3), (4, .int x_105)] ⟨rfl, rfl, rfl, rfl, rfl, trivial⟩ ?_
          refine v_goto 43 dX10_splits_65 (by decide) ?_
          cases h
          refine v_sub [(0, .ref (B + w0)), (1, .int w1), (2, .int w2), (3, .int w3), (4, .int x_105)] ⟨rfl, rfl, rfl, rfl, rfl, trivial⟩ ?_
          exact hk
    unfold f_X10_splits_B7 at h
    refine v_iload_n dX10_splits_7 rfl ?_
    refine v_iload_n dX10_splits_8 rfl ?_
    refine v_icmp_ge 263 dX10_splits_9 (by decide) (fun c_4 => ?_) (fun c_4 => ?_)
    · rw [if_pos c_4] at h
      cases h
      refine v_sub [(0, .ref (B + w0)), (1, .int w1)] ⟨rfl, rfl, trivial⟩ ?_
      exact hk
    · rw [if_neg c_4] at h
      refine v_aload_n dX10_splits_12 rfl ?_
      replace h := p_bind_elim h
      obtain ⟨_, q_5, h⟩ := h
      have q_5 := p_ob_spec q_5
      replace h := p_bind_elim h
      obtain ⟨a_6, q_7, h⟩ := h
      refine v_getR q_7 rfl fl_X10_45 dX10_splits_13 q_5 ?_
      refine v_iload_n dX10_splits_16 rfl ?_
      replace h := p_bind_elim h
      obtain ⟨j_8, q_9, h⟩ := h
      refine v_baldP dX10_splits_17 q_9 ?_
      replace h := p_let_elim h
      obtain ⟨x_10, h_11, h⟩ := h
      rw [← h_11]
      refine v_istore_n dX10_splits_18 (by decide) ?_
      refine v_sub [(0, .ref (B + w0)), (1, .int w1), (2, .int s7.1), (3, .int x_10)] ⟨rfl, rfl, rfl, rfl, trivial⟩ ?_
      refine v_iload_n dX10_splits_19 rfl ?_
      refine v_bipush (32 : Int32) dX10_splits_20 (by decide) ?_
      refine v_icmp_ne 31 dX10_splits_22 (by decide) (fun c_12 => ?_) (fun c_12 => ?_)
      · rw [if_neg c_12] at h
        refine v_iload_n dX10_splits_31 rfl ?_
        refine v_iconstE (1 : Int32) dX10_splits_32 (by decide) ?_
        refine v_iadd dX10_splits_33 ?_
        replace h := p_let_elim h
        obtain ⟨x_13, h_14, h⟩ := h
        rw [← h_14]
        refine v_istore dX10_splits_34 (by decide) ?_
        refine v_sub [(0, .ref (B + w0)), (1, .int w1), (2, .int s7.1), (3, .int x_10), (4, .int x_13)] ⟨rfl, rfl, rfl, rfl, rfl, trivial⟩ ?_
        refine v_iload_n dX10_splits_36 rfl ?_
        replace h := p_bind_elim h
        obtain ⟨r_15, q_16, h⟩ := h
        refine v_cSr (t_X10_isSmall q_16) cal_X10_isSmall ml_X10_177 sta_X10_isSmall dX10_splits_37 (by omega) (by decide) (by decide) (Nat.le_of_ble_eq_true rfl) rfl ?_
        refine v_if_eq 68 dX10_splits_40 (by decide) (fun c_17 => ?_) (fun c_17 => ?_)
        · rw [if_pos c_17] at h
          refine v_sub [(0, .ref (B + w0)), (1, .int w1), (2, .int s7.1), (3, .int x_10), (4, .int x_13)] ⟨rfl, rfl, rfl, rfl, rfl, trivial⟩ ?_
          exact j68 _ _ _ _ h
        · rw [if_neg c_17] at h
          replace h := p_bind_elim h
          obtain ⟨q_107, h_108, h⟩ := h
          refine v_sub [(0, .ref (B + w0)), (1, .int w1), (2, .int s7.1), (3, .int x_10), (4, .int x_13)] ⟨rfl, rfl, rfl, rfl, rfl, trivial⟩ ?_
          refine v_loopV (fun (sP : Int32) => V l B D ac (v_EE B wa wb wt sb sL sx) yX10_splits cX10_splits 6 none d 0 0 0 0 S s7.2 J F 43 [(0, .ref (B + w0)), (1, .int w1), (2, .int s7.1), (3, .int x_10), (4, .int sP)] [] Q) (fun (rE : Int32) => V l B D ac (v_EE B wa wb wt sb sL sx) yX10_splits cX10_splits 6 none d 0 0 0 0 S s7.2 J F 68 [(0, .ref (B + w0)), (1, .int w1), (2, .int s7.1), (3, .int x_10), (4, .int rE)] [] Q) (fun s_ x_ hb hk => b43 _ _ _ _ _ s_ x_ hb hk) (r := q_107) ?_ h_108
          try dsimp only
          refine v_sub [(0, .ref (B + w0)), (1, .int w1), (2, .int s7.1), (3, .int x_10), (4, .int q_107)] ⟨rfl, rfl, rfl, rfl, rfl, trivial⟩ ?_
          exact j68 _ _ _ _ h
      · rw [if_pos c_12] at h
        replace h := p_let_elim h
        obtain ⟨x_109, h_110, h⟩ := h
        refine v_iincE (1 : Int32) dX10_splits_25 (by decide) rfl (by decide) ?_
        rw [← h_110]
        refine v_sub [(0, .ref (B + w0)), (1, .int w1), (2, .int x_109)] ⟨rfl, rfl, rfl, trivial⟩ ?_
        refine v_goto 7 dX10_splits_28 (by decide) ?_
        cases h
        refine v_sub [(0, .ref (B + w0)), (1, .int w1), (2, .int x_109)] ⟨rfl, rfl, rfl, trivial⟩ ?_
        exact hk
  unfold f_X10_splits at h
  refine v_sub [(0, .ref (B + p0)), (1, .int p1)] ⟨rfl, rfl, trivial⟩ ?_
  refine v_aload_n dX10_splits_0 rfl ?_
  refine v_iconstE (0 : Int32) dX10_splits_1 (by decide) ?_
  replace h := p_bind_elim h
  obtain ⟨_, q_1, h⟩ := h
  have q_1 := p_ob_spec q_1
  refine v_putI rfl fl_X10_174 dX10_splits_2 q_1 rfl rfl ?_
  replace h := p_let_elim h
  obtain ⟨I_2, h_3, h⟩ := h
  rw [← h_3]
  refine v_iconstE (0 : Int32) dX10_splits_5 (by decide) ?_
  refine v_istore_n dX10_splits_6 (by decide) ?_
  refine v_sub [(0, .ref (B + p0)), (1, .int p1), (2, .int (0 : Int32))] ⟨rfl, rfl, rfl, trivial⟩ ?_
  replace h := p_bind_elim h
  obtain ⟨q_111, h_112, h⟩ := h
  refine v_sub [(0, .ref (B + p0)), (1, .int p1), (2, .int (0 : Int32))] ⟨rfl, rfl, rfl, trivial⟩ ?_
  refine v_loopV (fun (sP : Int32 × v_I) => V l B D ac (v_EE B wa wb wt sb sL sx) yX10_splits cX10_splits 6 none d 0 0 0 0 S sP.2 J F 7 [(0, .ref (B + p0)), (1, .int p1), (2, .int sP.1)] [] Q) (fun (rE : Int32 × v_I) => V l B D ac (v_EE B wa wb wt sb sL sx) yX10_splits cX10_splits 6 none d 0 0 0 0 S rE.2 J F 263 [(0, .ref (B + p0)), (1, .int p1)] [] Q) (fun s_ x_ hb hk => b7 _ _ s_ x_ hb hk) (r := q_111) ?_ h_112
  try dsimp only
  refine v_aload_n dX10_splits_263 rfl ?_
  replace h := p_bind_elim h
  obtain ⟨a_113, q_114, h⟩ := h
  refine v_getR q_114 rfl fl_X10_60 dX10_splits_264 q_1 ?_
  refine v_aload_n dX10_splits_267 rfl ?_
  refine v_getI rfl fl_X10_174 dX10_splits_268 q_1 ?_
  refine v_iload_n dX10_splits_271 rfl ?_
  replace h := p_bind_elim h
  obtain ⟨j_115, q_116, h⟩ := h
  refine v_iastP dX10_splits_272 q_116 ?_
  replace h := p_let_elim h
  obtain ⟨I_117, h_118, h⟩ := h
  rw [← h_118]
  refine v_aload_n dX10_splits_273 rfl ?_
  replace h := p_bind_elim h
  obtain ⟨a_119, q_120, h⟩ := h
  refine v_getR q_120 rfl fl_X10_54 dX10_splits_274 q_1 ?_
  refine v_aload_n dX10_splits_277 rfl ?_
  refine v_getI rfl fl_X10_174 dX10_splits_278 q_1 ?_
  refine v_iconstE (0 : Int32) dX10_splits_281 (by decide) ?_
  replace h := p_bind_elim h
  obtain ⟨j_121, q_122, h⟩ := h
  refine v_iastP dX10_splits_282 q_122 ?_
  replace h := p_let_elim h
  obtain ⟨I_123, h_124, h⟩ := h
  rw [← h_124]
  refine v_aload_n dX10_splits_283 rfl ?_
  replace h := p_bind_elim h
  obtain ⟨a_125, q_126, h⟩ := h
  refine v_getR q_126 rfl fl_X10_57 dX10_splits_284 q_1 ?_
  refine v_aload_n dX10_splits_287 rfl ?_
  refine v_getI rfl fl_X10_174 dX10_splits_288 q_1 ?_
  refine v_iconstE (0 : Int32) dX10_splits_291 (by decide) ?_
  replace h := p_bind_elim h
  obtain ⟨j_127, q_128, h⟩ := h
  refine v_iastP dX10_splits_292 q_128 ?_
  replace h := p_let_elim h
  obtain ⟨I_129, h_130, h⟩ := h
  rw [← h_130]
  cases h
  exact v_vret dX10_splits_293 rfl (by decide) (by decide) (by rw [← hQ]; exact ⟨rfl, rfl, rfl, rfl, rfl⟩)

def f_X10_fault (S : v_S) (I : v_I) (p0 : Nat) : Option (Int32) :=
(p_ob S 10 p0).bind fun _ =>
some (I p0 14)
set_option maxHeartbeats 4000000 in
set_option maxRecDepth 100000 in
theorem t_X10_fault {p0 : Nat} {r : Int32} (h : f_X10_fault S I p0 = some r) : v_R l B D ac (v_EE B wa wb wt sb sL sx) yX10_fault cX10_fault 1 (some .int) 1 0 0 [.ref (B + p0)] S I J F (v_D (some (.int r)) S I J F) := by
  refine v_R.of (by decide) (Nat.le_of_ble_eq_true rfl) fun d hd => ?_
  generalize hQ : v_D (some (.int r)) S I J F = Q
  unfold f_X10_fault at h
  refine v_sub [(0, .ref (B + p0))] ⟨rfl, trivial⟩ ?_
  refine v_aload_n dX10_fault_0 rfl ?_
  replace h := p_bind_elim h
  obtain ⟨_, q_1, h⟩ := h
  have q_1 := p_ob_spec q_1
  refine v_getI rfl fl_X10_51 dX10_fault_1 q_1 ?_
  cases h
  exact v_iret dX10_fault_4 rfl (by decide) (by decide) (by rw [← hQ]; exact ⟨rfl, rfl, rfl, rfl, rfl⟩)

def f_X10_isLaw (S : v_S) (I : v_I) (F : v_F) (p0 : Nat) (p1 : Int32) : Option (Int32) :=
(p_ob S 10 p0).bind fun _ =>
(F p0 2).bind fun a_2 =>
(p_ix S 20 a_2 (51 : Int32)).bind fun j_4 =>
(f_X10_lies p1 (-1 : Int32) ((I a_2 j_4) - (1 : Int32))).bind fun r_6 =>
(p_bl r_6).bind fun _ =>
some (r_6)
set_option maxHeartbeats 4000000 in
set_option maxRecDepth 100000 in
theorem t_X10_isLaw {p0 : Nat} {p1 : Int32} {r : Int32} (h : f_X10_isLaw S I F p0 p1 = some r) : v_R l B D ac (v_EE B wa wb wt sb sL sx) yX10_isLaw cX10_isLaw 2 (some .boolean) 2 0 0 [.ref (B + p0), .int p1] S I J F (v_D (some (.int r)) S I J F) := by
  refine v_R.of (by decide) (Nat.le_of_ble_eq_true rfl) fun d hd => ?_
  generalize hQ : v_D (some (.int r)) S I J F = Q
  unfold f_X10_isLaw at h
  refine v_sub [(0, .ref (B + p0)), (1, .int p1)] ⟨rfl, rfl, trivial⟩ ?_
  refine v_iload_n dX10_isLaw_0 rfl ?_
  refine v_iconstE (-1 : Int32) dX10_isLaw_1 (by decide) ?_
  refine v_aload_n dX10_isLaw_2 rfl ?_
  replace h := p_bind_elim h
  obtain ⟨_, q_1, h⟩ := h
  have q_1 := p_ob_spec q_1
  replace h := p_bind_elim h
  obtain ⟨a_2, q_3, h⟩ := h
  refine v_getR q_3 rfl fl_X10_28 dX10_isLaw_3 q_1 ?_
  refine v_bipush (51 : Int32) dX10_isLaw_6 (by decide) ?_
  replace h := p_bind_elim h
  obtain ⟨j_4, q_5, h⟩ := h
  refine v_ialdP dX10_isLaw_8 q_5 ?_
  refine v_iconstE (1 : Int32) dX10_isLaw_9 (by decide) ?_
  refine v_isub dX10_isLaw_10 ?_
  replace h := p_bind_elim h
  obtain ⟨r_6, q_7, h⟩ := h
  refine v_cSr (t_X10_lies q_7) cal_X10_lies ml_X10_18 sta_X10_lies dX10_isLaw_11 (by omega) (by decide) (by decide) (Nat.le_of_ble_eq_true rfl) rfl ?_
  replace h := p_bind_elim h
  obtain ⟨_, q_8, h⟩ := h
  cases h
  exact v_zret dX10_isLaw_14 rfl (p_bl_spec q_8).1 (by decide) (by decide) (by rw [← hQ]; exact ⟨rfl, rfl, rfl, rfl, rfl⟩)

def f_X10_force (S : v_S) (I : v_I) (F : v_F) (p0 : Nat) (p1 : Int32) : Option (Int32 × v_I) :=
(p_ob S 10 p0).bind fun _ =>
(f_X10_isLaw S I F p0 p1).bind fun r_1 =>
if r_1 = (0 : Int32) then (
(f_X10_refuses S I F p0 (-2 : Int32)).bind fun r_19 =>
some (r_19.1, r_19.2))
else (
(F p0 2).bind fun a_5 =>
(p_ix S 20 a_5 (52 : Int32)).bind fun j_7 =>
p_let (I a_5 j_7) fun x_9 =>
(F p0 2).bind fun a_11 =>
(p_ix S 20 a_11 (52 : Int32)).bind fun j_13 =>
p_let (v_up I a_11 j_13 p1) fun I_15 =>
(f_X10_good S I_15 p0 x_9).bind fun r_17 =>
some (r_17.1, r_17.2))
set_option maxHeartbeats 4000000 in
set_option maxRecDepth 100000 in
theorem t_X10_force {p0 : Nat} {p1 : Int32} {r : Int32 × v_I} (h : f_X10_force S I F p0 p1 = some r) : v_R l B D ac (v_EE B wa wb wt sb sL sx) yX10_force cX10_force 3 (some .int) 3 0 0 [.ref (B + p0), .int p1] S I J F (v_D (some (.int r.1)) S r.2 J F) := by
  refine v_R.of (by decide) (Nat.le_of_ble_eq_true rfl) fun d hd => ?_
  generalize hQ : v_D (some (.int r.1)) S r.2 J F = Q
  unfold f_X10_force at h
  refine v_sub [(0, .ref (B + p0)), (1, .int p1)] ⟨rfl, rfl, trivial⟩ ?_
  refine v_aload_n dX10_force_0 rfl ?_
  refine v_iload_n dX10_force_1 rfl ?_
  replace h := p_bind_elim h
  obtain ⟨_, q_3, h⟩ := h
  have q_3 := p_ob_spec q_3
  replace h := p_bind_elim h
  obtain ⟨r_1, q_2, h⟩ := h
  refine v_cVr (t_X10_isLaw q_2) cal_X10_isLaw ml_X10_271 sel_X10_isLaw q_3 kk_10 dX10_force_2 (by omega) (by decide) (by decide) (Nat.le_of_ble_eq_true rfl) rfl ?_
  refine v_if_ne 15 dX10_force_5 (by decide) (fun c_4 => ?_) (fun c_4 => ?_)
  · rw [if_neg c_4] at h
    refine v_aload_n dX10_force_15 rfl ?_
    replace h := p_bind_elim h
    obtain ⟨a_5, q_6, h⟩ := h
    refine v_getR q_6 rfl fl_X10_28 dX10_force_16 q_3 ?_
    refine v_bipush (52 : Int32) dX10_force_19 (by decide) ?_
    replace h := p_bind_elim h
    obtain ⟨j_7, q_8, h⟩ := h
    refine v_ialdP dX10_force_21 q_8 ?_
    replace h := p_let_elim h
    obtain ⟨x_9, h_10, h⟩ := h
    rw [← h_10]
    refine v_istore_n dX10_force_22 (by decide) ?_
    refine v_sub [(0, .ref (B + p0)), (1, .int p1), (2, .int x_9)] ⟨rfl, rfl, rfl, trivial⟩ ?_
    refine v_aload_n dX10_force_23 rfl ?_
    replace h := p_bind_elim h
    obtain ⟨a_11, q_12, h⟩ := h
    refine v_getR q_12 rfl fl_X10_28 dX10_force_24 q_3 ?_
    refine v_bipush (52 : Int32) dX10_force_27 (by decide) ?_
    refine v_iload_n dX10_force_29 rfl ?_
    replace h := p_bind_elim h
    obtain ⟨j_13, q_14, h⟩ := h
    refine v_iastP dX10_force_30 q_14 ?_
    replace h := p_let_elim h
    obtain ⟨I_15, h_16, h⟩ := h
    rw [← h_16]
    refine v_aload_n dX10_force_31 rfl ?_
    refine v_iload_n dX10_force_32 rfl ?_
    replace h := p_bind_elim h
    obtain ⟨r_17, q_18, h⟩ := h
    refine v_cVr (t_X10_good q_18) cal_X10_good ml_X10_14 sel_X10_good q_3 kk_10 dX10_force_33 (by omega) (by decide) (by decide) (Nat.le_of_ble_eq_true rfl) rfl ?_
    cases h
    exact v_iret dX10_force_36 rfl (by decide) (by decide) (by rw [← hQ]; exact ⟨rfl, rfl, rfl, rfl, rfl⟩)
  · rw [if_pos c_4] at h
    refine v_aload_n dX10_force_8 rfl ?_
    refine v_bipush (-2 : Int32) dX10_force_9 (by decide) ?_
    replace h := p_bind_elim h
    obtain ⟨r_19, q_20, h⟩ := h
    refine v_cVr (t_X10_refuses q_20) cal_X10_refuses ml_X10_103 sel_X10_refuses q_3 kk_10 dX10_force_11 (by omega) (by decide) (by decide) (Nat.le_of_ble_eq_true rfl) rfl ?_
    cases h
    exact v_iret dX10_force_14 rfl (by decide) (by decide) (by rw [← hQ]; exact ⟨rfl, rfl, rfl, rfl, rfl⟩)

def f_X10_undo_B34 (S : v_S) (F : v_F) (w0 : Nat) (w1 : Int32) (s34 : Int32 × v_I) : Option ((Int32 × v_I) ⊕ (Int32 × v_I)) :=
if (18 : Int32) ≤ s34.1 then (
some (.inr (s34.1, s34.2)))
else (
(p_ob S 10 w0).bind fun _ =>
(F w0 2).bind fun a_9 =>
(F w0 30).bind fun a_11 =>
(p_ix S 20 a_11 (w1 + s34.1)).bind fun j_13 =>
(p_ix S 20 a_9 s34.1).bind fun j_15 =>
p_let (v_up s34.2 a_9 j_15 (s34.2 a_11 j_13)) fun I_17 =>
p_let (s34.1 + (1 : Int32)) fun x_19 =>
some (.inl (x_19, I_17)))
def f_X10_undo (S : v_S) (I : v_I) (F : v_F) (p0 : Nat) : Option (Int32 × v_I) :=
(p_ob S 10 p0).bind fun _ =>
if (I p0 32) = (0 : Int32) then (
(f_X10_refuses S I F p0 (-3 : Int32)).bind fun r_29 =>
some (r_29.1, r_29.2))
else (
p_let (v_up I p0 32 ((I p0 32) - (1 : Int32))) fun I_3 =>
p_let ((19 : Int32) * (I_3 p0 32)) fun x_5 =>
(v_loop (f_X10_undo_B34 S F p0 x_5) FU ((0 : Int32), I_3)).bind fun q_21 =>
(F p0 30).bind fun a_23 =>
(p_ix S 20 a_23 (x_5 + (18 : Int32))).bind fun j_25 =>
(f_X10_good S q_21.2 p0 (q_21.2 a_23 j_25)).bind fun r_27 =>
some (r_27.1, r_27.2))
set_option maxHeartbeats 4000000 in
set_option maxRecDepth 100000 in
theorem t_X10_undo {p0 : Nat} {r : Int32 × v_I} (h : f_X10_undo S I F p0 = some r) : v_R l B D ac (v_EE B wa wb wt sb sL sx) yX10_undo cX10_undo 3 (some .int) 2 0 0 [.ref (B + p0)] S I J F (v_D (some (.int r.1)) S r.2 J F) := by
  refine v_R.of (by decide) (Nat.le_of_ble_eq_true rfl) fun d hd => ?_
  generalize hQ : v_D (some (.int r.1)) S r.2 J F = Q
  have b34 : ∀ (w0 : Nat) (w1 : Int32) (s34 : Int32 × v_I) (rx34 : (Int32 × v_I) ⊕ (Int32 × v_I)), f_X10_undo_B34 S F w0 w1 s34 = some rx34 → v_K (fun (sP : Int32 × v_I) => V l B D ac (v_EE B wa wb wt sb sL sx) yX10_undo cX10_undo 3 (some .int) d 0 0 0 0 S sP.2 J F 34 [(0, .ref (B + w0)), (1, .int w1), (2, .int sP.1)] [] Q) (fun (rE : Int32 × v_I) => V l B D ac (v_EE B wa wb wt sb sL sx) yX10_undo cX10_undo 3 (some .int) d 0 0 0 0 S rE.2 J F 60 [(0, .ref (B + w0)), (1, .int w1)] [] Q) rx34 → V l B D ac (v_EE B wa wb wt sb sL sx) yX10_undo cX10_undo 3 (some .int) d 0 0 0 0 S s34.2 J F 34 [(0, .ref (B + w0)), (1, .int w1), (2, .int s34.1)] [] Q := by
    intro w0 w1 s34 rx34 h hk
    unfold f_X10_undo_B34 at h
    refine v_iload_n dX10_undo_34 rfl ?_
    refine v_bipush (18 : Int32) dX10_undo_35 (by decide) ?_
    refine v_icmp_ge 60 dX10_undo_37 (by decide) (fun c_7 => ?_) (fun c_7 => ?_)
    · rw [if_pos c_7] at h
      cases h
      refine v_sub [(0, .ref (B + w0)), (1, .int w1)] ⟨rfl, rfl, trivial⟩ ?_
      exact hk
    · rw [if_neg c_7] at h
      refine v_aload_n dX10_undo_40 rfl ?_
      replace h := p_bind_elim h
      obtain ⟨_, q_8, h⟩ := h
      have q_8 := p_ob_spec q_8
      replace h := p_bind_elim h
      obtain ⟨a_9, q_10, h⟩ := h
      refine v_getR q_10 rfl fl_X10_28 dX10_undo_41 q_8 ?_
      refine v_iload_n dX10_undo_44 rfl ?_
      refine v_aload_n dX10_undo_45 rfl ?_
      replace h := p_bind_elim h
      obtain ⟨a_11, q_12, h⟩ := h
      refine v_getR q_12 rfl fl_X10_69 dX10_undo_46 q_8 ?_
      refine v_iload_n dX10_undo_49 rfl ?_
      refine v_iload_n dX10_undo_50 rfl ?_
      refine v_iadd dX10_undo_51 ?_
      replace h := p_bind_elim h
      obtain ⟨j_13, q_14, h⟩ := h
      refine v_ialdP dX10_undo_52 q_14 ?_
      replace h := p_bind_elim h
      obtain ⟨j_15, q_16, h⟩ := h
      refine v_iastP dX10_undo_53 q_16 ?_
      replace h := p_let_elim h
      obtain ⟨I_17, h_18, h⟩ := h
      rw [← h_18]
      replace h := p_let_elim h
      obtain ⟨x_19, h_20, h⟩ := h
      refine v_iincE (1 : Int32) dX10_undo_54 (by decide) rfl (by decide) ?_
      rw [← h_20]
      refine v_sub [(0, .ref (B + w0)), (1, .int w1), (2, .int x_19)] ⟨rfl, rfl, rfl, trivial⟩ ?_
      refine v_goto 34 dX10_undo_57 (by decide) ?_
      cases h
      refine v_sub [(0, .ref (B + w0)), (1, .int w1), (2, .int x_19)] ⟨rfl, rfl, rfl, trivial⟩ ?_
      exact hk
  unfold f_X10_undo at h
  refine v_sub [(0, .ref (B + p0))] ⟨rfl, trivial⟩ ?_
  refine v_aload_n dX10_undo_0 rfl ?_
  replace h := p_bind_elim h
  obtain ⟨_, q_1, h⟩ := h
  have q_1 := p_ob_spec q_1
  refine v_getI rfl fl_X10_11 dX10_undo_1 q_1 ?_
  refine v_if_ne 14 dX10_undo_4 (by decide) (fun c_2 => ?_) (fun c_2 => ?_)
  · rw [if_neg c_2] at h
    refine v_aload_n dX10_undo_14 rfl ?_
    refine v_dup dX10_undo_15 rfl ?_
    refine v_getI rfl fl_X10_11 dX10_undo_16 q_1 ?_
    refine v_iconstE (1 : Int32) dX10_undo_19 (by decide) ?_
    refine v_isub dX10_undo_20 ?_
    refine v_putI rfl fl_X10_11 dX10_undo_21 q_1 rfl rfl ?_
    replace h := p_let_elim h
    obtain ⟨I_3, h_4, h⟩ := h
    rw [← h_4]
    refine v_bipush (19 : Int32) dX10_undo_24 (by decide) ?_
    refine v_aload_n dX10_undo_26 rfl ?_
    refine v_getI rfl fl_X10_11 dX10_undo_27 q_1 ?_
    refine v_imul dX10_undo_30 ?_
    replace h := p_let_elim h
    obtain ⟨x_5, h_6, h⟩ := h
    rw [← h_6]
    refine v_istore_n dX10_undo_31 (by decide) ?_
    refine v_sub [(0, .ref (B + p0)), (1, .int x_5)] ⟨rfl, rfl, trivial⟩ ?_
    refine v_iconstE (0 : Int32) dX10_undo_32 (by decide) ?_
    refine v_istore_n dX10_undo_33 (by decide) ?_
    refine v_sub [(0, .ref (B + p0)), (1, .int x_5), (2, .int (0 : Int32))] ⟨rfl, rfl, rfl, trivial⟩ ?_
    replace h := p_bind_elim h
    obtain ⟨q_21, h_22, h⟩ := h
    refine v_sub [(0, .ref (B + p0)), (1, .int x_5), (2, .int (0 : Int32))] ⟨rfl, rfl, rfl, trivial⟩ ?_
    refine v_loopV (fun (sP : Int32 × v_I) => V l B D ac (v_EE B wa wb wt sb sL sx) yX10_undo cX10_undo 3 (some .int) d 0 0 0 0 S sP.2 J F 34 [(0, .ref (B + p0)), (1, .int x_5), (2, .int sP.1)] [] Q) (fun (rE : Int32 × v_I) => V l B D ac (v_EE B wa wb wt sb sL sx) yX10_undo cX10_undo 3 (some .int) d 0 0 0 0 S rE.2 J F 60 [(0, .ref (B + p0)), (1, .int x_5)] [] Q) (fun s_ x_ hb hk => b34 _ _ s_ x_ hb hk) (r := q_21) ?_ h_22
    try dsimp only
    refine v_aload_n dX10_undo_60 rfl ?_
    refine v_aload_n dX10_undo_61 rfl ?_
    replace h := p_bind_elim h
    obtain ⟨a_23, q_24, h⟩ := h
    refine v_getR q_24 rfl fl_X10_69 dX10_undo_62 q_1 ?_
    refine v_iload_n dX10_undo_65 rfl ?_
    refine v_bipush (18 : Int32) dX10_undo_66 (by decide) ?_
    refine v_iadd dX10_undo_68 ?_
    replace h := p_bind_elim h
    obtain ⟨j_25, q_26, h⟩ := h
    refine v_ialdP dX10_undo_69 q_26 ?_
    replace h := p_bind_elim h
    obtain ⟨r_27, q_28, h⟩ := h
    refine v_cVr (t_X10_good q_28) cal_X10_good ml_X10_14 sel_X10_good q_1 kk_10 dX10_undo_70 (by omega) (by decide) (by decide) (Nat.le_of_ble_eq_true rfl) rfl ?_
    cases h
    exact v_iret dX10_undo_73 rfl (by decide) (by decide) (by rw [← hQ]; exact ⟨rfl, rfl, rfl, rfl, rfl⟩)
  · rw [if_pos c_2] at h
    refine v_aload_n dX10_undo_7 rfl ?_
    refine v_bipush (-3 : Int32) dX10_undo_8 (by decide) ?_
    replace h := p_bind_elim h
    obtain ⟨r_29, q_30, h⟩ := h
    refine v_cVr (t_X10_refuses q_30) cal_X10_refuses ml_X10_103 sel_X10_refuses q_1 kk_10 dX10_undo_10 (by omega) (by decide) (by decide) (Nat.le_of_ble_eq_true rfl) rfl ?_
    cases h
    exact v_iret dX10_undo_13 rfl (by decide) (by decide) (by rw [← hQ]; exact ⟨rfl, rfl, rfl, rfl, rfl⟩)

def f_X10_goodOr (S : v_S) (I : v_I) (F : v_F) (p0 : Nat) (p1 : Int32) : Option (Int32 × v_I) :=
if (0 : Int32) ≤ p1 then (
(p_ob S 10 p0).bind fun _ =>
(f_X10_good S I p0 p1).bind fun r_2 =>
some (r_2.1, r_2.2))
else (
(p_ob S 10 p0).bind fun _ =>
(f_X10_refuses S I F p0 p1).bind fun r_5 =>
some (r_5.1, r_5.2))
set_option maxHeartbeats 4000000 in
set_option maxRecDepth 100000 in
theorem t_X10_goodOr {p0 : Nat} {p1 : Int32} {r : Int32 × v_I} (h : f_X10_goodOr S I F p0 p1 = some r) : v_R l B D ac (v_EE B wa wb wt sb sL sx) yX10_goodOr cX10_goodOr 2 (some .int) 2 0 0 [.ref (B + p0), .int p1] S I J F (v_D (some (.int r.1)) S r.2 J F) := by
  refine v_R.of (by decide) (Nat.le_of_ble_eq_true rfl) fun d hd => ?_
  generalize hQ : v_D (some (.int r.1)) S r.2 J F = Q
  unfold f_X10_goodOr at h
  refine v_sub [(0, .ref (B + p0)), (1, .int p1)] ⟨rfl, rfl, trivial⟩ ?_
  refine v_iload_n dX10_goodOr_0 rfl ?_
  refine v_if_ge 12 dX10_goodOr_1 (by decide) (fun c_1 => ?_) (fun c_1 => ?_)
  · rw [if_pos c_1] at h
    refine v_aload_n dX10_goodOr_12 rfl ?_
    refine v_iload_n dX10_goodOr_13 rfl ?_
    replace h := p_bind_elim h
    obtain ⟨_, q_4, h⟩ := h
    have q_4 := p_ob_spec q_4
    replace h := p_bind_elim h
    obtain ⟨r_2, q_3, h⟩ := h
    refine v_cVr (t_X10_good q_3) cal_X10_good ml_X10_14 sel_X10_good q_4 kk_10 dX10_goodOr_14 (by omega) (by decide) (by decide) (Nat.le_of_ble_eq_true rfl) rfl ?_
    cases h
    exact v_iret dX10_goodOr_17 rfl (by decide) (by decide) (by rw [← hQ]; exact ⟨rfl, rfl, rfl, rfl, rfl⟩)
  · rw [if_neg c_1] at h
    refine v_aload_n dX10_goodOr_4 rfl ?_
    refine v_iload_n dX10_goodOr_5 rfl ?_
    replace h := p_bind_elim h
    obtain ⟨_, q_7, h⟩ := h
    have q_7 := p_ob_spec q_7
    replace h := p_bind_elim h
    obtain ⟨r_5, q_6, h⟩ := h
    refine v_cVr (t_X10_refuses q_6) cal_X10_refuses ml_X10_103 sel_X10_refuses q_7 kk_10 dX10_goodOr_6 (by omega) (by decide) (by decide) (Nat.le_of_ble_eq_true rfl) rfl ?_
    refine v_goto 17 dX10_goodOr_9 (by decide) ?_
    cases h
    exact v_iret dX10_goodOr_17 rfl (by decide) (by decide) (by rw [← hQ]; exact ⟨rfl, rfl, rfl, rfl, rfl⟩)

def f_X10_keeps_B54 (S : v_S) (F : v_F) (w0 : Nat) (w1 : Int32) (w2 : Int32) (s54 : Int32 × v_I) : Option ((Int32 × v_I) ⊕ (Int32 × v_I)) :=
if (18 : Int32) ≤ s54.1 then (
some (.inr (s54.1, s54.2)))
else (
(p_ob S 10 w0).bind fun _ =>
(F w0 30).bind fun a_5 =>
(F w0 2).bind fun a_7 =>
(p_ix S 20 a_7 s54.1).bind fun j_9 =>
(p_ix S 20 a_5 ((w2 * (s54.2 w0 32)) + s54.1)).bind fun j_11 =>
p_let (v_up s54.2 a_5 j_11 (s54.2 a_7 j_9)) fun I_13 =>
p_let (s54.1 + (1 : Int32)) fun x_15 =>
some (.inl (x_15, I_13)))
def f_X10_keeps_J52 (S : v_S) (F : v_F) (I : v_I) (y0 : Nat) (y1 : Int32) (y2 : Int32) : Option (v_I) :=
(v_loop (f_X10_keeps_B54 S F y0 y1 y2) FU ((0 : Int32), I)).bind fun q_17 =>
(p_ob S 10 y0).bind fun _ =>
(F y0 30).bind fun a_20 =>
(p_ix S 20 a_20 ((y2 * (q_17.2 y0 32)) + (18 : Int32))).bind fun j_22 =>
p_let (v_up q_17.2 a_20 j_22 y1) fun I_24 =>
p_let (v_up I_24 y0 32 ((I_24 y0 32) + (1 : Int32))) fun I_26 =>
some (I_26)
def f_X10_keeps_B14 (S : v_S) (F : v_F) (w0 : Nat) (w1 : Int32) (w2 : Int32) (s14 : Int32 × v_I) : Option ((Int32 × v_I) ⊕ (Int32 × v_I)) :=
if ((15 : Int32) * w2) ≤ s14.1 then (
some (.inr (s14.1, s14.2)))
else (
(p_ob S 10 w0).bind fun _ =>
(F w0 30).bind fun a_30 =>
(F w0 30).bind fun a_32 =>
(p_ix S 20 a_32 (s14.1 + w2)).bind fun j_34 =>
(p_ix S 20 a_30 s14.1).bind fun j_36 =>
p_let (v_up s14.2 a_30 j_36 (s14.2 a_32 j_34)) fun I_38 =>
p_let (s14.1 + (1 : Int32)) fun x_40 =>
some (.inl (x_40, I_38)))
def f_X10_keeps (S : v_S) (I : v_I) (F : v_F) (p0 : Nat) (p1 : Int32) : Option (v_I) :=
(p_ob S 10 p0).bind fun _ =>
if (I p0 32) = (16 : Int32) then (
(v_loop (f_X10_keeps_B14 S F p0 p1 (19 : Int32)) FU ((0 : Int32), I)).bind fun q_42 =>
p_let (v_up q_42.2 p0 32 ((q_42.2 p0 32) - (1 : Int32))) fun I_44 =>
f_X10_keeps_J52 S F I_44 p0 p1 (19 : Int32))
else (
f_X10_keeps_J52 S F I p0 p1 (19 : Int32))
set_option maxHeartbeats 4000000 in
set_option maxRecDepth 100000 in
theorem t_X10_keeps {p0 : Nat} {p1 : Int32} {r : v_I} (h : f_X10_keeps S I F p0 p1 = some r) : v_R l B D ac (v_EE B wa wb wt sb sL sx) yX10_keeps cX10_keeps 4 none 1 0 0 [.ref (B + p0), .int p1] S I J F (v_D none S r J F) := by
  refine v_R.of (by decide) (Nat.le_of_ble_eq_true rfl) fun d hd => ?_
  generalize hQ : v_D none S r J F = Q
  have b54 : ∀ (w0 : Nat) (w1 : Int32) (w2 : Int32) (s54 : Int32 × v_I) (rx54 : (Int32 × v_I) ⊕ (Int32 × v_I)), f_X10_keeps_B54 S F w0 w1 w2 s54 = some rx54 → v_K (fun (sP : Int32 × v_I) => V l B D ac (v_EE B wa wb wt sb sL sx) yX10_keeps cX10_keeps 4 none d 0 0 0 0 S sP.2 J F 54 [(0, .ref (B + w0)), (1, .int w1), (2, .int w2), (3, .int sP.1)] [] Q) (fun (rE : Int32 × v_I) => V l B D ac (v_EE B wa wb wt sb sL sx) yX10_keeps cX10_keeps 4 none d 0 0 0 0 S rE.2 J F 85 [(0, .ref (B + w0)), (1, .int w1), (2, .int w2)] [] Q) rx54 → V l B D ac (v_EE B wa wb wt sb sL sx) yX10_keeps cX10_keeps 4 none d 0 0 0 0 S s54.2 J F 54 [(0, .ref (B + w0)), (1, .int w1), (2, .int w2), (3, .int s54.1)] [] Q := by
    intro w0 w1 w2 s54 rx54 h hk
    unfold f_X10_keeps_B54 at h
    refine v_iload_n dX10_keeps_54 rfl ?_
    refine v_bipush (18 : Int32) dX10_keeps_55 (by decide) ?_
    refine v_icmp_ge 85 dX10_keeps_57 (by decide) (fun c_3 => ?_) (fun c_3 => ?_)
    · rw [if_pos c_3] at h
      cases h
      refine v_sub [(0, .ref (B + w0)), (1, .int w1), (2, .int w2)] ⟨rfl, rfl, rfl, trivial⟩ ?_
      exact hk
    · rw [if_neg c_3] at h
      refine v_aload_n dX10_keeps_60 rfl ?_
      replace h := p_bind_elim h
      obtain ⟨_, q_4, h⟩ := h
      have q_4 := p_ob_spec q_4
      replace h := p_bind_elim h
      obtain ⟨a_5, q_6, h⟩ := h
      refine v_getR q_6 rfl fl_X10_69 dX10_keeps_61 q_4 ?_
      refine v_iload_n dX10_keeps_64 rfl ?_
      refine v_aload_n dX10_keeps_65 rfl ?_
      refine v_getI rfl fl_X10_11 dX10_keeps_66 q_4 ?_
      refine v_imul dX10_keeps_69 ?_
      refine v_iload_n dX10_keeps_70 rfl ?_
      refine v_iadd dX10_keeps_71 ?_
      refine v_aload_n dX10_keeps_72 rfl ?_
      replace h := p_bind_elim h
      obtain ⟨a_7, q_8, h⟩ := h
      refine v_getR q_8 rfl fl_X10_28 dX10_keeps_73 q_4 ?_
      refine v_iload_n dX10_keeps_76 rfl ?_
      replace h := p_bind_elim h
      obtain ⟨j_9, q_10, h⟩ := h
      refine v_ialdP dX10_keeps_77 q_10 ?_
      replace h := p_bind_elim h
      obtain ⟨j_11, q_12, h⟩ := h
      refine v_iastP dX10_keeps_78 q_12 ?_
      replace h := p_let_elim h
      obtain ⟨I_13, h_14, h⟩ := h
      rw [← h_14]
      replace h := p_let_elim h
      obtain ⟨x_15, h_16, h⟩ := h
      refine v_iincE (1 : Int32) dX10_keeps_79 (by decide) rfl (by decide) ?_
      rw [← h_16]
      refine v_sub [(0, .ref (B + w0)), (1, .int w1), (2, .int w2), (3, .int x_15)] ⟨rfl, rfl, rfl, rfl, trivial⟩ ?_
      refine v_goto 54 dX10_keeps_82 (by decide) ?_
      cases h
      refine v_sub [(0, .ref (B + w0)), (1, .int w1), (2, .int w2), (3, .int x_15)] ⟨rfl, rfl, rfl, rfl, trivial⟩ ?_
      exact hk
  have j52 : ∀ (I : v_I) (y0 : Nat) (y1 : Int32) (y2 : Int32), f_X10_keeps_J52 S F I y0 y1 y2 = some r → V l B D ac (v_EE B wa wb wt sb sL sx) yX10_keeps cX10_keeps 4 none d 0 0 0 0 S I J F 52 [(0, .ref (B + y0)), (1, .int y1), (2, .int y2)] [] Q := by
    intro I y0 y1 y2 h
    unfold f_X10_keeps_J52 at h
    refine v_iconstE (0 : Int32) dX10_keeps_52 (by decide) ?_
    refine v_istore_n dX10_keeps_53 (by decide) ?_
    refine v_sub [(0, .ref (B + y0)), (1, .int y1), (2, .int y2), (3, .int (0 : Int32))] ⟨rfl, rfl, rfl, rfl, trivial⟩ ?_
    replace h := p_bind_elim h
    obtain ⟨q_17, h_18, h⟩ := h
    refine v_sub [(0, .ref (B + y0)), (1, .int y1), (2, .int y2), (3, .int (0 : Int32))] ⟨rfl, rfl, rfl, rfl, trivial⟩ ?_
    refine v_loopV (fun (sP : Int32 × v_I) => V l B D ac (v_EE B wa wb wt sb sL sx) yX10_keeps cX10_keeps 4 none d 0 0 0 0 S sP.2 J F 54 [(0, .ref (B + y0)), (1, .int y1), (2, .int y2), (3, .int sP.1)] [] Q) (fun (rE : Int32 × v_I) => V l B D ac (v_EE B wa wb wt sb sL sx) yX10_keeps cX10_keeps 4 none d 0 0 0 0 S rE.2 J F 85 [(0, .ref (B + y0)), (1, .int y1), (2, .int y2)] [] Q) (fun s_ x_ hb hk => b54 _ _ _ s_ x_ hb hk) (r := q_17) ?_ h_18
    try dsimp only
    refine v_aload_n dX10_keeps_85 rfl ?_
    replace h := p_bind_elim h
    obtain ⟨_, q_19, h⟩ := h
    have q_19 := p_ob_spec q_19
    replace h := p_bind_elim h
    obtain ⟨a_20, q_21, h⟩ := h
    refine v_getR q_21 rfl fl_X10_69 dX10_keeps_86 q_19 ?_
    refine v_iload_n dX10_keeps_89 rfl ?_
    refine v_aload_n dX10_keeps_90 rfl ?_
    refine v_getI rfl fl_X10_11 dX10_keeps_91 q_19 ?_
    refine v_imul dX10_keeps_94 ?_
    refine v_bipush (18 : Int32) dX10_keeps_95 (by decide) ?_
    refine v_iadd dX10_keeps_97 ?_
    refine v_iload_n dX10_keeps_98 rfl ?_
    replace h := p_bind_elim h
    obtain ⟨j_22, q_23, h⟩ := h
    refine v_iastP dX10_keeps_99 q_23 ?_
    replace h := p_let_elim h
    obtain ⟨I_24, h_25, h⟩ := h
    rw [← h_25]
    refine v_aload_n dX10_keeps_100 rfl ?_
    refine v_dup dX10_keeps_101 rfl ?_
    refine v_getI rfl fl_X10_11 dX10_keeps_102 q_19 ?_
    refine v_iconstE (1 : Int32) dX10_keeps_105 (by decide) ?_
    refine v_iadd dX10_keeps_106 ?_
    refine v_putI rfl fl_X10_11 dX10_keeps_107 q_19 rfl rfl ?_
    replace h := p_let_elim h
    obtain ⟨I_26, h_27, h⟩ := h
    rw [← h_27]
    cases h
    exact v_vret dX10_keeps_110 rfl (by decide) (by decide) (by rw [← hQ]; exact ⟨rfl, rfl, rfl, rfl, rfl⟩)
  have b14 : ∀ (w0 : Nat) (w1 : Int32) (w2 : Int32) (s14 : Int32 × v_I) (rx14 : (Int32 × v_I) ⊕ (Int32 × v_I)), f_X10_keeps_B14 S F w0 w1 w2 s14 = some rx14 → v_K (fun (sP : Int32 × v_I) => V l B D ac (v_EE B wa wb wt sb sL sx) yX10_keeps cX10_keeps 4 none d 0 0 0 0 S sP.2 J F 14 [(0, .ref (B + w0)), (1, .int w1), (2, .int w2), (3, .int sP.1)] [] Q) (fun (rE : Int32 × v_I) => V l B D ac (v_EE B wa wb wt sb sL sx) yX10_keeps cX10_keeps 4 none d 0 0 0 0 S rE.2 J F 42 [(0, .ref (B + w0)), (1, .int w1), (2, .int w2)] [] Q) rx14 → V l B D ac (v_EE B wa wb wt sb sL sx) yX10_keeps cX10_keeps 4 none d 0 0 0 0 S s14.2 J F 14 [(0, .ref (B + w0)), (1, .int w1), (2, .int w2), (3, .int s14.1)] [] Q := by
    intro w0 w1 w2 s14 rx14 h hk
    unfold f_X10_keeps_B14 at h
    refine v_iload_n dX10_keeps_14 rfl ?_
    refine v_bipush (15 : Int32) dX10_keeps_15 (by decide) ?_
    refine v_iload_n dX10_keeps_17 rfl ?_
    refine v_imul dX10_keeps_18 ?_
    refine v_icmp_ge 42 dX10_keeps_19 (by decide) (fun c_28 => ?_) (fun c_28 => ?_)
    · rw [if_pos c_28] at h
      cases h
      refine v_sub [(0, .ref (B + w0)), (1, .int w1), (2, .int w2)] ⟨rfl, rfl, rfl, trivial⟩ ?_
      exact hk
    · rw [if_neg c_28] at h
      refine v_aload_n dX10_keeps_22 rfl ?_
      replace h := p_bind_elim h
      obtain ⟨_, q_29, h⟩ := h
      have q_29 := p_ob_spec q_29
      replace h := p_bind_elim h
      obtain ⟨a_30, q_31, h⟩ := h
      refine v_getR q_31 rfl fl_X10_69 dX10_keeps_23 q_29 ?_
      refine v_iload_n dX10_keeps_26 rfl ?_
      refine v_aload_n dX10_keeps_27 rfl ?_
      replace h := p_bind_elim h
      obtain ⟨a_32, q_33, h⟩ := h
      refine v_getR q_33 rfl fl_X10_69 dX10_keeps_28 q_29 ?_
      refine v_iload_n dX10_keeps_31 rfl ?_
      refine v_iload_n dX10_keeps_32 rfl ?_
      refine v_iadd dX10_keeps_33 ?_
      replace h := p_bind_elim h
      obtain ⟨j_34, q_35, h⟩ := h
      refine v_ialdP dX10_keeps_34 q_35 ?_
      replace h := p_bind_elim h
      obtain ⟨j_36, q_37, h⟩ := h
      refine v_iastP dX10_keeps_35 q_37 ?_
      replace h := p_let_elim h
      obtain ⟨I_38, h_39, h⟩ := h
      rw [← h_39]
      replace h := p_let_elim h
      obtain ⟨x_40, h_41, h⟩ := h
      refine v_iincE (1 : Int32) dX10_keeps_36 (by decide) rfl (by decide) ?_
      rw [← h_41]
      refine v_sub [(0, .ref (B + w0)), (1, .int w1), (2, .int w2), (3, .int x_40)] ⟨rfl, rfl, rfl, rfl, trivial⟩ ?_
      refine v_goto 14 dX10_keeps_39 (by decide) ?_
      cases h
      refine v_sub [(0, .ref (B + w0)), (1, .int w1), (2, .int w2), (3, .int x_40)] ⟨rfl, rfl, rfl, rfl, trivial⟩ ?_
      exact hk
  unfold f_X10_keeps at h
  refine v_sub [(0, .ref (B + p0)), (1, .int p1)] ⟨rfl, rfl, trivial⟩ ?_
  refine v_bipush (19 : Int32) dX10_keeps_0 (by decide) ?_
  refine v_istore_n dX10_keeps_2 (by decide) ?_
  refine v_sub [(0, .ref (B + p0)), (1, .int p1), (2, .int (19 : Int32))] ⟨rfl, rfl, rfl, trivial⟩ ?_
  refine v_aload_n dX10_keeps_3 rfl ?_
  replace h := p_bind_elim h
  obtain ⟨_, q_1, h⟩ := h
  have q_1 := p_ob_spec q_1
  refine v_getI rfl fl_X10_11 dX10_keeps_4 q_1 ?_
  refine v_bipush (16 : Int32) dX10_keeps_7 (by decide) ?_
  refine v_icmp_ne 52 dX10_keeps_9 (by decide) (fun c_2 => ?_) (fun c_2 => ?_)
  · rw [if_neg c_2] at h
    refine v_sub [(0, .ref (B + p0)), (1, .int p1), (2, .int (19 : Int32))] ⟨rfl, rfl, rfl, trivial⟩ ?_
    exact j52 _ _ _ _ h
  · rw [if_pos c_2] at h
    refine v_iconstE (0 : Int32) dX10_keeps_12 (by decide) ?_
    refine v_istore_n dX10_keeps_13 (by decide) ?_
    refine v_sub [(0, .ref (B + p0)), (1, .int p1), (2, .int (19 : Int32)), (3, .int (0 : Int32))] ⟨rfl, rfl, rfl, rfl, trivial⟩ ?_
    replace h := p_bind_elim h
    obtain ⟨q_42, h_43, h⟩ := h
    refine v_sub [(0, .ref (B + p0)), (1, .int p1), (2, .int (19 : Int32)), (3, .int (0 : Int32))] ⟨rfl, rfl, rfl, rfl, trivial⟩ ?_
    refine v_loopV (fun (sP : Int32 × v_I) => V l B D ac (v_EE B wa wb wt sb sL sx) yX10_keeps cX10_keeps 4 none d 0 0 0 0 S sP.2 J F 14 [(0, .ref (B + p0)), (1, .int p1), (2, .int (19 : Int32)), (3, .int sP.1)] [] Q) (fun (rE : Int32 × v_I) => V l B D ac (v_EE B wa wb wt sb sL sx) yX10_keeps cX10_keeps 4 none d 0 0 0 0 S rE.2 J F 42 [(0, .ref (B + p0)), (1, .int p1), (2, .int (19 : Int32))] [] Q) (fun s_ x_ hb hk => b14 _ _ _ s_ x_ hb hk) (r := q_42) ?_ h_43
    try dsimp only
    refine v_aload_n dX10_keeps_42 rfl ?_
    refine v_dup dX10_keeps_43 rfl ?_
    refine v_getI rfl fl_X10_11 dX10_keeps_44 q_1 ?_
    refine v_iconstE (1 : Int32) dX10_keeps_47 (by decide) ?_
    refine v_isub dX10_keeps_48 ?_
    refine v_putI rfl fl_X10_11 dX10_keeps_49 q_1 rfl rfl ?_
    replace h := p_let_elim h
    obtain ⟨I_44, h_45, h⟩ := h
    rw [← h_45]
    refine v_sub [(0, .ref (B + p0)), (1, .int p1), (2, .int (19 : Int32))] ⟨rfl, rfl, rfl, trivial⟩ ?_
    exact j52 _ _ _ _ h

def f_X10_touches (S : v_S) (I : v_I) (F : v_F) (p0 : Nat) (p1 : Int32) : Option (v_I) :=
(p_ob S 10 p0).bind fun _ =>
(F p0 2).bind fun a_2 =>
(p_ix S 20 a_2 (0 : Int32)).bind fun j_4 =>
(p_ix S 20 a_2 (0 : Int32)).bind fun j_6 =>
p_let (v_up I a_2 j_6 ((I a_2 j_4) &&& (((1 : Int32) <<< (p1 &&& 31)) ^^^ (-1 : Int32)))) fun I_8 =>
(F p0 2).bind fun a_10 =>
(p_ix S 20 a_10 ((9 : Int32) + p1)).bind fun j_12 =>
p_let (v_up I_8 a_10 j_12 (0 : Int32)) fun I_14 =>
some (I_14)
set_option maxHeartbeats 4000000 in
set_option maxRecDepth 100000 in
theorem t_X10_touches {p0 : Nat} {p1 : Int32} {r : v_I} (h : f_X10_touches S I F p0 p1 = some r) : v_R l B D ac (v_EE B wa wb wt sb sL sx) yX10_touches cX10_touches 2 none 1 0 0 [.ref (B + p0), .int p1] S I J F (v_D none S r J F) := by
  refine v_R.of (by decide) (Nat.le_of_ble_eq_true rfl) fun d hd => ?_
  generalize hQ : v_D none S r J F = Q
  unfold f_X10_touches at h
  refine v_sub [(0, .ref (B + p0)), (1, .int p1)] ⟨rfl, rfl, trivial⟩ ?_
  refine v_aload_n dX10_touches_0 rfl ?_
  replace h := p_bind_elim h
  obtain ⟨_, q_1, h⟩ := h
  have q_1 := p_ob_spec q_1
  replace h := p_bind_elim h
  obtain ⟨a_2, q_3, h⟩ := h
  refine v_getR q_3 rfl fl_X10_28 dX10_touches_1 q_1 ?_
  refine v_iconstE (0 : Int32) dX10_touches_4 (by decide) ?_
  refine v_dup2 dX10_touches_5 rfl rfl ?_
  replace h := p_bind_elim h
  obtain ⟨j_4, q_5, h⟩ := h
  refine v_ialdP dX10_touches_6 q_5 ?_
  refine v_iconstE (1 : Int32) dX10_touches_7 (by decide) ?_
  refine v_iload_n dX10_touches_8 rfl ?_
  refine v_ishl dX10_touches_9 ?_
  refine v_iconstE (-1 : Int32) dX10_touches_10 (by decide) ?_
  refine v_ixor dX10_touches_11 ?_
  refine v_iand dX10_touches_12 ?_
  replace h := p_bind_elim h
  obtain ⟨j_6, q_7, h⟩ := h
  refine v_iastP dX10_touches_13 q_7 ?_
  replace h := p_let_elim h
  obtain ⟨I_8, h_9, h⟩ := h
  rw [← h_9]
  refine v_aload_n dX10_touches_14 rfl ?_
  replace h := p_bind_elim h
  obtain ⟨a_10, q_11, h⟩ := h
  refine v_getR q_11 rfl fl_X10_28 dX10_touches_15 q_1 ?_
  refine v_bipush (9 : Int32) dX10_touches_18 (by decide) ?_
  refine v_iload_n dX10_touches_20 rfl ?_
  refine v_iadd dX10_touches_21 ?_
  refine v_iconstE (0 : Int32) dX10_touches_22 (by decide) ?_
  replace h := p_bind_elim h
  obtain ⟨j_12, q_13, h⟩ := h
  refine v_iastP dX10_touches_23 q_13 ?_
  replace h := p_let_elim h
  obtain ⟨I_14, h_15, h⟩ := h
  rw [← h_15]
  cases h
  exact v_vret dX10_touches_24 rfl (by decide) (by decide) (by rw [← hQ]; exact ⟨rfl, rfl, rfl, rfl, rfl⟩)

def f_X10_touchesKept_J24 (S : v_S) (F : v_F) (I : v_I) (y0 : Nat) (y1 : Int32) (z0 : Int32) : Option (Int32 × v_I) :=
(p_ob S 10 y0).bind fun _ =>
(f_X10_keeps S I F y0 (0 : Int32)).bind fun r_8 =>
(f_X10_touches S r_8 F y0 y1).bind fun r_11 =>
some (z0, r_11)
def f_X10_touchesKept (S : v_S) (I : v_I) (F : v_F) (p0 : Nat) (p1 : Int32) : Option (Int32 × v_I) :=
(p_ob S 10 p0).bind fun _ =>
(f_X10_isOne S I F p0 p1).bind fun r_1 =>
if r_1 = (0 : Int32) then (
some ((-2 : Int32), I))
else (
(f_X10_isOpen S I F p0 p1).bind fun r_5 =>
if r_5 = (0 : Int32) then (
f_X10_touchesKept_J24 S F I p0 p1 (0 : Int32))
else (
f_X10_touchesKept_J24 S F I p0 p1 (1 : Int32)))
set_option maxHeartbeats 4000000 in
set_option maxRecDepth 100000 in
theorem t_X10_touchesKept {p0 : Nat} {p1 : Int32} {r : Int32 × v_I} (h : f_X10_touchesKept S I F p0 p1 = some r) : v_R l B D ac (v_EE B wa wb wt sb sL sx) yX10_touchesKept cX10_touchesKept 3 (some .int) 3 0 0 [.ref (B + p0), .int p1] S I J F (v_D (some (.int r.1)) S r.2 J F) := by
  refine v_R.of (by decide) (Nat.le_of_ble_eq_true rfl) fun d hd => ?_
  generalize hQ : v_D (some (.int r.1)) S r.2 J F = Q
  have j24 : ∀ (I : v_I) (y0 : Nat) (y1 : Int32) (z0 : Int32), f_X10_touchesKept_J24 S F I y0 y1 z0 = some r → V l B D ac (v_EE B wa wb wt sb sL sx) yX10_touchesKept cX10_touchesKept 3 (some .int) d 0 0 0 0 S I J F 24 [(0, .ref (B + y0)), (1, .int y1)] [.int z0] Q := by
    intro I y0 y1 z0 h
    unfold f_X10_touchesKept_J24 at h
    refine v_istore_n dX10_touchesKept_24 (by decide) ?_
    refine v_sub [(0, .ref (B + y0)), (1, .int y1), (2, .int z0)] ⟨rfl, rfl, rfl, trivial⟩ ?_
    refine v_aload_n dX10_touchesKept_25 rfl ?_
    refine v_iconstE (0 : Int32) dX10_touchesKept_26 (by decide) ?_
    replace h := p_bind_elim h
    obtain ⟨_, q_10, h⟩ := h
    have q_10 := p_ob_spec q_10
    replace h := p_bind_elim h
    obtain ⟨r_8, q_9, h⟩ := h
    refine v_cVn (t_X10_keeps q_9) cal_X10_keeps ml_X10_348 sel_X10_keeps q_10 kk_10 dX10_touchesKept_27 (by omega) (by decide) (by decide) (Nat.le_of_ble_eq_true rfl) rfl ?_
    refine v_aload_n dX10_touchesKept_30 rfl ?_
    refine v_iload_n dX10_touchesKept_31 rfl ?_
    replace h := p_bind_elim h
    obtain ⟨r_11, q_12, h⟩ := h
    refine v_cVn (t_X10_touches q_12) cal_X10_touches ml_X10_351 sel_X10_touches q_10 kk_10 dX10_touchesKept_32 (by omega) (by decide) (by decide) (Nat.le_of_ble_eq_true rfl) rfl ?_
    refine v_iload_n dX10_touchesKept_35 rfl ?_
    cases h
    exact v_iret dX10_touchesKept_36 rfl (by decide) (by decide) (by rw [← hQ]; exact ⟨rfl, rfl, rfl, rfl, rfl⟩)
  unfold f_X10_touchesKept at h
  refine v_sub [(0, .ref (B + p0)), (1, .int p1)] ⟨rfl, rfl, trivial⟩ ?_
  refine v_aload_n dX10_touchesKept_0 rfl ?_
  refine v_iload_n dX10_touchesKept_1 rfl ?_
  replace h := p_bind_elim h
  obtain ⟨_, q_3, h⟩ := h
  have q_3 := p_ob_spec q_3
  replace h := p_bind_elim h
  obtain ⟨r_1, q_2, h⟩ := h
  refine v_cVr (t_X10_isOne q_2) cal_X10_isOne ml_X10_128 sel_X10_isOne q_3 kk_10 dX10_touchesKept_2 (by omega) (by decide) (by decide) (Nat.le_of_ble_eq_true rfl) rfl ?_
  refine v_if_ne 11 dX10_touchesKept_5 (by decide) (fun c_4 => ?_) (fun c_4 => ?_)
  · rw [if_neg c_4] at h
    refine v_aload_n dX10_touchesKept_11 rfl ?_
    refine v_iload_n dX10_touchesKept_12 rfl ?_
    replace h := p_bind_elim h
    obtain ⟨r_5, q_6, h⟩ := h
    refine v_cVr (t_X10_isOpen q_6) cal_X10_isOpen ml_X10_131 sel_X10_isOpen q_3 kk_10 dX10_touchesKept_13 (by omega) (by decide) (by decide) (Nat.le_of_ble_eq_true rfl) rfl ?_
    refine v_if_eq 23 dX10_touchesKept_16 (by decide) (fun c_7 => ?_) (fun c_7 => ?_)
    · rw [if_pos c_7] at h
      refine v_iconstE (0 : Int32) dX10_touchesKept_23 (by decide) ?_
      refine v_sub [(0, .ref (B + p0)), (1, .int p1)] ⟨rfl, rfl, trivial⟩ ?_
      exact j24 _ _ _ _ h
    · rw [if_neg c_7] at h
      refine v_iconstE (1 : Int32) dX10_touchesKept_19 (by decide) ?_
      refine v_goto 24 dX10_touchesKept_20 (by decide) ?_
      refine v_sub [(0, .ref (B + p0)), (1, .int p1)] ⟨rfl, rfl, trivial⟩ ?_
      exact j24 _ _ _ _ h
  · rw [if_pos c_4] at h
    refine v_bipush (-2 : Int32) dX10_touchesKept_8 (by decide) ?_
    cases h
    exact v_iret dX10_touchesKept_10 rfl (by decide) (by decide) (by rw [← hQ]; exact ⟨rfl, rfl, rfl, rfl, rfl⟩)

def f_X10_touch (S : v_S) (I : v_I) (F : v_F) (p0 : Nat) (p1 : Int32) : Option (Int32 × v_I) :=
(p_ob S 10 p0).bind fun _ =>
(f_X10_touchesKept S I F p0 p1).bind fun r_1 =>
(f_X10_goodOr S r_1.2 F p0 r_1.1).bind fun r_4 =>
some (r_4.1, r_4.2)
set_option maxHeartbeats 4000000 in
set_option maxRecDepth 100000 in
theorem t_X10_touch {p0 : Nat} {p1 : Int32} {r : Int32 × v_I} (h : f_X10_touch S I F p0 p1 = some r) : v_R l B D ac (v_EE B wa wb wt sb sL sx) yX10_touch cX10_touch 2 (some .int) 4 0 0 [.ref (B + p0), .int p1] S I J F (v_D (some (.int r.1)) S r.2 J F) := by
  refine v_R.of (by decide) (Nat.le_of_ble_eq_true rfl) fun d hd => ?_
  generalize hQ : v_D (some (.int r.1)) S r.2 J F = Q
  unfold f_X10_touch at h
  refine v_sub [(0, .ref (B + p0)), (1, .int p1)] ⟨rfl, rfl, trivial⟩ ?_
  refine v_aload_n dX10_touch_0 rfl ?_
  refine v_aload_n dX10_touch_1 rfl ?_
  refine v_iload_n dX10_touch_2 rfl ?_
  replace h := p_bind_elim h
  obtain ⟨_, q_3, h⟩ := h
  have q_3 := p_ob_spec q_3
  replace h := p_bind_elim h
  obtain ⟨r_1, q_2, h⟩ := h
  refine v_cVr (t_X10_touchesKept q_2) cal_X10_touchesKept ml_X10_357 sel_X10_touchesKept q_3 kk_10 dX10_touch_3 (by omega) (by decide) (by decide) (Nat.le_of_ble_eq_true rfl) rfl ?_
  replace h := p_bind_elim h
  obtain ⟨r_4, q_5, h⟩ := h
  refine v_cVr (t_X10_goodOr q_5) cal_X10_goodOr ml_X10_360 sel_X10_goodOr q_3 kk_10 dX10_touch_6 (by omega) (by decide) (by decide) (Nat.le_of_ble_eq_true rfl) rfl ?_
  cases h
  exact v_iret dX10_touch_9 rfl (by decide) (by decide) (by rw [← hQ]; exact ⟨rfl, rfl, rfl, rfl, rfl⟩)

def f_X10_coaxesKept (S : v_S) (I : v_I) (F : v_F) (p0 : Nat) (p1 : Int32) : Option (Int32 × v_I) :=
(p_ob S 10 p0).bind fun _ =>
(f_X10_isOne S I F p0 p1).bind fun r_1 =>
if r_1 = (0 : Int32) then (
some ((-2 : Int32), I))
else (
(f_X10_isOpen S I F p0 p1).bind fun r_5 =>
if r_5 = (0 : Int32) then (
(f_X10_keeps S I F p0 (1 : Int32)).bind fun r_8 =>
(F p0 2).bind fun a_10 =>
(p_ix S 20 a_10 (0 : Int32)).bind fun j_12 =>
(p_ix S 20 a_10 (0 : Int32)).bind fun j_14 =>
p_let (v_up r_8 a_10 j_14 ((r_8 a_10 j_12) ||| ((1 : Int32) <<< (p1 &&& 31)))) fun I_16 =>
(F p0 2).bind fun a_18 =>
(p_ix S 20 a_18 (0 : Int32)).bind fun j_20 =>
(f_X10_ones (I_16 a_18 j_20)).bind fun r_22 =>
some (r_22, I_16))
else (
some ((-3 : Int32), I)))
set_option maxHeartbeats 4000000 in
set_option maxRecDepth 100000 in
theorem t_X10_coaxesKept {p0 : Nat} {p1 : Int32} {r : Int32 × v_I} (h : f_X10_coaxesKept S I F p0 p1 = some r) : v_R l B D ac (v_EE B wa wb wt sb sL sx) yX10_coaxesKept cX10_coaxesKept 2 (some .int) 3 0 0 [.ref (B + p0), .int p1] S I J F (v_D (some (.int r.1)) S r.2 J F) := by
  refine v_R.of (by decide) (Nat.le_of_ble_eq_true rfl) fun d hd => ?_
  generalize hQ : v_D (some (.int r.1)) S r.2 J F = Q
  unfold f_X10_coaxesKept at h
  refine v_sub [(0, .ref (B + p0)), (1, .int p1)] ⟨rfl, rfl, trivial⟩ ?_
  refine v_aload_n dX10_coaxesKept_0 rfl ?_
  refine v_iload_n dX10_coaxesKept_1 rfl ?_
  replace h := p_bind_elim h
  obtain ⟨_, q_3, h⟩ := h
  have q_3 := p_ob_spec q_3
  replace h := p_bind_elim h
  obtain ⟨r_1, q_2, h⟩ := h
  refine v_cVr (t_X10_isOne q_2) cal_X10_isOne ml_X10_128 sel_X10_isOne q_3 kk_10 dX10_coaxesKept_2 (by omega) (by decide) (by decide) (Nat.le_of_ble_eq_true rfl) rfl ?_
  refine v_if_ne 11 dX10_coaxesKept_5 (by decide) (fun c_4 => ?_) (fun c_4 => ?_)
  · rw [if_neg c_4] at h
    refine v_aload_n dX10_coaxesKept_11 rfl ?_
    refine v_iload_n dX10_coaxesKept_12 rfl ?_
    replace h := p_bind_elim h
    obtain ⟨r_5, q_6, h⟩ := h
    refine v_cVr (t_X10_isOpen q_6) cal_X10_isOpen ml_X10_131 sel_X10_isOpen q_3 kk_10 dX10_coaxesKept_13 (by omega) (by decide) (by decide) (Nat.le_of_ble_eq_true rfl) rfl ?_
    refine v_if_eq 22 dX10_coaxesKept_16 (by decide) (fun c_7 => ?_) (fun c_7 => ?_)
    · rw [if_pos c_7] at h
      refine v_aload_n dX10_coaxesKept_22 rfl ?_
      refine v_iconstE (1 : Int32) dX10_coaxesKept_23 (by decide) ?_
      replace h := p_bind_elim h
      obtain ⟨r_8, q_9, h⟩ := h
      refine v_cVn (t_X10_keeps q_9) cal_X10_keeps ml_X10_348 sel_X10_keeps q_3 kk_10 dX10_coaxesKept_24 (by omega) (by decide) (by decide) (Nat.le_of_ble_eq_true rfl) rfl ?_
      refine v_aload_n dX10_coaxesKept_27 rfl ?_
      replace h := p_bind_elim h
      obtain ⟨a_10, q_11, h⟩ := h
      refine v_getR q_11 rfl fl_X10_28 dX10_coaxesKept_28 q_3 ?_
      refine v_iconstE (0 : Int32) dX10_coaxesKept_31 (by decide) ?_
      refine v_dup2 dX10_coaxesKept_32 rfl rfl ?_
      replace h := p_bind_elim h
      obtain ⟨j_12, q_13, h⟩ := h
      refine v_ialdP dX10_coaxesKept_33 q_13 ?_
      refine v_iconstE (1 : Int32) dX10_coaxesKept_34 (by decide) ?_
      refine v_iload_n dX10_coaxesKept_35 rfl ?_
      refine v_ishl dX10_coaxesKept_36 ?_
      refine v_ior dX10_coaxesKept_37 ?_
      replace h := p_bind_elim h
      obtain ⟨j_14, q_15, h⟩ := h
      refine v_iastP dX10_coaxesKept_38 q_15 ?_
      replace h := p_let_elim h
      obtain ⟨I_16, h_17, h⟩ := h
      rw [← h_17]
      refine v_aload_n dX10_coaxesKept_39 rfl ?_
      replace h := p_bind_elim h
      obtain ⟨a_18, q_19, h⟩ := h
      refine v_getR q_19 rfl fl_X10_28 dX10_coaxesKept_40 q_3 ?_
      refine v_iconstE (0 : Int32) dX10_coaxesKept_43 (by decide) ?_
      replace h := p_bind_elim h
      obtain ⟨j_20, q_21, h⟩ := h
      refine v_ialdP dX10_coaxesKept_44 q_21 ?_
      replace h := p_bind_elim h
      obtain ⟨r_22, q_23, h⟩ := h
      refine v_cSr (t_X10_ones q_23) cal_X10_ones ml_X10_313 sta_X10_ones dX10_coaxesKept_45 (by omega) (by decide) (by decide) (Nat.le_of_ble_eq_true rfl) rfl ?_
      cases h
      exact v_iret dX10_coaxesKept_48 rfl (by decide) (by decide) (by rw [← hQ]; exact ⟨rfl, rfl, rfl, rfl, rfl⟩)
    · rw [if_neg c_7] at h
      refine v_bipush (-3 : Int32) dX10_coaxesKept_19 (by decide) ?_
      cases h
      exact v_iret dX10_coaxesKept_21 rfl (by decide) (by decide) (by rw [← hQ]; exact ⟨rfl, rfl, rfl, rfl, rfl⟩)
  · rw [if_pos c_4] at h
    refine v_bipush (-2 : Int32) dX10_coaxesKept_8 (by decide) ?_
    cases h
    exact v_iret dX10_coaxesKept_10 rfl (by decide) (by decide) (by rw [← hQ]; exact ⟨rfl, rfl, rfl, rfl, rfl⟩)

def f_X10_coax (S : v_S) (I : v_I) (F : v_F) (p0 : Nat) (p1 : Int32) : Option (Int32 × v_I) :=
(p_ob S 10 p0).bind fun _ =>
(f_X10_coaxesKept S I F p0 p1).bind fun r_1 =>
(f_X10_goodOr S r_1.2 F p0 r_1.1).bind fun r_4 =>
some (r_4.1, r_4.2)
set_option maxHeartbeats 4000000 in
set_option maxRecDepth 100000 in
theorem t_X10_coax {p0 : Nat} {p1 : Int32} {r : Int32 × v_I} (h : f_X10_coax S I F p0 p1 = some r) : v_R l B D ac (v_EE B wa wb wt sb sL sx) yX10_coax cX10_coax 2 (some .int) 4 0 0 [.ref (B + p0), .int p1] S I J F (v_D (some (.int r.1)) S r.2 J F) := by
  refine v_R.of (by decide) (Nat.le_of_ble_eq_true rfl) fun d hd => ?_
  generalize hQ : v_D (some (.int r.1)) S r.2 J F = Q
  unfold f_X10_coax at h
  refine v_sub [(0, .ref (B + p0)), (1, .int p1)] ⟨rfl, rfl, trivial⟩ ?_
  refine v_aload_n dX10_coax_0 rfl ?_
  refine v_aload_n dX10_coax_1 rfl ?_
  refine v_iload_n dX10_coax_2 rfl ?_
  replace h := p_bind_elim h
  obtain ⟨_, q_3, h⟩ := h
  have q_3 := p_ob_spec q_3
  replace h := p_bind_elim h
  obtain ⟨r_1, q_2, h⟩ := h
  refine v_cVr (t_X10_coaxesKept q_2) cal_X10_coaxesKept ml_X10_363 sel_X10_coaxesKept q_3 kk_10 dX10_coax_3 (by omega) (by decide) (by decide) (Nat.le_of_ble_eq_true rfl) rfl ?_
  replace h := p_bind_elim h
  obtain ⟨r_4, q_5, h⟩ := h
  refine v_cVr (t_X10_goodOr q_5) cal_X10_goodOr ml_X10_360 sel_X10_goodOr q_3 kk_10 dX10_coax_6 (by omega) (by decide) (by decide) (Nat.le_of_ble_eq_true rfl) rfl ?_
  cases h
  exact v_iret dX10_coax_9 rfl (by decide) (by decide) (by rw [← hQ]; exact ⟨rfl, rfl, rfl, rfl, rfl⟩)

def f_X10_temptsKept (S : v_S) (I : v_I) (F : v_F) (p0 : Nat) (p1 : Int32) (p2 : Int32) : Option (Int32 × v_I) :=
(f_X10_isNine p2).bind fun r_1 =>
if r_1 = (0 : Int32) then (
some ((-1 : Int32), I))
else (
(p_ob S 10 p0).bind fun _ =>
(f_X10_isOne S I F p0 p1).bind fun r_4 =>
if r_4 = (0 : Int32) then (
some ((-2 : Int32), I))
else (
(F p0 2).bind fun a_8 =>
(p_ix S 20 a_8 ((1 : Int32) + p1)).bind fun j_10 =>
p_let (I a_8 j_10) fun x_12 =>
if x_12 = p2 then (
some ((-3 : Int32), I))
else (
(f_X10_keeps S I F p0 (2 : Int32)).bind fun r_15 =>
(F p0 2).bind fun a_17 =>
(p_ix S 20 a_17 ((1 : Int32) + p1)).bind fun j_19 =>
p_let (v_up r_15 a_17 j_19 p2) fun I_21 =>
some (x_12, I_21))))
set_option maxHeartbeats 4000000 in
set_option maxRecDepth 100000 in
theorem t_X10_temptsKept {p0 : Nat} {p1 : Int32} {p2 : Int32} {r : Int32 × v_I} (h : f_X10_temptsKept S I F p0 p1 p2 = some r) : v_R l B D ac (v_EE B wa wb wt sb sL sx) yX10_temptsKept cX10_temptsKept 4 (some .int) 3 0 0 [.ref (B + p0), .int p1, .int p2] S I J F (v_D (some (.int r.1)) S r.2 J F) := by
  refine v_R.of (by decide) (Nat.le_of_ble_eq_true rfl) fun d hd => ?_
  generalize hQ : v_D (some (.int r.1)) S r.2 J F = Q
  unfold f_X10_temptsKept at h
  refine v_sub [(0, .ref (B + p0)), (1, .int p1), (2, .int p2)] ⟨rfl, rfl, rfl, trivial⟩ ?_
  refine v_iload_n dX10_temptsKept_0 rfl ?_
  replace h := p_bind_elim h
  obtain ⟨r_1, q_2, h⟩ := h
  refine v_cSr (t_X10_isNine q_2) cal_X10_isNine ml_X10_117 sta_X10_isNine dX10_temptsKept_1 (by omega) (by decide) (by decide) (Nat.le_of_ble_eq_true rfl) rfl ?_
  refine v_if_ne 9 dX10_temptsKept_4 (by decide) (fun c_3 => ?_) (fun c_3 => ?_)
  · rw [if_neg c_3] at h
    refine v_aload_n dX10_temptsKept_9 rfl ?_
    refine v_iload_n dX10_temptsKept_10 rfl ?_
    replace h := p_bind_elim h
    obtain ⟨_, q_6, h⟩ := h
    have q_6 := p_ob_spec q_6
    replace h := p_bind_elim h
    obtain ⟨r_4, q_5, h⟩ := h
    refine v_cVr (t_X10_isOne q_5) cal_X10_isOne ml_X10_128 sel_X10_isOne q_6 kk_10 dX10_temptsKept_11 (by omega) (by decide) (by decide) (Nat.le_of_ble_eq_true rfl) rfl ?_
    refine v_if_ne 20 dX10_temptsKept_14 (by decide) (fun c_7 => ?_) (fun c_7 => ?_)
    · rw [if_neg c_7] at h
      refine v_aload_n dX10_temptsKept_20 rfl ?_
      replace h := p_bind_elim h
      obtain ⟨a_8, q_9, h⟩ := h
      refine v_getR q_9 rfl fl_X10_28 dX10_temptsKept_21 q_6 ?_
      refine v_iconstE (1 : Int32) dX10_temptsKept_24 (by decide) ?_
      refine v_iload_n dX10_temptsKept_25 rfl ?_
      refine v_iadd dX10_temptsKept_26 ?_
      replace h := p_bind_elim h
      obtain ⟨j_10, q_11, h⟩ := h
      refine v_ialdP dX10_temptsKept_27 q_11 ?_
      replace h := p_let_elim h
      obtain ⟨x_12, h_13, h⟩ := h
      rw [← h_13]
      refine v_istore_n dX10_temptsKept_28 (by decide) ?_
      refine v_sub [(0, .ref (B + p0)), (1, .int p1), (2, .int p2), (3, .int x_12)] ⟨rfl, rfl, rfl, rfl, trivial⟩ ?_
      refine v_iload_n dX10_temptsKept_29 rfl ?_
      refine v_iload_n dX10_temptsKept_30 rfl ?_
      refine v_icmp_ne 37 dX10_temptsKept_31 (by decide) (fun c_14 => ?_) (fun c_14 => ?_)
      · rw [if_neg c_14] at h
        refine v_aload_n dX10_temptsKept_37 rfl ?_
        refine v_iconstE (2 : Int32) dX10_temptsKept_38 (by decide) ?_
        replace h := p_bind_elim h
        obtain ⟨r_15, q_16, h⟩ := h
        refine v_cVn (t_X10_keeps q_16) cal_X10_keeps ml_X10_348 sel_X10_keeps q_6 kk_10 dX10_temptsKept_39 (by omega) (by decide) (by decide) (Nat.le_of_ble_eq_true rfl) rfl ?_
        refine v_aload_n dX10_temptsKept_42 rfl ?_
        replace h := p_bind_elim h
        obtain ⟨a_17, q_18, h⟩ := h
        refine v_getR q_18 rfl fl_X10_28 dX10_temptsKept_43 q_6 ?_
        refine v_iconstE (1 : Int32) dX10_temptsKept_46 (by decide) ?_
        refine v_iload_n dX10_temptsKept_47 rfl ?_
        refine v_iadd dX10_temptsKept_48 ?_
        refine v_iload_n dX10_temptsKept_49 rfl ?_
        replace h := p_bind_elim h
        obtain ⟨j_19, q_20, h⟩ := h
        refine v_iastP dX10_temptsKept_50 q_20 ?_
        replace h := p_let_elim h
        obtain ⟨I_21, h_22, h⟩ := h
        rw [← h_22]
        refine v_iload_n dX10_temptsKept_51 rfl ?_
        cases h
        exact v_iret dX10_temptsKept_52 rfl (by decide) (by decide) (by rw [← hQ]; exact ⟨rfl, rfl, rfl, rfl, rfl⟩)
      · rw [if_pos c_14] at h
        refine v_bipush (-3 : Int32) dX10_temptsKept_34 (by decide) ?_
        cases h
        exact v_iret dX10_temptsKept_36 rfl (by decide) (by decide) (by rw [← hQ]; exact ⟨rfl, rfl, rfl, rfl, rfl⟩)
    · rw [if_pos c_7] at h
      refine v_bipush (-2 : Int32) dX10_temptsKept_17 (by decide) ?_
      cases h
      exact v_iret dX10_temptsKept_19 rfl (by decide) (by decide) (by rw [← hQ]; exact ⟨rfl, rfl, rfl, rfl, rfl⟩)
  · rw [if_pos c_3] at h
    refine v_iconstE (-1 : Int32) dX10_temptsKept_7 (by decide) ?_
    cases h
    exact v_iret dX10_temptsKept_8 rfl (by decide) (by decide) (by rw [← hQ]; exact ⟨rfl, rfl, rfl, rfl, rfl⟩)

def f_X10_tempt (S : v_S) (I : v_I) (F : v_F) (p0 : Nat) (p1 : Int32) (p2 : Int32) : Option (Int32 × v_I) :=
(p_ob S 10 p0).bind fun _ =>
(f_X10_temptsKept S I F p0 p1 p2).bind fun r_1 =>
(f_X10_goodOr S r_1.2 F p0 r_1.1).bind fun r_4 =>
some (r_4.1, r_4.2)
set_option maxHeartbeats 4000000 in
set_option maxRecDepth 100000 in
theorem t_X10_tempt {p0 : Nat} {p1 : Int32} {p2 : Int32} {r : Int32 × v_I} (h : f_X10_tempt S I F p0 p1 p2 = some r) : v_R l B D ac (v_EE B wa wb wt sb sL sx) yX10_tempt cX10_tempt 3 (some .int) 4 0 0 [.ref (B + p0), .int p1, .int p2] S I J F (v_D (some (.int r.1)) S r.2 J F) := by
  refine v_R.of (by decide) (Nat.le_of_ble_eq_true rfl) fun d hd => ?_
  generalize hQ : v_D (some (.int r.1)) S r.2 J F = Q
  unfold f_X10_tempt at h
  refine v_sub [(0, .ref (B + p0)), (1, .int p1), (2, .int p2)] ⟨rfl, rfl, rfl, trivial⟩ ?_
  refine v_aload_n dX10_tempt_0 rfl ?_
  refine v_aload_n dX10_tempt_1 rfl ?_
  refine v_iload_n dX10_tempt_2 rfl ?_
  refine v_iload_n dX10_tempt_3 rfl ?_
  replace h := p_bind_elim h
  obtain ⟨_, q_3, h⟩ := h
  have q_3 := p_ob_spec q_3
  replace h := p_bind_elim h
  obtain ⟨r_1, q_2, h⟩ := h
  refine v_cVr (t_X10_temptsKept q_2) cal_X10_temptsKept ml_X10_366 sel_X10_temptsKept q_3 kk_10 dX10_tempt_4 (by omega) (by decide) (by decide) (Nat.le_of_ble_eq_true rfl) rfl ?_
  replace h := p_bind_elim h
  obtain ⟨r_4, q_5, h⟩ := h
  refine v_cVr (t_X10_goodOr q_5) cal_X10_goodOr ml_X10_360 sel_X10_goodOr q_3 kk_10 dX10_tempt_7 (by omega) (by decide) (by decide) (Nat.le_of_ble_eq_true rfl) rfl ?_
  cases h
  exact v_iret dX10_tempt_10 rfl (by decide) (by decide) (by rw [← hQ]; exact ⟨rfl, rfl, rfl, rfl, rfl⟩)

def f_X10_lesser (p0 : Int32) (p1 : Int32) : Option (Int32) :=
if p1 ≤ p0 then (
some (p1))
else (
some (p0))
set_option maxHeartbeats 4000000 in
set_option maxRecDepth 100000 in
theorem t_X10_lesser {p0 : Int32} {p1 : Int32} {r : Int32} (h : f_X10_lesser p0 p1 = some r) : v_R l B D ac (v_EE B wa wb wt sb sL sx) yX10_lesser cX10_lesser 2 (some .int) 1 0 0 [.int p0, .int p1] S I J F (v_D (some (.int r)) S I J F) := by
  refine v_R.of (by decide) (Nat.le_of_ble_eq_true rfl) fun d hd => ?_
  generalize hQ : v_D (some (.int r)) S I J F = Q
  unfold f_X10_lesser at h
  refine v_sub [(0, .int p0), (1, .int p1)] ⟨rfl, rfl, trivial⟩ ?_
  refine v_iload_n dX10_lesser_0 rfl ?_
  refine v_iload_n dX10_lesser_1 rfl ?_
  refine v_icmp_ge 9 dX10_lesser_2 (by decide) (fun c_1 => ?_) (fun c_1 => ?_)
  · rw [if_pos c_1] at h
    refine v_iload_n dX10_lesser_9 rfl ?_
    cases h
    exact v_iret dX10_lesser_10 rfl (by decide) (by decide) (by rw [← hQ]; exact ⟨rfl, rfl, rfl, rfl, rfl⟩)
  · rw [if_neg c_1] at h
    refine v_iload_n dX10_lesser_5 rfl ?_
    refine v_goto 10 dX10_lesser_6 (by decide) ?_
    cases h
    exact v_iret dX10_lesser_10 rfl (by decide) (by decide) (by rw [← hQ]; exact ⟨rfl, rfl, rfl, rfl, rfl⟩)

def f_X10_isSettled (S : v_S) (I : v_I) (F : v_F) (p0 : Nat) (p1 : Int32) : Option (Int32) :=
(p_ob S 10 p0).bind fun _ =>
(F p0 2).bind fun a_2 =>
(p_ix S 20 a_2 (52 : Int32)).bind fun j_4 =>
if (I a_2 j_4) = (-1 : Int32) then (
if p1 = (0 : Int32) then (
some ((0 : Int32)))
else (
(F p0 33).bind fun a_8 =>
(p_ix S 20 a_8 p1).bind fun j_10 =>
(F p0 33).bind fun a_12 =>
(p_ix S 20 a_12 (p1 - (1 : Int32))).bind fun j_14 =>
if (I a_8 j_10) = (I a_12 j_14) then (
some ((1 : Int32)))
else (
some ((0 : Int32)))))
else (
some ((0 : Int32)))
set_option maxHeartbeats 4000000 in
set_option maxRecDepth 100000 in
theorem t_X10_isSettled {p0 : Nat} {p1 : Int32} {r : Int32} (h : f_X10_isSettled S I F p0 p1 = some r) : v_R l B D ac (v_EE B wa wb wt sb sL sx) yX10_isSettled cX10_isSettled 2 (some .boolean) 1 0 0 [.ref (B + p0), .int p1] S I J F (v_D (some (.int r)) S I J F) := by
  refine v_R.of (by decide) (Nat.le_of_ble_eq_true rfl) fun d hd => ?_
  generalize hQ : v_D (some (.int r)) S I J F = Q
  unfold f_X10_isSettled at h
  refine v_sub [(0, .ref (B + p0)), (1, .int p1)] ⟨rfl, rfl, trivial⟩ ?_
  refine v_aload_n dX10_isSettled_0 rfl ?_
  replace h := p_bind_elim h
  obtain ⟨_, q_1, h⟩ := h
  have q_1 := p_ob_spec q_1
  replace h := p_bind_elim h
  obtain ⟨a_2, q_3, h⟩ := h
  refine v_getR q_3 rfl fl_X10_28 dX10_isSettled_1 q_1 ?_
  refine v_bipush (52 : Int32) dX10_isSettled_4 (by decide) ?_
  replace h := p_bind_elim h
  obtain ⟨j_4, q_5, h⟩ := h
  refine v_ialdP dX10_isSettled_6 q_5 ?_
  refine v_iconstE (-1 : Int32) dX10_isSettled_7 (by decide) ?_
  refine v_icmp_ne 15 dX10_isSettled_8 (by decide) (fun c_6 => ?_) (fun c_6 => ?_)
  · rw [if_neg c_6] at h
    refine v_iconstE (0 : Int32) dX10_isSettled_15 (by decide) ?_
    cases h
    exact v_zret dX10_isSettled_16 rfl rfl (by decide) (by decide) (by rw [← hQ]; exact ⟨rfl, rfl, rfl, rfl, rfl⟩)
  · rw [if_pos c_6] at h
    refine v_iload_n dX10_isSettled_11 rfl ?_
    refine v_if_ne 17 dX10_isSettled_12 (by decide) (fun c_7 => ?_) (fun c_7 => ?_)
    · rw [if_neg c_7] at h
      refine v_aload_n dX10_isSettled_17 rfl ?_
      replace h := p_bind_elim h
      obtain ⟨a_8, q_9, h⟩ := h
      refine v_getR q_9 rfl fl_X10_75 dX10_isSettled_18 q_1 ?_
      refine v_iload_n dX10_isSettled_21 rfl ?_
      replace h := p_bind_elim h
      obtain ⟨j_10, q_11, h⟩ := h
      refine v_ialdP dX10_isSettled_22 q_11 ?_
      refine v_aload_n dX10_isSettled_23 rfl ?_
      replace h := p_bind_elim h
      obtain ⟨a_12, q_13, h⟩ := h
      refine v_getR q_13 rfl fl_X10_75 dX10_isSettled_24 q_1 ?_
      refine v_iload_n dX10_isSettled_27 rfl ?_
      refine v_iconstE (1 : Int32) dX10_isSettled_28 (by decide) ?_
      refine v_isub dX10_isSettled_29 ?_
      replace h := p_bind_elim h
      obtain ⟨j_14, q_15, h⟩ := h
      refine v_ialdP dX10_isSettled_30 q_15 ?_
      refine v_icmp_ne 38 dX10_isSettled_31 (by decide) (fun c_16 => ?_) (fun c_16 => ?_)
      · rw [if_neg c_16] at h
        refine v_iconstE (0 : Int32) dX10_isSettled_38 (by decide) ?_
        cases h
        exact v_zret dX10_isSettled_39 rfl rfl (by decide) (by decide) (by rw [← hQ]; exact ⟨rfl, rfl, rfl, rfl, rfl⟩)
      · rw [if_pos c_16] at h
        refine v_iconstE (1 : Int32) dX10_isSettled_34 (by decide) ?_
        refine v_goto 39 dX10_isSettled_35 (by decide) ?_
        cases h
        exact v_zret dX10_isSettled_39 rfl rfl (by decide) (by decide) (by rw [← hQ]; exact ⟨rfl, rfl, rfl, rfl, rfl⟩)
    · rw [if_pos c_7] at h
      refine v_iconstE (0 : Int32) dX10_isSettled_15 (by decide) ?_
      cases h
      exact v_zret dX10_isSettled_16 rfl rfl (by decide) (by decide) (by rw [← hQ]; exact ⟨rfl, rfl, rfl, rfl, rfl⟩)

def f_X10_laysAside_B2 (S : v_S) (F : v_F) (w0 : Nat) (w1 : Int32) (s2 : Int32 × v_I) : Option ((Int32 × v_I) ⊕ (Int32 × v_I)) :=
if (18 : Int32) ≤ s2.1 then (
some (.inr (s2.1, s2.2)))
else (
(p_ob S 10 w0).bind fun _ =>
(F w0 5).bind fun a_3 =>
(F w0 2).bind fun a_5 =>
(p_ix S 20 a_5 s2.1).bind fun j_7 =>
(p_ix S 20 a_3 (((18 : Int32) * w1) + s2.1)).bind fun j_9 =>
p_let (v_up s2.2 a_3 j_9 (s2.2 a_5 j_7)) fun I_11 =>
p_let (s2.1 + (1 : Int32)) fun x_13 =>
some (.inl (x_13, I_11)))
def f_X10_laysAside (S : v_S) (I : v_I) (F : v_F) (p0 : Nat) (p1 : Int32) : Option (v_I) :=
(v_loop (f_X10_laysAside_B2 S F p0 p1) FU ((0 : Int32), I)).bind fun q_15 =>
some (q_15.2)
set_option maxHeartbeats 4000000 in
set_option maxRecDepth 100000 in
theorem t_X10_laysAside {p0 : Nat} {p1 : Int32} {r : v_I} (h : f_X10_laysAside S I F p0 p1 = some r) : v_R l B D ac (v_EE B wa wb wt sb sL sx) yX10_laysAside cX10_laysAside 3 none 1 0 0 [.ref (B + p0), .int p1] S I J F (v_D none S r J F) := by
  refine v_R.of (by decide) (Nat.le_of_ble_eq_true rfl) fun d hd => ?_
  generalize hQ : v_D none S r J F = Q
  have b2 : ∀ (w0 : Nat) (w1 : Int32) (s2 : Int32 × v_I) (rx2 : (Int32 × v_I) ⊕ (Int32 × v_I)), f_X10_laysAside_B2 S F w0 w1 s2 = some rx2 → v_K (fun (sP : Int32 × v_I) => V l B D ac (v_EE B wa wb wt sb sL sx) yX10_laysAside cX10_laysAside 3 none d 0 0 0 0 S sP.2 J F 2 [(0, .ref (B + w0)), (1, .int w1), (2, .int sP.1)] [] Q) (fun (rE : Int32 × v_I) => V l B D ac (v_EE B wa wb wt sb sL sx) yX10_laysAside cX10_laysAside 3 none d 0 0 0 0 S rE.2 J F 31 [] [] Q) rx2 → V l B D ac (v_EE B wa wb wt sb sL sx) yX10_laysAside cX10_laysAside 3 none d 0 0 0 0 S s2.2 J F 2 [(0, .ref (B + w0)), (1, .int w1), (2, .int s2.1)] [] Q := by
    intro w0 w1 s2 rx2 h hk
    unfold f_X10_laysAside_B2 at h
    refine v_iload_n dX10_laysAside_2 rfl ?_
    refine v_bipush (18 : Int32) dX10_laysAside_3 (by decide) ?_
    refine v_icmp_ge 31 dX10_laysAside_5 (by decide) (fun c_1 => ?_) (fun c_1 => ?_)
    · rw [if_pos c_1] at h
      cases h
      refine v_sub [] trivial ?_
      exact hk
    · rw [if_neg c_1] at h
      refine v_aload_n dX10_laysAside_8 rfl ?_
      replace h := p_bind_elim h
      obtain ⟨_, q_2, h⟩ := h
      have q_2 := p_ob_spec q_2
      replace h := p_bind_elim h
      obtain ⟨a_3, q_4, h⟩ := h
      refine v_getR q_4 rfl fl_X10_38 dX10_laysAside_9 q_2 ?_
      refine v_bipush (18 : Int32) dX10_laysAside_12 (by decide) ?_
      refine v_iload_n dX10_laysAside_14 rfl ?_
      refine v_imul dX10_laysAside_15 ?_
      refine v_iload_n dX10_laysAside_16 rfl ?_
      refine v_iadd dX10_laysAside_17 ?_
      refine v_aload_n dX10_laysAside_18 rfl ?_
      replace h := p_bind_elim h
      obtain ⟨a_5, q_6, h⟩ := h
      refine v_getR q_6 rfl fl_X10_28 dX10_laysAside_19 q_2 ?_
      refine v_iload_n dX10_laysAside_22 rfl ?_
      replace h := p_bind_elim h
      obtain ⟨j_7, q_8, h⟩ := h
      refine v_ialdP dX10_laysAside_23 q_8 ?_
      replace h := p_bind_elim h
      obtain ⟨j_9, q_10, h⟩ := h
      refine v_iastP dX10_laysAside_24 q_10 ?_
      replace h := p_let_elim h
      obtain ⟨I_11, h_12, h⟩ := h
      rw [← h_12]
      replace h := p_let_elim h
      obtain ⟨x_13, h_14, h⟩ := h
      refine v_iincE (1 : Int32) dX10_laysAside_25 (by decide) rfl (by decide) ?_
      rw [← h_14]
      refine v_sub [(0, .ref (B + w0)), (1, .int w1), (2, .int x_13)] ⟨rfl, rfl, rfl, trivial⟩ ?_
      refine v_goto 2 dX10_laysAside_28 (by decide) ?_
      cases h
      refine v_sub [(0, .ref (B + w0)), (1, .int w1), (2, .int x_13)] ⟨rfl, rfl, rfl, trivial⟩ ?_
      exact hk
  unfold f_X10_laysAside at h
  refine v_sub [(0, .ref (B + p0)), (1, .int p1)] ⟨rfl, rfl, trivial⟩ ?_
  refine v_iconstE (0 : Int32) dX10_laysAside_0 (by decide) ?_
  refine v_istore_n dX10_laysAside_1 (by decide) ?_
  refine v_sub [(0, .ref (B + p0)), (1, .int p1), (2, .int (0 : Int32))] ⟨rfl, rfl, rfl, trivial⟩ ?_
  replace h := p_bind_elim h
  obtain ⟨q_15, h_16, h⟩ := h
  refine v_sub [(0, .ref (B + p0)), (1, .int p1), (2, .int (0 : Int32))] ⟨rfl, rfl, rfl, trivial⟩ ?_
  refine v_loopV (fun (sP : Int32 × v_I) => V l B D ac (v_EE B wa wb wt sb sL sx) yX10_laysAside cX10_laysAside 3 none d 0 0 0 0 S sP.2 J F 2 [(0, .ref (B + p0)), (1, .int p1), (2, .int sP.1)] [] Q) (fun (rE : Int32 × v_I) => V l B D ac (v_EE B wa wb wt sb sL sx) yX10_laysAside cX10_laysAside 3 none d 0 0 0 0 S rE.2 J F 31 [] [] Q) (fun s_ x_ hb hk => b2 _ _ s_ x_ hb hk) (r := q_15) ?_ h_16
  try dsimp only
  cases h
  exact v_vret dX10_laysAside_31 rfl (by decide) (by decide) (by rw [← hQ]; exact ⟨rfl, rfl, rfl, rfl, rfl⟩)

def f_X10_takesBack_B2 (S : v_S) (F : v_F) (w0 : Nat) (w1 : Int32) (s2 : Int32 × v_I) : Option ((Int32 × v_I) ⊕ (Int32 × v_I)) :=
if (18 : Int32) ≤ s2.1 then (
some (.inr (s2.1, s2.2)))
else (
(p_ob S 10 w0).bind fun _ =>
(F w0 2).bind fun a_3 =>
(F w0 5).bind fun a_5 =>
(p_ix S 20 a_5 (((18 : Int32) * w1) + s2.1)).bind fun j_7 =>
(p_ix S 20 a_3 s2.1).bind fun j_9 =>
p_let (v_up s2.2 a_3 j_9 (s2.2 a_5 j_7)) fun I_11 =>
p_let (s2.1 + (1 : Int32)) fun x_13 =>
some (.inl (x_13, I_11)))
def f_X10_takesBack (S : v_S) (I : v_I) (F : v_F) (p0 : Nat) (p1 : Int32) : Option (v_I) :=
(v_loop (f_X10_takesBack_B2 S F p0 p1) FU ((0 : Int32), I)).bind fun q_15 =>
some (q_15.2)
set_option maxHeartbeats 4000000 in
set_option maxRecDepth 100000 in
theorem t_X10_takesBack {p0 : Nat} {p1 : Int32} {r : v_I} (h : f_X10_takesBack S I F p0 p1 = some r) : v_R l B D ac (v_EE B wa wb wt sb sL sx) yX10_takesBack cX10_takesBack 3 none 1 0 0 [.ref (B + p0), .int p1] S I J F (v_D none S r J F) := by
  refine v_R.of (by decide) (Nat.le_of_ble_eq_true rfl) fun d hd => ?_
  generalize hQ : v_D none S r J F = Q
  have b2 : ∀ (w0 : Nat) (w1 : Int32) (s2 : Int32 × v_I) (rx2 : (Int32 × v_I) ⊕ (Int32 × v_I)), f_X10_takesBack_B2 S F w0 w1 s2 = some rx2 → v_K (fun (sP : Int32 × v_I) => V l B D ac (v_EE B wa wb wt sb sL sx) yX10_takesBack cX10_takesBack 3 none d 0 0 0 0 S sP.2 J F 2 [(0, .ref (B + w0)), (1, .int w1), (2, .int sP.1)] [] Q) (fun (rE : Int32 × v_I) => V l B D ac (v_EE B wa wb wt sb sL sx) yX10_takesBack cX10_takesBack 3 none d 0 0 0 0 S rE.2 J F 31 [] [] Q) rx2 → V l B D ac (v_EE B wa wb wt sb sL sx) yX10_takesBack cX10_takesBack 3 none d 0 0 0 0 S s2.2 J F 2 [(0, .ref (B + w0)), (1, .int w1), (2, .int s2.1)] [] Q := by
    intro w0 w1 s2 rx2 h hk
    unfold f_X10_takesBack_B2 at h
    refine v_iload_n dX10_takesBack_2 rfl ?_
    refine v_bipush (18 : Int32) dX10_takesBack_3 (by decide) ?_
    refine v_icmp_ge 31 dX10_takesBack_5 (by decide) (fun c_1 => ?_) (fun c_1 => ?_)
    · rw [if_pos c_1] at h
      cases h
      refine v_sub [] trivial ?_
      exact hk
    · rw [if_neg c_1] at h
      refine v_aload_n dX10_takesBack_8 rfl ?_
      replace h := p_bind_elim h
      obtain ⟨_, q_2, h⟩ := h
      have q_2 := p_ob_spec q_2
      replace h := p_bind_elim h
      obtain ⟨a_3, q_4, h⟩ := h
      refine v_getR q_4 rfl fl_X10_28 dX10_takesBack_9 q_2 ?_
      refine v_iload_n dX10_takesBack_12 rfl ?_
      refine v_aload_n dX10_takesBack_13 rfl ?_
      replace h := p_bind_elim h
      obtain ⟨a_5, q_6, h⟩ := h
      refine v_getR q_6 rfl fl_X10_38 dX10_takesBack_14 q_2 ?_
      refine v_bipush (18 : Int32) dX10_takesBack_17 (by decide) ?_
      refine v_iload_n dX10_takesBack_19 rfl ?_
      refine v_imul dX10_takesBack_20 ?_
      refine v_iload_n dX10_takesBack_21 rfl ?_
      refine v_iadd dX10_takesBack_22 ?_
      replace h := p_bind_elim h
      obtain ⟨j_7, q_8, h⟩ := h
      refine v_ialdP dX10_takesBack_23 q_8 ?_
      replace h := p_bind_elim h
      obtain ⟨j_9, q_10, h⟩ := h
      refine v_iastP dX10_takesBack_24 q_10 ?_
      replace h := p_let_elim h
      obtain ⟨I_11, h_12, h⟩ := h
      rw [← h_12]
      replace h := p_let_elim h
      obtain ⟨x_13, h_14, h⟩ := h
      refine v_iincE (1 : Int32) dX10_takesBack_25 (by decide) rfl (by decide) ?_
      rw [← h_14]
      refine v_sub [(0, .ref (B + w0)), (1, .int w1), (2, .int x_13)] ⟨rfl, rfl, rfl, trivial⟩ ?_
      refine v_goto 2 dX10_takesBack_28 (by decide) ?_
      cases h
      refine v_sub [(0, .ref (B + w0)), (1, .int w1), (2, .int x_13)] ⟨rfl, rfl, rfl, trivial⟩ ?_
      exact hk
  unfold f_X10_takesBack at h
  refine v_sub [(0, .ref (B + p0)), (1, .int p1)] ⟨rfl, rfl, trivial⟩ ?_
  refine v_iconstE (0 : Int32) dX10_takesBack_0 (by decide) ?_
  refine v_istore_n dX10_takesBack_1 (by decide) ?_
  refine v_sub [(0, .ref (B + p0)), (1, .int p1), (2, .int (0 : Int32))] ⟨rfl, rfl, rfl, trivial⟩ ?_
  replace h := p_bind_elim h
  obtain ⟨q_15, h_16, h⟩ := h
  refine v_sub [(0, .ref (B + p0)), (1, .int p1), (2, .int (0 : Int32))] ⟨rfl, rfl, rfl, trivial⟩ ?_
  refine v_loopV (fun (sP : Int32 × v_I) => V l B D ac (v_EE B wa wb wt sb sL sx) yX10_takesBack cX10_takesBack 3 none d 0 0 0 0 S sP.2 J F 2 [(0, .ref (B + p0)), (1, .int p1), (2, .int sP.1)] [] Q) (fun (rE : Int32 × v_I) => V l B D ac (v_EE B wa wb wt sb sL sx) yX10_takesBack cX10_takesBack 3 none d 0 0 0 0 S rE.2 J F 31 [] [] Q) (fun s_ x_ hb hk => b2 _ _ s_ x_ hb hk) (r := q_15) ?_ h_16
  try dsimp only
  cases h
  exact v_vret dX10_takesBack_31 rfl (by decide) (by decide) (by rw [← hQ]; exact ⟨rfl, rfl, rfl, rfl, rfl⟩)

def f_X10_shutNow (S : v_S) (I : v_I) (F : v_F) (p0 : Nat) : Option (Int32) :=
(p_ob S 10 p0).bind fun _ =>
(f_X10_everybody S I F p0).bind fun r_1 =>
(F p0 2).bind fun a_4 =>
(p_ix S 20 a_4 (0 : Int32)).bind fun j_6 =>
some (r_1 &&& ((I a_4 j_6) ^^^ (-1 : Int32)))
set_option maxHeartbeats 4000000 in
set_option maxRecDepth 100000 in
theorem t_X10_shutNow {p0 : Nat} {r : Int32} (h : f_X10_shutNow S I F p0 = some r) : v_R l B D ac (v_EE B wa wb wt sb sL sx) yX10_shutNow cX10_shutNow 1 (some .int) 3 0 0 [.ref (B + p0)] S I J F (v_D (some (.int r)) S I J F) := by
  refine v_R.of (by decide) (Nat.le_of_ble_eq_true rfl) fun d hd => ?_
  generalize hQ : v_D (some (.int r)) S I J F = Q
  unfold f_X10_shutNow at h
  refine v_sub [(0, .ref (B + p0))] ⟨rfl, trivial⟩ ?_
  refine v_aload_n dX10_shutNow_0 rfl ?_
  replace h := p_bind_elim h
  obtain ⟨_, q_3, h⟩ := h
  have q_3 := p_ob_spec q_3
  replace h := p_bind_elim h
  obtain ⟨r_1, q_2, h⟩ := h
  refine v_cVr (t_X10_everybody q_2) cal_X10_everybody ml_X10_162 sel_X10_everybody q_3 kk_10 dX10_shutNow_1 (by omega) (by decide) (by decide) (Nat.le_of_ble_eq_true rfl) rfl ?_
  refine v_aload_n dX10_shutNow_4 rfl ?_
  replace h := p_bind_elim h
  obtain ⟨a_4, q_5, h⟩ := h
  refine v_getR q_5 rfl fl_X10_28 dX10_shutNow_5 q_3 ?_
  refine v_iconstE (0 : Int32) dX10_shutNow_8 (by decide) ?_
  replace h := p_bind_elim h
  obtain ⟨j_6, q_7, h⟩ := h
  refine v_ialdP dX10_shutNow_9 q_7 ?_
  refine v_iconstE (-1 : Int32) dX10_shutNow_10 (by decide) ?_
  refine v_ixor dX10_shutNow_11 ?_
  refine v_iand dX10_shutNow_12 ?_
  cases h
  exact v_iret dX10_shutNow_13 rfl (by decide) (by decide) (by rw [← hQ]; exact ⟨rfl, rfl, rfl, rfl, rfl⟩)

def f_X10_toldOf (p0 : Int32) (p1 : Int32) : Option (Int32) :=
if p0 = (-1 : Int32) then (
some (p0))
else (
if p1 = (1 : Int32) then (
some (p0))
else (
(f_X10_ones p0).bind fun r_3 =>
some (r_3)))
set_option maxHeartbeats 4000000 in
set_option maxRecDepth 100000 in
theorem t_X10_toldOf {p0 : Int32} {p1 : Int32} {r : Int32} (h : f_X10_toldOf p0 p1 = some r) : v_R l B D ac (v_EE B wa wb wt sb sL sx) yX10_toldOf cX10_toldOf 2 (some .int) 2 0 0 [.int p0, .int p1] S I J F (v_D (some (.int r)) S I J F) := by
  refine v_R.of (by decide) (Nat.le_of_ble_eq_true rfl) fun d hd => ?_
  generalize hQ : v_D (some (.int r)) S I J F = Q
  unfold f_X10_toldOf at h
  refine v_sub [(0, .int p0), (1, .int p1)] ⟨rfl, rfl, trivial⟩ ?_
  refine v_iload_n dX10_toldOf_0 rfl ?_
  refine v_iconstE (-1 : Int32) dX10_toldOf_1 (by decide) ?_
  refine v_icmp_eq 10 dX10_toldOf_2 (by decide) (fun c_1 => ?_) (fun c_1 => ?_)
  · rw [if_pos c_1] at h
    refine v_iload_n dX10_toldOf_10 rfl ?_
    refine v_goto 18 dX10_toldOf_11 (by decide) ?_
    cases h
    exact v_iret dX10_toldOf_18 rfl (by decide) (by decide) (by rw [← hQ]; exact ⟨rfl, rfl, rfl, rfl, rfl⟩)
  · rw [if_neg c_1] at h
    refine v_iload_n dX10_toldOf_5 rfl ?_
    refine v_iconstE (1 : Int32) dX10_toldOf_6 (by decide) ?_
    refine v_icmp_ne 14 dX10_toldOf_7 (by decide) (fun c_2 => ?_) (fun c_2 => ?_)
    · rw [if_neg c_2] at h
      refine v_iload_n dX10_toldOf_14 rfl ?_
      replace h := p_bind_elim h
      obtain ⟨r_3, q_4, h⟩ := h
      refine v_cSr (t_X10_ones q_4) cal_X10_ones ml_X10_313 sta_X10_ones dX10_toldOf_15 (by omega) (by decide) (by decide) (Nat.le_of_ble_eq_true rfl) rfl ?_
      cases h
      exact v_iret dX10_toldOf_18 rfl (by decide) (by decide) (by rw [← hQ]; exact ⟨rfl, rfl, rfl, rfl, rfl⟩)
    · rw [if_pos c_2] at h
      refine v_iload_n dX10_toldOf_10 rfl ?_
      refine v_goto 18 dX10_toldOf_11 (by decide) ?_
      cases h
      exact v_iret dX10_toldOf_18 rfl (by decide) (by decide) (by rw [← hQ]; exact ⟨rfl, rfl, rfl, rfl, rfl⟩)

def f_X10_watches (S : v_S) (I : v_I) (F : v_F) (p0 : Nat) (p1 : Int32) (p2 : Int32) : Option (Int32) :=
(p_ob S 10 p0).bind fun _ =>
(F p0 2).bind fun a_2 =>
(p_ix S 20 a_2 ((26 : Int32) + p1)).bind fun j_4 =>
(f_X10_isIn (I a_2 j_4) p2).bind fun r_6 =>
(p_bl r_6).bind fun _ =>
some (r_6)
set_option maxHeartbeats 4000000 in
set_option maxRecDepth 100000 in
theorem t_X10_watches {p0 : Nat} {p1 : Int32} {p2 : Int32} {r : Int32} (h : f_X10_watches S I F p0 p1 p2 = some r) : v_R l B D ac (v_EE B wa wb wt sb sL sx) yX10_watches cX10_watches 3 (some .boolean) 2 0 0 [.ref (B + p0), .int p1, .int p2] S I J F (v_D (some (.int r)) S I J F) := by
  refine v_R.of (by decide) (Nat.le_of_ble_eq_true rfl) fun d hd => ?_
  generalize hQ : v_D (some (.int r)) S I J F = Q
  unfold f_X10_watches at h
  refine v_sub [(0, .ref (B + p0)), (1, .int p1), (2, .int p2)] ⟨rfl, rfl, rfl, trivial⟩ ?_
  refine v_aload_n dX10_watches_0 rfl ?_
  replace h := p_bind_elim h
  obtain ⟨_, q_1, h⟩ := h
  have q_1 := p_ob_spec q_1
  replace h := p_bind_elim h
  obtain ⟨a_2, q_3, h⟩ := h
  refine v_getR q_3 rfl fl_X10_28 dX10_watches_1 q_1 ?_
  refine v_bipush (26 : Int32) dX10_watches_4 (by decide) ?_
  refine v_iload_n dX10_watches_6 rfl ?_
  refine v_iadd dX10_watches_7 ?_
  replace h := p_bind_elim h
  obtain ⟨j_4, q_5, h⟩ := h
  refine v_ialdP dX10_watches_8 q_5 ?_
  refine v_iload_n dX10_watches_9 rfl ?_
  replace h := p_bind_elim h
  obtain ⟨r_6, q_7, h⟩ := h
  refine v_cSr (t_X10_isIn q_7) cal_X10_isIn ml_X10_113 sta_X10_isIn dX10_watches_10 (by omega) (by decide) (by decide) (Nat.le_of_ble_eq_true rfl) rfl ?_
  replace h := p_bind_elim h
  obtain ⟨_, q_8, h⟩ := h
  cases h
  exact v_zret dX10_watches_13 rfl (p_bl_spec q_8).1 (by decide) (by decide) (by rw [← hQ]; exact ⟨rfl, rfl, rfl, rfl, rfl⟩)

def f_X10_laysLeft_J2_26 (S : v_S) (F : v_F) (w0 : Nat) (w1 : Int32) (I : v_I) (y2 : Int32) (z0 : Int32) (z1 : Int32) (z2 : Nat) : Option ((Int32 × v_I) ⊕ (Int32 × v_I)) :=
(p_ix S 20 z2 z1).bind fun j_8 =>
p_let (v_up I z2 j_8 z0) fun I_10 =>
p_let (y2 + (1 : Int32)) fun x_12 =>
some (.inl (x_12, I_10))
def f_X10_laysLeft_B2 (S : v_S) (F : v_F) (w0 : Nat) (w1 : Int32) (s2 : Int32 × v_I) : Option ((Int32 × v_I) ⊕ (Int32 × v_I)) :=
(p_ob S 10 w0).bind fun _ =>
(f_X10_many S s2.2 F w0).bind fun r_1 =>
if r_1 ≤ s2.1 then (
some (.inr (s2.1, s2.2)))
else (
(F w0 34).bind fun a_5 =>
if s2.1 = w1 then (
f_X10_laysLeft_J2_26 S F w0 w1 s2.2 s2.1 (0 : Int32) s2.1 a_5)
else (
f_X10_laysLeft_J2_26 S F w0 w1 s2.2 s2.1 (1000000 : Int32) s2.1 a_5))
def f_X10_laysLeft_J56_99 (S : v_S) (F : v_F) (w0 : Nat) (w2 : Int32) (w3 : Int32) (I : v_I) (y4 : Int32) : Option ((Int32 × v_I) ⊕ (Int32 × v_I)) :=
p_let (y4 + (1 : Int32)) fun x_31 =>
some (.inl (x_31, I))
def f_X10_laysLeft_B56 (S : v_S) (F : v_F) (w0 : Nat) (w2 : Int32) (w3 : Int32) (s56 : Int32 × v_I) : Option ((Int32 × v_I) ⊕ (Int32 × v_I)) :=
(p_ob S 10 w0).bind fun _ =>
(f_X10_many S s56.2 F w0).bind fun r_24 =>
if r_24 ≤ s56.1 then (
some (.inr (s56.1, s56.2)))
else (
(f_X10_watches S s56.2 F w0 s56.1 w3).bind fun r_28 =>
if r_28 = (0 : Int32) then (
f_X10_laysLeft_J56_99 S F w0 w2 w3 s56.2 s56.1)
else (
(F w0 34).bind fun a_33 =>
(F w0 34).bind fun a_35 =>
(p_ix S 20 a_35 w3).bind fun j_37 =>
(F w0 34).bind fun a_39 =>
(p_ix S 20 a_39 s56.1).bind fun j_41 =>
(f_X10_lesser (s56.2 a_35 j_37) ((s56.2 a_39 j_41) + (1 : Int32))).bind fun r_43 =>
(p_ix S 20 a_33 w3).bind fun j_45 =>
p_let (v_up s56.2 a_33 j_45 r_43) fun I_47 =>
f_X10_laysLeft_J56_99 S F w0 w2 w3 I_47 s56.1))
def f_X10_laysLeft_B45 (S : v_S) (F : v_F) (w0 : Nat) (w2 : Int32) (s45 : Int32 × v_I) : Option ((Int32 × v_I) ⊕ (Int32 × v_I)) :=
(p_ob S 10 w0).bind fun _ =>
(f_X10_many S s45.2 F w0).bind fun r_20 =>
if r_20 ≤ s45.1 then (
some (.inr (s45.1, s45.2)))
else (
(v_loop (f_X10_laysLeft_B56 S F w0 w2 s45.1) FU ((0 : Int32), s45.2)).bind fun q_49 =>
p_let (s45.1 + (1 : Int32)) fun x_51 =>
some (.inl (x_51, q_49.2)))
def f_X10_laysLeft_B35 (S : v_S) (F : v_F) (w0 : Nat) (s35 : Int32 × v_I) : Option ((Int32 × v_I) ⊕ (Int32 × v_I)) :=
(p_ob S 10 w0).bind fun _ =>
(f_X10_many S s35.2 F w0).bind fun r_16 =>
if r_16 ≤ s35.1 then (
some (.inr (s35.1, s35.2)))
else (
(v_loop (f_X10_laysLeft_B45 S F w0 s35.1) FU ((0 : Int32), s35.2)).bind fun q_53 =>
p_let (s35.1 + (1 : Int32)) fun x_55 =>
some (.inl (x_55, q_53.2)))
def f_X10_laysLeft (S : v_S) (I : v_I) (F : v_F) (p0 : Nat) (p1 : Int32) : Option (v_I) :=
(v_loop (f_X10_laysLeft_B2 S F p0 p1) FU ((0 : Int32), I)).bind fun q_14 =>
(v_loop (f_X10_laysLeft_B35 S F p0) FU ((1 : Int32), q_14.2)).bind fun q_57 =>
some (q_57.2)
set_option maxHeartbeats 4000000 in
set_option maxRecDepth 100000 in
theorem t_X10_laysLeft {p0 : Nat} {p1 : Int32} {r : v_I} (h : f_X10_laysLeft S I F p0 p1 = some r) : v_R l B D ac (v_EE B wa wb wt sb sL sx) yX10_laysLeft cX10_laysLeft 5 none 3 0 0 [.ref (B + p0), .int p1] S I J F (v_D none S r J F) := by
  refine v_R.of (by decide) (Nat.le_of_ble_eq_true rfl) fun d hd => ?_
  generalize hQ : v_D none S r J F = Q
  have b2 : ∀ (w0 : Nat) (w1 : Int32) (s2 : Int32 × v_I) (rx2 : (Int32 × v_I) ⊕ (Int32 × v_I)), f_X10_laysLeft_B2 S F w0 w1 s2 = some rx2 → v_K (fun (sP : Int32 × v_I) => V l B D ac (v_EE B wa wb wt sb sL sx) yX10_laysLeft cX10_laysLeft 5 none d 0 0 0 0 S sP.2 J F 2 [(0, .ref (B + w0)), (1, .int w1), (2, .int sP.1)] [] Q) (fun (rE : Int32 × v_I) => V l B D ac (v_EE B wa wb wt sb sL sx) yX10_laysLeft cX10_laysLeft 5 none d 0 0 0 0 S rE.2 J F 33 [(0, .ref (B + w0))] [] Q) rx2 → V l B D ac (v_EE B wa wb wt sb sL sx) yX10_laysLeft cX10_laysLeft 5 none d 0 0 0 0 S s2.2 J F 2 [(0, .ref (B + w0)), (1, .int w1), (2, .int s2.1)] [] Q := by
    intro w0 w1 s2 rx2 h hk
    have j26 : ∀ (I : v_I) (y2 : Int32) (z0 : Int32) (z1 : Int32) (z2 : Nat), f_X10_laysLeft_J2_26 S F w0 w1 I y2 z0 z1 z2 = some rx2 → V l B D ac (v_EE B wa wb wt sb sL sx) yX10_laysLeft cX10_laysLeft 5 none d 0 0 0 0 S I J F 26 [(0, .ref (B + w0)), (1, .int w1), (2, .int y2)] [.int z0, .int z1, .ref (B + z2)] Q := by
      intro I y2 z0 z1 z2 h
      unfold f_X10_laysLeft_J2_26 at h
      replace h := p_bind_elim h
      obtain ⟨j_8, q_9, h⟩ := h
      refine v_iastP dX10_laysLeft_26 q_9 ?_
      replace h := p_let_elim h
      obtain ⟨I_10, h_11, h⟩ := h
      rw [← h_11]
      replace h := p_let_elim h
      obtain ⟨x_12, h_13, h⟩ := h
      refine v_iincE (1 : Int32) dX10_laysLeft_27 (by decide) rfl (by decide) ?_
      rw [← h_13]
      refine v_sub [(0, .ref (B + w0)), (1, .int w1), (2, .int x_12)] ⟨rfl, rfl, rfl, trivial⟩ ?_
      refine v_goto 2 dX10_laysLeft_30 (by decide) ?_
      cases h
      refine v_sub [(0, .ref (B + w0)), (1, .int w1), (2, .int x_12)] ⟨rfl, rfl, rfl, trivial⟩ ?_
      exact hk
    unfold f_X10_laysLeft_B2 at h
    refine v_iload_n dX10_laysLeft_2 rfl ?_
    refine v_aload_n dX10_laysLeft_3 rfl ?_
    replace h := p_bind_elim h
    obtain ⟨_, q_3, h⟩ := h
    have q_3 := p_ob_spec q_3
    replace h := p_bind_elim h
    obtain ⟨r_1, q_2, h⟩ := h
    refine v_cVr (t_X10_many q_2) cal_X10_many ml_X10_109 sel_X10_many q_3 kk_10 dX10_laysLeft_4 (by omega) (by decide) (by decide) (Nat.le_of_ble_eq_true rfl) rfl ?_
    refine v_icmp_ge 33 dX10_laysLeft_7 (by decide) (fun c_4 => ?_) (fun c_4 => ?_)
    · rw [if_pos c_4] at h
      cases h
      refine v_sub [(0, .ref (B + w0))] ⟨rfl, trivial⟩ ?_
      exact hk
    · rw [if_neg c_4] at h
      refine v_aload_n dX10_laysLeft_10 rfl ?_
      replace h := p_bind_elim h
      obtain ⟨a_5, q_6, h⟩ := h
      refine v_getR q_6 rfl fl_X10_78 dX10_laysLeft_11 q_3 ?_
      refine v_iload_n dX10_laysLeft_14 rfl ?_
      refine v_iload_n dX10_laysLeft_15 rfl ?_
      refine v_iload_n dX10_laysLeft_16 rfl ?_
      refine v_icmp_ne 24 dX10_laysLeft_17 (by decide) (fun c_7 => ?_) (fun c_7 => ?_)
      · rw [if_neg c_7] at h
        refine v_ldc (1000000 : Int32) dX10_laysLeft_24 kn_X10_186 ?_
        refine v_sub [(0, .ref (B + w0)), (1, .int w1), (2, .int s2.1)] ⟨rfl, rfl, rfl, trivial⟩ ?_
        exact j26 _ _ _ _ _ h
      · rw [if_pos c_7] at h
        refine v_iconstE (0 : Int32) dX10_laysLeft_20 (by decide) ?_
        refine v_goto 26 dX10_laysLeft_21 (by decide) ?_
        refine v_sub [(0, .ref (B + w0)), (1, .int w1), (2, .int s2.1)] ⟨rfl, rfl, rfl, trivial⟩ ?_
        exact j26 _ _ _ _ _ h
  have b35 : ∀ (w0 : Nat) (s35 : Int32 × v_I) (rx35 : (Int32 × v_I) ⊕ (Int32 × v_I)), f_X10_laysLeft_B35 S F w0 s35 = some rx35 → v_K (fun (sP : Int32 × v_I) => V l B D ac (v_EE B wa wb wt sb sL sx) yX10_laysLeft cX10_laysLeft 5 none d 0 0 0 0 S sP.2 J F 35 [(0, .ref (B + w0)), (2, .int sP.1)] [] Q) (fun (rE : Int32 × v_I) => V l B D ac (v_EE B wa wb wt sb sL sx) yX10_laysLeft cX10_laysLeft 5 none d 0 0 0 0 S rE.2 J F 117 [] [] Q) rx35 → V l B D ac (v_EE B wa wb wt sb sL sx) yX10_laysLeft cX10_laysLeft 5 none d 0 0 0 0 S s35.2 J F 35 [(0, .ref (B + w0)), (2, .int s35.1)] [] Q := by
    intro w0 s35 rx35 h hk
    have b45 : ∀ (w0 : Nat) (w2 : Int32) (s45 : Int32 × v_I) (rx45 : (Int32 × v_I) ⊕ (Int32 × v_I)), f_X10_laysLeft_B45 S F w0 w2 s45 = some rx45 → v_K (fun (sP : Int32 × v_I) => V l B D ac (v_EE B wa wb wt sb sL sx) yX10_laysLeft cX10_laysLeft 5 none d 0 0 0 0 S sP.2 J F 45 [(0, .ref (B + w0)), (2, .int w2), (3, .int sP.1)] [] Q) (fun (rE : Int32 × v_I) => V l B D ac (v_EE B wa wb wt sb sL sx) yX10_laysLeft cX10_laysLeft 5 none d 0 0 0 0 S rE.2 J F 111 [(0, .ref (B + w0)), (2, .int w2)] [] Q) rx45 → V l B D ac (v_EE B wa wb wt sb sL sx) yX10_laysLeft cX10_laysLeft 5 none d 0 0 0 0 S s45.2 J F 45 [(0, .ref (B + w0)), (2, .int w2), (3, .int s45.1)] [] Q := by
      intro w0 w2 s45 rx45 h hk
      have b56 : ∀ (w0 : Nat) (w2 : Int32) (w3 : Int32) (s56 : Int32 × v_I) (rx56 : (Int32 × v_I) ⊕ (Int32 × v_I)), f_X10_laysLeft_B56 S F w0 w2 w3 s56 = some rx56 → v_K (fun (sP : Int32 × v_I) => V l B D ac (v_EE B wa wb wt sb sL sx) yX10_laysLeft cX10_laysLeft 5 none d 0 0 0 0 S sP.2 J F 56 [(0, .ref (B + w0)), (2, .int w2), (3, .int w3), (4, .int sP.1)] [] Q) (fun (rE : Int32 × v_I) => V l B D ac (v_EE B wa wb wt sb sL sx) yX10_laysLeft cX10_laysLeft 5 none d 0 0 0 0 S rE.2 J F 105 [(0, .ref (B + w0)), (2, .int w2), (3, .int w3)] [] Q) rx56 → V l B D ac (v_EE B wa wb wt sb sL sx) yX10_laysLeft cX10_laysLeft 5 none d 0 0 0 0 S s56.2 J F 56 [(0, .ref (B + w0)), (2, .int w2), (3, .int w3), (4, .int s56.1)] [] Q := by
        intro w0 w2 w3 s56 rx56 h hk
        have j99 : ∀ (I : v_I) (y4 : Int32), f_X10_laysLeft_J56_99 S F w0 w2 w3 I y4 = some rx56 → V l B D ac (v_EE B wa wb wt sb sL sx) yX10_laysLeft cX10_laysLeft 5 none d 0 0 0 0 S I J F 99 [(0, .ref (B + w0)), (2, .int w2), (3, .int w3), (4, .int y4)] [] Q := by
          intro I y4 h
          unfold f_X10_laysLeft_J56_99 at h
          replace h := p_let_elim h
          obtain ⟨x_31, h_32, h⟩ := h
          refine v_iincE (1 : Int32) dX10_laysLeft_99 (by decide) rfl (by decide) ?_
          rw [← h_32]
          refine v_sub [(0, .ref (B + w0)), (2, .int w2), (3, .int w3), (4, .int x_31)] ⟨rfl, rfl, rfl, rfl, trivial⟩ ?_
          refine v_goto 56 dX10_laysLeft_102 (by decide) ?_
          cases h
          refine v_sub [(0, .ref (B + w0)), (2, .int w2), (3, .int w3), (4, .int x_31)] ⟨rfl, rfl, rfl, rfl, trivial⟩ ?_
          exact hk
        unfold f_X10_laysLeft_B56 at h
        refine v_iload dX10_laysLeft_56 rfl ?_
        refine v_aload_n dX10_laysLeft_58 rfl ?_
        replace h := p_bind_elim h
        obtain ⟨_, q_26, h⟩ := h
        have q_26 := p_ob_spec q_26
        replace h := p_bind_elim h
        obtain ⟨r_24, q_25, h⟩ := h
        refine v_cVr (t_X10_many q_25) cal_X10_many ml_X10_109 sel_X10_many q_26 kk_10 dX10_laysLeft_59 (by omega) (by decide) (by decide) (Nat.le_of_ble_eq_true rfl) rfl ?_
        refine v_icmp_ge 105 dX10_laysLeft_62 (by decide) (fun c_27 => ?_) (fun c_27 => ?_)
        · rw [if_pos c_27] at h
          cases h
          refine v_sub [(0, .ref (B + w0)), (2, .int w2), (3, .int w3)] ⟨rfl, rfl, rfl, trivial⟩ ?_
          exact hk
        · rw [if_neg c_27] at h
          refine v_aload_n dX10_laysLeft_65 rfl ?_
          refine v_iload dX10_laysLeft_66 rfl ?_
          refine v_iload_n dX10_laysLeft_68 rfl ?_
          replace h := p_bind_elim h
          obtain ⟨r_28, q_29, h⟩ := h
          refine v_cVr (t_X10_watches q_29) cal_X10_watches ml_X10_413 sel_X10_watches q_26 kk_10 dX10_laysLeft_69 (by omega) (by decide) (by decide) (Nat.le_of_ble_eq_true rfl) rfl ?_
          refine v_if_eq 99 dX10_laysLeft_72 (by decide) (fun c_30 => ?_) (fun c_30 => ?_)
          · rw [if_pos c_30] at h
            refine v_sub [(0, .ref (B + w0)), (2, .int w2), (3, .int w3), (4, .int s56.1)] ⟨rfl, rfl, rfl, rfl, trivial⟩ ?_
            exact j99 _ _ h
          · rw [if_neg c_30] at h
            refine v_aload_n dX10_laysLeft_75 rfl ?_
            replace h := p_bind_elim h
            obtain ⟨a_33, q_34, h⟩ := h
            refine v_getR q_34 rfl fl_X10_78 dX10_laysLeft_76 q_26 ?_
            refine v_iload_n dX10_laysLeft_79 rfl ?_
            refine v_aload_n dX10_laysLeft_80 rfl ?_
            replace h := p_bind_elim h
            obtain ⟨a_35, q_36, h⟩ := h
            refine v_getR q_36 rfl fl_X10_78 dX10_laysLeft_81 q_26 ?_
            refine v_iload_n dX10_laysLeft_84 rfl ?_
            replace h := p_bind_elim h
            obtain ⟨j_37, q_38, h⟩ := h
            refine v_ialdP dX10_laysLeft_85 q_38 ?_
            refine v_aload_n dX10_laysLeft_86 rfl ?_
            replace h := p_bind_elim h
            obtain ⟨a_39, q_40, h⟩ := h
            refine v_getR q_40 rfl fl_X10_78 dX10_laysLeft_87 q_26 ?_
            refine v_iload dX10_laysLeft_90 rfl ?_
            replace h := p_bind_elim h
            obtain ⟨j_41, q_42, h⟩ := h
            refine v_ialdP dX10_laysLeft_92 q_42 ?_
            refine v_iconstE (1 : Int32) dX10_laysLeft_93 (by decide) ?_
            refine v_iadd dX10_laysLeft_94 ?_
            replace h := p_bind_elim h
            obtain ⟨r_43, q_44, h⟩ := h
            refine v_cSr (t_X10_lesser q_44) cal_X10_lesser ml_X10_345 sta_X10_lesser dX10_laysLeft_95 (by omega) (by decide) (by decide) (Nat.le_of_ble_eq_true rfl) rfl ?_
            replace h := p_bind_elim h
            obtain ⟨j_45, q_46, h⟩ := h
            refine v_iastP dX10_laysLeft_98 q_46 ?_
            replace h := p_let_elim h
            obtain ⟨I_47, h_48, h⟩ := h
            rw [← h_48]
            refine v_sub [(0, .ref (B + w0)), (2, .int w2), (3, .int w3), (4, .int s56.1)] ⟨rfl, rfl, rfl, rfl, trivial⟩ ?_
            exact j99 _ _ h
      unfold f_X10_laysLeft_B45 at h
      refine v_iload_n dX10_laysLeft_45 rfl ?_
      refine v_aload_n dX10_laysLeft_46 rfl ?_
      replace h := p_bind_elim h
      obtain ⟨_, q_22, h⟩ := h
      have q_22 := p_ob_spec q_22
      replace h := p_bind_elim h
      obtain ⟨r_20, q_21, h⟩ := h
      refine v_cVr (t_X10_many q_21) cal_X10_many ml_X10_109 sel_X10_many q_22 kk_10 dX10_laysLeft_47 (by omega) (by decide) (by decide) (Nat.le_of_ble_eq_true rfl) rfl ?_
      refine v_icmp_ge 111 dX10_laysLeft_50 (by decide) (fun c_23 => ?_) (fun c_23 => ?_)
      · rw [if_pos c_23] at h
        cases h
        refine v_sub [(0, .ref (B + w0)), (2, .int w2)] ⟨rfl, rfl, trivial⟩ ?_
        exact hk
      · rw [if_neg c_23] at h
        refine v_iconstE (0 : Int32) dX10_laysLeft_53 (by decide) ?_
        refine v_istore dX10_laysLeft_54 (by decide) ?_
        refine v_sub [(0, .ref (B + w0)), (2, .int w2), (3, .int s45.1), (4, .int (0 : Int32))] ⟨rfl, rfl, rfl, rfl, trivial⟩ ?_
        replace h := p_bind_elim h
        obtain ⟨q_49, h_50, h⟩ := h
        refine v_sub [(0, .ref (B + w0)), (2, .int w2), (3, .int s45.1), (4, .int (0 : Int32))] ⟨rfl, rfl, rfl, rfl, trivial⟩ ?_
        refine v_loopV (fun (sP : Int32 × v_I) => V l B D ac (v_EE B wa wb wt sb sL sx) yX10_laysLeft cX10_laysLeft 5 none d 0 0 0 0 S sP.2 J F 56 [(0, .ref (B + w0)), (2, .int w2), (3, .int s45.1), (4, .int sP.1)] [] Q) (fun (rE : Int32 × v_I) => V l B D ac (v_EE B wa wb wt sb sL sx) yX10_laysLeft cX10_laysLeft 5 none d 0 0 0 0 S rE.2 J F 105 [(0, .ref (B + w0)), (2, .int w2), (3, .int s45.1)] [] Q) (fun s_ x_ hb hk => b56 _ _ _ s_ x_ hb hk) (r := q_49) ?_ h_50
        try dsimp only
        replace h := p_let_elim h
        obtain ⟨x_51, h_52, h⟩ := h
        refine v_iincE (1 : Int32) dX10_laysLeft_105 (by decide) rfl (by decide) ?_
        rw [← h_52]
        refine v_sub [(0, .ref (B + w0)), (2, .int w2), (3, .int x_51)] ⟨rfl, rfl, rfl, trivial⟩ ?_
        refine v_goto 45 dX10_laysLeft_108 (by decide) ?_
        cases h
        refine v_sub [(0, .ref (B + w0)), (2, .int w2), (3, .int x_51)] ⟨rfl, rfl, rfl, trivial⟩ ?_
        exact hk
    unfold f_X10_laysLeft_B35 at h
    refine v_iload_n dX10_laysLeft_35 rfl ?_
    refine v_aload_n dX10_laysLeft_36 rfl ?_
    replace h := p_bind_elim h
    obtain ⟨_, q_18, h⟩ := h
    have q_18 := p_ob_spec q_18
    replace h := p_bind_elim h
    obtain ⟨r_16, q_17, h⟩ := h
    refine v_cVr (t_X10_many q_17) cal_X10_many ml_X10_109 sel_X10_many q_18 kk_10 dX10_laysLeft_37 (by omega) (by decide) (by decide) (Nat.le_of_ble_eq_true rfl) rfl ?_
    refine v_icmp_ge 117 dX10_laysLeft_40 (by decide) (fun c_19 => ?_) (fun c_19 => ?_)
    · rw [if_pos c_19] at h
      cases h
      refine v_sub [] trivial ?_
      exact hk
    · rw [if_neg c_19] at h
      refine v_iconstE (0 : Int32) dX10_laysLeft_43 (by decide) ?_
      refine v_istore_n dX10_laysLeft_44 (by decide) ?_
      refine v_sub [(0, .ref (B + w0)), (2, .int s35.1), (3, .int (0 : Int32))] ⟨rfl, rfl, rfl, trivial⟩ ?_
      replace h := p_bind_elim h
      obtain ⟨q_53, h_54, h⟩ := h
      refine v_sub [(0, .ref (B + w0)), (2, .int s35.1), (3, .int (0 : Int32))] ⟨rfl, rfl, rfl, trivial⟩ ?_
      refine v_loopV (fun (sP : Int32 × v_I) => V l B D ac (v_EE B wa wb wt sb sL sx) yX10_laysLeft cX10_laysLeft 5 none d 0 0 0 0 S sP.2 J F 45 [(0, .ref (B + w0)), (2, .int s35.1), (3, .int sP.1)] [] Q) (fun (rE : Int32 × v_I) => V l B D ac (v_EE B wa wb wt sb sL sx) yX10_laysLeft cX10_laysLeft 5 none d 0 0 0 0 S rE.2 J F 111 [(0, .ref (B + w0)), (2, .int s35.1)] [] Q) (fun s_ x_ hb hk => b45 _ _ s_ x_ hb hk) (r := q_53) ?_ h_54
      try dsimp only
      replace h := p_let_elim h
      obtain ⟨x_55, h_56, h⟩ := h
      refine v_iincE (1 : Int32) dX10_laysLeft_111 (by decide) rfl (by decide) ?_
      rw [← h_56]
      refine v_sub [(0, .ref (B + w0)), (2, .int x_55)] ⟨rfl, rfl, trivial⟩ ?_
      refine v_goto 35 dX10_laysLeft_114 (by decide) ?_
      cases h
      refine v_sub [(0, .ref (B + w0)), (2, .int x_55)] ⟨rfl, rfl, trivial⟩ ?_
      exact hk
  unfold f_X10_laysLeft at h
  refine v_sub [(0, .ref (B + p0)), (1, .int p1)] ⟨rfl, rfl, trivial⟩ ?_
  refine v_iconstE (0 : Int32) dX10_laysLeft_0 (by decide) ?_
  refine v_istore_n dX10_laysLeft_1 (by decide) ?_
  refine v_sub [(0, .ref (B + p0)), (1, .int p1), (2, .int (0 : Int32))] ⟨rfl, rfl, rfl, trivial⟩ ?_
  replace h := p_bind_elim h
  obtain ⟨q_14, h_15, h⟩ := h
  refine v_sub [(0, .ref (B + p0)), (1, .int p1), (2, .int (0 : Int32))] ⟨rfl, rfl, rfl, trivial⟩ ?_
  refine v_loopV (fun (sP : Int32 × v_I) => V l B D ac (v_EE B wa wb wt sb sL sx) yX10_laysLeft cX10_laysLeft 5 none d 0 0 0 0 S sP.2 J F 2 [(0, .ref (B + p0)), (1, .int p1), (2, .int sP.1)] [] Q) (fun (rE : Int32 × v_I) => V l B D ac (v_EE B wa wb wt sb sL sx) yX10_laysLeft cX10_laysLeft 5 none d 0 0 0 0 S rE.2 J F 33 [(0, .ref (B + p0))] [] Q) (fun s_ x_ hb hk => b2 _ _ s_ x_ hb hk) (r := q_14) ?_ h_15
  try dsimp only
  refine v_iconstE (1 : Int32) dX10_laysLeft_33 (by decide) ?_
  refine v_istore_n dX10_laysLeft_34 (by decide) ?_
  refine v_sub [(0, .ref (B + p0)), (2, .int (1 : Int32))] ⟨rfl, rfl, trivial⟩ ?_
  replace h := p_bind_elim h
  obtain ⟨q_57, h_58, h⟩ := h
  refine v_sub [(0, .ref (B + p0)), (2, .int (1 : Int32))] ⟨rfl, rfl, trivial⟩ ?_
  refine v_loopV (fun (sP : Int32 × v_I) => V l B D ac (v_EE B wa wb wt sb sL sx) yX10_laysLeft cX10_laysLeft 5 none d 0 0 0 0 S sP.2 J F 35 [(0, .ref (B + p0)), (2, .int sP.1)] [] Q) (fun (rE : Int32 × v_I) => V l B D ac (v_EE B wa wb wt sb sL sx) yX10_laysLeft cX10_laysLeft 5 none d 0 0 0 0 S rE.2 J F 117 [] [] Q) (fun s_ x_ hb hk => b35 _ s_ x_ hb hk) (r := q_57) ?_ h_58
  try dsimp only
  cases h
  exact v_vret dX10_laysLeft_117 rfl (by decide) (by decide) (by rw [← hQ]; exact ⟨rfl, rfl, rfl, rfl, rfl⟩)

end p04
