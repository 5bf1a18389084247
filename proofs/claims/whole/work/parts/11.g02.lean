noncomputable section g02
variable {l : Launch} {B : Nat} {D : va_G} {ac : Nat → ClassId} {wa wb wt sb sL : Nat} {sx : Nat → Int32} {S : v_S} {I : v_I} {J : v_J} {F : v_F}
def f_X10_seedsFor (S : v_S) (I : v_I) (F : v_F) (p0 : Nat) (p1 : Int32) (p2 : Int32) : Option (Int32 × v_I) :=
(p_ob S 10 p0).bind fun _ =>
(f_X10_isOne S I F p0 p1).bind fun r_1 =>
if r_1 = (0 : Int32) then (
some ((-1 : Int32), I))
else (
(f_X10_isBit p2).bind fun r_5 =>
if r_5 = (0 : Int32) then (
some ((-1 : Int32), I))
else (
(f_X10_shutNow S I F p0).bind fun r_8 =>
(f_X10_fewestFor S I F p0 (r_8 &&& (((1 : Int32) <<< (p1 &&& 31)) ^^^ (-1 : Int32))) ((1 : Int32) <<< (p1 &&& 31))).bind fun r_10 =>
(f_X10_toldOf r_10.1 p2).bind fun r_12 =>
some (r_12, r_10.2)))
set_option maxHeartbeats 4000000 in
set_option maxRecDepth 100000 in
theorem t_X10_seedsFor {p0 : Nat} {p1 : Int32} {p2 : Int32} {r : Int32 × v_I} (h : f_X10_seedsFor S I F p0 p1 p2 = some r) : v_R l B D ac (v_EE B wa wb wt sb sL sx) yX10_seedsFor cX10_seedsFor 3 (some .int) 213 0 0 [.ref (B + p0), .int p1, .int p2] S I J F (v_D (some (.int r.1)) S r.2 J F) := by
  refine v_R.of (by decide) (Nat.le_of_ble_eq_true rfl) fun d hd => ?_
  generalize hQ : v_D (some (.int r.1)) S r.2 J F = Q
  unfold f_X10_seedsFor at h
  refine v_sub [(0, .ref (B + p0)), (1, .int p1), (2, .int p2)] ⟨rfl, rfl, rfl, trivial⟩ ?_
  refine v_aload_n dX10_seedsFor_0 rfl ?_
  refine v_iload_n dX10_seedsFor_1 rfl ?_
  replace h := p_bind_elim h
  obtain ⟨_, q_3, h⟩ := h
  have q_3 := p_ob_spec q_3
  replace h := p_bind_elim h
  obtain ⟨r_1, q_2, h⟩ := h
  refine v_cVr (t_X10_isOne q_2) cal_X10_isOne ml_X10_128 sel_X10_isOne q_3 kk_10 dX10_seedsFor_2 (by omega) (by decide) (by decide) (Nat.le_of_ble_eq_true rfl) rfl ?_
  refine v_if_eq 15 dX10_seedsFor_5 (by decide) (fun c_4 => ?_) (fun c_4 => ?_)
  · rw [if_pos c_4] at h
    refine v_iconstE (-1 : Int32) dX10_seedsFor_15 (by decide) ?_
    cases h
    exact v_iret dX10_seedsFor_16 rfl (by decide) (by decide) (by rw [← hQ]; exact ⟨rfl, rfl, rfl, rfl, rfl⟩)
  · rw [if_neg c_4] at h
    refine v_iload_n dX10_seedsFor_8 rfl ?_
    replace h := p_bind_elim h
    obtain ⟨r_5, q_6, h⟩ := h
    refine v_cSr (t_X10_isBit q_6) cal_X10_isBit ml_X10_125 sta_X10_isBit dX10_seedsFor_9 (by omega) (by decide) (by decide) (Nat.le_of_ble_eq_true rfl) rfl ?_
    refine v_if_ne 17 dX10_seedsFor_12 (by decide) (fun c_7 => ?_) (fun c_7 => ?_)
    · rw [if_neg c_7] at h
      refine v_aload_n dX10_seedsFor_17 rfl ?_
      refine v_aload_n dX10_seedsFor_18 rfl ?_
      replace h := p_bind_elim h
      obtain ⟨r_8, q_9, h⟩ := h
      refine v_cVr (t_X10_shutNow q_9) cal_X10_shutNow ml_X10_392 sel_X10_shutNow q_3 kk_10 dX10_seedsFor_19 (by omega) (by decide) (by decide) (Nat.le_of_ble_eq_true rfl) rfl ?_
      refine v_iconstE (1 : Int32) dX10_seedsFor_22 (by decide) ?_
      refine v_iload_n dX10_seedsFor_23 rfl ?_
      refine v_ishl dX10_seedsFor_24 ?_
      refine v_iconstE (-1 : Int32) dX10_seedsFor_25 (by decide) ?_
      refine v_ixor dX10_seedsFor_26 ?_
      refine v_iand dX10_seedsFor_27 ?_
      refine v_iconstE (1 : Int32) dX10_seedsFor_28 (by decide) ?_
      refine v_iload_n dX10_seedsFor_29 rfl ?_
      refine v_ishl dX10_seedsFor_30 ?_
      replace h := p_bind_elim h
      obtain ⟨r_10, q_11, h⟩ := h
      refine v_cVr (t_X10_fewestFor q_11) cal_X10_fewestFor ml_X10_395 sel_X10_fewestFor q_3 kk_10 dX10_seedsFor_31 (by omega) (by decide) (by decide) (Nat.le_of_ble_eq_true rfl) rfl ?_
      refine v_iload_n dX10_seedsFor_34 rfl ?_
      replace h := p_bind_elim h
      obtain ⟨r_12, q_13, h⟩ := h
      refine v_cSr (t_X10_toldOf q_13) cal_X10_toldOf ml_X10_398 sta_X10_toldOf dX10_seedsFor_35 (by omega) (by decide) (by decide) (Nat.le_of_ble_eq_true rfl) rfl ?_
      cases h
      exact v_iret dX10_seedsFor_38 rfl (by decide) (by decide) (by rw [← hQ]; exact ⟨rfl, rfl, rfl, rfl, rfl⟩)
    · rw [if_pos c_7] at h
      refine v_iconstE (-1 : Int32) dX10_seedsFor_15 (by decide) ?_
      cases h
      exact v_iret dX10_seedsFor_16 rfl (by decide) (by decide) (by rw [← hQ]; exact ⟨rfl, rfl, rfl, rfl, rfl⟩)

def f_X10_openLast (S : v_S) (I : v_I) (F : v_F) (p0 : Nat) (p1 : Int32) (p2 : Int32) : Option (Int32 × v_I) :=
(p_ob S 10 p0).bind fun _ =>
(f_X10_laysAllMinutes S I F p0 p1 p2 (0 : Int32)).bind fun r_1 =>
(F p0 33).bind fun a_4 =>
(p_ix S 20 a_4 (60 : Int32)).bind fun j_6 =>
some (r_1 a_4 j_6, r_1)
set_option maxHeartbeats 4000000 in
set_option maxRecDepth 100000 in
theorem t_X10_openLast {p0 : Nat} {p1 : Int32} {p2 : Int32} {r : Int32 × v_I} (h : f_X10_openLast S I F p0 p1 p2 = some r) : v_R l B D ac (v_EE B wa wb wt sb sL sx) yX10_openLast cX10_openLast 3 (some .int) 212 0 0 [.ref (B + p0), .int p1, .int p2] S I J F (v_D (some (.int r.1)) S r.2 J F) := by
  refine v_R.of (by decide) (Nat.le_of_ble_eq_true rfl) fun d hd => ?_
  generalize hQ : v_D (some (.int r.1)) S r.2 J F = Q
  unfold f_X10_openLast at h
  refine v_sub [(0, .ref (B + p0)), (1, .int p1), (2, .int p2)] ⟨rfl, rfl, rfl, trivial⟩ ?_
  refine v_aload_n dX10_openLast_0 rfl ?_
  refine v_iload_n dX10_openLast_1 rfl ?_
  refine v_iload_n dX10_openLast_2 rfl ?_
  refine v_iconstE (0 : Int32) dX10_openLast_3 (by decide) ?_
  replace h := p_bind_elim h
  obtain ⟨_, q_3, h⟩ := h
  have q_3 := p_ob_spec q_3
  replace h := p_bind_elim h
  obtain ⟨r_1, q_2, h⟩ := h
  refine v_cVn (t_X10_laysAllMinutes q_2) cal_X10_laysAllMinutes ml_X10_385 sel_X10_laysAllMinutes q_3 kk_10 dX10_openLast_4 (by omega) (by decide) (by decide) (Nat.le_of_ble_eq_true rfl) rfl ?_
  refine v_aload_n dX10_openLast_7 rfl ?_
  replace h := p_bind_elim h
  obtain ⟨a_4, q_5, h⟩ := h
  refine v_getR q_5 rfl fl_X10_75 dX10_openLast_8 q_3 ?_
  refine v_bipush (60 : Int32) dX10_openLast_11 (by decide) ?_
  replace h := p_bind_elim h
  obtain ⟨j_6, q_7, h⟩ := h
  refine v_ialdP dX10_openLast_13 q_7 ?_
  cases h
  exact v_iret dX10_openLast_14 rfl (by decide) (by decide) (by rw [← hQ]; exact ⟨rfl, rfl, rfl, rfl, rfl⟩)

def f_X10_spread (S : v_S) (I : v_I) (F : v_F) (p0 : Nat) (p1 : Int32) : Option (Int32 × v_I) :=
(p_ob S 10 p0).bind fun _ =>
(f_X10_isOne S I F p0 p1).bind fun r_1 =>
if r_1 = (0 : Int32) then (
some ((-1 : Int32), I))
else (
(f_X10_openLast S I F p0 ((1 : Int32) <<< (p1 &&& 31)) (0 : Int32)).bind fun r_5 =>
(f_X10_openLast S r_5.2 F p0 (0 : Int32) ((1 : Int32) <<< (p1 &&& 31))).bind fun r_7 =>
some (r_5.1 &&& (r_7.1 ^^^ (-1 : Int32)), r_7.2))
set_option maxHeartbeats 4000000 in
set_option maxRecDepth 100000 in
theorem t_X10_spread {p0 : Nat} {p1 : Int32} {r : Int32 × v_I} (h : f_X10_spread S I F p0 p1 = some r) : v_R l B D ac (v_EE B wa wb wt sb sL sx) yX10_spread cX10_spread 4 (some .int) 213 0 0 [.ref (B + p0), .int p1] S I J F (v_D (some (.int r.1)) S r.2 J F) := by
  refine v_R.of (by decide) (Nat.le_of_ble_eq_true rfl) fun d hd => ?_
  generalize hQ : v_D (some (.int r.1)) S r.2 J F = Q
  unfold f_X10_spread at h
  refine v_sub [(0, .ref (B + p0)), (1, .int p1)] ⟨rfl, rfl, trivial⟩ ?_
  refine v_aload_n dX10_spread_0 rfl ?_
  refine v_iload_n dX10_spread_1 rfl ?_
  replace h := p_bind_elim h
  obtain ⟨_, q_3, h⟩ := h
  have q_3 := p_ob_spec q_3
  replace h := p_bind_elim h
  obtain ⟨r_1, q_2, h⟩ := h
  refine v_cVr (t_X10_isOne q_2) cal_X10_isOne ml_X10_128 sel_X10_isOne q_3 kk_10 dX10_spread_2 (by omega) (by decide) (by decide) (Nat.le_of_ble_eq_true rfl) rfl ?_
  refine v_if_ne 10 dX10_spread_5 (by decide) (fun c_4 => ?_) (fun c_4 => ?_)
  · rw [if_neg c_4] at h
    refine v_aload_n dX10_spread_10 rfl ?_
    refine v_iconstE (1 : Int32) dX10_spread_11 (by decide) ?_
    refine v_iload_n dX10_spread_12 rfl ?_
    refine v_ishl dX10_spread_13 ?_
    refine v_iconstE (0 : Int32) dX10_spread_14 (by decide) ?_
    replace h := p_bind_elim h
    obtain ⟨r_5, q_6, h⟩ := h
    refine v_cVr (t_X10_openLast q_6) cal_X10_openLast ml_X10_401 sel_X10_openLast q_3 kk_10 dX10_spread_15 (by omega) (by decide) (by decide) (Nat.le_of_ble_eq_true rfl) rfl ?_
    refine v_istore_n dX10_spread_18 (by decide) ?_
    refine v_sub [(0, .ref (B + p0)), (1, .int p1), (2, .int r_5.1)] ⟨rfl, rfl, rfl, trivial⟩ ?_
    refine v_aload_n dX10_spread_19 rfl ?_
    refine v_iconstE (0 : Int32) dX10_spread_20 (by decide) ?_
    refine v_iconstE (1 : Int32) dX10_spread_21 (by decide) ?_
    refine v_iload_n dX10_spread_22 rfl ?_
    refine v_ishl dX10_spread_23 ?_
    replace h := p_bind_elim h
    obtain ⟨r_7, q_8, h⟩ := h
    refine v_cVr (t_X10_openLast q_8) cal_X10_openLast ml_X10_401 sel_X10_openLast q_3 kk_10 dX10_spread_24 (by omega) (by decide) (by decide) (Nat.le_of_ble_eq_true rfl) rfl ?_
    refine v_istore_n dX10_spread_27 (by decide) ?_
    refine v_sub [(2, .int r_5.1), (3, .int r_7.1)] ⟨rfl, rfl, trivial⟩ ?_
    refine v_iload_n dX10_spread_28 rfl ?_
    refine v_iload_n dX10_spread_29 rfl ?_
    refine v_iconstE (-1 : Int32) dX10_spread_30 (by decide) ?_
    refine v_ixor dX10_spread_31 ?_
    refine v_iand dX10_spread_32 ?_
    cases h
    exact v_iret dX10_spread_33 rfl (by decide) (by decide) (by rw [← hQ]; exact ⟨rfl, rfl, rfl, rfl, rfl⟩)
  · rw [if_pos c_4] at h
    refine v_iconstE (-1 : Int32) dX10_spread_8 (by decide) ?_
    cases h
    exact v_iret dX10_spread_9 rfl (by decide) (by decide) (by rw [← hQ]; exact ⟨rfl, rfl, rfl, rfl, rfl⟩)

def f_X10_staysShut (S : v_S) (I : v_I) (F : v_F) (p0 : Nat) (p1 : Int32) (p2 : Int32) : Option (Int32 × v_I) :=
(p_ob S 10 p0).bind fun _ =>
(f_X10_laysMinutes S I F p0 (0 : Int32) (0 : Int32) p2 ((1 : Int32) <<< (p1 &&& 31))).bind fun r_1 =>
(F p0 33).bind fun a_4 =>
(p_ix S 20 a_4 r_1.1).bind fun j_6 =>
(f_X10_isIn (r_1.2 a_4 j_6) p1).bind fun r_8 =>
if r_8 = (0 : Int32) then (
some ((1 : Int32), r_1.2))
else (
some ((0 : Int32), r_1.2))
set_option maxHeartbeats 4000000 in
set_option maxRecDepth 100000 in
theorem t_X10_staysShut {p0 : Nat} {p1 : Int32} {p2 : Int32} {r : Int32 × v_I} (h : f_X10_staysShut S I F p0 p1 p2 = some r) : v_R l B D ac (v_EE B wa wb wt sb sL sx) yX10_staysShut cX10_staysShut 4 (some .boolean) 211 0 0 [.ref (B + p0), .int p1, .int p2] S I J F (v_D (some (.int r.1)) S r.2 J F) := by
  refine v_R.of (by decide) (Nat.le_of_ble_eq_true rfl) fun d hd => ?_
  generalize hQ : v_D (some (.int r.1)) S r.2 J F = Q
  unfold f_X10_staysShut at h
  refine v_sub [(0, .ref (B + p0)), (1, .int p1), (2, .int p2)] ⟨rfl, rfl, rfl, trivial⟩ ?_
  refine v_aload_n dX10_staysShut_0 rfl ?_
  refine v_iconstE (0 : Int32) dX10_staysShut_1 (by decide) ?_
  refine v_iconstE (0 : Int32) dX10_staysShut_2 (by decide) ?_
  refine v_iload_n dX10_staysShut_3 rfl ?_
  refine v_iconstE (1 : Int32) dX10_staysShut_4 (by decide) ?_
  refine v_iload_n dX10_staysShut_5 rfl ?_
  refine v_ishl dX10_staysShut_6 ?_
  replace h := p_bind_elim h
  obtain ⟨_, q_3, h⟩ := h
  have q_3 := p_ob_spec q_3
  replace h := p_bind_elim h
  obtain ⟨r_1, q_2, h⟩ := h
  refine v_cVr (t_X10_laysMinutes q_2) cal_X10_laysMinutes ml_X10_381 sel_X10_laysMinutes q_3 kk_10 dX10_staysShut_7 (by omega) (by decide) (by decide) (Nat.le_of_ble_eq_true rfl) rfl ?_
  refine v_istore_n dX10_staysShut_10 (by decide) ?_
  refine v_sub [(0, .ref (B + p0)), (1, .int p1), (3, .int r_1.1)] ⟨rfl, rfl, rfl, trivial⟩ ?_
  refine v_aload_n dX10_staysShut_11 rfl ?_
  replace h := p_bind_elim h
  obtain ⟨a_4, q_5, h⟩ := h
  refine v_getR q_5 rfl fl_X10_75 dX10_staysShut_12 q_3 ?_
  refine v_iload_n dX10_staysShut_15 rfl ?_
  replace h := p_bind_elim h
  obtain ⟨j_6, q_7, h⟩ := h
  refine v_ialdP dX10_staysShut_16 q_7 ?_
  refine v_iload_n dX10_staysShut_17 rfl ?_
  replace h := p_bind_elim h
  obtain ⟨r_8, q_9, h⟩ := h
  refine v_cSr (t_X10_isIn q_9) cal_X10_isIn ml_X10_113 sta_X10_isIn dX10_staysShut_18 (by omega) (by decide) (by decide) (Nat.le_of_ble_eq_true rfl) rfl ?_
  refine v_if_ne 28 dX10_staysShut_21 (by decide) (fun c_10 => ?_) (fun c_10 => ?_)
  · rw [if_neg c_10] at h
    refine v_iconstE (0 : Int32) dX10_staysShut_28 (by decide) ?_
    cases h
    exact v_zret dX10_staysShut_29 rfl rfl (by decide) (by decide) (by rw [← hQ]; exact ⟨rfl, rfl, rfl, rfl, rfl⟩)
  · rw [if_pos c_10] at h
    refine v_iconstE (1 : Int32) dX10_staysShut_24 (by decide) ?_
    refine v_goto 29 dX10_staysShut_25 (by decide) ?_
    cases h
    exact v_zret dX10_staysShut_29 rfl rfl (by decide) (by decide) (by rw [← hQ]; exact ⟨rfl, rfl, rfl, rfl, rfl⟩)

def f_X10_fewestHeld_J24_64 (S : v_S) (F : v_F) (w0 : Nat) (w1 : Int32) (w2 : Int32) (w3 : Int32) (I : v_I) (y4 : Int32) : Option ((Int32 × v_I) ⊕ (Nat × (Int32 × v_I))) :=
p_let (y4 + (1 : Int32)) fun x_11 =>
some (.inl (x_11, I))
def f_X10_fewestHeld_B24 (S : v_S) (F : v_F) (w0 : Nat) (w1 : Int32) (w2 : Int32) (w3 : Int32) (s24 : Int32 × v_I) : Option ((Int32 × v_I) ⊕ (Nat × (Int32 × v_I))) :=
if w2 < s24.1 then (
some (.inr (1, (s24.1, s24.2))))
else (
if (s24.1 &&& (w2 ^^^ (-1 : Int32))) = (0 : Int32) then (
(f_X10_ones s24.1).bind fun r_13 =>
if r_13 = w3 then (
(p_ob S 10 w0).bind fun _ =>
(f_X10_staysShut S s24.2 F w0 w1 s24.1).bind fun r_16 =>
if r_16.1 = (0 : Int32) then (
f_X10_fewestHeld_J24_64 S F w0 w1 w2 w3 r_16.2 s24.1)
else (
some (.inr (0, (s24.1, r_16.2)))))
else (
f_X10_fewestHeld_J24_64 S F w0 w1 w2 w3 s24.2 s24.1))
else (
f_X10_fewestHeld_J24_64 S F w0 w1 w2 w3 s24.2 s24.1))
def f_X10_fewestHeld_B13 (S : v_S) (F : v_F) (w0 : Nat) (w1 : Int32) (w2 : Int32) (s13 : Int32 × v_I) : Option ((Int32 × v_I) ⊕ (Nat × (Int32 × v_I × Int32))) :=
(f_X10_ones w2).bind fun r_6 =>
if r_6 < s13.1 then (
some (.inr (1, (s13.1, s13.2, (0 : Int32)))))
else (
(v_loop (f_X10_fewestHeld_B24 S F w0 w1 w2 s13.1) FU ((0 : Int32), s13.2)).bind fun q_20 =>
if q_20.1 = 0 then (
some (.inr (0, ((0 : Int32), q_20.2.2, q_20.2.1))))
else (
p_let (s13.1 + (1 : Int32)) fun x_22 =>
some (.inl (x_22, q_20.2.2))))
def f_X10_fewestHeld (S : v_S) (I : v_I) (F : v_F) (p0 : Nat) (p1 : Int32) : Option (Int32 × v_I) :=
(p_ob S 10 p0).bind fun _ =>
(f_X10_everybody S I F p0).bind fun r_1 =>
p_let (r_1 &&& (((1 : Int32) <<< (p1 &&& 31)) ^^^ (-1 : Int32))) fun x_4 =>
(v_loop (f_X10_fewestHeld_B13 S F p0 p1 x_4) FU ((0 : Int32), I)).bind fun q_25 =>
if q_25.1 = 0 then (
some (q_25.2.2.2, q_25.2.2.1))
else (
some ((-1 : Int32), q_25.2.2.1))
set_option maxHeartbeats 4000000 in
set_option maxRecDepth 100000 in
theorem t_X10_fewestHeld {p0 : Nat} {p1 : Int32} {r : Int32 × v_I} (h : f_X10_fewestHeld S I F p0 p1 = some r) : v_R l B D ac (v_EE B wa wb wt sb sL sx) yX10_fewestHeld cX10_fewestHeld 5 (some .int) 212 0 0 [.ref (B + p0), .int p1] S I J F (v_D (some (.int r.1)) S r.2 J F) := by
  refine v_R.of (by decide) (Nat.le_of_ble_eq_true rfl) fun d hd => ?_
  generalize hQ : v_D (some (.int r.1)) S r.2 J F = Q
  have b13 : ∀ (w0 : Nat) (w1 : Int32) (w2 : Int32) (s13 : Int32 × v_I) (rx13 : (Int32 × v_I) ⊕ (Nat × (Int32 × v_I × Int32))), f_X10_fewestHeld_B13 S F w0 w1 w2 s13 = some rx13 → v_K (fun (sP : Int32 × v_I) => V l B D ac (v_EE B wa wb wt sb sL sx) yX10_fewestHeld cX10_fewestHeld 5 (some .int) d 0 0 0 0 S sP.2 J F 13 [(0, .ref (B + w0)), (1, .int w1), (2, .int w2), (3, .int sP.1)] [] Q) (fun (rE : Nat × (Int32 × v_I × Int32)) => (rE.1 = 0 → V l B D ac (v_EE B wa wb wt sb sL sx) yX10_fewestHeld cX10_fewestHeld 5 (some .int) d 0 0 0 0 S rE.2.2.1 J F 61 [(4, .int rE.2.2.2)] [] Q) ∧ (¬ rE.1 = 0 → V l B D ac (v_EE B wa wb wt sb sL sx) yX10_fewestHeld cX10_fewestHeld 5 (some .int) d 0 0 0 0 S rE.2.2.1 J F 76 [] [] Q)) rx13 → V l B D ac (v_EE B wa wb wt sb sL sx) yX10_fewestHeld cX10_fewestHeld 5 (some .int) d 0 0 0 0 S s13.2 J F 13 [(0, .ref (B + w0)), (1, .int w1), (2, .int w2), (3, .int s13.1)] [] Q := by
    intro w0 w1 w2 s13 rx13 h hk
    have b24 : ∀ (w0 : Nat) (w1 : Int32) (w2 : Int32) (w3 : Int32) (s24 : Int32 × v_I) (rx24 : (Int32 × v_I) ⊕ (Nat × (Int32 × v_I))), f_X10_fewestHeld_B24 S F w0 w1 w2 w3 s24 = some rx24 → v_K (fun (sP : Int32 × v_I) => V l B D ac (v_EE B wa wb wt sb sL sx) yX10_fewestHeld cX10_fewestHeld 5 (some .int) d 0 0 0 0 S sP.2 J F 24 [(0, .ref (B + w0)), (1, .int w1), (2, .int w2), (3, .int w3), (4, .int sP.1)] [] Q) (fun (rE : Nat × (Int32 × v_I)) => (rE.1 = 0 → V l B D ac (v_EE B wa wb wt sb sL sx) yX10_fewestHeld cX10_fewestHeld 5 (some .int) d 0 0 0 0 S rE.2.2 J F 61 [(4, .int rE.2.1)] [] Q) ∧ (¬ rE.1 = 0 → V l B D ac (v_EE B wa wb wt sb sL sx) yX10_fewestHeld cX10_fewestHeld 5 (some .int) d 0 0 0 0 S rE.2.2 J F 70 [(0, .ref (B + w0)), (1, .int w1), (2, .int w2), (3, .int w3)] [] Q)) rx24 → V l B D ac (v_EE B wa wb wt sb sL sx) yX10_fewestHeld cX10_fewestHeld 5 (some .int) d 0 0 0 0 S s24.2 J F 24 [(0, .ref (B + w0)), (1, .int w1), (2, .int w2), (3, .int w3), (4, .int s24.1)] [] Q := by
      intro w0 w1 w2 w3 s24 rx24 h hk
      have j64 : ∀ (I : v_I) (y4 : Int32), f_X10_fewestHeld_J24_64 S F w0 w1 w2 w3 I y4 = some rx24 → V l B D ac (v_EE B wa wb wt sb sL sx) yX10_fewestHeld cX10_fewestHeld 5 (some .int) d 0 0 0 0 S I J F 64 [(0, .ref (B + w0)), (1, .int w1), (2, .int w2), (3, .int w3), (4, .int y4)] [] Q := by
        intro I y4 h
        unfold f_X10_fewestHeld_J24_64 at h
        replace h := p_let_elim h
        obtain ⟨x_11, h_12, h⟩ := h
        refine v_iincE (1 : Int32) dX10_fewestHeld_64 (by decide) rfl (by decide) ?_
        rw [← h_12]
        refine v_sub [(0, .ref (B + w0)), (1, .int w1), (2, .int w2), (3, .int w3), (4, .int x_11)] ⟨rfl, rfl, rfl, rfl, rfl, trivial⟩ ?_
        refine v_goto 24 dX10_fewestHeld_67 (by decide) ?_
        cases h
        refine v_sub [(0, .ref (B + w0)), (1, .int w1), (2, .int w2), (3, .int w3), (4, .int x_11)] ⟨rfl, rfl, rfl, rfl, rfl, trivial⟩ ?_
        exact hk
      unfold f_X10_fewestHeld_B24 at h
      refine v_iload dX10_fewestHeld_24 rfl ?_
      refine v_iload_n dX10_fewestHeld_26 rfl ?_
      refine v_icmp_gt 70 dX10_fewestHeld_27 (by decide) (fun c_9 => ?_) (fun c_9 => ?_)
      · rw [if_pos c_9] at h
        cases h
        refine v_sub [(0, .ref (B + w0)), (1, .int w1), (2, .int w2), (3, .int w3)] ⟨rfl, rfl, rfl, rfl, trivial⟩ ?_
        exact (hk.2 (Nat.succ_ne_zero _))
      · rw [if_neg c_9] at h
        refine v_iload dX10_fewestHeld_30 rfl ?_
        refine v_iload_n dX10_fewestHeld_32 rfl ?_
        refine v_iconstE (-1 : Int32) dX10_fewestHeld_33 (by decide) ?_
        refine v_ixor dX10_fewestHeld_34 ?_
        refine v_iand dX10_fewestHeld_35 ?_
        refine v_if_ne 64 dX10_fewestHeld_36 (by decide) (fun c_10 => ?_) (fun c_10 => ?_)
        · rw [if_neg c_10] at h
          refine v_sub [(0, .ref (B + w0)), (1, .int w1), (2, .int w2), (3, .int w3), (4, .int s24.1)] ⟨rfl, rfl, rfl, rfl, rfl, trivial⟩ ?_
          exact j64 _ _ h
        · rw [if_pos c_10] at h
          refine v_iload dX10_fewestHeld_39 rfl ?_
          replace h := p_bind_elim h
          obtain ⟨r_13, q_14, h⟩ := h
          refine v_cSr (t_X10_ones q_14) cal_X10_ones ml_X10_313 sta_X10_ones dX10_fewestHeld_41 (by omega) (by decide) (by decide) (Nat.le_of_ble_eq_true rfl) rfl ?_
          refine v_iload_n dX10_fewestHeld_44 rfl ?_
          refine v_icmp_eq 51 dX10_fewestHeld_45 (by decide) (fun c_15 => ?_) (fun c_15 => ?_)
          · rw [if_pos c_15] at h
            refine v_aload_n dX10_fewestHeld_51 rfl ?_
            refine v_iload_n dX10_fewestHeld_52 rfl ?_
            refine v_iload dX10_fewestHeld_53 rfl ?_
            replace h := p_bind_elim h
            obtain ⟨_, q_18, h⟩ := h
            have q_18 := p_ob_spec q_18
            replace h := p_bind_elim h
            obtain ⟨r_16, q_17, h⟩ := h
            refine v_cVr (t_X10_staysShut q_17) cal_X10_staysShut ml_X10_407 sel_X10_staysShut q_18 kk_10 dX10_fewestHeld_55 (by omega) (by decide) (by decide) (Nat.le_of_ble_eq_true rfl) rfl ?_
            refine v_if_eq 64 dX10_fewestHeld_58 (by decide) (fun c_19 => ?_) (fun c_19 => ?_)
            · rw [if_pos c_19] at h
              refine v_sub [(0, .ref (B + w0)), (1, .int w1), (2, .int w2), (3, .int w3), (4, .int s24.1)] ⟨rfl, rfl, rfl, rfl, rfl, trivial⟩ ?_
              exact j64 _ _ h
            · rw [if_neg c_19] at h
              cases h
              refine v_sub [(4, .int s24.1)] ⟨rfl, trivial⟩ ?_
              exact hk.1 rfl
          · rw [if_neg c_15] at h
            refine v_goto 64 dX10_fewestHeld_48 (by decide) ?_
            refine v_sub [(0, .ref (B + w0)), (1, .int w1), (2, .int w2), (3, .int w3), (4, .int s24.1)] ⟨rfl, rfl, rfl, rfl, rfl, trivial⟩ ?_
            exact j64 _ _ h
    unfold f_X10_fewestHeld_B13 at h
    refine v_iload_n dX10_fewestHeld_13 rfl ?_
    refine v_iload_n dX10_fewestHeld_14 rfl ?_
    replace h := p_bind_elim h
    obtain ⟨r_6, q_7, h⟩ := h
    refine v_cSr (t_X10_ones q_7) cal_X10_ones ml_X10_313 sta_X10_ones dX10_fewestHeld_15 (by omega) (by decide) (by decide) (Nat.le_of_ble_eq_true rfl) rfl ?_
    refine v_icmp_gt 76 dX10_fewestHeld_18 (by decide) (fun c_8 => ?_) (fun c_8 => ?_)
    · rw [if_pos c_8] at h
      cases h
      refine v_sub [] trivial ?_
      exact (hk.2 (Nat.succ_ne_zero _))
    · rw [if_neg c_8] at h
      refine v_iconstE (0 : Int32) dX10_fewestHeld_21 (by decide) ?_
      refine v_istore dX10_fewestHeld_22 (by decide) ?_
      refine v_sub [(0, .ref (B + w0)), (1, .int w1), (2, .int w2), (3, .int s13.1), (4, .int (0 : Int32))] ⟨rfl, rfl, rfl, rfl, rfl, trivial⟩ ?_
      replace h := p_bind_elim h
      obtain ⟨q_20, h_21, h⟩ := h
      refine v_sub [(0, .ref (B + w0)), (1, .int w1), (2, .int w2), (3, .int s13.1), (4, .int (0 : Int32))] ⟨rfl, rfl, rfl, rfl, rfl, trivial⟩ ?_
      refine v_loopV (fun (sP : Int32 × v_I) => V l B D ac (v_EE B wa wb wt sb sL sx) yX10_fewestHeld cX10_fewestHeld 5 (some .int) d 0 0 0 0 S sP.2 J F 24 [(0, .ref (B + w0)), (1, .int w1), (2, .int w2), (3, .int s13.1), (4, .int sP.1)] [] Q) (fun (rE : Nat × (Int32 × v_I)) => (rE.1 = 0 → V l B D ac (v_EE B wa wb wt sb sL sx) yX10_fewestHeld cX10_fewestHeld 5 (some .int) d 0 0 0 0 S rE.2.2 J F 61 [(4, .int rE.2.1)] [] Q) ∧ (¬ rE.1 = 0 → V l B D ac (v_EE B wa wb wt sb sL sx) yX10_fewestHeld cX10_fewestHeld 5 (some .int) d 0 0 0 0 S rE.2.2 J F 70 [(0, .ref (B + w0)), (1, .int w1), (2, .int w2), (3, .int s13.1)] [] Q)) (fun s_ x_ hb hk => b24 _ _ _ _ s_ x_ hb hk) (r := q_20) ?_ h_21
      try dsimp only
      refine ⟨fun c_24 => ?_, fun c_24 => ?_⟩
      · rw [if_pos c_24] at h
        cases h
        refine v_sub [(4, .int q_20.2.1)] ⟨rfl, trivial⟩ ?_
        exact hk.1 rfl
      · rw [if_neg c_24] at h
        replace h := p_let_elim h
        obtain ⟨x_22, h_23, h⟩ := h
        refine v_iincE (1 : Int32) dX10_fewestHeld_70 (by decide) rfl (by decide) ?_
        rw [← h_23]
        refine v_sub [(0, .ref (B + w0)), (1, .int w1), (2, .int w2), (3, .int x_22)] ⟨rfl, rfl, rfl, rfl, trivial⟩ ?_
        refine v_goto 13 dX10_fewestHeld_73 (by decide) ?_
        cases h
        refine v_sub [(0, .ref (B + w0)), (1, .int w1), (2, .int w2), (3, .int x_22)] ⟨rfl, rfl, rfl, rfl, trivial⟩ ?_
        exact hk
  unfold f_X10_fewestHeld at h
  refine v_sub [(0, .ref (B + p0)), (1, .int p1)] ⟨rfl, rfl, trivial⟩ ?_
  refine v_aload_n dX10_fewestHeld_0 rfl ?_
  replace h := p_bind_elim h
  obtain ⟨_, q_3, h⟩ := h
  have q_3 := p_ob_spec q_3
  replace h := p_bind_elim h
  obtain ⟨r_1, q_2, h⟩ := h
  refine v_cVr (t_X10_everybody q_2) cal_X10_everybody ml_X10_162 sel_X10_everybody q_3 kk_10 dX10_fewestHeld_1 (by omega) (by decide) (by decide) (Nat.le_of_ble_eq_true rfl) rfl ?_
  refine v_iconstE (1 : Int32) dX10_fewestHeld_4 (by decide) ?_
  refine v_iload_n dX10_fewestHeld_5 rfl ?_
  refine v_ishl dX10_fewestHeld_6 ?_
  refine v_iconstE (-1 : Int32) dX10_fewestHeld_7 (by decide) ?_
  refine v_ixor dX10_fewestHeld_8 ?_
  refine v_iand dX10_fewestHeld_9 ?_
  replace h := p_let_elim h
  obtain ⟨x_4, h_5, h⟩ := h
  rw [← h_5]
  refine v_istore_n dX10_fewestHeld_10 (by decide) ?_
  refine v_sub [(0, .ref (B + p0)), (1, .int p1), (2, .int x_4)] ⟨rfl, rfl, rfl, trivial⟩ ?_
  refine v_iconstE (0 : Int32) dX10_fewestHeld_11 (by decide) ?_
  refine v_istore_n dX10_fewestHeld_12 (by decide) ?_
  refine v_sub [(0, .ref (B + p0)), (1, .int p1), (2, .int x_4), (3, .int (0 : Int32))] ⟨rfl, rfl, rfl, rfl, trivial⟩ ?_
  replace h := p_bind_elim h
  obtain ⟨q_25, h_26, h⟩ := h
  refine v_sub [(0, .ref (B + p0)), (1, .int p1), (2, .int x_4), (3, .int (0 : Int32))] ⟨rfl, rfl, rfl, rfl, trivial⟩ ?_
  refine v_loopV (fun (sP : Int32 × v_I) => V l B D ac (v_EE B wa wb wt sb sL sx) yX10_fewestHeld cX10_fewestHeld 5 (some .int) d 0 0 0 0 S sP.2 J F 13 [(0, .ref (B + p0)), (1, .int p1), (2, .int x_4), (3, .int sP.1)] [] Q) (fun (rE : Nat × (Int32 × v_I × Int32)) => (rE.1 = 0 → V l B D ac (v_EE B wa wb wt sb sL sx) yX10_fewestHeld cX10_fewestHeld 5 (some .int) d 0 0 0 0 S rE.2.2.1 J F 61 [(4, .int rE.2.2.2)] [] Q) ∧ (¬ rE.1 = 0 → V l B D ac (v_EE B wa wb wt sb sL sx) yX10_fewestHeld cX10_fewestHeld 5 (some .int) d 0 0 0 0 S rE.2.2.1 J F 76 [] [] Q)) (fun s_ x_ hb hk => b13 _ _ _ s_ x_ hb hk) (r := q_25) ?_ h_26
  try dsimp only
  refine ⟨fun c_27 => ?_, fun c_27 => ?_⟩
  · rw [if_pos c_27] at h
    refine v_iload dX10_fewestHeld_61 rfl ?_
    cases h
    exact v_iret dX10_fewestHeld_63 rfl (by decide) (by decide) (by rw [← hQ]; exact ⟨rfl, rfl, rfl, rfl, rfl⟩)
  · rw [if_neg c_27] at h
    refine v_iconstE (-1 : Int32) dX10_fewestHeld_76 (by decide) ?_
    cases h
    exact v_iret dX10_fewestHeld_77 rfl (by decide) (by decide) (by rw [← hQ]; exact ⟨rfl, rfl, rfl, rfl, rfl⟩)

def f_X10_held (S : v_S) (I : v_I) (F : v_F) (p0 : Nat) (p1 : Int32) (p2 : Int32) : Option (Int32 × v_I) :=
(p_ob S 10 p0).bind fun _ =>
(f_X10_isOne S I F p0 p1).bind fun r_1 =>
if r_1 = (0 : Int32) then (
some ((-1 : Int32), I))
else (
(f_X10_isOpen S I F p0 p1).bind fun r_5 =>
if r_5 = (0 : Int32) then (
(f_X10_isBit p2).bind fun r_8 =>
if r_8 = (0 : Int32) then (
some ((-1 : Int32), I))
else (
(f_X10_fewestHeld S I F p0 p1).bind fun r_11 =>
(f_X10_toldOf r_11.1 p2).bind fun r_13 =>
some (r_13, r_11.2)))
else (
some ((-1 : Int32), I)))
set_option maxHeartbeats 4000000 in
set_option maxRecDepth 100000 in
theorem t_X10_held {p0 : Nat} {p1 : Int32} {p2 : Int32} {r : Int32 × v_I} (h : f_X10_held S I F p0 p1 p2 = some r) : v_R l B D ac (v_EE B wa wb wt sb sL sx) yX10_held cX10_held 3 (some .int) 213 0 0 [.ref (B + p0), .int p1, .int p2] S I J F (v_D (some (.int r.1)) S r.2 J F) := by
  refine v_R.of (by decide) (Nat.le_of_ble_eq_true rfl) fun d hd => ?_
  generalize hQ : v_D (some (.int r.1)) S r.2 J F = Q
  unfold f_X10_held at h
  refine v_sub [(0, .ref (B + p0)), (1, .int p1), (2, .int p2)] ⟨rfl, rfl, rfl, trivial⟩ ?_
  refine v_aload_n dX10_held_0 rfl ?_
  refine v_iload_n dX10_held_1 rfl ?_
  replace h := p_bind_elim h
  obtain ⟨_, q_3, h⟩ := h
  have q_3 := p_ob_spec q_3
  replace h := p_bind_elim h
  obtain ⟨r_1, q_2, h⟩ := h
  refine v_cVr (t_X10_isOne q_2) cal_X10_isOne ml_X10_128 sel_X10_isOne q_3 kk_10 dX10_held_2 (by omega) (by decide) (by decide) (Nat.le_of_ble_eq_true rfl) rfl ?_
  refine v_if_eq 23 dX10_held_5 (by decide) (fun c_4 => ?_) (fun c_4 => ?_)
  · rw [if_pos c_4] at h
    refine v_iconstE (-1 : Int32) dX10_held_23 (by decide) ?_
    cases h
    exact v_iret dX10_held_24 rfl (by decide) (by decide) (by rw [← hQ]; exact ⟨rfl, rfl, rfl, rfl, rfl⟩)
  · rw [if_neg c_4] at h
    refine v_aload_n dX10_held_8 rfl ?_
    refine v_iload_n dX10_held_9 rfl ?_
    replace h := p_bind_elim h
    obtain ⟨r_5, q_6, h⟩ := h
    refine v_cVr (t_X10_isOpen q_6) cal_X10_isOpen ml_X10_131 sel_X10_isOpen q_3 kk_10 dX10_held_10 (by omega) (by decide) (by decide) (Nat.le_of_ble_eq_true rfl) rfl ?_
    refine v_if_ne 23 dX10_held_13 (by decide) (fun c_7 => ?_) (fun c_7 => ?_)
    · rw [if_neg c_7] at h
      refine v_iconstE (-1 : Int32) dX10_held_23 (by decide) ?_
      cases h
      exact v_iret dX10_held_24 rfl (by decide) (by decide) (by rw [← hQ]; exact ⟨rfl, rfl, rfl, rfl, rfl⟩)
    · rw [if_pos c_7] at h
      refine v_iload_n dX10_held_16 rfl ?_
      replace h := p_bind_elim h
      obtain ⟨r_8, q_9, h⟩ := h
      refine v_cSr (t_X10_isBit q_9) cal_X10_isBit ml_X10_125 sta_X10_isBit dX10_held_17 (by omega) (by decide) (by decide) (Nat.le_of_ble_eq_true rfl) rfl ?_
      refine v_if_ne 25 dX10_held_20 (by decide) (fun c_10 => ?_) (fun c_10 => ?_)
      · rw [if_neg c_10] at h
        refine v_aload_n dX10_held_25 rfl ?_
        refine v_iload_n dX10_held_26 rfl ?_
        replace h := p_bind_elim h
        obtain ⟨r_11, q_12, h⟩ := h
        refine v_cVr (t_X10_fewestHeld q_12) cal_X10_fewestHeld ml_X10_404 sel_X10_fewestHeld q_3 kk_10 dX10_held_27 (by omega) (by decide) (by decide) (Nat.le_of_ble_eq_true rfl) rfl ?_
        refine v_iload_n dX10_held_30 rfl ?_
        replace h := p_bind_elim h
        obtain ⟨r_13, q_14, h⟩ := h
        refine v_cSr (t_X10_toldOf q_14) cal_X10_toldOf ml_X10_398 sta_X10_toldOf dX10_held_31 (by omega) (by decide) (by decide) (Nat.le_of_ble_eq_true rfl) rfl ?_
        cases h
        exact v_iret dX10_held_34 rfl (by decide) (by decide) (by rw [← hQ]; exact ⟨rfl, rfl, rfl, rfl, rfl⟩)
      · rw [if_pos c_10] at h
        refine v_iconstE (-1 : Int32) dX10_held_23 (by decide) ?_
        cases h
        exact v_iret dX10_held_24 rfl (by decide) (by decide) (by rw [← hQ]; exact ⟨rfl, rfl, rfl, rfl, rfl⟩)

def f_X10_openNext_J4_26 (S : v_S) (F : v_F) (w0 : Nat) (I : v_I) (y2 : Int32) (z0 : Int32) (z1 : Int32) : Option ((Int32 × Int32 × v_I) ⊕ (Int32 × Int32 × v_I)) :=
p_let (z1 + z0) fun x_8 =>
p_let (y2 + (1 : Int32)) fun x_10 =>
some (.inl (x_8, x_10, I))
def f_X10_openNext_B4 (S : v_S) (F : v_F) (w0 : Nat) (s4 : Int32 × Int32 × v_I) : Option ((Int32 × Int32 × v_I) ⊕ (Int32 × Int32 × v_I)) :=
(p_ob S 10 w0).bind fun _ =>
(f_X10_many S s4.2.2 F w0).bind fun r_1 =>
if r_1 ≤ s4.2.1 then (
some (.inr (s4.1, s4.2.1, s4.2.2)))
else (
(f_X10_opensNext S s4.2.2 F w0 s4.2.1).bind fun r_5 =>
if r_5.1 = (0 : Int32) then (
f_X10_openNext_J4_26 S F w0 r_5.2 s4.2.1 (0 : Int32) s4.1)
else (
f_X10_openNext_J4_26 S F w0 r_5.2 s4.2.1 (1 : Int32) s4.1))
def f_X10_openNext (S : v_S) (I : v_I) (F : v_F) (p0 : Nat) : Option (Int32 × v_I) :=
(v_loop (f_X10_openNext_B4 S F p0) FU ((0 : Int32), (0 : Int32), I)).bind fun q_12 =>
some (q_12.1, q_12.2.2)
set_option maxHeartbeats 4000000 in
set_option maxRecDepth 100000 in
theorem t_X10_openNext {p0 : Nat} {r : Int32 × v_I} (h : f_X10_openNext S I F p0 = some r) : v_R l B D ac (v_EE B wa wb wt sb sL sx) yX10_openNext cX10_openNext 3 (some .int) 209 0 0 [.ref (B + p0)] S I J F (v_D (some (.int r.1)) S r.2 J F) := by
  refine v_R.of (by decide) (Nat.le_of_ble_eq_true rfl) fun d hd => ?_
  generalize hQ : v_D (some (.int r.1)) S r.2 J F = Q
  have b4 : ∀ (w0 : Nat) (s4 : Int32 × Int32 × v_I) (rx4 : (Int32 × Int32 × v_I) ⊕ (Int32 × Int32 × v_I)), f_X10_openNext_B4 S F w0 s4 = some rx4 → v_K (fun (sP : Int32 × Int32 × v_I) => V l B D ac (v_EE B wa wb wt sb sL sx) yX10_openNext cX10_openNext 3 (some .int) d 0 0 0 0 S sP.2.2 J F 4 [(0, .ref (B + w0)), (1, .int sP.1), (2, .int sP.2.1)] [] Q) (fun (rE : Int32 × Int32 × v_I) => V l B D ac (v_EE B wa wb wt sb sL sx) yX10_openNext cX10_openNext 3 (some .int) d 0 0 0 0 S rE.2.2 J F 34 [(1, .int rE.1)] [] Q) rx4 → V l B D ac (v_EE B wa wb wt sb sL sx) yX10_openNext cX10_openNext 3 (some .int) d 0 0 0 0 S s4.2.2 J F 4 [(0, .ref (B + w0)), (1, .int s4.1), (2, .int s4.2.1)] [] Q := by
    intro w0 s4 rx4 h hk
    have j26 : ∀ (I : v_I) (y2 : Int32) (z0 : Int32) (z1 : Int32), f_X10_openNext_J4_26 S F w0 I y2 z0 z1 = some rx4 → V l B D ac (v_EE B wa wb wt sb sL sx) yX10_openNext cX10_openNext 3 (some .int) d 0 0 0 0 S I J F 26 [(0, .ref (B + w0)), (2, .int y2)] [.int z0, .int z1] Q := by
      intro I y2 z0 z1 h
      unfold f_X10_openNext_J4_26 at h
      refine v_iadd dX10_openNext_26 ?_
      replace h := p_let_elim h
      obtain ⟨x_8, h_9, h⟩ := h
      rw [← h_9]
      refine v_istore_n dX10_openNext_27 (by decide) ?_
      refine v_sub [(0, .ref (B + w0)), (1, .int x_8), (2, .int y2)] ⟨rfl, rfl, rfl, trivial⟩ ?_
      replace h := p_let_elim h
      obtain ⟨x_10, h_11, h⟩ := h
      refine v_iincE (1 : Int32) dX10_openNext_28 (by decide) rfl (by decide) ?_
      rw [← h_11]
      refine v_sub [(0, .ref (B + w0)), (1, .int x_8), (2, .int x_10)] ⟨rfl, rfl, rfl, trivial⟩ ?_
      refine v_goto 4 dX10_openNext_31 (by decide) ?_
      cases h
      refine v_sub [(0, .ref (B + w0)), (1, .int x_8), (2, .int x_10)] ⟨rfl, rfl, rfl, trivial⟩ ?_
      exact hk
    unfold f_X10_openNext_B4 at h
    refine v_iload_n dX10_openNext_4 rfl ?_
    refine v_aload_n dX10_openNext_5 rfl ?_
    replace h := p_bind_elim h
    obtain ⟨_, q_3, h⟩ := h
    have q_3 := p_ob_spec q_3
    replace h := p_bind_elim h
    obtain ⟨r_1, q_2, h⟩ := h
    refine v_cVr (t_X10_many q_2) cal_X10_many ml_X10_109 sel_X10_many q_3 kk_10 dX10_openNext_6 (by omega) (by decide) (by decide) (Nat.le_of_ble_eq_true rfl) rfl ?_
    refine v_icmp_ge 34 dX10_openNext_9 (by decide) (fun c_4 => ?_) (fun c_4 => ?_)
    · rw [if_pos c_4] at h
      cases h
      refine v_sub [(1, .int s4.1)] ⟨rfl, trivial⟩ ?_
      exact hk
    · rw [if_neg c_4] at h
      refine v_iload_n dX10_openNext_12 rfl ?_
      refine v_aload_n dX10_openNext_13 rfl ?_
      refine v_iload_n dX10_openNext_14 rfl ?_
      replace h := p_bind_elim h
      obtain ⟨r_5, q_6, h⟩ := h
      refine v_cVr (t_X10_opensNext q_6) cal_X10_opensNext ml_X10_143 sel_X10_opensNext q_3 kk_10 dX10_openNext_15 (by omega) (by decide) (by decide) (Nat.le_of_ble_eq_true rfl) rfl ?_
      refine v_if_eq 25 dX10_openNext_18 (by decide) (fun c_7 => ?_) (fun c_7 => ?_)
      · rw [if_pos c_7] at h
        refine v_iconstE (0 : Int32) dX10_openNext_25 (by decide) ?_
        refine v_sub [(0, .ref (B + w0)), (2, .int s4.2.1)] ⟨rfl, rfl, trivial⟩ ?_
        exact j26 _ _ _ _ h
      · rw [if_neg c_7] at h
        refine v_iconstE (1 : Int32) dX10_openNext_21 (by decide) ?_
        refine v_goto 26 dX10_openNext_22 (by decide) ?_
        refine v_sub [(0, .ref (B + w0)), (2, .int s4.2.1)] ⟨rfl, rfl, trivial⟩ ?_
        exact j26 _ _ _ _ h
  unfold f_X10_openNext at h
  refine v_sub [(0, .ref (B + p0))] ⟨rfl, trivial⟩ ?_
  refine v_iconstE (0 : Int32) dX10_openNext_0 (by decide) ?_
  refine v_istore_n dX10_openNext_1 (by decide) ?_
  refine v_sub [(0, .ref (B + p0)), (1, .int (0 : Int32))] ⟨rfl, rfl, trivial⟩ ?_
  refine v_iconstE (0 : Int32) dX10_openNext_2 (by decide) ?_
  refine v_istore_n dX10_openNext_3 (by decide) ?_
  refine v_sub [(0, .ref (B + p0)), (1, .int (0 : Int32)), (2, .int (0 : Int32))] ⟨rfl, rfl, rfl, trivial⟩ ?_
  replace h := p_bind_elim h
  obtain ⟨q_12, h_13, h⟩ := h
  refine v_sub [(0, .ref (B + p0)), (1, .int (0 : Int32)), (2, .int (0 : Int32))] ⟨rfl, rfl, rfl, trivial⟩ ?_
  refine v_loopV (fun (sP : Int32 × Int32 × v_I) => V l B D ac (v_EE B wa wb wt sb sL sx) yX10_openNext cX10_openNext 3 (some .int) d 0 0 0 0 S sP.2.2 J F 4 [(0, .ref (B + p0)), (1, .int sP.1), (2, .int sP.2.1)] [] Q) (fun (rE : Int32 × Int32 × v_I) => V l B D ac (v_EE B wa wb wt sb sL sx) yX10_openNext cX10_openNext 3 (some .int) d 0 0 0 0 S rE.2.2 J F 34 [(1, .int rE.1)] [] Q) (fun s_ x_ hb hk => b4 _ s_ x_ hb hk) (r := q_12) ?_ h_13
  try dsimp only
  refine v_iload_n dX10_openNext_34 rfl ?_
  cases h
  exact v_iret dX10_openNext_35 rfl (by decide) (by decide) (by rw [← hQ]; exact ⟨rfl, rfl, rfl, rfl, rfl⟩)

def f_X10_compare (S : v_S) (I : v_I) (F : v_F) (p0 : Nat) (p1 : Int32) : Option (Int32 × v_I) :=
(p_ob S 10 p0).bind fun _ =>
(f_X10_isLaw S I F p0 p1).bind fun r_1 =>
if r_1 = (0 : Int32) then (
some ((-1 : Int32), I))
else (
(F p0 2).bind fun a_5 =>
(p_ix S 20 a_5 (52 : Int32)).bind fun j_7 =>
p_let (I a_5 j_7) fun x_9 =>
(F p0 2).bind fun a_11 =>
(p_ix S 20 a_11 (52 : Int32)).bind fun j_13 =>
p_let (v_up I a_11 j_13 p1) fun I_15 =>
(f_X10_openNext S I_15 F p0).bind fun r_17 =>
(F p0 2).bind fun a_19 =>
(p_ix S 20 a_19 (52 : Int32)).bind fun j_21 =>
p_let (v_up r_17.2 a_19 j_21 x_9) fun I_23 =>
some (r_17.1, I_23))
set_option maxHeartbeats 4000000 in
set_option maxRecDepth 100000 in
theorem t_X10_compare {p0 : Nat} {p1 : Int32} {r : Int32 × v_I} (h : f_X10_compare S I F p0 p1 = some r) : v_R l B D ac (v_EE B wa wb wt sb sL sx) yX10_compare cX10_compare 4 (some .int) 210 0 0 [.ref (B + p0), .int p1] S I J F (v_D (some (.int r.1)) S r.2 J F) := by
  refine v_R.of (by decide) (Nat.le_of_ble_eq_true rfl) fun d hd => ?_
  generalize hQ : v_D (some (.int r.1)) S r.2 J F = Q
  unfold f_X10_compare at h
  refine v_sub [(0, .ref (B + p0)), (1, .int p1)] ⟨rfl, rfl, trivial⟩ ?_
  refine v_aload_n dX10_compare_0 rfl ?_
  refine v_iload_n dX10_compare_1 rfl ?_
  replace h := p_bind_elim h
  obtain ⟨_, q_3, h⟩ := h
  have q_3 := p_ob_spec q_3
  replace h := p_bind_elim h
  obtain ⟨r_1, q_2, h⟩ := h
  refine v_cVr (t_X10_isLaw q_2) cal_X10_isLaw ml_X10_271 sel_X10_isLaw q_3 kk_10 dX10_compare_2 (by omega) (by decide) (by decide) (Nat.le_of_ble_eq_true rfl) rfl ?_
  refine v_if_ne 10 dX10_compare_5 (by decide) (fun c_4 => ?_) (fun c_4 => ?_)
  · rw [if_neg c_4] at h
    refine v_aload_n dX10_compare_10 rfl ?_
    replace h := p_bind_elim h
    obtain ⟨a_5, q_6, h⟩ := h
    refine v_getR q_6 rfl fl_X10_28 dX10_compare_11 q_3 ?_
    refine v_bipush (52 : Int32) dX10_compare_14 (by decide) ?_
    replace h := p_bind_elim h
    obtain ⟨j_7, q_8, h⟩ := h
    refine v_ialdP dX10_compare_16 q_8 ?_
    replace h := p_let_elim h
    obtain ⟨x_9, h_10, h⟩ := h
    rw [← h_10]
    refine v_istore_n dX10_compare_17 (by decide) ?_
    refine v_sub [(0, .ref (B + p0)), (1, .int p1), (2, .int x_9)] ⟨rfl, rfl, rfl, trivial⟩ ?_
    refine v_aload_n dX10_compare_18 rfl ?_
    replace h := p_bind_elim h
    obtain ⟨a_11, q_12, h⟩ := h
    refine v_getR q_12 rfl fl_X10_28 dX10_compare_19 q_3 ?_
    refine v_bipush (52 : Int32) dX10_compare_22 (by decide) ?_
    refine v_iload_n dX10_compare_24 rfl ?_
    replace h := p_bind_elim h
    obtain ⟨j_13, q_14, h⟩ := h
    refine v_iastP dX10_compare_25 q_14 ?_
    replace h := p_let_elim h
    obtain ⟨I_15, h_16, h⟩ := h
    rw [← h_16]
    refine v_aload_n dX10_compare_26 rfl ?_
    replace h := p_bind_elim h
    obtain ⟨r_17, q_18, h⟩ := h
    refine v_cVr (t_X10_openNext q_18) cal_X10_openNext ml_X10_410 sel_X10_openNext q_3 kk_10 dX10_compare_27 (by omega) (by decide) (by decide) (Nat.le_of_ble_eq_true rfl) rfl ?_
    refine v_istore_n dX10_compare_30 (by decide) ?_
    refine v_sub [(0, .ref (B + p0)), (2, .int x_9), (3, .int r_17.1)] ⟨rfl, rfl, rfl, trivial⟩ ?_
    refine v_aload_n dX10_compare_31 rfl ?_
    replace h := p_bind_elim h
    obtain ⟨a_19, q_20, h⟩ := h
    refine v_getR q_20 rfl fl_X10_28 dX10_compare_32 q_3 ?_
    refine v_bipush (52 : Int32) dX10_compare_35 (by decide) ?_
    refine v_iload_n dX10_compare_37 rfl ?_
    replace h := p_bind_elim h
    obtain ⟨j_21, q_22, h⟩ := h
    refine v_iastP dX10_compare_38 q_22 ?_
    replace h := p_let_elim h
    obtain ⟨I_23, h_24, h⟩ := h
    rw [← h_24]
    refine v_iload_n dX10_compare_39 rfl ?_
    cases h
    exact v_iret dX10_compare_40 rfl (by decide) (by decide) (by rw [← hQ]; exact ⟨rfl, rfl, rfl, rfl, rfl⟩)
  · rw [if_pos c_4] at h
    refine v_iconstE (-1 : Int32) dX10_compare_8 (by decide) ?_
    cases h
    exact v_iret dX10_compare_9 rfl (by decide) (by decide) (by rw [← hQ]; exact ⟨rfl, rfl, rfl, rfl, rfl⟩)

def f_X10_canBe_B14 (S : v_S) (F : v_F) (I : v_I) (w0 : Nat) (s14 : Int32 × Int32) : Option ((Int32 × Int32) ⊕ (Int32 × Int32)) :=
(p_ob S 10 w0).bind fun _ =>
(F w0 2).bind fun a_7 =>
(p_ix S 20 a_7 (50 : Int32)).bind fun j_9 =>
if (I a_7 j_9) ≤ s14.2 then (
some (.inr (s14.1, s14.2)))
else (
(f_X10_asSeen S I F w0 s14.2).bind fun r_12 =>
p_let (s14.1 &&& r_12) fun x_14 =>
p_let (s14.2 + (1 : Int32)) fun x_16 =>
some (.inl (x_14, x_16)))
def f_X10_canBe (S : v_S) (I : v_I) (F : v_F) (p0 : Nat) : Option (Int32 × v_I) :=
(p_ob S 10 p0).bind fun _ =>
(f_X10_laysAllMinutes S I F p0 (0 : Int32) (0 : Int32) (0 : Int32)).bind fun r_1 =>
(f_X10_everybody S r_1 F p0).bind fun r_4 =>
(v_loop (f_X10_canBe_B14 S F r_1 p0) FU (r_4, (0 : Int32))).bind fun q_18 =>
some (q_18.1, r_1)
set_option maxHeartbeats 4000000 in
set_option maxRecDepth 100000 in
theorem t_X10_canBe {p0 : Nat} {r : Int32 × v_I} (h : f_X10_canBe S I F p0 = some r) : v_R l B D ac (v_EE B wa wb wt sb sL sx) yX10_canBe cX10_canBe 3 (some .int) 212 0 0 [.ref (B + p0)] S I J F (v_D (some (.int r.1)) S r.2 J F) := by
  refine v_R.of (by decide) (Nat.le_of_ble_eq_true rfl) fun d hd => ?_
  generalize hQ : v_D (some (.int r.1)) S r.2 J F = Q
  have b14 : ∀ (I : v_I) (w0 : Nat) (s14 : Int32 × Int32) (rx14 : (Int32 × Int32) ⊕ (Int32 × Int32)), f_X10_canBe_B14 S F I w0 s14 = some rx14 → v_K (fun (sP : Int32 × Int32) => V l B D ac (v_EE B wa wb wt sb sL sx) yX10_canBe cX10_canBe 3 (some .int) d 0 0 0 0 S I J F 14 [(0, .ref (B + w0)), (1, .int sP.1), (2, .int sP.2)] [] Q) (fun (rE : Int32 × Int32) => V l B D ac (v_EE B wa wb wt sb sL sx) yX10_canBe cX10_canBe 3 (some .int) d 0 0 0 0 S I J F 39 [(1, .int rE.1)] [] Q) rx14 → V l B D ac (v_EE B wa wb wt sb sL sx) yX10_canBe cX10_canBe 3 (some .int) d 0 0 0 0 S I J F 14 [(0, .ref (B + w0)), (1, .int s14.1), (2, .int s14.2)] [] Q := by
    intro I w0 s14 rx14 h hk
    unfold f_X10_canBe_B14 at h
    refine v_iload_n dX10_canBe_14 rfl ?_
    refine v_aload_n dX10_canBe_15 rfl ?_
    replace h := p_bind_elim h
    obtain ⟨_, q_6, h⟩ := h
    have q_6 := p_ob_spec q_6
    replace h := p_bind_elim h
    obtain ⟨a_7, q_8, h⟩ := h
    refine v_getR q_8 rfl fl_X10_28 dX10_canBe_16 q_6 ?_
    refine v_bipush (50 : Int32) dX10_canBe_19 (by decide) ?_
    replace h := p_bind_elim h
    obtain ⟨j_9, q_10, h⟩ := h
    refine v_ialdP dX10_canBe_21 q_10 ?_
    refine v_icmp_ge 39 dX10_canBe_22 (by decide) (fun c_11 => ?_) (fun c_11 => ?_)
    · rw [if_pos c_11] at h
      cases h
      refine v_sub [(1, .int s14.1)] ⟨rfl, trivial⟩ ?_
      exact hk
    · rw [if_neg c_11] at h
      refine v_iload_n dX10_canBe_25 rfl ?_
      refine v_aload_n dX10_canBe_26 rfl ?_
      refine v_iload_n dX10_canBe_27 rfl ?_
      replace h := p_bind_elim h
      obtain ⟨r_12, q_13, h⟩ := h
      refine v_cVr (t_X10_asSeen q_13) cal_X10_asSeen ml_X10_434 sel_X10_asSeen q_6 kk_10 dX10_canBe_28 (by omega) (by decide) (by decide) (Nat.le_of_ble_eq_true rfl) rfl ?_
      refine v_iand dX10_canBe_31 ?_
      replace h := p_let_elim h
      obtain ⟨x_14, h_15, h⟩ := h
      rw [← h_15]
      refine v_istore_n dX10_canBe_32 (by decide) ?_
      refine v_sub [(0, .ref (B + w0)), (1, .int x_14), (2, .int s14.2)] ⟨rfl, rfl, rfl, trivial⟩ ?_
      replace h := p_let_elim h
      obtain ⟨x_16, h_17, h⟩ := h
      refine v_iincE (1 : Int32) dX10_canBe_33 (by decide) rfl (by decide) ?_
      rw [← h_17]
      refine v_sub [(0, .ref (B + w0)), (1, .int x_14), (2, .int x_16)] ⟨rfl, rfl, rfl, trivial⟩ ?_
      refine v_goto 14 dX10_canBe_36 (by decide) ?_
      cases h
      refine v_sub [(0, .ref (B + w0)), (1, .int x_14), (2, .int x_16)] ⟨rfl, rfl, rfl, trivial⟩ ?_
      exact hk
  unfold f_X10_canBe at h
  refine v_sub [(0, .ref (B + p0))] ⟨rfl, trivial⟩ ?_
  refine v_aload_n dX10_canBe_0 rfl ?_
  refine v_iconstE (0 : Int32) dX10_canBe_1 (by decide) ?_
  refine v_iconstE (0 : Int32) dX10_canBe_2 (by decide) ?_
  refine v_iconstE (0 : Int32) dX10_canBe_3 (by decide) ?_
  replace h := p_bind_elim h
  obtain ⟨_, q_3, h⟩ := h
  have q_3 := p_ob_spec q_3
  replace h := p_bind_elim h
  obtain ⟨r_1, q_2, h⟩ := h
  refine v_cVn (t_X10_laysAllMinutes q_2) cal_X10_laysAllMinutes ml_X10_385 sel_X10_laysAllMinutes q_3 kk_10 dX10_canBe_4 (by omega) (by decide) (by decide) (Nat.le_of_ble_eq_true rfl) rfl ?_
  refine v_aload_n dX10_canBe_7 rfl ?_
  replace h := p_bind_elim h
  obtain ⟨r_4, q_5, h⟩ := h
  refine v_cVr (t_X10_everybody q_5) cal_X10_everybody ml_X10_162 sel_X10_everybody q_3 kk_10 dX10_canBe_8 (by omega) (by decide) (by decide) (Nat.le_of_ble_eq_true rfl) rfl ?_
  refine v_istore_n dX10_canBe_11 (by decide) ?_
  refine v_sub [(0, .ref (B + p0)), (1, .int r_4)] ⟨rfl, rfl, trivial⟩ ?_
  refine v_iconstE (0 : Int32) dX10_canBe_12 (by decide) ?_
  refine v_istore_n dX10_canBe_13 (by decide) ?_
  refine v_sub [(0, .ref (B + p0)), (1, .int r_4), (2, .int (0 : Int32))] ⟨rfl, rfl, rfl, trivial⟩ ?_
  replace h := p_bind_elim h
  obtain ⟨q_18, h_19, h⟩ := h
  refine v_sub [(0, .ref (B + p0)), (1, .int r_4), (2, .int (0 : Int32))] ⟨rfl, rfl, rfl, trivial⟩ ?_
  refine v_loopV (fun (sP : Int32 × Int32) => V l B D ac (v_EE B wa wb wt sb sL sx) yX10_canBe cX10_canBe 3 (some .int) d 0 0 0 0 S r_1 J F 14 [(0, .ref (B + p0)), (1, .int sP.1), (2, .int sP.2)] [] Q) (fun (rE : Int32 × Int32) => V l B D ac (v_EE B wa wb wt sb sL sx) yX10_canBe cX10_canBe 3 (some .int) d 0 0 0 0 S r_1 J F 39 [(1, .int rE.1)] [] Q) (fun s_ x_ hb hk => b14 _ _ s_ x_ hb hk) (r := q_18) ?_ h_19
  try dsimp only
  refine v_iload_n dX10_canBe_39 rfl ?_
  cases h
  exact v_iret dX10_canBe_40 rfl (by decide) (by decide) (by rw [← hQ]; exact ⟨rfl, rfl, rfl, rfl, rfl⟩)

def f_X10_look_J23_82 (S : v_S) (I : v_I) (F : v_F) (w0 : Nat) (w1 : Int32) (w2 : Int32) (y3 : Int32) (y4 : Int32) (y5 : Int32) : Option ((Int32 × Int32 × Int32) ⊕ (Int32 × Int32 × Int32)) :=
p_let (y5 + (1 : Int32)) fun x_25 =>
some (.inl (y3, y4, x_25))
def f_X10_look_B23 (S : v_S) (F : v_F) (I : v_I) (w0 : Nat) (w1 : Int32) (w2 : Int32) (s23 : Int32 × Int32 × Int32) : Option ((Int32 × Int32 × Int32) ⊕ (Int32 × Int32 × Int32)) :=
if (60 : Int32) < s23.2.2 then (
some (.inr (s23.1, s23.2.1, s23.2.2)))
else (
if w2 = (0 : Int32) then (
some (.inr (s23.1, s23.2.1, s23.2.2)))
else (
(p_ob S 10 w0).bind fun _ =>
(F w0 33).bind fun a_10 =>
(p_ix S 20 a_10 s23.2.2).bind fun j_12 =>
(f_X10_ones (w2 &&& (I a_10 j_12))).bind fun r_14 =>
(F w0 33).bind fun a_16 =>
(p_ix S 20 a_16 s23.2.2).bind fun j_18 =>
(f_X10_ones (w2 &&& ((I a_16 j_18) ^^^ (-1 : Int32)))).bind fun r_20 =>
(f_X10_greater r_14 r_20).bind fun r_22 =>
if r_22 < s23.2.1 then (
f_X10_look_J23_82 S I F w0 w1 w2 s23.2.2 r_22 s23.2.2)
else (
f_X10_look_J23_82 S I F w0 w1 w2 s23.1 s23.2.1 s23.2.2)))
def f_X10_look_J88 (S : v_S) (F : v_F) (I : v_I) (y1 : Int32) (y3 : Int32) (y4 : Int32) : Option (Int32 × v_I) :=
if y3 = (-1 : Int32) then (
some (y3, I))
else (
if y1 = (0 : Int32) then (
some (y3, I))
else (
some (y4, I)))
def f_X10_look (S : v_S) (I : v_I) (F : v_F) (p0 : Nat) (p1 : Int32) : Option (Int32 × v_I) :=
(f_X10_isBit p1).bind fun r_1 =>
if r_1 = (0 : Int32) then (
some ((-1 : Int32), I))
else (
(p_ob S 10 p0).bind fun _ =>
(f_X10_canBe S I F p0).bind fun r_4 =>
(v_loop (f_X10_look_B23 S F r_4.2 p0 p1 r_4.1) FU ((-1 : Int32), (1000000 : Int32), (0 : Int32))).bind fun q_27 =>
f_X10_look_J88 S F r_4.2 p1 q_27.1 q_27.2.1)
set_option maxHeartbeats 4000000 in
set_option maxRecDepth 100000 in
theorem t_X10_look {p0 : Nat} {p1 : Int32} {r : Int32 × v_I} (h : f_X10_look S I F p0 p1 = some r) : v_R l B D ac (v_EE B wa wb wt sb sL sx) yX10_look cX10_look 7 (some .int) 213 0 0 [.ref (B + p0), .int p1] S I J F (v_D (some (.int r.1)) S r.2 J F) := by
  refine v_R.of (by decide) (Nat.le_of_ble_eq_true rfl) fun d hd => ?_
  generalize hQ : v_D (some (.int r.1)) S r.2 J F = Q
  have b23 : ∀ (I : v_I) (w0 : Nat) (w1 : Int32) (w2 : Int32) (s23 : Int32 × Int32 × Int32) (rx23 : (Int32 × Int32 × Int32) ⊕ (Int32 × Int32 × Int32)), f_X10_look_B23 S F I w0 w1 w2 s23 = some rx23 → v_K (fun (sP : Int32 × Int32 × Int32) => V l B D ac (v_EE B wa wb wt sb sL sx) yX10_look cX10_look 7 (some .int) d 0 0 0 0 S I J F 23 [(0, .ref (B + w0)), (1, .int w1), (2, .int w2), (3, .int sP.1), (4, .int sP.2.1), (5, .int sP.2.2)] [] Q) (fun (rE : Int32 × Int32 × Int32) => V l B D ac (v_EE B wa wb wt sb sL sx) yX10_look cX10_look 7 (some .int) d 0 0 0 0 S I J F 88 [(1, .int w1), (3, .int rE.1), (4, .int rE.2.1)] [] Q) rx23 → V l B D ac (v_EE B wa wb wt sb sL sx) yX10_look cX10_look 7 (some .int) d 0 0 0 0 S I J F 23 [(0, .ref (B + w0)), (1, .int w1), (2, .int w2), (3, .int s23.1), (4, .int s23.2.1), (5, .int s23.2.2)] [] Q := by
    intro I w0 w1 w2 s23 rx23 h hk
    have j82 : ∀ (y3 : Int32) (y4 : Int32) (y5 : Int32), f_X10_look_J23_82 S I F w0 w1 w2 y3 y4 y5 = some rx23 → V l B D ac (v_EE B wa wb wt sb sL sx) yX10_look cX10_look 7 (some .int) d 0 0 0 0 S I J F 82 [(0, .ref (B + w0)), (1, .int w1), (2, .int w2), (3, .int y3), (4, .int y4), (5, .int y5)] [] Q := by
      intro y3 y4 y5 h
      unfold f_X10_look_J23_82 at h
      replace h := p_let_elim h
      obtain ⟨x_25, h_26, h⟩ := h
      refine v_iincE (1 : Int32) dX10_look_82 (by decide) rfl (by decide) ?_
      rw [← h_26]
      refine v_sub [(0, .ref (B + w0)), (1, .int w1), (2, .int w2), (3, .int y3), (4, .int y4), (5, .int x_25)] ⟨rfl, rfl, rfl, rfl, rfl, rfl, trivial⟩ ?_
      refine v_goto 23 dX10_look_85 (by decide) ?_
      cases h
      refine v_sub [(0, .ref (B + w0)), (1, .int w1), (2, .int w2), (3, .int y3), (4, .int y4), (5, .int x_25)] ⟨rfl, rfl, rfl, rfl, rfl, rfl, trivial⟩ ?_
      exact hk
    unfold f_X10_look_B23 at h
    refine v_iload dX10_look_23 rfl ?_
    refine v_bipush (60 : Int32) dX10_look_25 (by decide) ?_
    refine v_icmp_gt 88 dX10_look_27 (by decide) (fun c_7 => ?_) (fun c_7 => ?_)
    · rw [if_pos c_7] at h
      cases h
      refine v_sub [(1, .int w1), (3, .int s23.1), (4, .int s23.2.1)] ⟨rfl, rfl, rfl, trivial⟩ ?_
      exact hk
    · rw [if_neg c_7] at h
      refine v_iload_n dX10_look_30 rfl ?_
      refine v_if_eq 88 dX10_look_31 (by decide) (fun c_8 => ?_) (fun c_8 => ?_)
      · rw [if_pos c_8] at h
        cases h
        refine v_sub [(1, .int w1), (3, .int s23.1), (4, .int s23.2.1)] ⟨rfl, rfl, rfl, trivial⟩ ?_
        exact hk
      · rw [if_neg c_8] at h
        refine v_iload_n dX10_look_34 rfl ?_
        refine v_aload_n dX10_look_35 rfl ?_
        replace h := p_bind_elim h
        obtain ⟨_, q_9, h⟩ := h
        have q_9 := p_ob_spec q_9
        replace h := p_bind_elim h
        obtain ⟨a_10, q_11, h⟩ := h
        refine v_getR q_11 rfl fl_X10_75 dX10_look_36 q_9 ?_
        refine v_iload dX10_look_39 rfl ?_
        replace h := p_bind_elim h
        obtain ⟨j_12, q_13, h⟩ := h
        refine v_ialdP dX10_look_41 q_13 ?_
        refine v_iand dX10_look_42 ?_
        replace h := p_bind_elim h
        obtain ⟨r_14, q_15, h⟩ := h
        refine v_cSr (t_X10_ones q_15) cal_X10_ones ml_X10_313 sta_X10_ones dX10_look_43 (by omega) (by decide) (by decide) (Nat.le_of_ble_eq_true rfl) rfl ?_
        refine v_iload_n dX10_look_46 rfl ?_
        refine v_aload_n dX10_look_47 rfl ?_
        replace h := p_bind_elim h
        obtain ⟨a_16, q_17, h⟩ := h
        refine v_getR q_17 rfl fl_X10_75 dX10_look_48 q_9 ?_
        refine v_iload dX10_look_51 rfl ?_
        replace h := p_bind_elim h
        obtain ⟨j_18, q_19, h⟩ := h
        refine v_ialdP dX10_look_53 q_19 ?_
        refine v_iconstE (-1 : Int32) dX10_look_54 (by decide) ?_
        refine v_ixor dX10_look_55 ?_
        refine v_iand dX10_look_56 ?_
        replace h := p_bind_elim h
        obtain ⟨r_20, q_21, h⟩ := h
        refine v_cSr (t_X10_ones q_21) cal_X10_ones ml_X10_313 sta_X10_ones dX10_look_57 (by omega) (by decide) (by decide) (Nat.le_of_ble_eq_true rfl) rfl ?_
        replace h := p_bind_elim h
        obtain ⟨r_22, q_23, h⟩ := h
        refine v_cSr (t_X10_greater q_23) cal_X10_greater ml_X10_440 sta_X10_greater dX10_look_60 (by omega) (by decide) (by decide) (Nat.le_of_ble_eq_true rfl) rfl ?_
        refine v_istore dX10_look_63 (by decide) ?_
        refine v_sub [(0, .ref (B + w0)), (1, .int w1), (2, .int w2), (3, .int s23.1), (4, .int s23.2.1), (5, .int s23.2.2), (6, .int r_22)] ⟨rfl, rfl, rfl, rfl, rfl, rfl, rfl, trivial⟩ ?_
        refine v_iload dX10_look_65 rfl ?_
        refine v_iload dX10_look_67 rfl ?_
        refine v_icmp_lt 75 dX10_look_69 (by decide) (fun c_24 => ?_) (fun c_24 => ?_)
        · rw [if_pos c_24] at h
          refine v_iload dX10_look_75 rfl ?_
          refine v_istore dX10_look_77 (by decide) ?_
          refine v_sub [(0, .ref (B + w0)), (1, .int w1), (2, .int w2), (4, .int r_22), (5, .int s23.2.2)] ⟨rfl, rfl, rfl, rfl, rfl, trivial⟩ ?_
          refine v_iload dX10_look_79 rfl ?_
          refine v_istore_n dX10_look_81 (by decide) ?_
          refine v_sub [(0, .ref (B + w0)), (1, .int w1), (2, .int w2), (3, .int s23.2.2), (4, .int r_22), (5, .int s23.2.2)] ⟨rfl, rfl, rfl, rfl, rfl, rfl, trivial⟩ ?_
          refine v_sub [(0, .ref (B + w0)), (1, .int w1), (2, .int w2), (3, .int s23.2.2), (4, .int r_22), (5, .int s23.2.2)] ⟨rfl, rfl, rfl, rfl, rfl, rfl, trivial⟩ ?_
          exact j82 _ _ _ h
        · rw [if_neg c_24] at h
          refine v_goto 82 dX10_look_72 (by decide) ?_
          refine v_sub [(0, .ref (B + w0)), (1, .int w1), (2, .int w2), (3, .int s23.1), (4, .int s23.2.1), (5, .int s23.2.2)] ⟨rfl, rfl, rfl, rfl, rfl, rfl, trivial⟩ ?_
          exact j82 _ _ _ h
  have j88 : ∀ (I : v_I) (y1 : Int32) (y3 : Int32) (y4 : Int32), f_X10_look_J88 S F I y1 y3 y4 = some r → V l B D ac (v_EE B wa wb wt sb sL sx) yX10_look cX10_look 7 (some .int) d 0 0 0 0 S I J F 88 [(1, .int y1), (3, .int y3), (4, .int y4)] [] Q := by
    intro I y1 y3 y4 h
    unfold f_X10_look_J88 at h
    refine v_iload_n dX10_look_88 rfl ?_
    refine v_iconstE (-1 : Int32) dX10_look_89 (by decide) ?_
    refine v_icmp_eq 97 dX10_look_90 (by decide) (fun c_29 => ?_) (fun c_29 => ?_)
    · rw [if_pos c_29] at h
      refine v_iload_n dX10_look_97 rfl ?_
      refine v_goto 103 dX10_look_98 (by decide) ?_
      cases h
      exact v_iret dX10_look_103 rfl (by decide) (by decide) (by rw [← hQ]; exact ⟨rfl, rfl, rfl, rfl, rfl⟩)
    · rw [if_neg c_29] at h
      refine v_iload_n dX10_look_93 rfl ?_
      refine v_if_ne 101 dX10_look_94 (by decide) (fun c_30 => ?_) (fun c_30 => ?_)
      · rw [if_neg c_30] at h
        refine v_iload dX10_look_101 rfl ?_
        cases h
        exact v_iret dX10_look_103 rfl (by decide) (by decide) (by rw [← hQ]; exact ⟨rfl, rfl, rfl, rfl, rfl⟩)
      · rw [if_pos c_30] at h
        refine v_iload_n dX10_look_97 rfl ?_
        refine v_goto 103 dX10_look_98 (by decide) ?_
        cases h
        exact v_iret dX10_look_103 rfl (by decide) (by decide) (by rw [← hQ]; exact ⟨rfl, rfl, rfl, rfl, rfl⟩)
  unfold f_X10_look at h
  refine v_sub [(0, .ref (B + p0)), (1, .int p1)] ⟨rfl, rfl, trivial⟩ ?_
  refine v_iload_n dX10_look_0 rfl ?_
  replace h := p_bind_elim h
  obtain ⟨r_1, q_2, h⟩ := h
  refine v_cSr (t_X10_isBit q_2) cal_X10_isBit ml_X10_125 sta_X10_isBit dX10_look_1 (by omega) (by decide) (by decide) (Nat.le_of_ble_eq_true rfl) rfl ?_
  refine v_if_ne 9 dX10_look_4 (by decide) (fun c_3 => ?_) (fun c_3 => ?_)
  · rw [if_neg c_3] at h
    refine v_aload_n dX10_look_9 rfl ?_
    replace h := p_bind_elim h
    obtain ⟨_, q_6, h⟩ := h
    have q_6 := p_ob_spec q_6
    replace h := p_bind_elim h
    obtain ⟨r_4, q_5, h⟩ := h
    refine v_cVr (t_X10_canBe q_5) cal_X10_canBe ml_X10_437 sel_X10_canBe q_6 kk_10 dX10_look_10 (by omega) (by decide) (by decide) (Nat.le_of_ble_eq_true rfl) rfl ?_
    refine v_istore_n dX10_look_13 (by decide) ?_
    refine v_sub [(0, .ref (B + p0)), (1, .int p1), (2, .int r_4.1)] ⟨rfl, rfl, rfl, trivial⟩ ?_
    refine v_iconstE (-1 : Int32) dX10_look_14 (by decide) ?_
    refine v_istore_n dX10_look_15 (by decide) ?_
    refine v_sub [(0, .ref (B + p0)), (1, .int p1), (2, .int r_4.1), (3, .int (-1 : Int32))] ⟨rfl, rfl, rfl, rfl, trivial⟩ ?_
    refine v_ldc (1000000 : Int32) dX10_look_16 kn_X10_186 ?_
    refine v_istore dX10_look_18 (by decide) ?_
    refine v_sub [(0, .ref (B + p0)), (1, .int p1), (2, .int r_4.1), (3, .int (-1 : Int32)), (4, .int (1000000 : Int32))] ⟨rfl, rfl, rfl, rfl, rfl, trivial⟩ ?_
    refine v_iconstE (0 : Int32) dX10_look_20 (by decide) ?_
    refine v_istore dX10_look_21 (by decide) ?_
    refine v_sub [(0, .ref (B + p0)), (1, .int p1), (2, .int r_4.1), (3, .int (-1 : Int32)), (4, .int (1000000 : Int32)), (5, .int (0 : Int32))] ⟨rfl, rfl, rfl, rfl, rfl, rfl, trivial⟩ ?_
    replace h := p_bind_elim h
    obtain ⟨q_27, h_28, h⟩ := h
    refine v_sub [(0, .ref (B + p0)), (1, .int p1), (2, .int r_4.1), (3, .int (-1 : Int32)), (4, .int (1000000 : Int32)), (5, .int (0 : Int32))] ⟨rfl, rfl, rfl, rfl, rfl, rfl, trivial⟩ ?_
    refine v_loopV (fun (sP : Int32 × Int32 × Int32) => V l B D ac (v_EE B wa wb wt sb sL sx) yX10_look cX10_look 7 (some .int) d 0 0 0 0 S r_4.2 J F 23 [(0, .ref (B + p0)), (1, .int p1), (2, .int r_4.1), (3, .int sP.1), (4, .int sP.2.1), (5, .int sP.2.2)] [] Q) (fun (rE : Int32 × Int32 × Int32) => V l B D ac (v_EE B wa wb wt sb sL sx) yX10_look cX10_look 7 (some .int) d 0 0 0 0 S r_4.2 J F 88 [(1, .int p1), (3, .int rE.1), (4, .int rE.2.1)] [] Q) (fun s_ x_ hb hk => b23 _ _ _ _ s_ x_ hb hk) (r := q_27) ?_ h_28
    try dsimp only
    refine v_sub [(1, .int p1), (3, .int q_27.1), (4, .int q_27.2.1)] ⟨rfl, rfl, rfl, trivial⟩ ?_
    exact j88 _ _ _ _ h
  · rw [if_pos c_3] at h
    refine v_iconstE (-1 : Int32) dX10_look_7 (by decide) ?_
    cases h
    exact v_iret dX10_look_8 rfl (by decide) (by decide) (by rw [← hQ]; exact ⟨rfl, rfl, rfl, rfl, rfl⟩)

def f_X10_goesAlong_J76_134 (S : v_S) (F : v_F) (w0 : Nat) (w2 : Int32) (w3 : Int32) (I : v_I) (J : v_J) (y4 : Int32) (z0 : Int32) (z1 : Nat) : Option ((Int32 × v_I × v_J) ⊕ (Int32 × v_I × v_J)) :=
(p_ob S 10 z1).bind fun _ =>
(p_bl z0).bind fun _ =>
p_let (v_up I z1 42 z0) fun I_34 =>
p_let (y4 + (1 : Int32)) fun x_36 =>
some (.inl (x_36, I_34, J))
def f_X10_goesAlong_J76_133 (S : v_S) (F : v_F) (w0 : Nat) (w2 : Int32) (w3 : Int32) (I : v_I) (J : v_J) (y4 : Int32) (z0 : Nat) : Option ((Int32 × v_I × v_J) ⊕ (Int32 × v_I × v_J)) :=
f_X10_goesAlong_J76_134 S F w0 w2 w3 I J y4 (0 : Int32) z0
def f_X10_goesAlong_J76_97 (S : v_S) (F : v_F) (w0 : Nat) (w2 : Int32) (w3 : Int32) (I : v_I) (J : v_J) (y4 : Int32) : Option ((Int32 × v_I × v_J) ⊕ (Int32 × v_I × v_J)) :=
(p_ob S 10 w0).bind fun _ =>
p_let (v_up I w0 24 (0 : Int32)) fun I_21 =>
(F w0 44).bind fun a_23 =>
(g_X10_sumOf GNN 0 w0 w2 S I_21 F).bind fun r_25 =>
(p_ix S 23 a_23 y4).bind fun j_27 =>
p_let (v_up J a_23 j_27 r_25.1) fun J_29 =>
if (r_25.2 w0 42) = (0 : Int32) then (
f_X10_goesAlong_J76_133 S F w0 w2 w3 r_25.2 J_29 y4 w0)
else (
if (r_25.2 w0 24) = (0 : Int32) then (
f_X10_goesAlong_J76_134 S F w0 w2 w3 r_25.2 J_29 y4 (1 : Int32) w0)
else (
f_X10_goesAlong_J76_133 S F w0 w2 w3 r_25.2 J_29 y4 w0))
def f_X10_goesAlong_B76 (S : v_S) (F : v_F) (w0 : Nat) (w2 : Int32) (w3 : Int32) (s76 : Int32 × v_I × v_J) : Option ((Int32 × v_I × v_J) ⊕ (Int32 × v_I × v_J)) :=
if w3 ≤ s76.1 then (
some (.inr (s76.1, s76.2.1, s76.2.2)))
else (
if s76.1 ≤ (0 : Int32) then (
f_X10_goesAlong_J76_97 S F w0 w2 w3 s76.2.1 s76.2.2 s76.1)
else (
(p_ob S 10 w0).bind fun _ =>
p_let (v_up s76.2.1 w0 22 ((s76.2.1 w0 22) + (1 : Int32))) fun I_40 =>
f_X10_goesAlong_J76_97 S F w0 w2 w3 I_40 s76.2.2 s76.1))
def f_X10_goesAlong_J234 (S : v_S) (F : v_F) (I : v_I) (J : v_J) (y0 : Nat) (z0 : Int32) (z1 : Nat) : Option (v_I × v_J) :=
(p_ob S 10 z1).bind fun _ =>
(p_bl z0).bind fun _ =>
p_let (v_up I z1 43 z0) fun I_64 =>
(p_ob S 10 y0).bind fun _ =>
p_let (v_up I_64 y0 22 ((I_64 y0 22) + (1 : Int32))) fun I_67 =>
some (I_67, J)
def f_X10_goesAlong_J233 (S : v_S) (F : v_F) (I : v_I) (J : v_J) (y0 : Nat) (z0 : Nat) : Option (v_I × v_J) :=
f_X10_goesAlong_J234 S F I J y0 (0 : Int32) z0
def f_X10_goesAlong_J211 (S : v_S) (F : v_F) (I : v_I) (J : v_J) (y0 : Nat) (z0 : Int32) (z1 : Nat) : Option (v_I × v_J) :=
(p_ob S 10 z1).bind fun _ =>
(p_bl z0).bind fun _ =>
p_let (v_up I z1 43 z0) fun I_58 =>
(p_ob S 10 y0).bind fun _ =>
if (I_58 y0 43) = (0 : Int32) then (
f_X10_goesAlong_J233 S F I_58 J y0 y0)
else (
if (I_58 y0 24) = (0 : Int32) then (
f_X10_goesAlong_J234 S F I_58 J y0 (1 : Int32) y0)
else (
f_X10_goesAlong_J233 S F I_58 J y0 y0))
def f_X10_goesAlong_J206 (S : v_S) (F : v_F) (I : v_I) (J : v_J) (y0 : Nat) (z0 : Nat) : Option (v_I × v_J) :=
f_X10_goesAlong_J211 S F I J y0 (1 : Int32) z0
def f_X10_goesAlong_J184 (S : v_S) (F : v_F) (I : v_I) (J : v_J) (y0 : Nat) (y2 : Int32) : Option (v_I × v_J) :=
(p_ob S 10 y0).bind fun _ =>
p_let (v_up I y0 24 (0 : Int32)) fun I_51 =>
(f_X10_passes0 S I_51 F y0 (4 : Int32)).bind fun r_53 =>
if r_53.1 = (0 : Int32) then (
f_X10_goesAlong_J206 S F r_53.2 J y0 y0)
else (
(g_X10_testOf GNN 0 y0 y2 S r_53.2 F).bind fun r_70 =>
if r_70.1 = (0 : Int32) then (
f_X10_goesAlong_J211 S F r_70.2 J y0 (0 : Int32) y0)
else (
f_X10_goesAlong_J206 S F r_70.2 J y0 y0))
def f_X10_goesAlong_J72 (S : v_S) (F : v_F) (I : v_I) (J : v_J) (y0 : Nat) (y2 : Int32) (z0 : Int32) : Option (v_I × v_J) :=
(v_loop (f_X10_goesAlong_B76 S F y0 y2 z0) FU ((0 : Int32), I, J)).bind fun q_42 =>
(p_ob S 10 y0).bind fun _ =>
p_let (v_up q_42.2.1 y0 40 (1 : Int32)) fun I_45 =>
(f_X10_passes0 S I_45 F y0 (25 : Int32)).bind fun r_47 =>
if r_47.1 = (0 : Int32) then (
f_X10_goesAlong_J184 S F r_47.2 q_42.2.2 y0 y2)
else (
(F y0 2).bind fun a_73 =>
(p_ix S 20 a_73 ((2860 : Int32) + (r_47.2 y0 22))).bind fun j_75 =>
p_let (v_up r_47.2 y0 40 (r_47.2 a_73 j_75)) fun I_77 =>
p_let (v_up I_77 y0 22 ((I_77 y0 22) + (1 : Int32))) fun I_79 =>
f_X10_goesAlong_J184 S F I_79 q_42.2.2 y0 y2)
def f_X10_goesAlong (S : v_S) (I : v_I) (J : v_J) (F : v_F) (p0 : Nat) (p1 : Int32) (p2 : Int32) : Option (v_I × v_J) :=
(p_ob S 10 p0).bind fun _ =>
p_let (v_up I p0 25 (1 : Int32)) fun I_2 =>
p_let (v_up I_2 p0 23 p1) fun I_4 =>
p_let (v_up I_4 p0 22 (I_4 p0 39)) fun I_6 =>
(f_X10_codeAt S I_6 F p0 (I_6 p0 22)).bind fun r_8 =>
p_let (v_up I_6 p0 41 r_8) fun I_10 =>
p_let (v_up I_10 p0 22 ((I_10 p0 22) + (1 : Int32))) fun I_12 =>
p_let (v_up I_12 p0 42 (1 : Int32)) fun I_14 =>
if (I_14 p0 41) = (24 : Int32) then (
f_X10_goesAlong_J72 S F I_14 J p0 p2 (0 : Int32))
else (
if (I_14 p0 41) = (22 : Int32) then (
f_X10_goesAlong_J72 S F I_14 J p0 p2 (2 : Int32))
else (
f_X10_goesAlong_J72 S F I_14 J p0 p2 (1 : Int32)))
set_option maxHeartbeats 4000000 in
set_option maxRecDepth 100000 in
theorem t_X10_goesAlong {p0 : Nat} {p1 : Int32} {p2 : Int32} {r : v_I × v_J} (h : f_X10_goesAlong S I J F p0 p1 p2 = some r) : v_R l B D ac (v_EE B wa wb wt sb sL sx) yX10_goesAlong cX10_goesAlong 5 none 206 0 0 [.ref (B + p0), .int p1, .int p2] S I J F (v_D none S r.1 r.2 F) := by
  refine v_R.of (by decide) (Nat.le_of_ble_eq_true rfl) fun d hd => ?_
  generalize hQ : v_D none S r.1 r.2 F = Q
  have b76 : ∀ (w0 : Nat) (w2 : Int32) (w3 : Int32) (s76 : Int32 × v_I × v_J) (rx76 : (Int32 × v_I × v_J) ⊕ (Int32 × v_I × v_J)), f_X10_goesAlong_B76 S F w0 w2 w3 s76 = some rx76 → v_K (fun (sP : Int32 × v_I × v_J) => V l B D ac (v_EE B wa wb wt sb sL sx) yX10_goesAlong cX10_goesAlong 5 none d 0 0 0 0 S sP.2.1 sP.2.2 F 76 [(0, .ref (B + w0)), (2, .int w2), (3, .int w3), (4, .int sP.1)] [] Q) (fun (rE : Int32 × v_I × v_J) => V l B D ac (v_EE B wa wb wt sb sL sx) yX10_goesAlong cX10_goesAlong 5 none d 0 0 0 0 S rE.2.1 rE.2.2 F 143 [(0, .ref (B + w0)), (2, .int w2)] [] Q) rx76 → V l B D ac (v_EE B wa wb wt sb sL sx) yX10_goesAlong cX10_goesAlong 5 none d 0 0 0 0 S s76.2.1 s76.2.2 F 76 [(0, .ref (B + w0)), (2, .int w2), (3, .int w3), (4, .int s76.1)] [] Q := by
    intro w0 w2 w3 s76 rx76 h hk
    have j134 : ∀ (I : v_I) (J : v_J) (y4 : Int32) (z0 : Int32) (z1 : Nat), f_X10_goesAlong_J76_134 S F w0 w2 w3 I J y4 z0 z1 = some rx76 → V l B D ac (v_EE B wa wb wt sb sL sx) yX10_goesAlong cX10_goesAlong 5 none d 0 0 0 0 S I J F 134 [(0, .ref (B + w0)), (2, .int w2), (3, .int w3), (4, .int y4)] [.int z0, .ref (B + z1)] Q := by
      intro I J y4 z0 z1 h
      unfold f_X10_goesAlong_J76_134 at h
      replace h := p_bind_elim h
      obtain ⟨_, q_32, h⟩ := h
      have q_32 := p_ob_spec q_32
      replace h := p_bind_elim h
      obtain ⟨_, q_33, h⟩ := h
      refine v_putI rfl fl_X10_458 dX10_goesAlong_134 q_32 (p_bl_spec q_33).1 (p_bl_spec q_33).2 ?_
      replace h := p_let_elim h
      obtain ⟨I_34, h_35, h⟩ := h
      rw [← h_35]
      replace h := p_let_elim h
      obtain ⟨x_36, h_37, h⟩ := h
      refine v_iincE (1 : Int32) dX10_goesAlong_137 (by decide) rfl (by decide) ?_
      rw [← h_37]
      refine v_sub [(0, .ref (B + w0)), (2, .int w2), (3, .int w3), (4, .int x_36)] ⟨rfl, rfl, rfl, rfl, trivial⟩ ?_
      refine v_goto 76 dX10_goesAlong_140 (by decide) ?_
      cases h
      refine v_sub [(0, .ref (B + w0)), (2, .int w2), (3, .int w3), (4, .int x_36)] ⟨rfl, rfl, rfl, rfl, trivial⟩ ?_
      exact hk
    have j133 : ∀ (I : v_I) (J : v_J) (y4 : Int32) (z0 : Nat), f_X10_goesAlong_J76_133 S F w0 w2 w3 I J y4 z0 = some rx76 → V l B D ac (v_EE B wa wb wt sb sL sx) yX10_goesAlong cX10_goesAlong 5 none d 0 0 0 0 S I J F 133 [(0, .ref (B + w0)), (2, .int w2), (3, .int w3), (4, .int y4)] [.ref (B + z0)] Q := by
      intro I J y4 z0 h
      unfold f_X10_goesAlong_J76_133 at h
      refine v_iconstE (0 : Int32) dX10_goesAlong_133 (by decide) ?_
      refine v_sub [(0, .ref (B + w0)), (2, .int w2), (3, .int w3), (4, .int y4)] ⟨rfl, rfl, rfl, rfl, trivial⟩ ?_
      exact j134 _ _ _ _ _ h
    have j97 : ∀ (I : v_I) (J : v_J) (y4 : Int32), f_X10_goesAlong_J76_97 S F w0 w2 w3 I J y4 = some rx76 → V l B D ac (v_EE B wa wb wt sb sL sx) yX10_goesAlong cX10_goesAlong 5 none d 0 0 0 0 S I J F 97 [(0, .ref (B + w0)), (2, .int w2), (3, .int w3), (4, .int y4)] [] Q := by
      intro I J y4 h
      unfold f_X10_goesAlong_J76_97 at h
      refine v_aload_n dX10_goesAlong_97 rfl ?_
      refine v_iconstE (0 : Int32) dX10_goesAlong_98 (by decide) ?_
      replace h := p_bind_elim h
      obtain ⟨_, q_20, h⟩ := h
      have q_20 := p_ob_spec q_20
      refine v_putI rfl fl_X10_287 dX10_goesAlong_99 q_20 rfl rfl ?_
      replace h := p_let_elim h
      obtain ⟨I_21, h_22, h⟩ := h
      rw [← h_22]
      refine v_aload_n dX10_goesAlong_102 rfl ?_
      replace h := p_bind_elim h
      obtain ⟨a_23, q_24, h⟩ := h
      refine v_getR q_24 rfl fl_X10_94 dX10_goesAlong_103 q_20 ?_
      refine v_iload dX10_goesAlong_106 rfl ?_
      refine v_aload_n dX10_goesAlong_108 rfl ?_
      refine v_iload_n dX10_goesAlong_109 rfl ?_
      replace h := p_bind_elim h
      obtain ⟨r_25, q_26, h⟩ := h
      refine v_cVr (tg_X10_sumOf q_26) cal_X10_sumOf ml_X10_304 sel_X10_sumOf q_20 kk_10 dX10_goesAlong_110 (by omega) (by decide) (by decide) (Nat.le_of_ble_eq_true rfl) rfl ?_
      replace h := p_bind_elim h
      obtain ⟨j_27, q_28, h⟩ := h
      refine v_lastP dX10_goesAlong_113 q_28 ?_
      replace h := p_let_elim h
      obtain ⟨J_29, h_30, h⟩ := h
      rw [← h_30]
      refine v_aload_n dX10_goesAlong_114 rfl ?_
      refine v_aload_n dX10_goesAlong_115 rfl ?_
      refine v_getI rfl fl_X10_458 dX10_goesAlong_116 q_20 ?_
      refine v_if_eq 133 dX10_goesAlong_119 (by decide) (fun c_31 => ?_) (fun c_31 => ?_)
      · rw [if_pos c_31] at h
        refine v_sub [(0, .ref (B + w0)), (2, .int w2), (3, .int w3), (4, .int y4)] ⟨rfl, rfl, rfl, rfl, trivial⟩ ?_
        exact j133 _ _ _ _ h
      · rw [if_neg c_31] at h
        refine v_aload_n dX10_goesAlong_122 rfl ?_
        refine v_getI rfl fl_X10_287 dX10_goesAlong_123 q_20 ?_
        refine v_if_ne 133 dX10_goesAlong_126 (by decide) (fun c_38 => ?_) (fun c_38 => ?_)
        · rw [if_neg c_38] at h
          refine v_sub [(0, .ref (B + w0)), (2, .int w2), (3, .int w3), (4, .int y4)] ⟨rfl, rfl, rfl, rfl, trivial⟩ ?_
          exact j133 _ _ _ _ h
        · rw [if_pos c_38] at h
          refine v_iconstE (1 : Int32) dX10_goesAlong_129 (by decide) ?_
          refine v_goto 134 dX10_goesAlong_130 (by decide) ?_
          refine v_sub [(0, .ref (B + w0)), (2, .int w2), (3, .int w3), (4, .int y4)] ⟨rfl, rfl, rfl, rfl, trivial⟩ ?_
          exact j134 _ _ _ _ _ h
    unfold f_X10_goesAlong_B76 at h
    refine v_iload dX10_goesAlong_76 rfl ?_
    refine v_iload_n dX10_goesAlong_78 rfl ?_
    refine v_icmp_ge 143 dX10_goesAlong_79 (by decide) (fun c_18 => ?_) (fun c_18 => ?_)
    · rw [if_pos c_18] at h
      cases h
      refine v_sub [(0, .ref (B + w0)), (2, .int w2)] ⟨rfl, rfl, trivial⟩ ?_
      exact hk
    · rw [if_neg c_18] at h
      refine v_iload dX10_goesAlong_82 rfl ?_
      refine v_if_le 97 dX10_goesAlong_84 (by decide) (fun c_19 => ?_) (fun c_19 => ?_)
      · rw [if_pos c_19] at h
        refine v_sub [(0, .ref (B + w0)), (2, .int w2), (3, .int w3), (4, .int s76.1)] ⟨rfl, rfl, rfl, rfl, trivial⟩ ?_
        exact j97 _ _ _ h
      · rw [if_neg c_19] at h
        refine v_aload_n dX10_goesAlong_87 rfl ?_
        refine v_dup dX10_goesAlong_88 rfl ?_
        replace h := p_bind_elim h
        obtain ⟨_, q_39, h⟩ := h
        have q_39 := p_ob_spec q_39
        refine v_getI rfl fl_X10_277 dX10_goesAlong_89 q_39 ?_
        refine v_iconstE (1 : Int32) dX10_goesAlong_92 (by decide) ?_
        refine v_iadd dX10_goesAlong_93 ?_
        refine v_putI rfl fl_X10_277 dX10_goesAlong_94 q_39 rfl rfl ?_
        replace h := p_let_elim h
        obtain ⟨I_40, h_41, h⟩ := h
        rw [← h_41]
        refine v_sub [(0, .ref (B + w0)), (2, .int w2), (3, .int w3), (4, .int s76.1)] ⟨rfl, rfl, rfl, rfl, trivial⟩ ?_
        exact j97 _ _ _ h
  have j234 : ∀ (I : v_I) (J : v_J) (y0 : Nat) (z0 : Int32) (z1 : Nat), f_X10_goesAlong_J234 S F I J y0 z0 z1 = some r → V l B D ac (v_EE B wa wb wt sb sL sx) yX10_goesAlong cX10_goesAlong 5 none d 0 0 0 0 S I J F 234 [(0, .ref (B + y0))] [.int z0, .ref (B + z1)] Q := by
    intro I J y0 z0 z1 h
    unfold f_X10_goesAlong_J234 at h
    replace h := p_bind_elim h
    obtain ⟨_, q_62, h⟩ := h
    have q_62 := p_ob_spec q_62
    replace h := p_bind_elim h
    obtain ⟨_, q_63, h⟩ := h
    refine v_putI rfl fl_X10_464 dX10_goesAlong_234 q_62 (p_bl_spec q_63).1 (p_bl_spec q_63).2 ?_
    replace h := p_let_elim h
    obtain ⟨I_64, h_65, h⟩ := h
    rw [← h_65]
    refine v_aload_n dX10_goesAlong_237 rfl ?_
    refine v_dup dX10_goesAlong_238 rfl ?_
    replace h := p_bind_elim h
    obtain ⟨_, q_66, h⟩ := h
    have q_66 := p_ob_spec q_66
    refine v_getI rfl fl_X10_277 dX10_goesAlong_239 q_66 ?_
    refine v_iconstE (1 : Int32) dX10_goesAlong_242 (by decide) ?_
    refine v_iadd dX10_goesAlong_243 ?_
    refine v_putI rfl fl_X10_277 dX10_goesAlong_244 q_66 rfl rfl ?_
    replace h := p_let_elim h
    obtain ⟨I_67, h_68, h⟩ := h
    rw [← h_68]
    cases h
    exact v_vret dX10_goesAlong_247 rfl (by decide) (by decide) (by rw [← hQ]; exact ⟨rfl, rfl, rfl, rfl, rfl⟩)
  have j233 : ∀ (I : v_I) (J : v_J) (y0 : Nat) (z0 : Nat), f_X10_goesAlong_J233 S F I J y0 z0 = some r → V l B D ac (v_EE B wa wb wt sb sL sx) yX10_goesAlong cX10_goesAlong 5 none d 0 0 0 0 S I J F 233 [(0, .ref (B + y0))] [.ref (B + z0)] Q := by
    intro I J y0 z0 h
    unfold f_X10_goesAlong_J233 at h
    refine v_iconstE (0 : Int32) dX10_goesAlong_233 (by decide) ?_
    refine v_sub [(0, .ref (B + y0))] ⟨rfl, trivial⟩ ?_
    exact j234 _ _ _ _ _ h
  have j211 : ∀ (I : v_I) (J : v_J) (y0 : Nat) (z0 : Int32) (z1 : Nat), f_X10_goesAlong_J211 S F I J y0 z0 z1 = some r → V l B D ac (v_EE B wa wb wt sb sL sx) yX10_goesAlong cX10_goesAlong 5 none d 0 0 0 0 S I J F 211 [(0, .ref (B + y0))] [.int z0, .ref (B + z1)] Q := by
    intro I J y0 z0 z1 h
    unfold f_X10_goesAlong_J211 at h
    replace h := p_bind_elim h
    obtain ⟨_, q_56, h⟩ := h
    have q_56 := p_ob_spec q_56
    replace h := p_bind_elim h
    obtain ⟨_, q_57, h⟩ := h
    refine v_putI rfl fl_X10_464 dX10_goesAlong_211 q_56 (p_bl_spec q_57).1 (p_bl_spec q_57).2 ?_
    replace h := p_let_elim h
    obtain ⟨I_58, h_59, h⟩ := h
    rw [← h_59]
    refine v_aload_n dX10_goesAlong_214 rfl ?_
    refine v_aload_n dX10_goesAlong_215 rfl ?_
    replace h := p_bind_elim h
    obtain ⟨_, q_60, h⟩ := h
    have q_60 := p_ob_spec q_60
    refine v_getI rfl fl_X10_464 dX10_goesAlong_216 q_60 ?_
    refine v_if_eq 233 dX10_goesAlong_219 (by decide) (fun c_61 => ?_) (fun c_61 => ?_)
    · rw [if_pos c_61] at h
      refine v_sub [(0, .ref (B + y0))] ⟨rfl, trivial⟩ ?_
      exact j233 _ _ _ _ h
    · rw [if_neg c_61] at h
      refine v_aload_n dX10_goesAlong_222 rfl ?_
      refine v_getI rfl fl_X10_287 dX10_goesAlong_223 q_60 ?_
      refine v_if_ne 233 dX10_goesAlong_226 (by decide) (fun c_69 => ?_) (fun c_69 => ?_)
      · rw [if_neg c_69] at h
        refine v_sub [(0, .ref (B + y0))] ⟨rfl, trivial⟩ ?_
        exact j233 _ _ _ _ h
      · rw [if_pos c_69] at h
        refine v_iconstE (1 : Int32) dX10_goesAlong_229 (by decide) ?_
        refine v_goto 234 dX10_goesAlong_230 (by decide) ?_
        refine v_sub [(0, .ref (B + y0))] ⟨rfl, trivial⟩ ?_
        exact j234 _ _ _ _ _ h
  have j206 : ∀ (I : v_I) (J : v_J) (y0 : Nat) (z0 : Nat), f_X10_goesAlong_J206 S F I J y0 z0 = some r → V l B D ac (v_EE B wa wb wt sb sL sx) yX10_goesAlong cX10_goesAlong 5 none d 0 0 0 0 S I J F 206 [(0, .ref (B + y0))] [.ref (B + z0)] Q := by
    intro I J y0 z0 h
    unfold f_X10_goesAlong_J206 at h
    refine v_iconstE (1 : Int32) dX10_goesAlong_206 (by decide) ?_
    refine v_goto 211 dX10_goesAlong_207 (by decide) ?_
    refine v_sub [(0, .ref (B + y0))] ⟨rfl, trivial⟩ ?_
    exact j211 _ _ _ _ _ h
  have j184 : ∀ (I : v_I) (J : v_J) (y0 : Nat) (y2 : Int32), f_X10_goesAlong_J184 S F I J y0 y2 = some r → V l B D ac (v_EE B wa wb wt sb sL sx) yX10_goesAlong cX10_goesAlong 5 none d 0 0 0 0 S I J F 184 [(0, .ref (B + y0)), (2, .int y2)] [] Q := by
    intro I J y0 y2 h
    unfold f_X10_goesAlong_J184 at h
    refine v_aload_n dX10_goesAlong_184 rfl ?_
    refine v_iconstE (0 : Int32) dX10_goesAlong_185 (by decide) ?_
    replace h := p_bind_elim h
    obtain ⟨_, q_50, h⟩ := h
    have q_50 := p_ob_spec q_50
    refine v_putI rfl fl_X10_287 dX10_goesAlong_186 q_50 rfl rfl ?_
    replace h := p_let_elim h
    obtain ⟨I_51, h_52, h⟩ := h
    rw [← h_52]
    refine v_aload_n dX10_goesAlong_189 rfl ?_
    refine v_aload_n dX10_goesAlong_190 rfl ?_
    refine v_iconstE (4 : Int32) dX10_goesAlong_191 (by decide) ?_
    replace h := p_bind_elim h
    obtain ⟨r_53, q_54, h⟩ := h
    refine v_cVr (t_X10_passes0 q_54) cal_X10_passes0 ml_X10_301 sel_X10_passes0 q_50 kk_10 dX10_goesAlong_192 (by omega) (by decide) (by decide) (Nat.le_of_ble_eq_true rfl) rfl ?_
    refine v_if_eq 206 dX10_goesAlong_195 (by decide) (fun c_55 => ?_) (fun c_55 => ?_)
    · rw [if_pos c_55] at h
      refine v_sub [(0, .ref (B + y0))] ⟨rfl, trivial⟩ ?_
      exact j206 _ _ _ _ h
    · rw [if_neg c_55] at h
      refine v_aload_n dX10_goesAlong_198 rfl ?_
      refine v_iload_n dX10_goesAlong_199 rfl ?_
      replace h := p_bind_elim h
      obtain ⟨r_70, q_71, h⟩ := h
      refine v_cVr (tg_X10_testOf q_71) cal_X10_testOf ml_X10_331 sel_X10_testOf q_50 kk_10 dX10_goesAlong_200 (by omega) (by decide) (by decide) (Nat.le_of_ble_eq_true rfl) rfl ?_
      refine v_if_eq 210 dX10_goesAlong_203 (by decide) (fun c_72 => ?_) (fun c_72 => ?_)
      · rw [if_pos c_72] at h
        refine v_iconstE (0 : Int32) dX10_goesAlong_210 (by decide) ?_
        refine v_sub [(0, .ref (B + y0))] ⟨rfl, trivial⟩ ?_
        exact j211 _ _ _ _ _ h
      · rw [if_neg c_72] at h
        refine v_sub [(0, .ref (B + y0))] ⟨rfl, trivial⟩ ?_
        exact j206 _ _ _ _ h
  have j72 : ∀ (I : v_I) (J : v_J) (y0 : Nat) (y2 : Int32) (z0 : Int32), f_X10_goesAlong_J72 S F I J y0 y2 z0 = some r → V l B D ac (v_EE B wa wb wt sb sL sx) yX10_goesAlong cX10_goesAlong 5 none d 0 0 0 0 S I J F 72 [(0, .ref (B + y0)), (2, .int y2)] [.int z0] Q := by
    intro I J y0 y2 z0 h
    unfold f_X10_goesAlong_J72 at h
    refine v_istore_n dX10_goesAlong_72 (by decide) ?_
    refine v_sub [(0, .ref (B + y0)), (2, .int y2), (3, .int z0)] ⟨rfl, rfl, rfl, trivial⟩ ?_
    refine v_iconstE (0 : Int32) dX10_goesAlong_73 (by decide) ?_
    refine v_istore dX10_goesAlong_74 (by decide) ?_
    refine v_sub [(0, .ref (B + y0)), (2, .int y2), (3, .int z0), (4, .int (0 : Int32))] ⟨rfl, rfl, rfl, rfl, trivial⟩ ?_
    replace h := p_bind_elim h
    obtain ⟨q_42, h_43, h⟩ := h
    refine v_sub [(0, .ref (B + y0)), (2, .int y2), (3, .int z0), (4, .int (0 : Int32))] ⟨rfl, rfl, rfl, rfl, trivial⟩ ?_
    refine v_loopV (fun (sP : Int32 × v_I × v_J) => V l B D ac (v_EE B wa wb wt sb sL sx) yX10_goesAlong cX10_goesAlong 5 none d 0 0 0 0 S sP.2.1 sP.2.2 F 76 [(0, .ref (B + y0)), (2, .int y2), (3, .int z0), (4, .int sP.1)] [] Q) (fun (rE : Int32 × v_I × v_J) => V l B D ac (v_EE B wa wb wt sb sL sx) yX10_goesAlong cX10_goesAlong 5 none d 0 0 0 0 S rE.2.1 rE.2.2 F 143 [(0, .ref (B + y0)), (2, .int y2)] [] Q) (fun s_ x_ hb hk => b76 _ _ _ s_ x_ hb hk) (r := q_42) ?_ h_43
    try dsimp only
    refine v_aload_n dX10_goesAlong_143 rfl ?_
    refine v_iconstE (1 : Int32) dX10_goesAlong_144 (by decide) ?_
    replace h := p_bind_elim h
    obtain ⟨_, q_44, h⟩ := h
    have q_44 := p_ob_spec q_44
    refine v_putI rfl fl_X10_461 dX10_goesAlong_145 q_44 rfl rfl ?_
    replace h := p_let_elim h
    obtain ⟨I_45, h_46, h⟩ := h
    rw [← h_46]
    refine v_aload_n dX10_goesAlong_148 rfl ?_
    refine v_bipush (25 : Int32) dX10_goesAlong_149 (by decide) ?_
    replace h := p_bind_elim h
    obtain ⟨r_47, q_48, h⟩ := h
    refine v_cVr (t_X10_passes0 q_48) cal_X10_passes0 ml_X10_301 sel_X10_passes0 q_44 kk_10 dX10_goesAlong_151 (by omega) (by decide) (by decide) (Nat.le_of_ble_eq_true rfl) rfl ?_
    refine v_if_eq 184 dX10_goesAlong_154 (by decide) (fun c_49 => ?_) (fun c_49 => ?_)
    · rw [if_pos c_49] at h
      refine v_sub [(0, .ref (B + y0)), (2, .int y2)] ⟨rfl, rfl, trivial⟩ ?_
      exact j184 _ _ _ _ h
    · rw [if_neg c_49] at h
      refine v_aload_n dX10_goesAlong_157 rfl ?_
      refine v_aload_n dX10_goesAlong_158 rfl ?_
      replace h := p_bind_elim h
      obtain ⟨a_73, q_74, h⟩ := h
      refine v_getR q_74 rfl fl_X10_28 dX10_goesAlong_159 q_44 ?_
      refine v_sipush (2860 : Int32) dX10_goesAlong_162 (by decide) ?_
      refine v_aload_n dX10_goesAlong_165 rfl ?_
      refine v_getI rfl fl_X10_277 dX10_goesAlong_166 q_44 ?_
      refine v_iadd dX10_goesAlong_169 ?_
      replace h := p_bind_elim h
      obtain ⟨j_75, q_76, h⟩ := h
      refine v_ialdP dX10_goesAlong_170 q_76 ?_
      refine v_putI rfl fl_X10_461 dX10_goesAlong_171 q_44 rfl rfl ?_
      replace h := p_let_elim h
      obtain ⟨I_77, h_78, h⟩ := h
      rw [← h_78]
      refine v_aload_n dX10_goesAlong_174 rfl ?_
      refine v_dup dX10_goesAlong_175 rfl ?_
      refine v_getI rfl fl_X10_277 dX10_goesAlong_176 q_44 ?_
      refine v_iconstE (1 : Int32) dX10_goesAlong_179 (by decide) ?_
      refine v_iadd dX10_goesAlong_180 ?_
      refine v_putI rfl fl_X10_277 dX10_goesAlong_181 q_44 rfl rfl ?_
      replace h := p_let_elim h
      obtain ⟨I_79, h_80, h⟩ := h
      rw [← h_80]
      refine v_sub [(0, .ref (B + y0)), (2, .int y2)] ⟨rfl, rfl, trivial⟩ ?_
      exact j184 _ _ _ _ h
  unfold f_X10_goesAlong at h
  refine v_sub [(0, .ref (B + p0)), (1, .int p1), (2, .int p2)] ⟨rfl, rfl, rfl, trivial⟩ ?_
  refine v_aload_n dX10_goesAlong_0 rfl ?_
  refine v_iconstE (1 : Int32) dX10_goesAlong_1 (by decide) ?_
  replace h := p_bind_elim h
  obtain ⟨_, q_1, h⟩ := h
  have q_1 := p_ob_spec q_1
  refine v_putI rfl fl_X10_307 dX10_goesAlong_2 q_1 rfl rfl ?_
  replace h := p_let_elim h
  obtain ⟨I_2, h_3, h⟩ := h
  rw [← h_3]
  refine v_aload_n dX10_goesAlong_5 rfl ?_
  refine v_iload_n dX10_goesAlong_6 rfl ?_
  refine v_putI rfl fl_X10_274 dX10_goesAlong_7 q_1 rfl rfl ?_
  replace h := p_let_elim h
  obtain ⟨I_4, h_5, h⟩ := h
  rw [← h_5]
  refine v_aload_n dX10_goesAlong_10 rfl ?_
  refine v_aload_n dX10_goesAlong_11 rfl ?_
  refine v_getI rfl fl_X10_449 dX10_goesAlong_12 q_1 ?_
  refine v_putI rfl fl_X10_277 dX10_goesAlong_15 q_1 rfl rfl ?_
  replace h := p_let_elim h
  obtain ⟨I_6, h_7, h⟩ := h
  rw [← h_7]
  refine v_aload_n dX10_goesAlong_18 rfl ?_
  refine v_aload_n dX10_goesAlong_19 rfl ?_
  refine v_aload_n dX10_goesAlong_20 rfl ?_
  refine v_getI rfl fl_X10_277 dX10_goesAlong_21 q_1 ?_
  replace h := p_bind_elim h
  obtain ⟨r_8, q_9, h⟩ := h
  refine v_cVr (t_X10_codeAt q_9) cal_X10_codeAt ml_X10_280 sel_X10_codeAt q_1 kk_10 dX10_goesAlong_24 (by omega) (by decide) (by decide) (Nat.le_of_ble_eq_true rfl) rfl ?_
  refine v_putI rfl fl_X10_455 dX10_goesAlong_27 q_1 rfl rfl ?_
  replace h := p_let_elim h
  obtain ⟨I_10, h_11, h⟩ := h
  rw [← h_11]
  refine v_aload_n dX10_goesAlong_30 rfl ?_
  refine v_dup dX10_goesAlong_31 rfl ?_
  refine v_getI rfl fl_X10_277 dX10_goesAlong_32 q_1 ?_
  refine v_iconstE (1 : Int32) dX10_goesAlong_35 (by decide) ?_
  refine v_iadd dX10_goesAlong_36 ?_
  refine v_putI rfl fl_X10_277 dX10_goesAlong_37 q_1 rfl rfl ?_
  replace h := p_let_elim h
  obtain ⟨I_12, h_13, h⟩ := h
  rw [← h_13]
  refine v_aload_n dX10_goesAlong_40 rfl ?_
  refine v_iconstE (1 : Int32) dX10_goesAlong_41 (by decide) ?_
  refine v_putI rfl fl_X10_458 dX10_goesAlong_42 q_1 rfl rfl ?_
  replace h := p_let_elim h
  obtain ⟨I_14, h_15, h⟩ := h
  rw [← h_15]
  refine v_aload_n dX10_goesAlong_45 rfl ?_
  refine v_getI rfl fl_X10_455 dX10_goesAlong_46 q_1 ?_
  refine v_bipush (24 : Int32) dX10_goesAlong_49 (by decide) ?_
  refine v_icmp_ne 58 dX10_goesAlong_51 (by decide) (fun c_16 => ?_) (fun c_16 => ?_)
  · rw [if_neg c_16] at h
    refine v_aload_n dX10_goesAlong_58 rfl ?_
    refine v_getI rfl fl_X10_455 dX10_goesAlong_59 q_1 ?_
    refine v_bipush (22 : Int32) dX10_goesAlong_62 (by decide) ?_
    refine v_icmp_ne 71 dX10_goesAlong_64 (by decide) (fun c_17 => ?_) (fun c_17 => ?_)
    · rw [if_neg c_17] at h
      refine v_iconstE (1 : Int32) dX10_goesAlong_71 (by decide) ?_
      refine v_sub [(0, .ref (B + p0)), (2, .int p2)] ⟨rfl, rfl, trivial⟩ ?_
      exact j72 _ _ _ _ _ h
    · rw [if_pos c_17] at h
      refine v_iconstE (2 : Int32) dX10_goesAlong_67 (by decide) ?_
      refine v_goto 72 dX10_goesAlong_68 (by decide) ?_
      refine v_sub [(0, .ref (B + p0)), (2, .int p2)] ⟨rfl, rfl, trivial⟩ ?_
      exact j72 _ _ _ _ _ h
  · rw [if_pos c_16] at h
    refine v_iconstE (0 : Int32) dX10_goesAlong_54 (by decide) ?_
    refine v_goto 72 dX10_goesAlong_55 (by decide) ?_
    refine v_sub [(0, .ref (B + p0)), (2, .int p2)] ⟨rfl, rfl, trivial⟩ ?_
    exact j72 _ _ _ _ _ h

def f_X10_obeys_J88 (S : v_S) (J : v_J) (F : v_F) (I : v_I) (y0 : Nat) (y1 : Int32) : Option (Int32 × v_I) :=
(p_ob S 10 y0).bind fun _ =>
(f_X10_touchesKept S I F y0 y1).bind fun r_18 =>
some (r_18.1, r_18.2)
def f_X10_obeys_J83 (S : v_S) (J : v_J) (F : v_F) (I : v_I) (y2 : Int32) (z0 : Int32) (z1 : Nat) : Option (Int32 × v_I) :=
(p_ob S 10 z1).bind fun _ =>
p_let (v_up I z1 28 z0) fun I_25 =>
some (y2, I_25)
def f_X10_obeys (S : v_S) (I : v_I) (J : v_J) (F : v_F) (p0 : Nat) : Option (Int32 × v_I) :=
(p_ob S 10 p0).bind fun _ =>
(F p0 44).bind fun a_2 =>
(p_ix S 23 a_2 (0 : Int32)).bind fun j_4 =>
(f_X10_small (J a_2 j_4)).bind fun r_6 =>
if (I p0 41) = (21 : Int32) then (
(f_X10_coaxesKept S I F p0 r_6).bind fun r_8 =>
some (r_8.1, r_8.2))
else if (I p0 41) = (22 : Int32) then (
(F p0 44).bind fun a_10 =>
(p_ix S 23 a_10 (1 : Int32)).bind fun j_12 =>
(f_X10_small (J a_10 j_12)).bind fun r_14 =>
(f_X10_temptsKept S I F p0 r_6 r_14).bind fun r_16 =>
some (r_16.1, r_16.2))
else if (I p0 41) = (23 : Int32) then (
f_X10_obeys_J88 S J F I p0 r_6)
else if (I p0 41) = (24 : Int32) then (
(f_X10_passesKept S I F p0).bind fun r_21 =>
if (0 : Int32) ≤ r_21.1 then (
f_X10_obeys_J83 S J F r_21.2 r_21.1 r_21.1 p0)
else (
f_X10_obeys_J83 S J F r_21.2 r_21.1 (r_21.2 p0 28) p0))
else (
f_X10_obeys_J88 S J F I p0 r_6)
set_option maxHeartbeats 4000000 in
set_option maxRecDepth 100000 in
theorem t_X10_obeys {p0 : Nat} {r : Int32 × v_I} (h : f_X10_obeys S I J F p0 = some r) : v_R l B D ac (v_EE B wa wb wt sb sL sx) yX10_obeys cX10_obeys 3 (some .int) 211 0 0 [.ref (B + p0)] S I J F (v_D (some (.int r.1)) S r.2 J F) := by
  refine v_R.of (by decide) (Nat.le_of_ble_eq_true rfl) fun d hd => ?_
  generalize hQ : v_D (some (.int r.1)) S r.2 J F = Q
  have j88 : ∀ (I : v_I) (y0 : Nat) (y1 : Int32), f_X10_obeys_J88 S J F I y0 y1 = some r → V l B D ac (v_EE B wa wb wt sb sL sx) yX10_obeys cX10_obeys 3 (some .int) d 0 0 0 0 S I J F 88 [(0, .ref (B + y0)), (1, .int y1)] [] Q := by
    intro I y0 y1 h
    unfold f_X10_obeys_J88 at h
    refine v_aload_n dX10_obeys_88 rfl ?_
    refine v_iload_n dX10_obeys_89 rfl ?_
    replace h := p_bind_elim h
    obtain ⟨_, q_20, h⟩ := h
    have q_20 := p_ob_spec q_20
    replace h := p_bind_elim h
    obtain ⟨r_18, q_19, h⟩ := h
    refine v_cVr (t_X10_touchesKept q_19) cal_X10_touchesKept ml_X10_357 sel_X10_touchesKept q_20 kk_10 dX10_obeys_90 (by omega) (by decide) (by decide) (Nat.le_of_ble_eq_true rfl) rfl ?_
    cases h
    exact v_iret dX10_obeys_93 rfl (by decide) (by decide) (by rw [← hQ]; exact ⟨rfl, rfl, rfl, rfl, rfl⟩)
  have j83 : ∀ (I : v_I) (y2 : Int32) (z0 : Int32) (z1 : Nat), f_X10_obeys_J83 S J F I y2 z0 z1 = some r → V l B D ac (v_EE B wa wb wt sb sL sx) yX10_obeys cX10_obeys 3 (some .int) d 0 0 0 0 S I J F 83 [(2, .int y2)] [.int z0, .ref (B + z1)] Q := by
    intro I y2 z0 z1 h
    unfold f_X10_obeys_J83 at h
    replace h := p_bind_elim h
    obtain ⟨_, q_24, h⟩ := h
    have q_24 := p_ob_spec q_24
    refine v_putI rfl fl_X10_319 dX10_obeys_83 q_24 rfl rfl ?_
    replace h := p_let_elim h
    obtain ⟨I_25, h_26, h⟩ := h
    rw [← h_26]
    refine v_iload_n dX10_obeys_86 rfl ?_
    cases h
    exact v_iret dX10_obeys_87 rfl (by decide) (by decide) (by rw [← hQ]; exact ⟨rfl, rfl, rfl, rfl, rfl⟩)
  unfold f_X10_obeys at h
  refine v_sub [(0, .ref (B + p0))] ⟨rfl, trivial⟩ ?_
  refine v_aload_n dX10_obeys_0 rfl ?_
  replace h := p_bind_elim h
  obtain ⟨_, q_1, h⟩ := h
  have q_1 := p_ob_spec q_1
  replace h := p_bind_elim h
  obtain ⟨a_2, q_3, h⟩ := h
  refine v_getR q_3 rfl fl_X10_94 dX10_obeys_1 q_1 ?_
  refine v_iconstE (0 : Int32) dX10_obeys_4 (by decide) ?_
  replace h := p_bind_elim h
  obtain ⟨j_4, q_5, h⟩ := h
  refine v_laldP dX10_obeys_5 q_5 ?_
  replace h := p_bind_elim h
  obtain ⟨r_6, q_7, h⟩ := h
  refine v_cSr (t_X10_small q_7) cal_X10_small ml_X10_469 sta_X10_small dX10_obeys_6 (by omega) (by decide) (by decide) (Nat.le_of_ble_eq_true rfl) rfl ?_
  refine v_istore_n dX10_obeys_9 (by decide) ?_
  refine v_sub [(0, .ref (B + p0)), (1, .int r_6)] ⟨rfl, rfl, trivial⟩ ?_
  refine v_aload_n dX10_obeys_10 rfl ?_
  refine v_getI rfl fl_X10_455 dX10_obeys_11 q_1 ?_
  by_cases c_27 : (I p0 41) = (21 : Int32)
  · rw [if_pos c_27] at h
    refine v_swIn 44 (21 : Int32) c_27 dX10_obeys_14 (by decide) (by decide) rfl (by decide) ?_
    refine v_aload_n dX10_obeys_44 rfl ?_
    refine v_iload_n dX10_obeys_45 rfl ?_
    replace h := p_bind_elim h
    obtain ⟨r_8, q_9, h⟩ := h
    refine v_cVr (t_X10_coaxesKept q_9) cal_X10_coaxesKept ml_X10_363 sel_X10_coaxesKept q_1 kk_10 dX10_obeys_46 (by omega) (by decide) (by decide) (Nat.le_of_ble_eq_true rfl) rfl ?_
    cases h
    exact v_iret dX10_obeys_49 rfl (by decide) (by decide) (by rw [← hQ]; exact ⟨rfl, rfl, rfl, rfl, rfl⟩)
  · rw [if_neg c_27] at h
    by_cases c_28 : (I p0 41) = (22 : Int32)
    · rw [if_pos c_28] at h
      refine v_swIn 50 (22 : Int32) c_28 dX10_obeys_14 (by decide) (by decide) rfl (by decide) ?_
      refine v_aload_n dX10_obeys_50 rfl ?_
      refine v_iload_n dX10_obeys_51 rfl ?_
      refine v_aload_n dX10_obeys_52 rfl ?_
      replace h := p_bind_elim h
      obtain ⟨a_10, q_11, h⟩ := h
      refine v_getR q_11 rfl fl_X10_94 dX10_obeys_53 q_1 ?_
      refine v_iconstE (1 : Int32) dX10_obeys_56 (by decide) ?_
      replace h := p_bind_elim h
      obtain ⟨j_12, q_13, h⟩ := h
      refine v_laldP dX10_obeys_57 q_13 ?_
      replace h := p_bind_elim h
      obtain ⟨r_14, q_15, h⟩ := h
      refine v_cSr (t_X10_small q_15) cal_X10_small ml_X10_469 sta_X10_small dX10_obeys_58 (by omega) (by decide) (by decide) (Nat.le_of_ble_eq_true rfl) rfl ?_
      replace h := p_bind_elim h
      obtain ⟨r_16, q_17, h⟩ := h
      refine v_cVr (t_X10_temptsKept q_17) cal_X10_temptsKept ml_X10_366 sel_X10_temptsKept q_1 kk_10 dX10_obeys_61 (by omega) (by decide) (by decide) (Nat.le_of_ble_eq_true rfl) rfl ?_
      cases h
      exact v_iret dX10_obeys_64 rfl (by decide) (by decide) (by rw [← hQ]; exact ⟨rfl, rfl, rfl, rfl, rfl⟩)
    · rw [if_neg c_28] at h
      by_cases c_29 : (I p0 41) = (23 : Int32)
      · rw [if_pos c_29] at h
        refine v_swIn 88 (23 : Int32) c_29 dX10_obeys_14 (by decide) (by decide) rfl (by decide) ?_
        refine v_sub [(0, .ref (B + p0)), (1, .int r_6)] ⟨rfl, rfl, trivial⟩ ?_
        exact j88 _ _ _ h
      · rw [if_neg c_29] at h
        by_cases c_30 : (I p0 41) = (24 : Int32)
        · rw [if_pos c_30] at h
          refine v_swIn 65 (24 : Int32) c_30 dX10_obeys_14 (by decide) (by decide) rfl (by decide) ?_
          refine v_aload_n dX10_obeys_65 rfl ?_
          replace h := p_bind_elim h
          obtain ⟨r_21, q_22, h⟩ := h
          refine v_cVr (t_X10_passesKept q_22) cal_X10_passesKept ml_X10_369 sel_X10_passesKept q_1 kk_10 dX10_obeys_66 (by omega) (by decide) (by decide) (Nat.le_of_ble_eq_true rfl) rfl ?_
          refine v_istore_n dX10_obeys_69 (by decide) ?_
          refine v_sub [(0, .ref (B + p0)), (2, .int r_21.1)] ⟨rfl, rfl, trivial⟩ ?_
          refine v_aload_n dX10_obeys_70 rfl ?_
          refine v_iload_n dX10_obeys_71 rfl ?_
          refine v_if_ge 82 dX10_obeys_72 (by decide) (fun c_23 => ?_) (fun c_23 => ?_)
          · rw [if_pos c_23] at h
            refine v_iload_n dX10_obeys_82 rfl ?_
            refine v_sub [(2, .int r_21.1)] ⟨rfl, trivial⟩ ?_
            exact j83 _ _ _ _ h
          · rw [if_neg c_23] at h
            refine v_aload_n dX10_obeys_75 rfl ?_
            refine v_getI rfl fl_X10_319 dX10_obeys_76 q_1 ?_
            refine v_goto 83 dX10_obeys_79 (by decide) ?_
            refine v_sub [(2, .int r_21.1)] ⟨rfl, trivial⟩ ?_
            exact j83 _ _ _ _ h
        · rw [if_neg c_30] at h
          refine v_tableOut 88 dX10_obeys_14 (p_sw_out (fun k h1 h2 => by have h3 : k = 21 ∨ k = 22 ∨ k = 23 ∨ k = 24 := (by omega); rcases h3 with rfl | rfl | rfl | rfl <;> first | exact c_27 | exact c_28 | exact c_29 | exact c_30)) (by decide) ?_
          refine v_sub [(0, .ref (B + p0)), (1, .int r_6)] ⟨rfl, rfl, trivial⟩ ?_
          exact j88 _ _ _ h

def f_X10_runs_J19_67 (S : v_S) (F : v_F) (w0 : Nat) (w1 : Int32) (w2 : Int32) (w3 : Int32) (I : v_I) (J : v_J) (y4 : Int32) : Option ((Int32 × v_I × v_J) ⊕ (Nat × (Int32 × v_I × v_J))) :=
p_let (y4 + (1 : Int32)) fun x_19 =>
some (.inl (x_19, I, J))
def f_X10_runs_B19 (S : v_S) (F : v_F) (w0 : Nat) (w1 : Int32) (w2 : Int32) (w3 : Int32) (s19 : Int32 × v_I × v_J) : Option ((Int32 × v_I × v_J) ⊕ (Nat × (Int32 × v_I × v_J))) :=
if w2 ≤ s19.1 then (
some (.inr (1, (s19.1, s19.2.1, s19.2.2))))
else (
(p_ob S 10 w0).bind fun _ =>
(f_X10_goesAlong S s19.2.1 s19.2.2 F w0 w1 (1 : Int32)).bind fun r_9 =>
if (r_9.1 w0 43) = (0 : Int32) then (
f_X10_runs_J19_67 S F w0 w1 w2 w3 r_9.1 r_9.2 s19.1)
else (
if (r_9.1 w0 42) = (0 : Int32) then (
some (.inr (0, (s19.1, r_9.1, r_9.2))))
else (
(f_X10_obeys S r_9.1 r_9.2 F w0).bind fun r_14 =>
if (0 : Int32) ≤ r_14.1 then (
p_let (v_up r_14.2 w0 27 ((r_14.2 w0 27) + (1 : Int32))) fun I_17 =>
f_X10_runs_J19_67 S F w0 w1 w2 w3 I_17 r_9.2 s19.1)
else (
some (.inr (0, (s19.1, r_14.2, r_9.2)))))))
def f_X10_runs (S : v_S) (I : v_I) (J : v_J) (F : v_F) (p0 : Nat) (p1 : Int32) : Option (Int32 × v_I × v_J) :=
(p_ob S 10 p0).bind fun _ =>
(f_X10_goesAlong S I J F p0 p1 (0 : Int32)).bind fun r_1 =>
p_let (r_1.1 p0 40) fun x_4 =>
p_let (r_1.1 p0 22) fun x_6 =>
(v_loop (f_X10_runs_B19 S F p0 p1 x_4 x_6) FU ((0 : Int32), r_1.1, r_1.2)).bind fun q_21 =>
if q_21.1 = 0 then (
some ((0 : Int32), q_21.2.2.1, q_21.2.2.2))
else (
p_let (v_up q_21.2.2.1 p0 39 x_6) fun I_23 =>
some ((1 : Int32), I_23, q_21.2.2.2))
set_option maxHeartbeats 4000000 in
set_option maxRecDepth 100000 in
theorem t_X10_runs {p0 : Nat} {p1 : Int32} {r : Int32 × v_I × v_J} (h : f_X10_runs S I J F p0 p1 = some r) : v_R l B D ac (v_EE B wa wb wt sb sL sx) yX10_runs cX10_runs 5 (some .boolean) 212 0 0 [.ref (B + p0), .int p1] S I J F (v_D (some (.int r.1)) S r.2.1 r.2.2 F) := by
  refine v_R.of (by decide) (Nat.le_of_ble_eq_true rfl) fun d hd => ?_
  generalize hQ : v_D (some (.int r.1)) S r.2.1 r.2.2 F = Q
  have b19 : ∀ (w0 : Nat) (w1 : Int32) (w2 : Int32) (w3 : Int32) (s19 : Int32 × v_I × v_J) (rx19 : (Int32 × v_I × v_J) ⊕ (Nat × (Int32 × v_I × v_J))), f_X10_runs_B19 S F w0 w1 w2 w3 s19 = some rx19 → v_K (fun (sP : Int32 × v_I × v_J) => V l B D ac (v_EE B wa wb wt sb sL sx) yX10_runs cX10_runs 5 (some .boolean) d 0 0 0 0 S sP.2.1 sP.2.2 F 19 [(0, .ref (B + w0)), (1, .int w1), (2, .int w2), (3, .int w3), (4, .int sP.1)] [] Q) (fun (rE : Nat × (Int32 × v_I × v_J)) => (rE.1 = 0 → V l B D ac (v_EE B wa wb wt sb sL sx) yX10_runs cX10_runs 5 (some .boolean) d 0 0 0 0 S rE.2.2.1 rE.2.2.2 F 55 [] [] Q) ∧ (¬ rE.1 = 0 → V l B D ac (v_EE B wa wb wt sb sL sx) yX10_runs cX10_runs 5 (some .boolean) d 0 0 0 0 S rE.2.2.1 rE.2.2.2 F 73 [(0, .ref (B + w0)), (3, .int w3)] [] Q)) rx19 → V l B D ac (v_EE B wa wb wt sb sL sx) yX10_runs cX10_runs 5 (some .boolean) d 0 0 0 0 S s19.2.1 s19.2.2 F 19 [(0, .ref (B + w0)), (1, .int w1), (2, .int w2), (3, .int w3), (4, .int s19.1)] [] Q := by
    intro w0 w1 w2 w3 s19 rx19 h hk
    have j67 : ∀ (I : v_I) (J : v_J) (y4 : Int32), f_X10_runs_J19_67 S F w0 w1 w2 w3 I J y4 = some rx19 → V l B D ac (v_EE B wa wb wt sb sL sx) yX10_runs cX10_runs 5 (some .boolean) d 0 0 0 0 S I J F 67 [(0, .ref (B + w0)), (1, .int w1), (2, .int w2), (3, .int w3), (4, .int y4)] [] Q := by
      intro I J y4 h
      unfold f_X10_runs_J19_67 at h
      replace h := p_let_elim h
      obtain ⟨x_19, h_20, h⟩ := h
      refine v_iincE (1 : Int32) dX10_runs_67 (by decide) rfl (by decide) ?_
      rw [← h_20]
      refine v_sub [(0, .ref (B + w0)), (1, .int w1), (2, .int w2), (3, .int w3), (4, .int x_19)] ⟨rfl, rfl, rfl, rfl, rfl, trivial⟩ ?_
      refine v_goto 19 dX10_runs_70 (by decide) ?_
      cases h
      refine v_sub [(0, .ref (B + w0)), (1, .int w1), (2, .int w2), (3, .int w3), (4, .int x_19)] ⟨rfl, rfl, rfl, rfl, rfl, trivial⟩ ?_
      exact hk
    unfold f_X10_runs_B19 at h
    refine v_iload dX10_runs_19 rfl ?_
    refine v_iload_n dX10_runs_21 rfl ?_
    refine v_icmp_ge 73 dX10_runs_22 (by decide) (fun c_8 => ?_) (fun c_8 => ?_)
    · rw [if_pos c_8] at h
      cases h
      refine v_sub [(0, .ref (B + w0)), (3, .int w3)] ⟨rfl, rfl, trivial⟩ ?_
      exact (hk.2 (Nat.succ_ne_zero _))
    · rw [if_neg c_8] at h
      refine v_aload_n dX10_runs_25 rfl ?_
      refine v_iload_n dX10_runs_26 rfl ?_
      refine v_iconstE (1 : Int32) dX10_runs_27 (by decide) ?_
      replace h := p_bind_elim h
      obtain ⟨_, q_11, h⟩ := h
      have q_11 := p_ob_spec q_11
      replace h := p_bind_elim h
      obtain ⟨r_9, q_10, h⟩ := h
      refine v_cVn (t_X10_goesAlong q_10) cal_X10_goesAlong ml_X10_473 sel_X10_goesAlong q_11 kk_10 dX10_runs_28 (by omega) (by decide) (by decide) (Nat.le_of_ble_eq_true rfl) rfl ?_
      refine v_aload_n dX10_runs_31 rfl ?_
      refine v_getI rfl fl_X10_464 dX10_runs_32 q_11 ?_
      refine v_if_ne 41 dX10_runs_35 (by decide) (fun c_12 => ?_) (fun c_12 => ?_)
      · rw [if_neg c_12] at h
        refine v_aload_n dX10_runs_41 rfl ?_
        refine v_getI rfl fl_X10_458 dX10_runs_42 q_11 ?_
        refine v_if_eq 55 dX10_runs_45 (by decide) (fun c_13 => ?_) (fun c_13 => ?_)
        · rw [if_pos c_13] at h
          cases h
          refine v_sub [] trivial ?_
          exact hk.1 rfl
        · rw [if_neg c_13] at h
          refine v_aload_n dX10_runs_48 rfl ?_
          replace h := p_bind_elim h
          obtain ⟨r_14, q_15, h⟩ := h
          refine v_cVr (t_X10_obeys q_15) cal_X10_obeys ml_X10_477 sel_X10_obeys q_11 kk_10 dX10_runs_49 (by omega) (by decide) (by decide) (Nat.le_of_ble_eq_true rfl) rfl ?_
          refine v_if_ge 57 dX10_runs_52 (by decide) (fun c_16 => ?_) (fun c_16 => ?_)
          · rw [if_pos c_16] at h
            refine v_aload_n dX10_runs_57 rfl ?_
            refine v_dup dX10_runs_58 rfl ?_
            refine v_getI rfl fl_X10_316 dX10_runs_59 q_11 ?_
            refine v_iconstE (1 : Int32) dX10_runs_62 (by decide) ?_
            refine v_iadd dX10_runs_63 ?_
            refine v_putI rfl fl_X10_316 dX10_runs_64 q_11 rfl rfl ?_
            replace h := p_let_elim h
            obtain ⟨I_17, h_18, h⟩ := h
            rw [← h_18]
            refine v_sub [(0, .ref (B + w0)), (1, .int w1), (2, .int w2), (3, .int w3), (4, .int s19.1)] ⟨rfl, rfl, rfl, rfl, rfl, trivial⟩ ?_
            exact j67 _ _ _ h
          · rw [if_neg c_16] at h
            cases h
            refine v_sub [] trivial ?_
            exact hk.1 rfl
      · rw [if_pos c_12] at h
        refine v_goto 67 dX10_runs_38 (by decide) ?_
        refine v_sub [(0, .ref (B + w0)), (1, .int w1), (2, .int w2), (3, .int w3), (4, .int s19.1)] ⟨rfl, rfl, rfl, rfl, rfl, trivial⟩ ?_
        exact j67 _ _ _ h
  unfold f_X10_runs at h
  refine v_sub [(0, .ref (B + p0)), (1, .int p1)] ⟨rfl, rfl, trivial⟩ ?_
  refine v_aload_n dX10_runs_0 rfl ?_
  refine v_iload_n dX10_runs_1 rfl ?_
  refine v_iconstE (0 : Int32) dX10_runs_2 (by decide) ?_
  replace h := p_bind_elim h
  obtain ⟨_, q_3, h⟩ := h
  have q_3 := p_ob_spec q_3
  replace h := p_bind_elim h
  obtain ⟨r_1, q_2, h⟩ := h
  refine v_cVn (t_X10_goesAlong q_2) cal_X10_goesAlong ml_X10_473 sel_X10_goesAlong q_3 kk_10 dX10_runs_3 (by omega) (by decide) (by decide) (Nat.le_of_ble_eq_true rfl) rfl ?_
  refine v_aload_n dX10_runs_6 rfl ?_
  refine v_getI rfl fl_X10_461 dX10_runs_7 q_3 ?_
  replace h := p_let_elim h
  obtain ⟨x_4, h_5, h⟩ := h
  rw [← h_5]
  refine v_istore_n dX10_runs_10 (by decide) ?_
  refine v_sub [(0, .ref (B + p0)), (1, .int p1), (2, .int x_4)] ⟨rfl, rfl, rfl, trivial⟩ ?_
  refine v_aload_n dX10_runs_11 rfl ?_
  refine v_getI rfl fl_X10_277 dX10_runs_12 q_3 ?_
  replace h := p_let_elim h
  obtain ⟨x_6, h_7, h⟩ := h
  rw [← h_7]
  refine v_istore_n dX10_runs_15 (by decide) ?_
  refine v_sub [(0, .ref (B + p0)), (1, .int p1), (2, .int x_4), (3, .int x_6)] ⟨rfl, rfl, rfl, rfl, trivial⟩ ?_
  refine v_iconstE (0 : Int32) dX10_runs_16 (by decide) ?_
  refine v_istore dX10_runs_17 (by decide) ?_
  refine v_sub [(0, .ref (B + p0)), (1, .int p1), (2, .int x_4), (3, .int x_6), (4, .int (0 : Int32))] ⟨rfl, rfl, rfl, rfl, rfl, trivial⟩ ?_
  replace h := p_bind_elim h
  obtain ⟨q_21, h_22, h⟩ := h
  refine v_sub [(0, .ref (B + p0)), (1, .int p1), (2, .int x_4), (3, .int x_6), (4, .int (0 : Int32))] ⟨rfl, rfl, rfl, rfl, rfl, trivial⟩ ?_
  refine v_loopV (fun (sP : Int32 × v_I × v_J) => V l B D ac (v_EE B wa wb wt sb sL sx) yX10_runs cX10_runs 5 (some .boolean) d 0 0 0 0 S sP.2.1 sP.2.2 F 19 [(0, .ref (B + p0)), (1, .int p1), (2, .int x_4), (3, .int x_6), (4, .int sP.1)] [] Q) (fun (rE : Nat × (Int32 × v_I × v_J)) => (rE.1 = 0 → V l B D ac (v_EE B wa wb wt sb sL sx) yX10_runs cX10_runs 5 (some .boolean) d 0 0 0 0 S rE.2.2.1 rE.2.2.2 F 55 [] [] Q) ∧ (¬ rE.1 = 0 → V l B D ac (v_EE B wa wb wt sb sL sx) yX10_runs cX10_runs 5 (some .boolean) d 0 0 0 0 S rE.2.2.1 rE.2.2.2 F 73 [(0, .ref (B + p0)), (3, .int x_6)] [] Q)) (fun s_ x_ hb hk => b19 _ _ _ _ s_ x_ hb hk) (r := q_21) ?_ h_22
  try dsimp only
  refine ⟨fun c_25 => ?_, fun c_25 => ?_⟩
  · rw [if_pos c_25] at h
    refine v_iconstE (0 : Int32) dX10_runs_55 (by decide) ?_
    cases h
    exact v_zret dX10_runs_56 rfl rfl (by decide) (by decide) (by rw [← hQ]; exact ⟨rfl, rfl, rfl, rfl, rfl⟩)
  · rw [if_neg c_25] at h
    refine v_aload_n dX10_runs_73 rfl ?_
    refine v_iload_n dX10_runs_74 rfl ?_
    refine v_putI rfl fl_X10_449 dX10_runs_75 q_3 rfl rfl ?_
    replace h := p_let_elim h
    obtain ⟨I_23, h_24, h⟩ := h
    rw [← h_24]
    refine v_iconstE (1 : Int32) dX10_runs_78 (by decide) ?_
    cases h
    exact v_zret dX10_runs_79 rfl rfl (by decide) (by decide) (by rw [← hQ]; exact ⟨rfl, rfl, rfl, rfl, rfl⟩)

def f_X10_orders_B27 (S : v_S) (F : v_F) (J : v_J) (w0 : Nat) (s27 : Int32 × v_I) : Option ((Int32 × v_I) ⊕ (Int32 × v_I)) :=
if (304 : Int32) ≤ s27.1 then (
some (.inr (s27.1, s27.2)))
else (
(p_ob S 10 w0).bind fun _ =>
(F w0 31).bind fun a_11 =>
(F w0 30).bind fun a_13 =>
(p_ix S 20 a_13 s27.1).bind fun j_15 =>
(p_ix S 20 a_11 s27.1).bind fun j_17 =>
p_let (v_up s27.2 a_11 j_17 (s27.2 a_13 j_15)) fun I_19 =>
p_let (s27.1 + (1 : Int32)) fun x_21 =>
some (.inl (x_21, I_19)))
def f_X10_orders_B95 (S : v_S) (F : v_F) (w0 : Nat) (w1 : Int32) (w2 : Int32) (s95 : Int32 × v_I × v_J) : Option ((Int32 × v_I × v_J) ⊕ (Nat × (Int32 × v_I × v_J))) :=
(p_ob S 10 w0).bind fun _ =>
if w2 ≤ (s95.2.1 w0 39) then (
some (.inr (1, (s95.1, s95.2.1, s95.2.2))))
else (
(f_X10_runs S s95.2.1 s95.2.2 F w0 w2).bind fun r_43 =>
if r_43.1 = (0 : Int32) then (
some (.inr (0, (s95.1, r_43.2.1, r_43.2.2))))
else (
p_let (s95.1 + (1 : Int32)) fun x_46 =>
some (.inl (x_46, r_43.2.1, r_43.2.2))))
def f_X10_orders_B122 (S : v_S) (F : v_F) (J : v_J) (w0 : Nat) (w1 : Int32) (w3 : Int32) (s122 : Int32 × v_I) : Option ((Int32 × v_I) ⊕ (Int32 × v_I)) :=
if (304 : Int32) ≤ s122.1 then (
some (.inr (s122.1, s122.2)))
else (
(p_ob S 10 w0).bind fun _ =>
(F w0 30).bind fun a_54 =>
(F w0 31).bind fun a_56 =>
(p_ix S 20 a_56 s122.1).bind fun j_58 =>
(p_ix S 20 a_54 s122.1).bind fun j_60 =>
p_let (v_up s122.2 a_54 j_60 (s122.2 a_56 j_58)) fun I_62 =>
p_let (s122.1 + (1 : Int32)) fun x_64 =>
some (.inl (x_64, I_62)))
def f_X10_orders (S : v_S) (I : v_I) (J : v_J) (F : v_F) (p0 : Nat) : Option (Int32 × v_I × v_J) :=
(p_ob S 10 p0).bind fun _ =>
p_let (v_up I p0 38 (-1 : Int32)) fun I_2 =>
(f_X10_readsAs S I_2 F p0 (1 : Int32)).bind fun r_4 =>
if r_4.1 = (0 : Int32) then (
(f_X10_refuses S r_4.2 F p0 (-6 : Int32)).bind fun r_77 =>
some (r_77.1, r_77.2, J))
else (
(f_X10_laysAside S r_4.2 F p0 (1 : Int32)).bind fun r_7 =>
(v_loop (f_X10_orders_B27 S F J p0) FU ((0 : Int32), r_7)).bind fun q_23 =>
p_let (q_23.2 p0 32) fun x_25 =>
(f_X10_lays S q_23.2 F p0 (6 : Int32)).bind fun r_27 =>
p_let (v_up r_27 p0 27 (0 : Int32)) fun I_29 =>
p_let (v_up I_29 p0 28 (-1 : Int32)) fun I_31 =>
p_let (v_up I_31 p0 39 (2400 : Int32)) fun I_33 =>
(F p0 2).bind fun a_35 =>
(p_ix S 20 a_35 (59 : Int32)).bind fun j_37 =>
p_let ((I_33 p0 39) + (I_33 a_35 j_37)) fun x_39 =>
(v_loop (f_X10_orders_B95 S F p0 x_25 x_39) FU ((0 : Int32), I_33, J)).bind fun q_48 =>
if q_48.1 = 0 then (
(f_X10_takesBack S q_48.2.2.1 F p0 (1 : Int32)).bind fun r_50 =>
(v_loop (f_X10_orders_B122 S F q_48.2.2.2 p0 x_25 q_48.2.1) FU ((0 : Int32), r_50)).bind fun q_66 =>
p_let (v_up q_66.2 p0 32 x_25) fun I_68 =>
p_let (v_up I_68 p0 38 q_48.2.1) fun I_70 =>
(f_X10_refuses S I_70 F p0 (-3 : Int32)).bind fun r_72 =>
some (r_72.1, r_72.2, q_48.2.2.2))
else (
(f_X10_good S q_48.2.2.1 p0 (q_48.2.2.1 p0 27)).bind fun r_74 =>
some (r_74.1, r_74.2, q_48.2.2.2)))
set_option maxHeartbeats 4000000 in
set_option maxRecDepth 100000 in
theorem t_X10_orders {p0 : Nat} {r : Int32 × v_I × v_J} (h : f_X10_orders S I J F p0 = some r) : v_R l B D ac (v_EE B wa wb wt sb sL sx) yX10_orders cX10_orders 5 (some .int) 213 0 0 [.ref (B + p0)] S I J F (v_D (some (.int r.1)) S r.2.1 r.2.2 F) := by
  refine v_R.of (by decide) (Nat.le_of_ble_eq_true rfl) fun d hd => ?_
  generalize hQ : v_D (some (.int r.1)) S r.2.1 r.2.2 F = Q
  have b27 : ∀ (J : v_J) (w0 : Nat) (s27 : Int32 × v_I) (rx27 : (Int32 × v_I) ⊕ (Int32 × v_I)), f_X10_orders_B27 S F J w0 s27 = some rx27 → v_K (fun (sP : Int32 × v_I) => V l B D ac (v_EE B wa wb wt sb sL sx) yX10_orders cX10_orders 5 (some .int) d 0 0 0 0 S sP.2 J F 27 [(0, .ref (B + w0)), (1, .int sP.1)] [] Q) (fun (rE : Int32 × v_I) => V l B D ac (v_EE B wa wb wt sb sL sx) yX10_orders cX10_orders 5 (some .int) d 0 0 0 0 S rE.2 J F 52 [(0, .ref (B + w0))] [] Q) rx27 → V l B D ac (v_EE B wa wb wt sb sL sx) yX10_orders cX10_orders 5 (some .int) d 0 0 0 0 S s27.2 J F 27 [(0, .ref (B + w0)), (1, .int s27.1)] [] Q := by
    intro J w0 s27 rx27 h hk
    unfold f_X10_orders_B27 at h
    refine v_iload_n dX10_orders_27 rfl ?_
    refine v_sipush (304 : Int32) dX10_orders_28 (by decide) ?_
    refine v_icmp_ge 52 dX10_orders_31 (by decide) (fun c_9 => ?_) (fun c_9 => ?_)
    · rw [if_pos c_9] at h
      cases h
      refine v_sub [(0, .ref (B + w0))] ⟨rfl, trivial⟩ ?_
      exact hk
    · rw [if_neg c_9] at h
      refine v_aload_n dX10_orders_34 rfl ?_
      replace h := p_bind_elim h
      obtain ⟨_, q_10, h⟩ := h
      have q_10 := p_ob_spec q_10
      replace h := p_bind_elim h
      obtain ⟨a_11, q_12, h⟩ := h
      refine v_getR q_12 rfl fl_X10_72 dX10_orders_35 q_10 ?_
      refine v_iload_n dX10_orders_38 rfl ?_
      refine v_aload_n dX10_orders_39 rfl ?_
      replace h := p_bind_elim h
      obtain ⟨a_13, q_14, h⟩ := h
      refine v_getR q_14 rfl fl_X10_69 dX10_orders_40 q_10 ?_
      refine v_iload_n dX10_orders_43 rfl ?_
      replace h := p_bind_elim h
      obtain ⟨j_15, q_16, h⟩ := h
      refine v_ialdP dX10_orders_44 q_16 ?_
      replace h := p_bind_elim h
      obtain ⟨j_17, q_18, h⟩ := h
      refine v_iastP dX10_orders_45 q_18 ?_
      replace h := p_let_elim h
      obtain ⟨I_19, h_20, h⟩ := h
      rw [← h_20]
      replace h := p_let_elim h
      obtain ⟨x_21, h_22, h⟩ := h
      refine v_iincE (1 : Int32) dX10_orders_46 (by decide) rfl (by decide) ?_
      rw [← h_22]
      refine v_sub [(0, .ref (B + w0)), (1, .int x_21)] ⟨rfl, rfl, trivial⟩ ?_
      refine v_goto 27 dX10_orders_49 (by decide) ?_
      cases h
      refine v_sub [(0, .ref (B + w0)), (1, .int x_21)] ⟨rfl, rfl, trivial⟩ ?_
      exact hk
  have b95 : ∀ (w0 : Nat) (w1 : Int32) (w2 : Int32) (s95 : Int32 × v_I × v_J) (rx95 : (Int32 × v_I × v_J) ⊕ (Nat × (Int32 × v_I × v_J))), f_X10_orders_B95 S F w0 w1 w2 s95 = some rx95 → v_K (fun (sP : Int32 × v_I × v_J) => V l B D ac (v_EE B wa wb wt sb sL sx) yX10_orders cX10_orders 5 (some .int) d 0 0 0 0 S sP.2.1 sP.2.2 F 95 [(0, .ref (B + w0)), (1, .int w1), (2, .int w2), (3, .int sP.1)] [] Q) (fun (rE : Nat × (Int32 × v_I × v_J)) => (rE.1 = 0 → V l B D ac (v_EE B wa wb wt sb sL sx) yX10_orders cX10_orders 5 (some .int) d 0 0 0 0 S rE.2.2.1 rE.2.2.2 F 114 [(0, .ref (B + w0)), (1, .int w1), (3, .int rE.2.1)] [] Q) ∧ (¬ rE.1 = 0 → V l B D ac (v_EE B wa wb wt sb sL sx) yX10_orders cX10_orders 5 (some .int) d 0 0 0 0 S rE.2.2.1 rE.2.2.2 F 173 [(0, .ref (B + w0))] [] Q)) rx95 → V l B D ac (v_EE B wa wb wt sb sL sx) yX10_orders cX10_orders 5 (some .int) d 0 0 0 0 S s95.2.1 s95.2.2 F 95 [(0, .ref (B + w0)), (1, .int w1), (2, .int w2), (3, .int s95.1)] [] Q := by
    intro w0 w1 w2 s95 rx95 h hk
    unfold f_X10_orders_B95 at h
    refine v_aload_n dX10_orders_95 rfl ?_
    replace h := p_bind_elim h
    obtain ⟨_, q_41, h⟩ := h
    have q_41 := p_ob_spec q_41
    refine v_getI rfl fl_X10_449 dX10_orders_96 q_41 ?_
    refine v_iload_n dX10_orders_99 rfl ?_
    refine v_icmp_ge 173 dX10_orders_100 (by decide) (fun c_42 => ?_) (fun c_42 => ?_)
    · rw [if_pos c_42] at h
      cases h
      refine v_sub [(0, .ref (B + w0))] ⟨rfl, trivial⟩ ?_
      exact (hk.2 (Nat.succ_ne_zero _))
    · rw [if_neg c_42] at h
      refine v_aload_n dX10_orders_103 rfl ?_
      refine v_iload_n dX10_orders_104 rfl ?_
      replace h := p_bind_elim h
      obtain ⟨r_43, q_44, h⟩ := h
      refine v_cVr (t_X10_runs q_44) cal_X10_runs ml_X10_452 sel_X10_runs q_41 kk_10 dX10_orders_105 (by omega) (by decide) (by decide) (Nat.le_of_ble_eq_true rfl) rfl ?_
      refine v_if_eq 114 dX10_orders_108 (by decide) (fun c_45 => ?_) (fun c_45 => ?_)
      · rw [if_pos c_45] at h
        cases h
        refine v_sub [(0, .ref (B + w0)), (1, .int w1), (3, .int s95.1)] ⟨rfl, rfl, rfl, trivial⟩ ?_
        exact hk.1 rfl
      · rw [if_neg c_45] at h
        refine v_goto 167 dX10_orders_111 (by decide) ?_
        replace h := p_let_elim h
        obtain ⟨x_46, h_47, h⟩ := h
        refine v_iincE (1 : Int32) dX10_orders_167 (by decide) rfl (by decide) ?_
        rw [← h_47]
        refine v_sub [(0, .ref (B + w0)), (1, .int w1), (2, .int w2), (3, .int x_46)] ⟨rfl, rfl, rfl, rfl, trivial⟩ ?_
        refine v_goto 95 dX10_orders_170 (by decide) ?_
        cases h
        refine v_sub [(0, .ref (B + w0)), (1, .int w1), (2, .int w2), (3, .int x_46)] ⟨rfl, rfl, rfl, rfl, trivial⟩ ?_
        exact hk
  have b122 : ∀ (J : v_J) (w0 : Nat) (w1 : Int32) (w3 : Int32) (s122 : Int32 × v_I) (rx122 : (Int32 × v_I) ⊕ (Int32 × v_I)), f_X10_orders_B122 S F J w0 w1 w3 s122 = some rx122 → v_K (fun (sP : Int32 × v_I) => V l B D ac (v_EE B wa wb wt sb sL sx) yX10_orders cX10_orders 5 (some .int) d 0 0 0 0 S sP.2 J F 122 [(0, .ref (B + w0)), (1, .int w1), (3, .int w3), (4, .int sP.1)] [] Q) (fun (rE : Int32 × v_I) => V l B D ac (v_EE B wa wb wt sb sL sx) yX10_orders cX10_orders 5 (some .int) d 0 0 0 0 S rE.2 J F 150 [(0, .ref (B + w0)), (1, .int w1), (3, .int w3)] [] Q) rx122 → V l B D ac (v_EE B wa wb wt sb sL sx) yX10_orders cX10_orders 5 (some .int) d 0 0 0 0 S s122.2 J F 122 [(0, .ref (B + w0)), (1, .int w1), (3, .int w3), (4, .int s122.1)] [] Q := by
    intro J w0 w1 w3 s122 rx122 h hk
    unfold f_X10_orders_B122 at h
    refine v_iload dX10_orders_122 rfl ?_
    refine v_sipush (304 : Int32) dX10_orders_124 (by decide) ?_
    refine v_icmp_ge 150 dX10_orders_127 (by decide) (fun c_52 => ?_) (fun c_52 => ?_)
    · rw [if_pos c_52] at h
      cases h
      refine v_sub [(0, .ref (B + w0)), (1, .int w1), (3, .int w3)] ⟨rfl, rfl, rfl, trivial⟩ ?_
      exact hk
    · rw [if_neg c_52] at h
      refine v_aload_n dX10_orders_130 rfl ?_
      replace h := p_bind_elim h
      obtain ⟨_, q_53, h⟩ := h
      have q_53 := p_ob_spec q_53
      replace h := p_bind_elim h
      obtain ⟨a_54, q_55, h⟩ := h
      refine v_getR q_55 rfl fl_X10_69 dX10_orders_131 q_53 ?_
      refine v_iload dX10_orders_134 rfl ?_
      refine v_aload_n dX10_orders_136 rfl ?_
      replace h := p_bind_elim h
      obtain ⟨a_56, q_57, h⟩ := h
      refine v_getR q_57 rfl fl_X10_72 dX10_orders_137 q_53 ?_
      refine v_iload dX10_orders_140 rfl ?_
      replace h := p_bind_elim h
      obtain ⟨j_58, q_59, h⟩ := h
      refine v_ialdP dX10_orders_142 q_59 ?_
      replace h := p_bind_elim h
      obtain ⟨j_60, q_61, h⟩ := h
      refine v_iastP dX10_orders_143 q_61 ?_
      replace h := p_let_elim h
      obtain ⟨I_62, h_63, h⟩ := h
      rw [← h_63]
      replace h := p_let_elim h
      obtain ⟨x_64, h_65, h⟩ := h
      refine v_iincE (1 : Int32) dX10_orders_144 (by decide) rfl (by decide) ?_
      rw [← h_65]
      refine v_sub [(0, .ref (B + w0)), (1, .int w1), (3, .int w3), (4, .int x_64)] ⟨rfl, rfl, rfl, rfl, trivial⟩ ?_
      refine v_goto 122 dX10_orders_147 (by decide) ?_
      cases h
      refine v_sub [(0, .ref (B + w0)), (1, .int w1), (3, .int w3), (4, .int x_64)] ⟨rfl, rfl, rfl, rfl, trivial⟩ ?_
      exact hk
  unfold f_X10_orders at h
  refine v_sub [(0, .ref (B + p0))] ⟨rfl, trivial⟩ ?_
  refine v_aload_n dX10_orders_0 rfl ?_
  refine v_iconstE (-1 : Int32) dX10_orders_1 (by decide) ?_
  replace h := p_bind_elim h
  obtain ⟨_, q_1, h⟩ := h
  have q_1 := p_ob_spec q_1
  refine v_putI rfl fl_X10_91 dX10_orders_2 q_1 rfl rfl ?_
  replace h := p_let_elim h
  obtain ⟨I_2, h_3, h⟩ := h
  rw [← h_3]
  refine v_aload_n dX10_orders_5 rfl ?_
  refine v_iconstE (1 : Int32) dX10_orders_6 (by decide) ?_
  replace h := p_bind_elim h
  obtain ⟨r_4, q_5, h⟩ := h
  refine v_cVr (t_X10_readsAs q_5) cal_X10_readsAs ml_X10_264 sel_X10_readsAs q_1 kk_10 dX10_orders_7 (by omega) (by decide) (by decide) (Nat.le_of_ble_eq_true rfl) rfl ?_
  refine v_if_ne 20 dX10_orders_10 (by decide) (fun c_6 => ?_) (fun c_6 => ?_)
  · rw [if_neg c_6] at h
    refine v_aload_n dX10_orders_20 rfl ?_
    refine v_iconstE (1 : Int32) dX10_orders_21 (by decide) ?_
    replace h := p_bind_elim h
    obtain ⟨r_7, q_8, h⟩ := h
    refine v_cVn (t_X10_laysAside q_8) cal_X10_laysAside ml_X10_372 sel_X10_laysAside q_1 kk_10 dX10_orders_22 (by omega) (by decide) (by decide) (Nat.le_of_ble_eq_true rfl) rfl ?_
    refine v_iconstE (0 : Int32) dX10_orders_25 (by decide) ?_
    refine v_istore_n dX10_orders_26 (by decide) ?_
    refine v_sub [(0, .ref (B + p0)), (1, .int (0 : Int32))] ⟨rfl, rfl, trivial⟩ ?_
    replace h := p_bind_elim h
    obtain ⟨q_23, h_24, h⟩ := h
    refine v_sub [(0, .ref (B + p0)), (1, .int (0 : Int32))] ⟨rfl, rfl, trivial⟩ ?_
    refine v_loopV (fun (sP : Int32 × v_I) => V l B D ac (v_EE B wa wb wt sb sL sx) yX10_orders cX10_orders 5 (some .int) d 0 0 0 0 S sP.2 J F 27 [(0, .ref (B + p0)), (1, .int sP.1)] [] Q) (fun (rE : Int32 × v_I) => V l B D ac (v_EE B wa wb wt sb sL sx) yX10_orders cX10_orders 5 (some .int) d 0 0 0 0 S rE.2 J F 52 [(0, .ref (B + p0))] [] Q) (fun s_ x_ hb hk => b27 _ _ s_ x_ hb hk) (r := q_23) ?_ h_24
    try dsimp only
    refine v_aload_n dX10_orders_52 rfl ?_
    refine v_getI rfl fl_X10_11 dX10_orders_53 q_1 ?_
    replace h := p_let_elim h
    obtain ⟨x_25, h_26, h⟩ := h
    rw [← h_26]
    refine v_istore_n dX10_orders_56 (by decide) ?_
    refine v_sub [(0, .ref (B + p0)), (1, .int x_25)] ⟨rfl, rfl, trivial⟩ ?_
    refine v_aload_n dX10_orders_57 rfl ?_
    refine v_bipush (6 : Int32) dX10_orders_58 (by decide) ?_
    replace h := p_bind_elim h
    obtain ⟨r_27, q_28, h⟩ := h
    refine v_cVn (t_X10_lays q_28) cal_X10_lays ml_X10_268 sel_X10_lays q_1 kk_10 dX10_orders_60 (by omega) (by decide) (by decide) (Nat.le_of_ble_eq_true rfl) rfl ?_
    refine v_aload_n dX10_orders_63 rfl ?_
    refine v_iconstE (0 : Int32) dX10_orders_64 (by decide) ?_
    refine v_putI rfl fl_X10_316 dX10_orders_65 q_1 rfl rfl ?_
    replace h := p_let_elim h
    obtain ⟨I_29, h_30, h⟩ := h
    rw [← h_30]
    refine v_aload_n dX10_orders_68 rfl ?_
    refine v_iconstE (-1 : Int32) dX10_orders_69 (by decide) ?_
    refine v_putI rfl fl_X10_319 dX10_orders_70 q_1 rfl rfl ?_
    replace h := p_let_elim h
    obtain ⟨I_31, h_32, h⟩ := h
    rw [← h_32]
    refine v_aload_n dX10_orders_73 rfl ?_
    refine v_sipush (2400 : Int32) dX10_orders_74 (by decide) ?_
    refine v_putI rfl fl_X10_449 dX10_orders_77 q_1 rfl rfl ?_
    replace h := p_let_elim h
    obtain ⟨I_33, h_34, h⟩ := h
    rw [← h_34]
    refine v_aload_n dX10_orders_80 rfl ?_
    refine v_getI rfl fl_X10_449 dX10_orders_81 q_1 ?_
    refine v_aload_n dX10_orders_84 rfl ?_
    replace h := p_bind_elim h
    obtain ⟨a_35, q_36, h⟩ := h
    refine v_getR q_36 rfl fl_X10_28 dX10_orders_85 q_1 ?_
    refine v_bipush (59 : Int32) dX10_orders_88 (by decide) ?_
    replace h := p_bind_elim h
    obtain ⟨j_37, q_38, h⟩ := h
    refine v_ialdP dX10_orders_90 q_38 ?_
    refine v_iadd dX10_orders_91 ?_
    replace h := p_let_elim h
    obtain ⟨x_39, h_40, h⟩ := h
    rw [← h_40]
    refine v_istore_n dX10_orders_92 (by decide) ?_
    refine v_sub [(0, .ref (B + p0)), (1, .int x_25), (2, .int x_39)] ⟨rfl, rfl, rfl, trivial⟩ ?_
    refine v_iconstE (0 : Int32) dX10_orders_93 (by decide) ?_
    refine v_istore_n dX10_orders_94 (by decide) ?_
    refine v_sub [(0, .ref (B + p0)), (1, .int x_25), (2, .int x_39), (3, .int (0 : Int32))] ⟨rfl, rfl, rfl, rfl, trivial⟩ ?_
    replace h := p_bind_elim h
    obtain ⟨q_48, h_49, h⟩ := h
    refine v_sub [(0, .ref (B + p0)), (1, .int x_25), (2, .int x_39), (3, .int (0 : Int32))] ⟨rfl, rfl, rfl, rfl, trivial⟩ ?_
    refine v_loopV (fun (sP : Int32 × v_I × v_J) => V l B D ac (v_EE B wa wb wt sb sL sx) yX10_orders cX10_orders 5 (some .int) d 0 0 0 0 S sP.2.1 sP.2.2 F 95 [(0, .ref (B + p0)), (1, .int x_25), (2, .int x_39), (3, .int sP.1)] [] Q) (fun (rE : Nat × (Int32 × v_I × v_J)) => (rE.1 = 0 → V l B D ac (v_EE B wa wb wt sb sL sx) yX10_orders cX10_orders 5 (some .int) d 0 0 0 0 S rE.2.2.1 rE.2.2.2 F 114 [(0, .ref (B + p0)), (1, .int x_25), (3, .int rE.2.1)] [] Q) ∧ (¬ rE.1 = 0 → V l B D ac (v_EE B wa wb wt sb sL sx) yX10_orders cX10_orders 5 (some .int) d 0 0 0 0 S rE.2.2.1 rE.2.2.2 F 173 [(0, .ref (B + p0))] [] Q)) (fun s_ x_ hb hk => b95 _ _ _ s_ x_ hb hk) (r := q_48) ?_ h_49
    try dsimp only
    refine ⟨fun c_76 => ?_, fun c_76 => ?_⟩
    · rw [if_pos c_76] at h
      refine v_aload_n dX10_orders_114 rfl ?_
      refine v_iconstE (1 : Int32) dX10_orders_115 (by decide) ?_
      replace h := p_bind_elim h
      obtain ⟨r_50, q_51, h⟩ := h
      refine v_cVn (t_X10_takesBack q_51) cal_X10_takesBack ml_X10_378 sel_X10_takesBack q_1 kk_10 dX10_orders_116 (by omega) (by decide) (by decide) (Nat.le_of_ble_eq_true rfl) rfl ?_
      refine v_iconstE (0 : Int32) dX10_orders_119 (by decide) ?_
      refine v_istore dX10_orders_120 (by decide) ?_
      refine v_sub [(0, .ref (B + p0)), (1, .int x_25), (3, .int q_48.2.1), (4, .int (0 : Int32))] ⟨rfl, rfl, rfl, rfl, trivial⟩ ?_
      replace h := p_bind_elim h
      obtain ⟨q_66, h_67, h⟩ := h
      refine v_sub [(0, .ref (B + p0)), (1, .int x_25), (3, .int q_48.2.1), (4, .int (0 : Int32))] ⟨rfl, rfl, rfl, rfl, trivial⟩ ?_
      refine v_loopV (fun (sP : Int32 × v_I) => V l B D ac (v_EE B wa wb wt sb sL sx) yX10_orders cX10_orders 5 (some .int) d 0 0 0 0 S sP.2 q_48.2.2.2 F 122 [(0, .ref (B + p0)), (1, .int x_25), (3, .int q_48.2.1), (4, .int sP.1)] [] Q) (fun (rE : Int32 × v_I) => V l B D ac (v_EE B wa wb wt sb sL sx) yX10_orders cX10_orders 5 (some .int) d 0 0 0 0 S rE.2 q_48.2.2.2 F 150 [(0, .ref (B + p0)), (1, .int x_25), (3, .int q_48.2.1)] [] Q) (fun s_ x_ hb hk => b122 _ _ _ _ s_ x_ hb hk) (r := q_66) ?_ h_67
      try dsimp only
      refine v_aload_n dX10_orders_150 rfl ?_
      refine v_iload_n dX10_orders_151 rfl ?_
      refine v_putI rfl fl_X10_11 dX10_orders_152 q_1 rfl rfl ?_
      replace h := p_let_elim h
      obtain ⟨I_68, h_69, h⟩ := h
      rw [← h_69]
      refine v_aload_n dX10_orders_155 rfl ?_
      refine v_iload_n dX10_orders_156 rfl ?_
      refine v_putI rfl fl_X10_91 dX10_orders_157 q_1 rfl rfl ?_
      replace h := p_let_elim h
      obtain ⟨I_70, h_71, h⟩ := h
      rw [← h_71]
      refine v_aload_n dX10_orders_160 rfl ?_
      refine v_bipush (-3 : Int32) dX10_orders_161 (by decide) ?_
      replace h := p_bind_elim h
      obtain ⟨r_72, q_73, h⟩ := h
      refine v_cVr (t_X10_refuses q_73) cal_X10_refuses ml_X10_103 sel_X10_refuses q_1 kk_10 dX10_orders_163 (by omega) (by decide) (by decide) (Nat.le_of_ble_eq_true rfl) rfl ?_
      cases h
      exact v_iret dX10_orders_166 rfl (by decide) (by decide) (by rw [← hQ]; exact ⟨rfl, rfl, rfl, rfl, rfl⟩)
    · rw [if_neg c_76] at h
      refine v_aload_n dX10_orders_173 rfl ?_
      refine v_aload_n dX10_orders_174 rfl ?_
      refine v_getI rfl fl_X10_316 dX10_orders_175 q_1 ?_
      replace h := p_bind_elim h
      obtain ⟨r_74, q_75, h⟩ := h
      refine v_cVr (t_X10_good q_75) cal_X10_good ml_X10_14 sel_X10_good q_1 kk_10 dX10_orders_178 (by omega) (by decide) (by decide) (Nat.le_of_ble_eq_true rfl) rfl ?_
      cases h
      exact v_iret dX10_orders_181 rfl (by decide) (by decide) (by rw [← hQ]; exact ⟨rfl, rfl, rfl, rfl, rfl⟩)
  · rw [if_pos c_6] at h
    refine v_aload_n dX10_orders_13 rfl ?_
    refine v_bipush (-6 : Int32) dX10_orders_14 (by decide) ?_
    replace h := p_bind_elim h
    obtain ⟨r_77, q_78, h⟩ := h
    refine v_cVr (t_X10_refuses q_78) cal_X10_refuses ml_X10_103 sel_X10_refuses q_1 kk_10 dX10_orders_16 (by omega) (by decide) (by decide) (Nat.le_of_ble_eq_true rfl) rfl ?_
    cases h
    exact v_iret dX10_orders_19 rfl (by decide) (by decide) (by rw [← hQ]; exact ⟨rfl, rfl, rfl, rfl, rfl⟩)

def f_X10_councils_J20 (S : v_S) (F : v_F) (I : v_I) (y0 : Nat) : Option (Int32 × v_I) :=
(p_ob S 10 y0).bind fun _ =>
(f_X10_refuses S I F y0 (-1 : Int32)).bind fun r_4 =>
some (r_4.1, r_4.2)
def f_X10_councils_B60 (S : v_S) (F : v_F) (w0 : Nat) (w2 : Int32) (s60 : Int32 × v_I) : Option ((Int32 × v_I) ⊕ (Int32 × v_I)) :=
if w2 ≤ s60.1 then (
some (.inr (s60.1, s60.2)))
else (
(p_ob S 10 w0).bind fun _ =>
(F w0 2).bind fun a_24 =>
(p_ix S 20 a_24 (17 : Int32)).bind fun j_26 =>
if (999 : Int32) ≤ (s60.2 a_24 j_26) then (
some (.inr (s60.1, s60.2)))
else (
(f_X10_drawnAct S s60.2 F w0).bind fun r_29 =>
(f_X10_minutePasses S r_29 F w0 (0 : Int32)).bind fun r_31 =>
p_let (s60.1 + (1 : Int32)) fun x_33 =>
some (.inl (x_33, r_31.2))))
def f_X10_councils_B104 (S : v_S) (F : v_F) (w0 : Nat) (w3 : Int32) (s104 : Int32 × v_I) : Option ((Int32 × v_I) ⊕ (Int32 × v_I)) :=
if (18 : Int32) ≤ s104.1 then (
some (.inr (s104.1, s104.2)))
else (
(p_ob S 10 w0).bind fun _ =>
(F w0 45).bind fun a_46 =>
(F w0 2).bind fun a_48 =>
(p_ix S 20 a_48 s104.1).bind fun j_50 =>
(p_ix S 20 a_46 s104.1).bind fun j_52 =>
p_let (v_up s104.2 a_46 j_52 (s104.2 a_48 j_50)) fun I_54 =>
p_let (s104.1 + (1 : Int32)) fun x_56 =>
some (.inl (x_56, I_54)))
def f_X10_councils_J94 (S : v_S) (F : v_F) (I : v_I) (y0 : Nat) : Option (Int32 × v_I) :=
(p_ob S 10 y0).bind fun _ =>
(F y0 2).bind fun a_38 =>
(p_ix S 20 a_38 (0 : Int32)).bind fun j_40 =>
p_let (I a_38 j_40) fun x_42 =>
(v_loop (f_X10_councils_B104 S F y0 x_42) FU ((0 : Int32), I)).bind fun q_58 =>
(f_X10_takesBack S q_58.2 F y0 (0 : Int32)).bind fun r_60 =>
(f_X10_good S r_60 y0 x_42).bind fun r_62 =>
some (r_62.1, r_62.2)
def f_X10_councils (S : v_S) (I : v_I) (F : v_F) (p0 : Nat) (p1 : Int32) (p2 : Int32) : Option (Int32 × v_I) :=
(f_X10_lies p1 (0 : Int32) (1000000 : Int32)).bind fun r_1 =>
if r_1 = (0 : Int32) then (
f_X10_councils_J20 S F I p0)
else (
(f_X10_lies p2 (1 : Int32) (60 : Int32)).bind fun r_7 =>
if r_7 = (0 : Int32) then (
f_X10_councils_J20 S F I p0)
else (
(p_ob S 10 p0).bind fun _ =>
(f_X10_many S I F p0).bind fun r_10 =>
if r_10 = (0 : Int32) then (
(f_X10_refuses S I F p0 (-3 : Int32)).bind fun r_64 =>
some (r_64.1, r_64.2))
else (
p_let (v_up I p0 47 p1) fun I_14 =>
(f_X10_many S I_14 F p0).bind fun r_16 =>
p_let (v_up I_14 p0 46 r_16) fun I_18 =>
(f_X10_laysAside S I_18 F p0 (0 : Int32)).bind fun r_20 =>
(v_loop (f_X10_councils_B60 S F p0 p2) FU ((0 : Int32), r_20)).bind fun q_35 =>
f_X10_councils_J94 S F q_35.2 p0)))
set_option maxHeartbeats 4000000 in
set_option maxRecDepth 100000 in
theorem t_X10_councils {p0 : Nat} {p1 : Int32} {p2 : Int32} {r : Int32 × v_I} (h : f_X10_councils S I F p0 p1 p2 = some r) : v_R l B D ac (v_EE B wa wb wt sb sL sx) yX10_councils cX10_councils 5 (some .int) 210 0 0 [.ref (B + p0), .int p1, .int p2] S I J F (v_D (some (.int r.1)) S r.2 J F) := by
  refine v_R.of (by decide) (Nat.le_of_ble_eq_true rfl) fun d hd => ?_
  generalize hQ : v_D (some (.int r.1)) S r.2 J F = Q
  have j20 : ∀ (I : v_I) (y0 : Nat), f_X10_councils_J20 S F I y0 = some r → V l B D ac (v_EE B wa wb wt sb sL sx) yX10_councils cX10_councils 5 (some .int) d 0 0 0 0 S I J F 20 [(0, .ref (B + y0))] [] Q := by
    intro I y0 h
    unfold f_X10_councils_J20 at h
    refine v_aload_n dX10_councils_20 rfl ?_
    refine v_iconstE (-1 : Int32) dX10_councils_21 (by decide) ?_
    replace h := p_bind_elim h
    obtain ⟨_, q_6, h⟩ := h
    have q_6 := p_ob_spec q_6
    replace h := p_bind_elim h
    obtain ⟨r_4, q_5, h⟩ := h
    refine v_cVr (t_X10_refuses q_5) cal_X10_refuses ml_X10_103 sel_X10_refuses q_6 kk_10 dX10_councils_22 (by omega) (by decide) (by decide) (Nat.le_of_ble_eq_true rfl) rfl ?_
    cases h
    exact v_iret dX10_councils_25 rfl (by decide) (by decide) (by rw [← hQ]; exact ⟨rfl, rfl, rfl, rfl, rfl⟩)
  have b60 : ∀ (w0 : Nat) (w2 : Int32) (s60 : Int32 × v_I) (rx60 : (Int32 × v_I) ⊕ (Int32 × v_I)), f_X10_councils_B60 S F w0 w2 s60 = some rx60 → v_K (fun (sP : Int32 × v_I) => V l B D ac (v_EE B wa wb wt sb sL sx) yX10_councils cX10_councils 5 (some .int) d 0 0 0 0 S sP.2 J F 60 [(0, .ref (B + w0)), (2, .int w2), (3, .int sP.1)] [] Q) (fun (rE : Int32 × v_I) => V l B D ac (v_EE B wa wb wt sb sL sx) yX10_councils cX10_councils 5 (some .int) d 0 0 0 0 S rE.2 J F 94 [(0, .ref (B + w0))] [] Q) rx60 → V l B D ac (v_EE B wa wb wt sb sL sx) yX10_councils cX10_councils 5 (some .int) d 0 0 0 0 S s60.2 J F 60 [(0, .ref (B + w0)), (2, .int w2), (3, .int s60.1)] [] Q := by
    intro w0 w2 s60 rx60 h hk
    unfold f_X10_councils_B60 at h
    refine v_iload_n dX10_councils_60 rfl ?_
    refine v_iload_n dX10_councils_61 rfl ?_
    refine v_icmp_ge 94 dX10_councils_62 (by decide) (fun c_22 => ?_) (fun c_22 => ?_)
    · rw [if_pos c_22] at h
      cases h
      refine v_sub [(0, .ref (B + w0))] ⟨rfl, trivial⟩ ?_
      exact hk
    · rw [if_neg c_22] at h
      refine v_aload_n dX10_councils_65 rfl ?_
      replace h := p_bind_elim h
      obtain ⟨_, q_23, h⟩ := h
      have q_23 := p_ob_spec q_23
      replace h := p_bind_elim h
      obtain ⟨a_24, q_25, h⟩ := h
      refine v_getR q_25 rfl fl_X10_28 dX10_councils_66 q_23 ?_
      refine v_bipush (17 : Int32) dX10_councils_69 (by decide) ?_
      replace h := p_bind_elim h
      obtain ⟨j_26, q_27, h⟩ := h
      refine v_ialdP dX10_councils_71 q_27 ?_
      refine v_sipush (999 : Int32) dX10_councils_72 (by decide) ?_
      refine v_icmp_ge 94 dX10_councils_75 (by decide) (fun c_28 => ?_) (fun c_28 => ?_)
      · rw [if_pos c_28] at h
        cases h
        refine v_sub [(0, .ref (B + w0))] ⟨rfl, trivial⟩ ?_
        exact hk
      · rw [if_neg c_28] at h
        refine v_aload_n dX10_councils_78 rfl ?_
        replace h := p_bind_elim h
        obtain ⟨r_29, q_30, h⟩ := h
        refine v_cVn (t_X10_drawnAct q_30) cal_X10_drawnAct ml_X10_492 sel_X10_drawnAct q_23 kk_10 dX10_councils_79 (by omega) (by decide) (by decide) (Nat.le_of_ble_eq_true rfl) rfl ?_
        refine v_aload_n dX10_councils_82 rfl ?_
        refine v_iconstE (0 : Int32) dX10_councils_83 (by decide) ?_
        replace h := p_bind_elim h
        obtain ⟨r_31, q_32, h⟩ := h
        refine v_cVr (t_X10_minutePasses q_32) cal_X10_minutePasses ml_X10_354 sel_X10_minutePasses q_23 kk_10 dX10_councils_84 (by omega) (by decide) (by decide) (Nat.le_of_ble_eq_true rfl) rfl ?_
        refine v_pop dX10_councils_87 rfl ?_
        replace h := p_let_elim h
        obtain ⟨x_33, h_34, h⟩ := h
        refine v_iincE (1 : Int32) dX10_councils_88 (by decide) rfl (by decide) ?_
        rw [← h_34]
        refine v_sub [(0, .ref (B + w0)), (2, .int w2), (3, .int x_33)] ⟨rfl, rfl, rfl, trivial⟩ ?_
        refine v_goto 60 dX10_councils_91 (by decide) ?_
        cases h
        refine v_sub [(0, .ref (B + w0)), (2, .int w2), (3, .int x_33)] ⟨rfl, rfl, rfl, trivial⟩ ?_
        exact hk
  have b104 : ∀ (w0 : Nat) (w3 : Int32) (s104 : Int32 × v_I) (rx104 : (Int32 × v_I) ⊕ (Int32 × v_I)), f_X10_councils_B104 S F w0 w3 s104 = some rx104 → v_K (fun (sP : Int32 × v_I) => V l B D ac (v_EE B wa wb wt sb sL sx) yX10_councils cX10_councils 5 (some .int) d 0 0 0 0 S sP.2 J F 104 [(0, .ref (B + w0)), (3, .int w3), (4, .int sP.1)] [] Q) (fun (rE : Int32 × v_I) => V l B D ac (v_EE B wa wb wt sb sL sx) yX10_councils cX10_councils 5 (some .int) d 0 0 0 0 S rE.2 J F 131 [(0, .ref (B + w0)), (3, .int w3)] [] Q) rx104 → V l B D ac (v_EE B wa wb wt sb sL sx) yX10_councils cX10_councils 5 (some .int) d 0 0 0 0 S s104.2 J F 104 [(0, .ref (B + w0)), (3, .int w3), (4, .int s104.1)] [] Q := by
    intro w0 w3 s104 rx104 h hk
    unfold f_X10_councils_B104 at h
    refine v_iload dX10_councils_104 rfl ?_
    refine v_bipush (18 : Int32) dX10_councils_106 (by decide) ?_
    refine v_icmp_ge 131 dX10_councils_108 (by decide) (fun c_44 => ?_) (fun c_44 => ?_)
    · rw [if_pos c_44] at h
      cases h
      refine v_sub [(0, .ref (B + w0)), (3, .int w3)] ⟨rfl, rfl, trivial⟩ ?_
      exact hk
    · rw [if_neg c_44] at h
      refine v_aload_n dX10_councils_111 rfl ?_
      replace h := p_bind_elim h
      obtain ⟨_, q_45, h⟩ := h
      have q_45 := p_ob_spec q_45
      replace h := p_bind_elim h
      obtain ⟨a_46, q_47, h⟩ := h
      refine v_getR q_47 rfl fl_X10_97 dX10_councils_112 q_45 ?_
      refine v_iload dX10_councils_115 rfl ?_
      refine v_aload_n dX10_councils_117 rfl ?_
      replace h := p_bind_elim h
      obtain ⟨a_48, q_49, h⟩ := h
      refine v_getR q_49 rfl fl_X10_28 dX10_councils_118 q_45 ?_
      refine v_iload dX10_councils_121 rfl ?_
      replace h := p_bind_elim h
      obtain ⟨j_50, q_51, h⟩ := h
      refine v_ialdP dX10_councils_123 q_51 ?_
      replace h := p_bind_elim h
      obtain ⟨j_52, q_53, h⟩ := h
      refine v_iastP dX10_councils_124 q_53 ?_
      replace h := p_let_elim h
      obtain ⟨I_54, h_55, h⟩ := h
      rw [← h_55]
      replace h := p_let_elim h
      obtain ⟨x_56, h_57, h⟩ := h
      refine v_iincE (1 : Int32) dX10_councils_125 (by decide) rfl (by decide) ?_
      rw [← h_57]
      refine v_sub [(0, .ref (B + w0)), (3, .int w3), (4, .int x_56)] ⟨rfl, rfl, rfl, trivial⟩ ?_
      refine v_goto 104 dX10_councils_128 (by decide) ?_
      cases h
      refine v_sub [(0, .ref (B + w0)), (3, .int w3), (4, .int x_56)] ⟨rfl, rfl, rfl, trivial⟩ ?_
      exact hk
  have j94 : ∀ (I : v_I) (y0 : Nat), f_X10_councils_J94 S F I y0 = some r → V l B D ac (v_EE B wa wb wt sb sL sx) yX10_councils cX10_councils 5 (some .int) d 0 0 0 0 S I J F 94 [(0, .ref (B + y0))] [] Q := by
    intro I y0 h
    unfold f_X10_councils_J94 at h
    refine v_aload_n dX10_councils_94 rfl ?_
    replace h := p_bind_elim h
    obtain ⟨_, q_37, h⟩ := h
    have q_37 := p_ob_spec q_37
    replace h := p_bind_elim h
    obtain ⟨a_38, q_39, h⟩ := h
    refine v_getR q_39 rfl fl_X10_28 dX10_councils_95 q_37 ?_
    refine v_iconstE (0 : Int32) dX10_councils_98 (by decide) ?_
    replace h := p_bind_elim h
    obtain ⟨j_40, q_41, h⟩ := h
    refine v_ialdP dX10_councils_99 q_41 ?_
    replace h := p_let_elim h
    obtain ⟨x_42, h_43, h⟩ := h
    rw [← h_43]
    refine v_istore_n dX10_councils_100 (by decide) ?_
    refine v_sub [(0, .ref (B + y0)), (3, .int x_42)] ⟨rfl, rfl, trivial⟩ ?_
    refine v_iconstE (0 : Int32) dX10_councils_101 (by decide) ?_
    refine v_istore dX10_councils_102 (by decide) ?_
    refine v_sub [(0, .ref (B + y0)), (3, .int x_42), (4, .int (0 : Int32))] ⟨rfl, rfl, rfl, trivial⟩ ?_
    replace h := p_bind_elim h
    obtain ⟨q_58, h_59, h⟩ := h
    refine v_sub [(0, .ref (B + y0)), (3, .int x_42), (4, .int (0 : Int32))] ⟨rfl, rfl, rfl, trivial⟩ ?_
    refine v_loopV (fun (sP : Int32 × v_I) => V l B D ac (v_EE B wa wb wt sb sL sx) yX10_councils cX10_councils 5 (some .int) d 0 0 0 0 S sP.2 J F 104 [(0, .ref (B + y0)), (3, .int x_42), (4, .int sP.1)] [] Q) (fun (rE : Int32 × v_I) => V l B D ac (v_EE B wa wb wt sb sL sx) yX10_councils cX10_councils 5 (some .int) d 0 0 0 0 S rE.2 J F 131 [(0, .ref (B + y0)), (3, .int x_42)] [] Q) (fun s_ x_ hb hk => b104 _ _ s_ x_ hb hk) (r := q_58) ?_ h_59
    try dsimp only
    refine v_aload_n dX10_councils_131 rfl ?_
    refine v_iconstE (0 : Int32) dX10_councils_132 (by decide) ?_
    replace h := p_bind_elim h
    obtain ⟨r_60, q_61, h⟩ := h
    refine v_cVn (t_X10_takesBack q_61) cal_X10_takesBack ml_X10_378 sel_X10_takesBack q_37 kk_10 dX10_councils_133 (by omega) (by decide) (by decide) (Nat.le_of_ble_eq_true rfl) rfl ?_
    refine v_aload_n dX10_councils_136 rfl ?_
    refine v_iload_n dX10_councils_137 rfl ?_
    replace h := p_bind_elim h
    obtain ⟨r_62, q_63, h⟩ := h
    refine v_cVr (t_X10_good q_63) cal_X10_good ml_X10_14 sel_X10_good q_37 kk_10 dX10_councils_138 (by omega) (by decide) (by decide) (Nat.le_of_ble_eq_true rfl) rfl ?_
    cases h
    exact v_iret dX10_councils_141 rfl (by decide) (by decide) (by rw [← hQ]; exact ⟨rfl, rfl, rfl, rfl, rfl⟩)
  unfold f_X10_councils at h
  refine v_sub [(0, .ref (B + p0)), (1, .int p1), (2, .int p2)] ⟨rfl, rfl, rfl, trivial⟩ ?_
  refine v_iload_n dX10_councils_0 rfl ?_
  refine v_iconstE (0 : Int32) dX10_councils_1 (by decide) ?_
  refine v_ldc (1000000 : Int32) dX10_councils_2 kn_X10_186 ?_
  replace h := p_bind_elim h
  obtain ⟨r_1, q_2, h⟩ := h
  refine v_cSr (t_X10_lies q_2) cal_X10_lies ml_X10_18 sta_X10_lies dX10_councils_4 (by omega) (by decide) (by decide) (Nat.le_of_ble_eq_true rfl) rfl ?_
  refine v_if_eq 20 dX10_councils_7 (by decide) (fun c_3 => ?_) (fun c_3 => ?_)
  · rw [if_pos c_3] at h
    refine v_sub [(0, .ref (B + p0))] ⟨rfl, trivial⟩ ?_
    exact j20 _ _ h
  · rw [if_neg c_3] at h
    refine v_iload_n dX10_councils_10 rfl ?_
    refine v_iconstE (1 : Int32) dX10_councils_11 (by decide) ?_
    refine v_bipush (60 : Int32) dX10_councils_12 (by decide) ?_
    replace h := p_bind_elim h
    obtain ⟨r_7, q_8, h⟩ := h
    refine v_cSr (t_X10_lies q_8) cal_X10_lies ml_X10_18 sta_X10_lies dX10_councils_14 (by omega) (by decide) (by decide) (Nat.le_of_ble_eq_true rfl) rfl ?_
    refine v_if_ne 26 dX10_councils_17 (by decide) (fun c_9 => ?_) (fun c_9 => ?_)
    · rw [if_neg c_9] at h
      refine v_aload_n dX10_councils_26 rfl ?_
      replace h := p_bind_elim h
      obtain ⟨_, q_12, h⟩ := h
      have q_12 := p_ob_spec q_12
      replace h := p_bind_elim h
      obtain ⟨r_10, q_11, h⟩ := h
      refine v_cVr (t_X10_many q_11) cal_X10_many ml_X10_109 sel_X10_many q_12 kk_10 dX10_councils_27 (by omega) (by decide) (by decide) (Nat.le_of_ble_eq_true rfl) rfl ?_
      refine v_if_ne 40 dX10_councils_30 (by decide) (fun c_13 => ?_) (fun c_13 => ?_)
      · rw [if_neg c_13] at h
        refine v_aload_n dX10_councils_40 rfl ?_
        refine v_iload_n dX10_councils_41 rfl ?_
        refine v_putI rfl fl_X10_482 dX10_councils_42 q_12 rfl rfl ?_
        replace h := p_let_elim h
        obtain ⟨I_14, h_15, h⟩ := h
        rw [← h_15]
        refine v_aload_n dX10_councils_45 rfl ?_
        refine v_aload_n dX10_councils_46 rfl ?_
        replace h := p_bind_elim h
        obtain ⟨r_16, q_17, h⟩ := h
        refine v_cVr (t_X10_many q_17) cal_X10_many ml_X10_109 sel_X10_many q_12 kk_10 dX10_councils_47 (by omega) (by decide) (by decide) (Nat.le_of_ble_eq_true rfl) rfl ?_
        refine v_putI rfl fl_X10_100 dX10_councils_50 q_12 rfl rfl ?_
        replace h := p_let_elim h
        obtain ⟨I_18, h_19, h⟩ := h
        rw [← h_19]
        refine v_aload_n dX10_councils_53 rfl ?_
        refine v_iconstE (0 : Int32) dX10_councils_54 (by decide) ?_
        replace h := p_bind_elim h
        obtain ⟨r_20, q_21, h⟩ := h
        refine v_cVn (t_X10_laysAside q_21) cal_X10_laysAside ml_X10_372 sel_X10_laysAside q_12 kk_10 dX10_councils_55 (by omega) (by decide) (by decide) (Nat.le_of_ble_eq_true rfl) rfl ?_
        refine v_iconstE (0 : Int32) dX10_councils_58 (by decide) ?_
        refine v_istore_n dX10_councils_59 (by decide) ?_
        refine v_sub [(0, .ref (B + p0)), (2, .int p2), (3, .int (0 : Int32))] ⟨rfl, rfl, rfl, trivial⟩ ?_
        replace h := p_bind_elim h
        obtain ⟨q_35, h_36, h⟩ := h
        refine v_sub [(0, .ref (B + p0)), (2, .int p2), (3, .int (0 : Int32))] ⟨rfl, rfl, rfl, trivial⟩ ?_
        refine v_loopV (fun (sP : Int32 × v_I) => V l B D ac (v_EE B wa wb wt sb sL sx) yX10_councils cX10_councils 5 (some .int) d 0 0 0 0 S sP.2 J F 60 [(0, .ref (B + p0)), (2, .int p2), (3, .int sP.1)] [] Q) (fun (rE : Int32 × v_I) => V l B D ac (v_EE B wa wb wt sb sL sx) yX10_councils cX10_councils 5 (some .int) d 0 0 0 0 S rE.2 J F 94 [(0, .ref (B + p0))] [] Q) (fun s_ x_ hb hk => b60 _ _ s_ x_ hb hk) (r := q_35) ?_ h_36
        try dsimp only
        refine v_sub [(0, .ref (B + p0))] ⟨rfl, trivial⟩ ?_
        exact j94 _ _ h
      · rw [if_pos c_13] at h
        refine v_aload_n dX10_councils_33 rfl ?_
        refine v_bipush (-3 : Int32) dX10_councils_34 (by decide) ?_
        replace h := p_bind_elim h
        obtain ⟨r_64, q_65, h⟩ := h
        refine v_cVr (t_X10_refuses q_65) cal_X10_refuses ml_X10_103 sel_X10_refuses q_12 kk_10 dX10_councils_36 (by omega) (by decide) (by decide) (Nat.le_of_ble_eq_true rfl) rfl ?_
        cases h
        exact v_iret dX10_councils_39 rfl (by decide) (by decide) (by rw [← hQ]; exact ⟨rfl, rfl, rfl, rfl, rfl⟩)
    · rw [if_pos c_9] at h
      refine v_sub [(0, .ref (B + p0))] ⟨rfl, trivial⟩ ?_
      exact j20 _ _ h

end g02
