noncomputable section g00
variable {l : Launch} {B : Nat} {D : va_G} {ac : Nat → ClassId} {wa wb wt sb sL : Nat} {sx : Nat → Int32} {S : v_S} {I : v_I} {J : v_J} {F : v_F}
def f_X6_readTest_B7 (rc : Nat → Nat → Int32 → v_S → v_I → v_F → Option (Int32 × v_I)) (S : v_S) (F : v_F) (w0 : Nat) (s7 : Int32 × Int32 × v_I) : Option ((Int32 × Int32 × v_I) ⊕ (Int32 × Int32 × v_I)) :=
if (400 : Int32) ≤ s7.2.1 then (
some (.inr (s7.1, s7.2.1, s7.2.2)))
else (
if s7.1 = (0 : Int32) then (
some (.inr (s7.1, s7.2.1, s7.2.2)))
else (
(p_ob S 6 w0).bind fun _ =>
(f_X6_take S s7.2.2 F w0 (266 : Int32)).bind fun r_6 =>
if r_6.1 = (0 : Int32) then (
some (.inr (s7.1, s7.2.1, r_6.2)))
else (
(F w0 0).bind fun a_10 =>
(p_ob S 8 a_10).bind fun _ =>
(f_X8_addStep S r_6.2 F a_10 (5 : Int32) (0 : Int32)).bind fun r_12 =>
(rc 1 w0 0 S r_12.2 F).bind fun r_15 =>
(F w0 0).bind fun a_17 =>
(p_ob S 8 a_17).bind fun _ =>
(f_X8_aimHere S r_15.2 F a_17 r_12.1).bind fun r_19 =>
p_let (s7.2.1 + (1 : Int32)) fun x_22 =>
some (.inl (r_15.1, x_22, r_19)))))
def f_X6_readTest (rc : Nat → Nat → Int32 → v_S → v_I → v_F → Option (Int32 × v_I)) (S : v_S) (I : v_I) (F : v_F) (p0 : Nat) : Option (Int32 × v_I) :=
(p_ob S 6 p0).bind fun _ =>
(rc 1 p0 0 S I F).bind fun r_1 =>
(v_loop (f_X6_readTest_B7 rc S F p0) FU (r_1.1, (0 : Int32), r_1.2)).bind fun q_24 =>
(p_bl q_24.1).bind fun _ =>
some (q_24.1, q_24.2.2)
set_option maxHeartbeats 4000000 in
set_option maxRecDepth 100000 in
theorem t_X6_readTest {rc : Nat → Nat → Int32 → v_S → v_I → v_F → Option (Int32 × v_I)} {dd : Nat} (hK : 3 ≤ dd + 1) (hrc1 : ∀ {S : v_S} {I : v_I} {J : v_J} {F : v_F} {a : Nat} {r : Int32 × v_I}, rc 1 a 0 S I F = some r → v_R l B D ac (v_EE B wa wb wt sb sL sx) yX6_readBoth cX6_readBoth 4 (some .boolean) dd 0 0 [.ref (B + a)] S I J F (v_D (some (.int r.1)) S r.2 J F)) {p0 : Nat} {r : Int32 × v_I} (h : f_X6_readTest rc S I F p0 = some r) : v_R l B D ac (v_EE B wa wb wt sb sL sx) yX6_readTest cX6_readTest 4 (some .boolean) (dd + 1) 0 0 [.ref (B + p0)] S I J F (v_D (some (.int r.1)) S r.2 J F) := by
  refine v_R.of (by decide) (Nat.le_of_ble_eq_true rfl) fun d hd => ?_
  generalize hQ : v_D (some (.int r.1)) S r.2 J F = Q
  have b7 : ∀ (w0 : Nat) (s7 : Int32 × Int32 × v_I) (rx7 : (Int32 × Int32 × v_I) ⊕ (Int32 × Int32 × v_I)), f_X6_readTest_B7 rc S F w0 s7 = some rx7 → v_K (fun (sP : Int32 × Int32 × v_I) => V l B D ac (v_EE B wa wb wt sb sL sx) yX6_readTest cX6_readTest 4 (some .boolean) d 0 0 0 0 S sP.2.2 J F 7 [(0, .ref (B + w0)), (1, .int sP.1), (2, .int sP.2.1)] [] Q) (fun (rE : Int32 × Int32 × v_I) => V l B D ac (v_EE B wa wb wt sb sL sx) yX6_readTest cX6_readTest 4 (some .boolean) d 0 0 0 0 S rE.2.2 J F 57 [(1, .int rE.1)] [] Q) rx7 → V l B D ac (v_EE B wa wb wt sb sL sx) yX6_readTest cX6_readTest 4 (some .boolean) d 0 0 0 0 S s7.2.2 J F 7 [(0, .ref (B + w0)), (1, .int s7.1), (2, .int s7.2.1)] [] Q := by
    intro w0 s7 rx7 h hk
    unfold f_X6_readTest_B7 at h
    refine v_iload_n dX6_readTest_7 rfl ?_
    refine v_sipush (400 : Int32) dX6_readTest_8 (by decide) ?_
    refine v_icmp_ge 57 dX6_readTest_11 (by decide) (fun c_4 => ?_) (fun c_4 => ?_)
    · rw [if_pos c_4] at h
      cases h
      refine v_sub [(1, .int s7.1)] ⟨rfl, trivial⟩ ?_
      exact hk
    · rw [if_neg c_4] at h
      refine v_iload_n dX6_readTest_14 rfl ?_
      refine v_if_eq 57 dX6_readTest_15 (by decide) (fun c_5 => ?_) (fun c_5 => ?_)
      · rw [if_pos c_5] at h
        cases h
        refine v_sub [(1, .int s7.1)] ⟨rfl, trivial⟩ ?_
        exact hk
      · rw [if_neg c_5] at h
        refine v_aload_n dX6_readTest_18 rfl ?_
        refine v_sipush (266 : Int32) dX6_readTest_19 (by decide) ?_
        replace h := p_bind_elim h
        obtain ⟨_, q_8, h⟩ := h
        have q_8 := p_ob_spec q_8
        replace h := p_bind_elim h
        obtain ⟨r_6, q_7, h⟩ := h
        refine v_cVr (t_X6_take q_7) cal_X6_take ml_X6_122 sel_X6_take q_8 kk_6 dX6_readTest_22 (by omega) (by decide) (by decide) (Nat.le_of_ble_eq_true rfl) rfl ?_
        refine v_if_eq 57 dX6_readTest_25 (by decide) (fun c_9 => ?_) (fun c_9 => ?_)
        · rw [if_pos c_9] at h
          cases h
          refine v_sub [(1, .int s7.1)] ⟨rfl, trivial⟩ ?_
          exact hk
        · rw [if_neg c_9] at h
          refine v_aload_n dX6_readTest_28 rfl ?_
          replace h := p_bind_elim h
          obtain ⟨a_10, q_11, h⟩ := h
          refine v_getR q_11 rfl fl_X6_14 dX6_readTest_29 q_8 ?_
          refine v_iconstE (5 : Int32) dX6_readTest_32 (by decide) ?_
          refine v_iconstE (0 : Int32) dX6_readTest_33 (by decide) ?_
          replace h := p_bind_elim h
          obtain ⟨_, q_14, h⟩ := h
          have q_14 := p_ob_spec q_14
          replace h := p_bind_elim h
          obtain ⟨r_12, q_13, h⟩ := h
          refine v_cVr (t_X8_addStep q_13) cal_X8_addStep ml_X6_134 sel_X8_addStep q_14 kk_8 dX6_readTest_34 (by omega) (by decide) (by decide) (Nat.le_of_ble_eq_true rfl) rfl ?_
          refine v_istore_n dX6_readTest_37 (by decide) ?_
          refine v_sub [(0, .ref (B + w0)), (2, .int s7.2.1), (3, .int r_12.1)] ⟨rfl, rfl, rfl, trivial⟩ ?_
          refine v_aload_n dX6_readTest_38 rfl ?_
          replace h := p_bind_elim h
          obtain ⟨r_15, q_16, h⟩ := h
          refine v_cVr (hrc1 q_16) cal_X6_readBoth ml_X6_153 sel_X6_readBoth q_8 kk_6 dX6_readTest_39 (by omega) (by decide) (by decide) (Nat.le_of_ble_eq_true rfl) rfl ?_
          refine v_istore_n dX6_readTest_42 (by decide) ?_
          refine v_sub [(0, .ref (B + w0)), (1, .int r_15.1), (2, .int s7.2.1), (3, .int r_12.1)] ⟨rfl, rfl, rfl, rfl, trivial⟩ ?_
          refine v_aload_n dX6_readTest_43 rfl ?_
          replace h := p_bind_elim h
          obtain ⟨a_17, q_18, h⟩ := h
          refine v_getR q_18 rfl fl_X6_14 dX6_readTest_44 q_8 ?_
          refine v_iload_n dX6_readTest_47 rfl ?_
          replace h := p_bind_elim h
          obtain ⟨_, q_21, h⟩ := h
          have q_21 := p_ob_spec q_21
          replace h := p_bind_elim h
          obtain ⟨r_19, q_20, h⟩ := h
          refine v_cVn (t_X8_aimHere q_20) cal_X8_aimHere ml_X6_156 sel_X8_aimHere q_21 kk_8 dX6_readTest_48 (by omega) (by decide) (by decide) (Nat.le_of_ble_eq_true rfl) rfl ?_
          replace h := p_let_elim h
          obtain ⟨x_22, h_23, h⟩ := h
          refine v_iincE (1 : Int32) dX6_readTest_51 (by decide) rfl (by decide) ?_
          rw [← h_23]
          refine v_sub [(0, .ref (B + w0)), (1, .int r_15.1), (2, .int x_22)] ⟨rfl, rfl, rfl, trivial⟩ ?_
          refine v_goto 7 dX6_readTest_54 (by decide) ?_
          cases h
          refine v_sub [(0, .ref (B + w0)), (1, .int r_15.1), (2, .int x_22)] ⟨rfl, rfl, rfl, trivial⟩ ?_
          exact hk
  unfold f_X6_readTest at h
  refine v_sub [(0, .ref (B + p0))] ⟨rfl, trivial⟩ ?_
  refine v_aload_n dX6_readTest_0 rfl ?_
  replace h := p_bind_elim h
  obtain ⟨_, q_3, h⟩ := h
  have q_3 := p_ob_spec q_3
  replace h := p_bind_elim h
  obtain ⟨r_1, q_2, h⟩ := h
  refine v_cVr (hrc1 q_2) cal_X6_readBoth ml_X6_153 sel_X6_readBoth q_3 kk_6 dX6_readTest_1 (by omega) (by decide) (by decide) (Nat.le_of_ble_eq_true rfl) rfl ?_
  refine v_istore_n dX6_readTest_4 (by decide) ?_
  refine v_sub [(0, .ref (B + p0)), (1, .int r_1.1)] ⟨rfl, rfl, trivial⟩ ?_
  refine v_iconstE (0 : Int32) dX6_readTest_5 (by decide) ?_
  refine v_istore_n dX6_readTest_6 (by decide) ?_
  refine v_sub [(0, .ref (B + p0)), (1, .int r_1.1), (2, .int (0 : Int32))] ⟨rfl, rfl, rfl, trivial⟩ ?_
  replace h := p_bind_elim h
  obtain ⟨q_24, h_25, h⟩ := h
  refine v_sub [(0, .ref (B + p0)), (1, .int r_1.1), (2, .int (0 : Int32))] ⟨rfl, rfl, rfl, trivial⟩ ?_
  refine v_loopV (fun (sP : Int32 × Int32 × v_I) => V l B D ac (v_EE B wa wb wt sb sL sx) yX6_readTest cX6_readTest 4 (some .boolean) d 0 0 0 0 S sP.2.2 J F 7 [(0, .ref (B + p0)), (1, .int sP.1), (2, .int sP.2.1)] [] Q) (fun (rE : Int32 × Int32 × v_I) => V l B D ac (v_EE B wa wb wt sb sL sx) yX6_readTest cX6_readTest 4 (some .boolean) d 0 0 0 0 S rE.2.2 J F 57 [(1, .int rE.1)] [] Q) (fun s_ x_ hb hk => b7 _ s_ x_ hb hk) (r := q_24) ?_ h_25
  try dsimp only
  refine v_iload_n dX6_readTest_57 rfl ?_
  replace h := p_bind_elim h
  obtain ⟨_, q_26, h⟩ := h
  cases h
  exact v_zret dX6_readTest_58 rfl (p_bl_spec q_26).1 (by decide) (by decide) (by rw [← hQ]; exact ⟨rfl, rfl, rfl, rfl, rfl⟩)

def f_X6_readBoth_B7 (rc : Nat → Nat → Int32 → v_S → v_I → v_F → Option (Int32 × v_I)) (S : v_S) (F : v_F) (w0 : Nat) (s7 : Int32 × Int32 × v_I) : Option ((Int32 × Int32 × v_I) ⊕ (Int32 × Int32 × v_I)) :=
if (400 : Int32) ≤ s7.2.1 then (
some (.inr (s7.1, s7.2.1, s7.2.2)))
else (
if s7.1 = (0 : Int32) then (
some (.inr (s7.1, s7.2.1, s7.2.2)))
else (
(p_ob S 6 w0).bind fun _ =>
(f_X6_take S s7.2.2 F w0 (267 : Int32)).bind fun r_6 =>
if r_6.1 = (0 : Int32) then (
some (.inr (s7.1, s7.2.1, r_6.2)))
else (
(F w0 0).bind fun a_10 =>
(p_ob S 8 a_10).bind fun _ =>
(f_X8_addStep S r_6.2 F a_10 (4 : Int32) (0 : Int32)).bind fun r_12 =>
(rc 2 w0 0 S r_12.2 F).bind fun r_15 =>
(F w0 0).bind fun a_17 =>
(p_ob S 8 a_17).bind fun _ =>
(f_X8_aimHere S r_15.2 F a_17 r_12.1).bind fun r_19 =>
p_let (s7.2.1 + (1 : Int32)) fun x_22 =>
some (.inl (r_15.1, x_22, r_19)))))
def f_X6_readBoth (rc : Nat → Nat → Int32 → v_S → v_I → v_F → Option (Int32 × v_I)) (S : v_S) (I : v_I) (F : v_F) (p0 : Nat) : Option (Int32 × v_I) :=
(p_ob S 6 p0).bind fun _ =>
(rc 2 p0 0 S I F).bind fun r_1 =>
(v_loop (f_X6_readBoth_B7 rc S F p0) FU (r_1.1, (0 : Int32), r_1.2)).bind fun q_24 =>
(p_bl q_24.1).bind fun _ =>
some (q_24.1, q_24.2.2)
set_option maxHeartbeats 4000000 in
set_option maxRecDepth 100000 in
theorem t_X6_readBoth {rc : Nat → Nat → Int32 → v_S → v_I → v_F → Option (Int32 × v_I)} {dd : Nat} (hK : 3 ≤ dd + 1) (hrc2 : ∀ {S : v_S} {I : v_I} {J : v_J} {F : v_F} {a : Nat} {r : Int32 × v_I}, rc 2 a 0 S I F = some r → v_R l B D ac (v_EE B wa wb wt sb sL sx) yX6_readPlain cX6_readPlain 3 (some .boolean) dd 0 0 [.ref (B + a)] S I J F (v_D (some (.int r.1)) S r.2 J F)) {p0 : Nat} {r : Int32 × v_I} (h : f_X6_readBoth rc S I F p0 = some r) : v_R l B D ac (v_EE B wa wb wt sb sL sx) yX6_readBoth cX6_readBoth 4 (some .boolean) (dd + 1) 0 0 [.ref (B + p0)] S I J F (v_D (some (.int r.1)) S r.2 J F) := by
  refine v_R.of (by decide) (Nat.le_of_ble_eq_true rfl) fun d hd => ?_
  generalize hQ : v_D (some (.int r.1)) S r.2 J F = Q
  have b7 : ∀ (w0 : Nat) (s7 : Int32 × Int32 × v_I) (rx7 : (Int32 × Int32 × v_I) ⊕ (Int32 × Int32 × v_I)), f_X6_readBoth_B7 rc S F w0 s7 = some rx7 → v_K (fun (sP : Int32 × Int32 × v_I) => V l B D ac (v_EE B wa wb wt sb sL sx) yX6_readBoth cX6_readBoth 4 (some .boolean) d 0 0 0 0 S sP.2.2 J F 7 [(0, .ref (B + w0)), (1, .int sP.1), (2, .int sP.2.1)] [] Q) (fun (rE : Int32 × Int32 × v_I) => V l B D ac (v_EE B wa wb wt sb sL sx) yX6_readBoth cX6_readBoth 4 (some .boolean) d 0 0 0 0 S rE.2.2 J F 57 [(1, .int rE.1)] [] Q) rx7 → V l B D ac (v_EE B wa wb wt sb sL sx) yX6_readBoth cX6_readBoth 4 (some .boolean) d 0 0 0 0 S s7.2.2 J F 7 [(0, .ref (B + w0)), (1, .int s7.1), (2, .int s7.2.1)] [] Q := by
    intro w0 s7 rx7 h hk
    unfold f_X6_readBoth_B7 at h
    refine v_iload_n dX6_readBoth_7 rfl ?_
    refine v_sipush (400 : Int32) dX6_readBoth_8 (by decide) ?_
    refine v_icmp_ge 57 dX6_readBoth_11 (by decide) (fun c_4 => ?_) (fun c_4 => ?_)
    · rw [if_pos c_4] at h
      cases h
      refine v_sub [(1, .int s7.1)] ⟨rfl, trivial⟩ ?_
      exact hk
    · rw [if_neg c_4] at h
      refine v_iload_n dX6_readBoth_14 rfl ?_
      refine v_if_eq 57 dX6_readBoth_15 (by decide) (fun c_5 => ?_) (fun c_5 => ?_)
      · rw [if_pos c_5] at h
        cases h
        refine v_sub [(1, .int s7.1)] ⟨rfl, trivial⟩ ?_
        exact hk
      · rw [if_neg c_5] at h
        refine v_aload_n dX6_readBoth_18 rfl ?_
        refine v_sipush (267 : Int32) dX6_readBoth_19 (by decide) ?_
        replace h := p_bind_elim h
        obtain ⟨_, q_8, h⟩ := h
        have q_8 := p_ob_spec q_8
        replace h := p_bind_elim h
        obtain ⟨r_6, q_7, h⟩ := h
        refine v_cVr (t_X6_take q_7) cal_X6_take ml_X6_122 sel_X6_take q_8 kk_6 dX6_readBoth_22 (by omega) (by decide) (by decide) (Nat.le_of_ble_eq_true rfl) rfl ?_
        refine v_if_eq 57 dX6_readBoth_25 (by decide) (fun c_9 => ?_) (fun c_9 => ?_)
        · rw [if_pos c_9] at h
          cases h
          refine v_sub [(1, .int s7.1)] ⟨rfl, trivial⟩ ?_
          exact hk
        · rw [if_neg c_9] at h
          refine v_aload_n dX6_readBoth_28 rfl ?_
          replace h := p_bind_elim h
          obtain ⟨a_10, q_11, h⟩ := h
          refine v_getR q_11 rfl fl_X6_14 dX6_readBoth_29 q_8 ?_
          refine v_iconstE (4 : Int32) dX6_readBoth_32 (by decide) ?_
          refine v_iconstE (0 : Int32) dX6_readBoth_33 (by decide) ?_
          replace h := p_bind_elim h
          obtain ⟨_, q_14, h⟩ := h
          have q_14 := p_ob_spec q_14
          replace h := p_bind_elim h
          obtain ⟨r_12, q_13, h⟩ := h
          refine v_cVr (t_X8_addStep q_13) cal_X8_addStep ml_X6_134 sel_X8_addStep q_14 kk_8 dX6_readBoth_34 (by omega) (by decide) (by decide) (Nat.le_of_ble_eq_true rfl) rfl ?_
          refine v_istore_n dX6_readBoth_37 (by decide) ?_
          refine v_sub [(0, .ref (B + w0)), (2, .int s7.2.1), (3, .int r_12.1)] ⟨rfl, rfl, rfl, trivial⟩ ?_
          refine v_aload_n dX6_readBoth_38 rfl ?_
          replace h := p_bind_elim h
          obtain ⟨r_15, q_16, h⟩ := h
          refine v_cVr (hrc2 q_16) cal_X6_readPlain ml_X6_160 sel_X6_readPlain q_8 kk_6 dX6_readBoth_39 (by omega) (by decide) (by decide) (Nat.le_of_ble_eq_true rfl) rfl ?_
          refine v_istore_n dX6_readBoth_42 (by decide) ?_
          refine v_sub [(0, .ref (B + w0)), (1, .int r_15.1), (2, .int s7.2.1), (3, .int r_12.1)] ⟨rfl, rfl, rfl, rfl, trivial⟩ ?_
          refine v_aload_n dX6_readBoth_43 rfl ?_
          replace h := p_bind_elim h
          obtain ⟨a_17, q_18, h⟩ := h
          refine v_getR q_18 rfl fl_X6_14 dX6_readBoth_44 q_8 ?_
          refine v_iload_n dX6_readBoth_47 rfl ?_
          replace h := p_bind_elim h
          obtain ⟨_, q_21, h⟩ := h
          have q_21 := p_ob_spec q_21
          replace h := p_bind_elim h
          obtain ⟨r_19, q_20, h⟩ := h
          refine v_cVn (t_X8_aimHere q_20) cal_X8_aimHere ml_X6_156 sel_X8_aimHere q_21 kk_8 dX6_readBoth_48 (by omega) (by decide) (by decide) (Nat.le_of_ble_eq_true rfl) rfl ?_
          replace h := p_let_elim h
          obtain ⟨x_22, h_23, h⟩ := h
          refine v_iincE (1 : Int32) dX6_readBoth_51 (by decide) rfl (by decide) ?_
          rw [← h_23]
          refine v_sub [(0, .ref (B + w0)), (1, .int r_15.1), (2, .int x_22)] ⟨rfl, rfl, rfl, trivial⟩ ?_
          refine v_goto 7 dX6_readBoth_54 (by decide) ?_
          cases h
          refine v_sub [(0, .ref (B + w0)), (1, .int r_15.1), (2, .int x_22)] ⟨rfl, rfl, rfl, trivial⟩ ?_
          exact hk
  unfold f_X6_readBoth at h
  refine v_sub [(0, .ref (B + p0))] ⟨rfl, trivial⟩ ?_
  refine v_aload_n dX6_readBoth_0 rfl ?_
  replace h := p_bind_elim h
  obtain ⟨_, q_3, h⟩ := h
  have q_3 := p_ob_spec q_3
  replace h := p_bind_elim h
  obtain ⟨r_1, q_2, h⟩ := h
  refine v_cVr (hrc2 q_2) cal_X6_readPlain ml_X6_160 sel_X6_readPlain q_3 kk_6 dX6_readBoth_1 (by omega) (by decide) (by decide) (Nat.le_of_ble_eq_true rfl) rfl ?_
  refine v_istore_n dX6_readBoth_4 (by decide) ?_
  refine v_sub [(0, .ref (B + p0)), (1, .int r_1.1)] ⟨rfl, rfl, trivial⟩ ?_
  refine v_iconstE (0 : Int32) dX6_readBoth_5 (by decide) ?_
  refine v_istore_n dX6_readBoth_6 (by decide) ?_
  refine v_sub [(0, .ref (B + p0)), (1, .int r_1.1), (2, .int (0 : Int32))] ⟨rfl, rfl, rfl, trivial⟩ ?_
  replace h := p_bind_elim h
  obtain ⟨q_24, h_25, h⟩ := h
  refine v_sub [(0, .ref (B + p0)), (1, .int r_1.1), (2, .int (0 : Int32))] ⟨rfl, rfl, rfl, trivial⟩ ?_
  refine v_loopV (fun (sP : Int32 × Int32 × v_I) => V l B D ac (v_EE B wa wb wt sb sL sx) yX6_readBoth cX6_readBoth 4 (some .boolean) d 0 0 0 0 S sP.2.2 J F 7 [(0, .ref (B + p0)), (1, .int sP.1), (2, .int sP.2.1)] [] Q) (fun (rE : Int32 × Int32 × v_I) => V l B D ac (v_EE B wa wb wt sb sL sx) yX6_readBoth cX6_readBoth 4 (some .boolean) d 0 0 0 0 S rE.2.2 J F 57 [(1, .int rE.1)] [] Q) (fun s_ x_ hb hk => b7 _ s_ x_ hb hk) (r := q_24) ?_ h_25
  try dsimp only
  refine v_iload_n dX6_readBoth_57 rfl ?_
  replace h := p_bind_elim h
  obtain ⟨_, q_26, h⟩ := h
  cases h
  exact v_zret dX6_readBoth_58 rfl (p_bl_spec q_26).1 (by decide) (by decide) (by rw [← hQ]; exact ⟨rfl, rfl, rfl, rfl, rfl⟩)

def f_X6_readPlain_J4_30 (rc : Nat → Nat → Int32 → v_S → v_I → v_F → Option (Int32 × v_I)) (S : v_S) (F : v_F) (w0 : Nat) (I : v_I) (y2 : Int32) (z0 : Int32) : Option ((Int32 × Int32 × v_I) ⊕ (Int32 × Int32 × v_I)) :=
p_let (y2 + (1 : Int32)) fun x_7 =>
some (.inl (z0, x_7, I))
def f_X6_readPlain_B4 (rc : Nat → Nat → Int32 → v_S → v_I → v_F → Option (Int32 × v_I)) (S : v_S) (F : v_F) (w0 : Nat) (s4 : Int32 × Int32 × v_I) : Option ((Int32 × Int32 × v_I) ⊕ (Int32 × Int32 × v_I)) :=
if (400 : Int32) ≤ s4.2.1 then (
some (.inr (s4.1, s4.2.1, s4.2.2)))
else (
(p_ob S 6 w0).bind fun _ =>
(f_X6_take S s4.2.2 F w0 (268 : Int32)).bind fun r_2 =>
if r_2.1 = (0 : Int32) then (
some (.inr (s4.1, s4.2.1, r_2.2)))
else (
if s4.1 = (0 : Int32) then (
f_X6_readPlain_J4_30 rc S F w0 r_2.2 s4.2.1 (1 : Int32))
else (
f_X6_readPlain_J4_30 rc S F w0 r_2.2 s4.2.1 (0 : Int32))))
def f_X6_readPlain_J58 (rc : Nat → Nat → Int32 → v_S → v_I → v_F → Option (Int32 × v_I)) (S : v_S) (F : v_F) (I : v_I) (y0 : Nat) (y1 : Int32) (z0 : Int32) : Option (Int32 × v_I) :=
if z0 = (0 : Int32) then (
(p_bl z0).bind fun _ =>
some (z0, I))
else (
if y1 = (0 : Int32) then (
(p_bl z0).bind fun _ =>
some (z0, I))
else (
(p_ob S 6 y0).bind fun _ =>
(F y0 0).bind fun a_20 =>
(p_ob S 8 a_20).bind fun _ =>
(f_X8_addStep S I F a_20 (3 : Int32) (0 : Int32)).bind fun r_22 =>
(p_bl z0).bind fun _ =>
some (z0, r_22.2)))
def f_X6_readPlain_J37 (rc : Nat → Nat → Int32 → v_S → v_I → v_F → Option (Int32 × v_I)) (S : v_S) (F : v_F) (I : v_I) (y0 : Nat) (y1 : Int32) : Option (Int32 × v_I) :=
(p_ob S 6 y0).bind fun _ =>
if (I y0 5) = (40 : Int32) then (
(rc 7 y0 (1 : Int32) S I F).bind fun r_26 =>
f_X6_readPlain_J58 rc S F r_26.2 y0 y1 r_26.1)
else (
(rc 3 y0 0 S I F).bind fun r_13 =>
f_X6_readPlain_J58 rc S F r_13.2 y0 y1 r_13.1)
def f_X6_readPlain (rc : Nat → Nat → Int32 → v_S → v_I → v_F → Option (Int32 × v_I)) (S : v_S) (I : v_I) (F : v_F) (p0 : Nat) : Option (Int32 × v_I) :=
(v_loop (f_X6_readPlain_B4 rc S F p0) FU ((0 : Int32), (0 : Int32), I)).bind fun q_9 =>
f_X6_readPlain_J37 rc S F q_9.2.2 p0 q_9.1
set_option maxHeartbeats 4000000 in
set_option maxRecDepth 100000 in
theorem t_X6_readPlain {rc : Nat → Nat → Int32 → v_S → v_I → v_F → Option (Int32 × v_I)} {dd : Nat} (hK : 3 ≤ dd + 1) (hrc3 : ∀ {S : v_S} {I : v_I} {J : v_J} {F : v_F} {a : Nat} {r : Int32 × v_I}, rc 3 a 0 S I F = some r → v_R l B D ac (v_EE B wa wb wt sb sL sx) yX6_readComparison cX6_readComparison 3 (some .boolean) dd 0 0 [.ref (B + a)] S I J F (v_D (some (.int r.1)) S r.2 J F)) (hrc7 : ∀ {S : v_S} {I : v_I} {J : v_J} {F : v_F} {a : Nat} {b : Int32} {r : Int32 × v_I}, rc 7 a b S I F = some r → v_R l B D ac (v_EE B wa wb wt sb sL sx) yX6_readBrackets cX6_readBrackets 2 (some .boolean) dd 0 0 [.ref (B + a), .int b] S I J F (v_D (some (.int r.1)) S r.2 J F)) {p0 : Nat} {r : Int32 × v_I} (h : f_X6_readPlain rc S I F p0 = some r) : v_R l B D ac (v_EE B wa wb wt sb sL sx) yX6_readPlain cX6_readPlain 3 (some .boolean) (dd + 1) 0 0 [.ref (B + p0)] S I J F (v_D (some (.int r.1)) S r.2 J F) := by
  refine v_R.of (by decide) (Nat.le_of_ble_eq_true rfl) fun d hd => ?_
  generalize hQ : v_D (some (.int r.1)) S r.2 J F = Q
  have b4 : ∀ (w0 : Nat) (s4 : Int32 × Int32 × v_I) (rx4 : (Int32 × Int32 × v_I) ⊕ (Int32 × Int32 × v_I)), f_X6_readPlain_B4 rc S F w0 s4 = some rx4 → v_K (fun (sP : Int32 × Int32 × v_I) => V l B D ac (v_EE B wa wb wt sb sL sx) yX6_readPlain cX6_readPlain 3 (some .boolean) d 0 0 0 0 S sP.2.2 J F 4 [(0, .ref (B + w0)), (1, .int sP.1), (2, .int sP.2.1)] [] Q) (fun (rE : Int32 × Int32 × v_I) => V l B D ac (v_EE B wa wb wt sb sL sx) yX6_readPlain cX6_readPlain 3 (some .boolean) d 0 0 0 0 S rE.2.2 J F 37 [(0, .ref (B + w0)), (1, .int rE.1)] [] Q) rx4 → V l B D ac (v_EE B wa wb wt sb sL sx) yX6_readPlain cX6_readPlain 3 (some .boolean) d 0 0 0 0 S s4.2.2 J F 4 [(0, .ref (B + w0)), (1, .int s4.1), (2, .int s4.2.1)] [] Q := by
    intro w0 s4 rx4 h hk
    have j30 : ∀ (I : v_I) (y2 : Int32) (z0 : Int32), f_X6_readPlain_J4_30 rc S F w0 I y2 z0 = some rx4 → V l B D ac (v_EE B wa wb wt sb sL sx) yX6_readPlain cX6_readPlain 3 (some .boolean) d 0 0 0 0 S I J F 30 [(0, .ref (B + w0)), (2, .int y2)] [.int z0] Q := by
      intro I y2 z0 h
      unfold f_X6_readPlain_J4_30 at h
      refine v_istore_n dX6_readPlain_30 (by decide) ?_
      refine v_sub [(0, .ref (B + w0)), (1, .int z0), (2, .int y2)] ⟨rfl, rfl, rfl, trivial⟩ ?_
      replace h := p_let_elim h
      obtain ⟨x_7, h_8, h⟩ := h
      refine v_iincE (1 : Int32) dX6_readPlain_31 (by decide) rfl (by decide) ?_
      rw [← h_8]
      refine v_sub [(0, .ref (B + w0)), (1, .int z0), (2, .int x_7)] ⟨rfl, rfl, rfl, trivial⟩ ?_
      refine v_goto 4 dX6_readPlain_34 (by decide) ?_
      cases h
      refine v_sub [(0, .ref (B + w0)), (1, .int z0), (2, .int x_7)] ⟨rfl, rfl, rfl, trivial⟩ ?_
      exact hk
    unfold f_X6_readPlain_B4 at h
    refine v_iload_n dX6_readPlain_4 rfl ?_
    refine v_sipush (400 : Int32) dX6_readPlain_5 (by decide) ?_
    refine v_icmp_ge 37 dX6_readPlain_8 (by decide) (fun c_1 => ?_) (fun c_1 => ?_)
    · rw [if_pos c_1] at h
      cases h
      refine v_sub [(0, .ref (B + w0)), (1, .int s4.1)] ⟨rfl, rfl, trivial⟩ ?_
      exact hk
    · rw [if_neg c_1] at h
      refine v_aload_n dX6_readPlain_11 rfl ?_
      refine v_sipush (268 : Int32) dX6_readPlain_12 (by decide) ?_
      replace h := p_bind_elim h
      obtain ⟨_, q_4, h⟩ := h
      have q_4 := p_ob_spec q_4
      replace h := p_bind_elim h
      obtain ⟨r_2, q_3, h⟩ := h
      refine v_cVr (t_X6_take q_3) cal_X6_take ml_X6_122 sel_X6_take q_4 kk_6 dX6_readPlain_15 (by omega) (by decide) (by decide) (Nat.le_of_ble_eq_true rfl) rfl ?_
      refine v_if_eq 37 dX6_readPlain_18 (by decide) (fun c_5 => ?_) (fun c_5 => ?_)
      · rw [if_pos c_5] at h
        cases h
        refine v_sub [(0, .ref (B + w0)), (1, .int s4.1)] ⟨rfl, rfl, trivial⟩ ?_
        exact hk
      · rw [if_neg c_5] at h
        refine v_iload_n dX6_readPlain_21 rfl ?_
        refine v_if_ne 29 dX6_readPlain_22 (by decide) (fun c_6 => ?_) (fun c_6 => ?_)
        · rw [if_neg c_6] at h
          refine v_iconstE (0 : Int32) dX6_readPlain_29 (by decide) ?_
          refine v_sub [(0, .ref (B + w0)), (2, .int s4.2.1)] ⟨rfl, rfl, trivial⟩ ?_
          exact j30 _ _ _ h
        · rw [if_pos c_6] at h
          refine v_iconstE (1 : Int32) dX6_readPlain_25 (by decide) ?_
          refine v_goto 30 dX6_readPlain_26 (by decide) ?_
          refine v_sub [(0, .ref (B + w0)), (2, .int s4.2.1)] ⟨rfl, rfl, trivial⟩ ?_
          exact j30 _ _ _ h
  have j58 : ∀ (I : v_I) (y0 : Nat) (y1 : Int32) (z0 : Int32), f_X6_readPlain_J58 rc S F I y0 y1 z0 = some r → V l B D ac (v_EE B wa wb wt sb sL sx) yX6_readPlain cX6_readPlain 3 (some .boolean) d 0 0 0 0 S I J F 58 [(0, .ref (B + y0)), (1, .int y1)] [.int z0] Q := by
    intro I y0 y1 z0 h
    unfold f_X6_readPlain_J58 at h
    refine v_istore_n dX6_readPlain_58 (by decide) ?_
    refine v_sub [(0, .ref (B + y0)), (1, .int y1), (2, .int z0)] ⟨rfl, rfl, rfl, trivial⟩ ?_
    refine v_iload_n dX6_readPlain_59 rfl ?_
    refine v_if_eq 77 dX6_readPlain_60 (by decide) (fun c_15 => ?_) (fun c_15 => ?_)
    · rw [if_pos c_15] at h
      refine v_iload_n dX6_readPlain_77 rfl ?_
      replace h := p_bind_elim h
      obtain ⟨_, q_16, h⟩ := h
      cases h
      exact v_zret dX6_readPlain_78 rfl (p_bl_spec q_16).1 (by decide) (by decide) (by rw [← hQ]; exact ⟨rfl, rfl, rfl, rfl, rfl⟩)
    · rw [if_neg c_15] at h
      refine v_iload_n dX6_readPlain_63 rfl ?_
      refine v_if_eq 77 dX6_readPlain_64 (by decide) (fun c_17 => ?_) (fun c_17 => ?_)
      · rw [if_pos c_17] at h
        refine v_iload_n dX6_readPlain_77 rfl ?_
        replace h := p_bind_elim h
        obtain ⟨_, q_18, h⟩ := h
        cases h
        exact v_zret dX6_readPlain_78 rfl (p_bl_spec q_18).1 (by decide) (by decide) (by rw [← hQ]; exact ⟨rfl, rfl, rfl, rfl, rfl⟩)
      · rw [if_neg c_17] at h
        refine v_aload_n dX6_readPlain_67 rfl ?_
        replace h := p_bind_elim h
        obtain ⟨_, q_19, h⟩ := h
        have q_19 := p_ob_spec q_19
        replace h := p_bind_elim h
        obtain ⟨a_20, q_21, h⟩ := h
        refine v_getR q_21 rfl fl_X6_14 dX6_readPlain_68 q_19 ?_
        refine v_iconstE (3 : Int32) dX6_readPlain_71 (by decide) ?_
        refine v_iconstE (0 : Int32) dX6_readPlain_72 (by decide) ?_
        replace h := p_bind_elim h
        obtain ⟨_, q_24, h⟩ := h
        have q_24 := p_ob_spec q_24
        replace h := p_bind_elim h
        obtain ⟨r_22, q_23, h⟩ := h
        refine v_cVr (t_X8_addStep q_23) cal_X8_addStep ml_X6_134 sel_X8_addStep q_24 kk_8 dX6_readPlain_73 (by omega) (by decide) (by decide) (Nat.le_of_ble_eq_true rfl) rfl ?_
        refine v_pop dX6_readPlain_76 rfl ?_
        refine v_iload_n dX6_readPlain_77 rfl ?_
        replace h := p_bind_elim h
        obtain ⟨_, q_25, h⟩ := h
        cases h
        exact v_zret dX6_readPlain_78 rfl (p_bl_spec q_25).1 (by decide) (by decide) (by rw [← hQ]; exact ⟨rfl, rfl, rfl, rfl, rfl⟩)
  have j37 : ∀ (I : v_I) (y0 : Nat) (y1 : Int32), f_X6_readPlain_J37 rc S F I y0 y1 = some r → V l B D ac (v_EE B wa wb wt sb sL sx) yX6_readPlain cX6_readPlain 3 (some .boolean) d 0 0 0 0 S I J F 37 [(0, .ref (B + y0)), (1, .int y1)] [] Q := by
    intro I y0 y1 h
    unfold f_X6_readPlain_J37 at h
    refine v_aload_n dX6_readPlain_37 rfl ?_
    replace h := p_bind_elim h
    obtain ⟨_, q_11, h⟩ := h
    have q_11 := p_ob_spec q_11
    refine v_getI rfl fl_X6_34 dX6_readPlain_38 q_11 ?_
    refine v_bipush (40 : Int32) dX6_readPlain_41 (by decide) ?_
    refine v_icmp_ne 54 dX6_readPlain_43 (by decide) (fun c_12 => ?_) (fun c_12 => ?_)
    · rw [if_neg c_12] at h
      refine v_aload_n dX6_readPlain_54 rfl ?_
      replace h := p_bind_elim h
      obtain ⟨r_13, q_14, h⟩ := h
      refine v_cVr (hrc3 q_14) cal_X6_readComparison ml_X6_167 sel_X6_readComparison q_11 kk_6 dX6_readPlain_55 (by omega) (by decide) (by decide) (Nat.le_of_ble_eq_true rfl) rfl ?_
      refine v_sub [(0, .ref (B + y0)), (1, .int y1)] ⟨rfl, rfl, trivial⟩ ?_
      exact j58 _ _ _ _ h
    · rw [if_pos c_12] at h
      refine v_aload_n dX6_readPlain_46 rfl ?_
      refine v_iconstE (1 : Int32) dX6_readPlain_47 (by decide) ?_
      replace h := p_bind_elim h
      obtain ⟨r_26, q_27, h⟩ := h
      refine v_cVr (hrc7 q_27) cal_X6_readBrackets ml_X6_163 sel_X6_readBrackets q_11 kk_6 dX6_readPlain_48 (by omega) (by decide) (by decide) (Nat.le_of_ble_eq_true rfl) rfl ?_
      refine v_goto 58 dX6_readPlain_51 (by decide) ?_
      refine v_sub [(0, .ref (B + y0)), (1, .int y1)] ⟨rfl, rfl, trivial⟩ ?_
      exact j58 _ _ _ _ h
  unfold f_X6_readPlain at h
  refine v_sub [(0, .ref (B + p0))] ⟨rfl, trivial⟩ ?_
  refine v_iconstE (0 : Int32) dX6_readPlain_0 (by decide) ?_
  refine v_istore_n dX6_readPlain_1 (by decide) ?_
  refine v_sub [(0, .ref (B + p0)), (1, .int (0 : Int32))] ⟨rfl, rfl, trivial⟩ ?_
  refine v_iconstE (0 : Int32) dX6_readPlain_2 (by decide) ?_
  refine v_istore_n dX6_readPlain_3 (by decide) ?_
  refine v_sub [(0, .ref (B + p0)), (1, .int (0 : Int32)), (2, .int (0 : Int32))] ⟨rfl, rfl, rfl, trivial⟩ ?_
  replace h := p_bind_elim h
  obtain ⟨q_9, h_10, h⟩ := h
  refine v_sub [(0, .ref (B + p0)), (1, .int (0 : Int32)), (2, .int (0 : Int32))] ⟨rfl, rfl, rfl, trivial⟩ ?_
  refine v_loopV (fun (sP : Int32 × Int32 × v_I) => V l B D ac (v_EE B wa wb wt sb sL sx) yX6_readPlain cX6_readPlain 3 (some .boolean) d 0 0 0 0 S sP.2.2 J F 4 [(0, .ref (B + p0)), (1, .int sP.1), (2, .int sP.2.1)] [] Q) (fun (rE : Int32 × Int32 × v_I) => V l B D ac (v_EE B wa wb wt sb sL sx) yX6_readPlain cX6_readPlain 3 (some .boolean) d 0 0 0 0 S rE.2.2 J F 37 [(0, .ref (B + p0)), (1, .int rE.1)] [] Q) (fun s_ x_ hb hk => b4 _ s_ x_ hb hk) (r := q_9) ?_ h_10
  try dsimp only
  refine v_sub [(0, .ref (B + p0)), (1, .int q_9.1)] ⟨rfl, rfl, trivial⟩ ?_
  exact j37 _ _ _ h

def f_X6_readComparison_J60 (rc : Nat → Nat → Int32 → v_S → v_I → v_F → Option (Int32 × v_I)) (S : v_S) (F : v_F) (I : v_I) (y0 : Nat) (y1 : Int32) : Option (Int32 × v_I) :=
(p_ob S 6 y0).bind fun _ =>
(f_X6_nextToken S I F y0).bind fun r_8 =>
(rc 4 y0 0 S r_8 F).bind fun r_11 =>
(F y0 0).bind fun a_13 =>
(p_ob S 8 a_13).bind fun _ =>
(f_X8_addStep S r_11.2 F a_13 y1 (0 : Int32)).bind fun r_15 =>
(p_bl r_11.1).bind fun _ =>
some (r_11.1, r_15.2)
def f_X6_readComparison_J39 (rc : Nat → Nat → Int32 → v_S → v_I → v_F → Option (Int32 × v_I)) (S : v_S) (F : v_F) (I : v_I) (y0 : Nat) (z0 : Int32) : Option (Int32 × v_I) :=
if z0 = (8 : Int32) then (
(p_ob S 6 y0).bind fun _ =>
if (I y0 5) = (61 : Int32) then (
f_X6_readComparison_J60 rc S F I y0 z0)
else (
(f_X6_faultHere S I F y0).bind fun r_21 =>
(p_bl r_21.1).bind fun _ =>
some (r_21.1, r_21.2)))
else (
f_X6_readComparison_J60 rc S F I y0 z0)
def f_X6_readComparison (rc : Nat → Nat → Int32 → v_S → v_I → v_F → Option (Int32 × v_I)) (S : v_S) (I : v_I) (F : v_F) (p0 : Nat) : Option (Int32 × v_I) :=
(p_ob S 6 p0).bind fun _ =>
(rc 4 p0 0 S I F).bind fun r_1 =>
if r_1.1 = (0 : Int32) then (
some ((0 : Int32), r_1.2))
else (
if (r_1.2 p0 5) = (60 : Int32) then (
f_X6_readComparison_J39 rc S F r_1.2 p0 (6 : Int32))
else (
if (r_1.2 p0 5) = (62 : Int32) then (
f_X6_readComparison_J39 rc S F r_1.2 p0 (7 : Int32))
else (
f_X6_readComparison_J39 rc S F r_1.2 p0 (8 : Int32))))
set_option maxHeartbeats 4000000 in
set_option maxRecDepth 100000 in
theorem t_X6_readComparison {rc : Nat → Nat → Int32 → v_S → v_I → v_F → Option (Int32 × v_I)} {dd : Nat} (hK : 3 ≤ dd + 1) (hrc4 : ∀ {S : v_S} {I : v_I} {J : v_J} {F : v_F} {a : Nat} {r : Int32 × v_I}, rc 4 a 0 S I F = some r → v_R l B D ac (v_EE B wa wb wt sb sL sx) yX6_readSum cX6_readSum 4 (some .boolean) dd 0 0 [.ref (B + a)] S I J F (v_D (some (.int r.1)) S r.2 J F)) {p0 : Nat} {r : Int32 × v_I} (h : f_X6_readComparison rc S I F p0 = some r) : v_R l B D ac (v_EE B wa wb wt sb sL sx) yX6_readComparison cX6_readComparison 3 (some .boolean) (dd + 1) 0 0 [.ref (B + p0)] S I J F (v_D (some (.int r.1)) S r.2 J F) := by
  refine v_R.of (by decide) (Nat.le_of_ble_eq_true rfl) fun d hd => ?_
  generalize hQ : v_D (some (.int r.1)) S r.2 J F = Q
  have j60 : ∀ (I : v_I) (y0 : Nat) (y1 : Int32), f_X6_readComparison_J60 rc S F I y0 y1 = some r → V l B D ac (v_EE B wa wb wt sb sL sx) yX6_readComparison cX6_readComparison 3 (some .boolean) d 0 0 0 0 S I J F 60 [(0, .ref (B + y0)), (1, .int y1)] [] Q := by
    intro I y0 y1 h
    unfold f_X6_readComparison_J60 at h
    refine v_aload_n dX6_readComparison_60 rfl ?_
    replace h := p_bind_elim h
    obtain ⟨_, q_10, h⟩ := h
    have q_10 := p_ob_spec q_10
    replace h := p_bind_elim h
    obtain ⟨r_8, q_9, h⟩ := h
    refine v_cVn (t_X6_nextToken q_9) cal_X6_nextToken ml_X6_70 sel_X6_nextToken q_10 kk_6 dX6_readComparison_61 (by omega) (by decide) (by decide) (Nat.le_of_ble_eq_true rfl) rfl ?_
    refine v_aload_n dX6_readComparison_64 rfl ?_
    replace h := p_bind_elim h
    obtain ⟨r_11, q_12, h⟩ := h
    refine v_cVr (hrc4 q_12) cal_X6_readSum ml_X6_140 sel_X6_readSum q_10 kk_6 dX6_readComparison_65 (by omega) (by decide) (by decide) (Nat.le_of_ble_eq_true rfl) rfl ?_
    refine v_istore_n dX6_readComparison_68 (by decide) ?_
    refine v_sub [(0, .ref (B + y0)), (1, .int y1), (2, .int r_11.1)] ⟨rfl, rfl, rfl, trivial⟩ ?_
    refine v_aload_n dX6_readComparison_69 rfl ?_
    replace h := p_bind_elim h
    obtain ⟨a_13, q_14, h⟩ := h
    refine v_getR q_14 rfl fl_X6_14 dX6_readComparison_70 q_10 ?_
    refine v_iload_n dX6_readComparison_73 rfl ?_
    refine v_iconstE (0 : Int32) dX6_readComparison_74 (by decide) ?_
    replace h := p_bind_elim h
    obtain ⟨_, q_17, h⟩ := h
    have q_17 := p_ob_spec q_17
    replace h := p_bind_elim h
    obtain ⟨r_15, q_16, h⟩ := h
    refine v_cVr (t_X8_addStep q_16) cal_X8_addStep ml_X6_134 sel_X8_addStep q_17 kk_8 dX6_readComparison_75 (by omega) (by decide) (by decide) (Nat.le_of_ble_eq_true rfl) rfl ?_
    refine v_pop dX6_readComparison_78 rfl ?_
    refine v_iload_n dX6_readComparison_79 rfl ?_
    replace h := p_bind_elim h
    obtain ⟨_, q_18, h⟩ := h
    cases h
    exact v_zret dX6_readComparison_80 rfl (p_bl_spec q_18).1 (by decide) (by decide) (by rw [← hQ]; exact ⟨rfl, rfl, rfl, rfl, rfl⟩)
  have j39 : ∀ (I : v_I) (y0 : Nat) (z0 : Int32), f_X6_readComparison_J39 rc S F I y0 z0 = some r → V l B D ac (v_EE B wa wb wt sb sL sx) yX6_readComparison cX6_readComparison 3 (some .boolean) d 0 0 0 0 S I J F 39 [(0, .ref (B + y0))] [.int z0] Q := by
    intro I y0 z0 h
    unfold f_X6_readComparison_J39 at h
    refine v_istore_n dX6_readComparison_39 (by decide) ?_
    refine v_sub [(0, .ref (B + y0)), (1, .int z0)] ⟨rfl, rfl, trivial⟩ ?_
    refine v_iload_n dX6_readComparison_40 rfl ?_
    refine v_bipush (8 : Int32) dX6_readComparison_41 (by decide) ?_
    refine v_icmp_ne 60 dX6_readComparison_43 (by decide) (fun c_7 => ?_) (fun c_7 => ?_)
    · rw [if_neg c_7] at h
      refine v_sub [(0, .ref (B + y0)), (1, .int z0)] ⟨rfl, rfl, trivial⟩ ?_
      exact j60 _ _ _ h
    · rw [if_pos c_7] at h
      refine v_aload_n dX6_readComparison_46 rfl ?_
      replace h := p_bind_elim h
      obtain ⟨_, q_19, h⟩ := h
      have q_19 := p_ob_spec q_19
      refine v_getI rfl fl_X6_34 dX6_readComparison_47 q_19 ?_
      refine v_bipush (61 : Int32) dX6_readComparison_50 (by decide) ?_
      refine v_icmp_eq 60 dX6_readComparison_52 (by decide) (fun c_20 => ?_) (fun c_20 => ?_)
      · rw [if_pos c_20] at h
        refine v_sub [(0, .ref (B + y0)), (1, .int z0)] ⟨rfl, rfl, trivial⟩ ?_
        exact j60 _ _ _ h
      · rw [if_neg c_20] at h
        refine v_aload_n dX6_readComparison_55 rfl ?_
        replace h := p_bind_elim h
        obtain ⟨r_21, q_22, h⟩ := h
        refine v_cVr (t_X6_faultHere q_22) cal_X6_faultHere ml_X6_73 sel_X6_faultHere q_19 kk_6 dX6_readComparison_56 (by omega) (by decide) (by decide) (Nat.le_of_ble_eq_true rfl) rfl ?_
        replace h := p_bind_elim h
        obtain ⟨_, q_23, h⟩ := h
        cases h
        exact v_zret dX6_readComparison_59 rfl (p_bl_spec q_23).1 (by decide) (by decide) (by rw [← hQ]; exact ⟨rfl, rfl, rfl, rfl, rfl⟩)
  unfold f_X6_readComparison at h
  refine v_sub [(0, .ref (B + p0))] ⟨rfl, trivial⟩ ?_
  refine v_aload_n dX6_readComparison_0 rfl ?_
  replace h := p_bind_elim h
  obtain ⟨_, q_3, h⟩ := h
  have q_3 := p_ob_spec q_3
  replace h := p_bind_elim h
  obtain ⟨r_1, q_2, h⟩ := h
  refine v_cVr (hrc4 q_2) cal_X6_readSum ml_X6_140 sel_X6_readSum q_3 kk_6 dX6_readComparison_1 (by omega) (by decide) (by decide) (Nat.le_of_ble_eq_true rfl) rfl ?_
  refine v_if_ne 9 dX6_readComparison_4 (by decide) (fun c_4 => ?_) (fun c_4 => ?_)
  · rw [if_neg c_4] at h
    refine v_aload_n dX6_readComparison_9 rfl ?_
    refine v_getI rfl fl_X6_34 dX6_readComparison_10 q_3 ?_
    refine v_bipush (60 : Int32) dX6_readComparison_13 (by decide) ?_
    refine v_icmp_ne 23 dX6_readComparison_15 (by decide) (fun c_5 => ?_) (fun c_5 => ?_)
    · rw [if_neg c_5] at h
      refine v_aload_n dX6_readComparison_23 rfl ?_
      refine v_getI rfl fl_X6_34 dX6_readComparison_24 q_3 ?_
      refine v_bipush (62 : Int32) dX6_readComparison_27 (by decide) ?_
      refine v_icmp_ne 37 dX6_readComparison_29 (by decide) (fun c_6 => ?_) (fun c_6 => ?_)
      · rw [if_neg c_6] at h
        refine v_bipush (8 : Int32) dX6_readComparison_37 (by decide) ?_
        refine v_sub [(0, .ref (B + p0))] ⟨rfl, trivial⟩ ?_
        exact j39 _ _ _ h
      · rw [if_pos c_6] at h
        refine v_bipush (7 : Int32) dX6_readComparison_32 (by decide) ?_
        refine v_goto 39 dX6_readComparison_34 (by decide) ?_
        refine v_sub [(0, .ref (B + p0))] ⟨rfl, trivial⟩ ?_
        exact j39 _ _ _ h
    · rw [if_pos c_5] at h
      refine v_bipush (6 : Int32) dX6_readComparison_18 (by decide) ?_
      refine v_goto 39 dX6_readComparison_20 (by decide) ?_
      refine v_sub [(0, .ref (B + p0))] ⟨rfl, trivial⟩ ?_
      exact j39 _ _ _ h
  · rw [if_pos c_4] at h
    refine v_iconstE (0 : Int32) dX6_readComparison_7 (by decide) ?_
    cases h
    exact v_zret dX6_readComparison_8 rfl rfl (by decide) (by decide) (by rw [← hQ]; exact ⟨rfl, rfl, rfl, rfl, rfl⟩)

def f_X6_readSum_J7_52 (rc : Nat → Nat → Int32 → v_S → v_I → v_F → Option (Int32 × v_I)) (S : v_S) (F : v_F) (w0 : Nat) (I : v_I) (y2 : Int32) (z0 : Int32) : Option ((Int32 × Int32 × v_I) ⊕ (Int32 × Int32 × v_I)) :=
(p_ob S 6 w0).bind fun _ =>
(f_X6_nextToken S I F w0).bind fun r_10 =>
(rc 5 w0 0 S r_10 F).bind fun r_13 =>
(F w0 0).bind fun a_15 =>
(p_ob S 8 a_15).bind fun _ =>
(f_X8_addStep S r_13.2 F a_15 z0 (0 : Int32)).bind fun r_17 =>
p_let (y2 + (1 : Int32)) fun x_20 =>
some (.inl (r_13.1, x_20, r_17.2))
def f_X6_readSum_J7_36 (rc : Nat → Nat → Int32 → v_S → v_I → v_F → Option (Int32 × v_I)) (S : v_S) (F : v_F) (w0 : Nat) (I : v_I) (y2 : Int32) : Option ((Int32 × Int32 × v_I) ⊕ (Int32 × Int32 × v_I)) :=
(p_ob S 6 w0).bind fun _ =>
if (I w0 5) = (43 : Int32) then (
f_X6_readSum_J7_52 rc S F w0 I y2 (9 : Int32))
else (
f_X6_readSum_J7_52 rc S F w0 I y2 (10 : Int32))
def f_X6_readSum_B7 (rc : Nat → Nat → Int32 → v_S → v_I → v_F → Option (Int32 × v_I)) (S : v_S) (F : v_F) (w0 : Nat) (s7 : Int32 × Int32 × v_I) : Option ((Int32 × Int32 × v_I) ⊕ (Int32 × Int32 × v_I)) :=
if (400 : Int32) ≤ s7.2.1 then (
some (.inr (s7.1, s7.2.1, s7.2.2)))
else (
if s7.1 = (0 : Int32) then (
some (.inr (s7.1, s7.2.1, s7.2.2)))
else (
(p_ob S 6 w0).bind fun _ =>
if (s7.2.2 w0 5) = (43 : Int32) then (
f_X6_readSum_J7_36 rc S F w0 s7.2.2 s7.2.1)
else (
if (s7.2.2 w0 5) = (45 : Int32) then (
f_X6_readSum_J7_36 rc S F w0 s7.2.2 s7.2.1)
else (
some (.inr (s7.1, s7.2.1, s7.2.2))))))
def f_X6_readSum (rc : Nat → Nat → Int32 → v_S → v_I → v_F → Option (Int32 × v_I)) (S : v_S) (I : v_I) (F : v_F) (p0 : Nat) : Option (Int32 × v_I) :=
(p_ob S 6 p0).bind fun _ =>
(rc 5 p0 0 S I F).bind fun r_1 =>
(v_loop (f_X6_readSum_B7 rc S F p0) FU (r_1.1, (0 : Int32), r_1.2)).bind fun q_23 =>
(p_bl q_23.1).bind fun _ =>
some (q_23.1, q_23.2.2)
set_option maxHeartbeats 4000000 in
set_option maxRecDepth 100000 in
theorem t_X6_readSum {rc : Nat → Nat → Int32 → v_S → v_I → v_F → Option (Int32 × v_I)} {dd : Nat} (hK : 3 ≤ dd + 1) (hrc5 : ∀ {S : v_S} {I : v_I} {J : v_J} {F : v_F} {a : Nat} {r : Int32 × v_I}, rc 5 a 0 S I F = some r → v_R l B D ac (v_EE B wa wb wt sb sL sx) yX6_readTerm cX6_readTerm 4 (some .boolean) dd 0 0 [.ref (B + a)] S I J F (v_D (some (.int r.1)) S r.2 J F)) {p0 : Nat} {r : Int32 × v_I} (h : f_X6_readSum rc S I F p0 = some r) : v_R l B D ac (v_EE B wa wb wt sb sL sx) yX6_readSum cX6_readSum 4 (some .boolean) (dd + 1) 0 0 [.ref (B + p0)] S I J F (v_D (some (.int r.1)) S r.2 J F) := by
  refine v_R.of (by decide) (Nat.le_of_ble_eq_true rfl) fun d hd => ?_
  generalize hQ : v_D (some (.int r.1)) S r.2 J F = Q
  have b7 : ∀ (w0 : Nat) (s7 : Int32 × Int32 × v_I) (rx7 : (Int32 × Int32 × v_I) ⊕ (Int32 × Int32 × v_I)), f_X6_readSum_B7 rc S F w0 s7 = some rx7 → v_K (fun (sP : Int32 × Int32 × v_I) => V l B D ac (v_EE B wa wb wt sb sL sx) yX6_readSum cX6_readSum 4 (some .boolean) d 0 0 0 0 S sP.2.2 J F 7 [(0, .ref (B + w0)), (1, .int sP.1), (2, .int sP.2.1)] [] Q) (fun (rE : Int32 × Int32 × v_I) => V l B D ac (v_EE B wa wb wt sb sL sx) yX6_readSum cX6_readSum 4 (some .boolean) d 0 0 0 0 S rE.2.2 J F 78 [(1, .int rE.1)] [] Q) rx7 → V l B D ac (v_EE B wa wb wt sb sL sx) yX6_readSum cX6_readSum 4 (some .boolean) d 0 0 0 0 S s7.2.2 J F 7 [(0, .ref (B + w0)), (1, .int s7.1), (2, .int s7.2.1)] [] Q := by
    intro w0 s7 rx7 h hk
    have j52 : ∀ (I : v_I) (y2 : Int32) (z0 : Int32), f_X6_readSum_J7_52 rc S F w0 I y2 z0 = some rx7 → V l B D ac (v_EE B wa wb wt sb sL sx) yX6_readSum cX6_readSum 4 (some .boolean) d 0 0 0 0 S I J F 52 [(0, .ref (B + w0)), (2, .int y2)] [.int z0] Q := by
      intro I y2 z0 h
      unfold f_X6_readSum_J7_52 at h
      refine v_istore_n dX6_readSum_52 (by decide) ?_
      refine v_sub [(0, .ref (B + w0)), (2, .int y2), (3, .int z0)] ⟨rfl, rfl, rfl, trivial⟩ ?_
      refine v_aload_n dX6_readSum_53 rfl ?_
      replace h := p_bind_elim h
      obtain ⟨_, q_12, h⟩ := h
      have q_12 := p_ob_spec q_12
      replace h := p_bind_elim h
      obtain ⟨r_10, q_11, h⟩ := h
      refine v_cVn (t_X6_nextToken q_11) cal_X6_nextToken ml_X6_70 sel_X6_nextToken q_12 kk_6 dX6_readSum_54 (by omega) (by decide) (by decide) (Nat.le_of_ble_eq_true rfl) rfl ?_
      refine v_aload_n dX6_readSum_57 rfl ?_
      replace h := p_bind_elim h
      obtain ⟨r_13, q_14, h⟩ := h
      refine v_cVr (hrc5 q_14) cal_X6_readTerm ml_X6_170 sel_X6_readTerm q_12 kk_6 dX6_readSum_58 (by omega) (by decide) (by decide) (Nat.le_of_ble_eq_true rfl) rfl ?_
      refine v_istore_n dX6_readSum_61 (by decide) ?_
      refine v_sub [(0, .ref (B + w0)), (1, .int r_13.1), (2, .int y2), (3, .int z0)] ⟨rfl, rfl, rfl, rfl, trivial⟩ ?_
      refine v_aload_n dX6_readSum_62 rfl ?_
      replace h := p_bind_elim h
      obtain ⟨a_15, q_16, h⟩ := h
      refine v_getR q_16 rfl fl_X6_14 dX6_readSum_63 q_12 ?_
      refine v_iload_n dX6_readSum_66 rfl ?_
      refine v_iconstE (0 : Int32) dX6_readSum_67 (by decide) ?_
      replace h := p_bind_elim h
      obtain ⟨_, q_19, h⟩ := h
      have q_19 := p_ob_spec q_19
      replace h := p_bind_elim h
      obtain ⟨r_17, q_18, h⟩ := h
      refine v_cVr (t_X8_addStep q_18) cal_X8_addStep ml_X6_134 sel_X8_addStep q_19 kk_8 dX6_readSum_68 (by omega) (by decide) (by decide) (Nat.le_of_ble_eq_true rfl) rfl ?_
      refine v_pop dX6_readSum_71 rfl ?_
      replace h := p_let_elim h
      obtain ⟨x_20, h_21, h⟩ := h
      refine v_iincE (1 : Int32) dX6_readSum_72 (by decide) rfl (by decide) ?_
      rw [← h_21]
      refine v_sub [(0, .ref (B + w0)), (1, .int r_13.1), (2, .int x_20)] ⟨rfl, rfl, rfl, trivial⟩ ?_
      refine v_goto 7 dX6_readSum_75 (by decide) ?_
      cases h
      refine v_sub [(0, .ref (B + w0)), (1, .int r_13.1), (2, .int x_20)] ⟨rfl, rfl, rfl, trivial⟩ ?_
      exact hk
    have j36 : ∀ (I : v_I) (y2 : Int32), f_X6_readSum_J7_36 rc S F w0 I y2 = some rx7 → V l B D ac (v_EE B wa wb wt sb sL sx) yX6_readSum cX6_readSum 4 (some .boolean) d 0 0 0 0 S I J F 36 [(0, .ref (B + w0)), (2, .int y2)] [] Q := by
      intro I y2 h
      unfold f_X6_readSum_J7_36 at h
      refine v_aload_n dX6_readSum_36 rfl ?_
      replace h := p_bind_elim h
      obtain ⟨_, q_8, h⟩ := h
      have q_8 := p_ob_spec q_8
      refine v_getI rfl fl_X6_34 dX6_readSum_37 q_8 ?_
      refine v_bipush (43 : Int32) dX6_readSum_40 (by decide) ?_
      refine v_icmp_ne 50 dX6_readSum_42 (by decide) (fun c_9 => ?_) (fun c_9 => ?_)
      · rw [if_neg c_9] at h
        refine v_bipush (10 : Int32) dX6_readSum_50 (by decide) ?_
        refine v_sub [(0, .ref (B + w0)), (2, .int y2)] ⟨rfl, rfl, trivial⟩ ?_
        exact j52 _ _ _ h
      · rw [if_pos c_9] at h
        refine v_bipush (9 : Int32) dX6_readSum_45 (by decide) ?_
        refine v_goto 52 dX6_readSum_47 (by decide) ?_
        refine v_sub [(0, .ref (B + w0)), (2, .int y2)] ⟨rfl, rfl, trivial⟩ ?_
        exact j52 _ _ _ h
    unfold f_X6_readSum_B7 at h
    refine v_iload_n dX6_readSum_7 rfl ?_
    refine v_sipush (400 : Int32) dX6_readSum_8 (by decide) ?_
    refine v_icmp_ge 78 dX6_readSum_11 (by decide) (fun c_4 => ?_) (fun c_4 => ?_)
    · rw [if_pos c_4] at h
      cases h
      refine v_sub [(1, .int s7.1)] ⟨rfl, trivial⟩ ?_
      exact hk
    · rw [if_neg c_4] at h
      refine v_iload_n dX6_readSum_14 rfl ?_
      refine v_if_eq 78 dX6_readSum_15 (by decide) (fun c_5 => ?_) (fun c_5 => ?_)
      · rw [if_pos c_5] at h
        cases h
        refine v_sub [(1, .int s7.1)] ⟨rfl, trivial⟩ ?_
        exact hk
      · rw [if_neg c_5] at h
        refine v_aload_n dX6_readSum_18 rfl ?_
        replace h := p_bind_elim h
        obtain ⟨_, q_6, h⟩ := h
        have q_6 := p_ob_spec q_6
        refine v_getI rfl fl_X6_34 dX6_readSum_19 q_6 ?_
        refine v_bipush (43 : Int32) dX6_readSum_22 (by decide) ?_
        refine v_icmp_eq 36 dX6_readSum_24 (by decide) (fun c_7 => ?_) (fun c_7 => ?_)
        · rw [if_pos c_7] at h
          refine v_sub [(0, .ref (B + w0)), (2, .int s7.2.1)] ⟨rfl, rfl, trivial⟩ ?_
          exact j36 _ _ h
        · rw [if_neg c_7] at h
          refine v_aload_n dX6_readSum_27 rfl ?_
          refine v_getI rfl fl_X6_34 dX6_readSum_28 q_6 ?_
          refine v_bipush (45 : Int32) dX6_readSum_31 (by decide) ?_
          refine v_icmp_ne 78 dX6_readSum_33 (by decide) (fun c_22 => ?_) (fun c_22 => ?_)
          · rw [if_neg c_22] at h
            cases h
            refine v_sub [(1, .int s7.1)] ⟨rfl, trivial⟩ ?_
            exact hk
          · rw [if_pos c_22] at h
            refine v_sub [(0, .ref (B + w0)), (2, .int s7.2.1)] ⟨rfl, rfl, trivial⟩ ?_
            exact j36 _ _ h
  unfold f_X6_readSum at h
  refine v_sub [(0, .ref (B + p0))] ⟨rfl, trivial⟩ ?_
  refine v_aload_n dX6_readSum_0 rfl ?_
  replace h := p_bind_elim h
  obtain ⟨_, q_3, h⟩ := h
  have q_3 := p_ob_spec q_3
  replace h := p_bind_elim h
  obtain ⟨r_1, q_2, h⟩ := h
  refine v_cVr (hrc5 q_2) cal_X6_readTerm ml_X6_170 sel_X6_readTerm q_3 kk_6 dX6_readSum_1 (by omega) (by decide) (by decide) (Nat.le_of_ble_eq_true rfl) rfl ?_
  refine v_istore_n dX6_readSum_4 (by decide) ?_
  refine v_sub [(0, .ref (B + p0)), (1, .int r_1.1)] ⟨rfl, rfl, trivial⟩ ?_
  refine v_iconstE (0 : Int32) dX6_readSum_5 (by decide) ?_
  refine v_istore_n dX6_readSum_6 (by decide) ?_
  refine v_sub [(0, .ref (B + p0)), (1, .int r_1.1), (2, .int (0 : Int32))] ⟨rfl, rfl, rfl, trivial⟩ ?_
  replace h := p_bind_elim h
  obtain ⟨q_23, h_24, h⟩ := h
  refine v_sub [(0, .ref (B + p0)), (1, .int r_1.1), (2, .int (0 : Int32))] ⟨rfl, rfl, rfl, trivial⟩ ?_
  refine v_loopV (fun (sP : Int32 × Int32 × v_I) => V l B D ac (v_EE B wa wb wt sb sL sx) yX6_readSum cX6_readSum 4 (some .boolean) d 0 0 0 0 S sP.2.2 J F 7 [(0, .ref (B + p0)), (1, .int sP.1), (2, .int sP.2.1)] [] Q) (fun (rE : Int32 × Int32 × v_I) => V l B D ac (v_EE B wa wb wt sb sL sx) yX6_readSum cX6_readSum 4 (some .boolean) d 0 0 0 0 S rE.2.2 J F 78 [(1, .int rE.1)] [] Q) (fun s_ x_ hb hk => b7 _ s_ x_ hb hk) (r := q_23) ?_ h_24
  try dsimp only
  refine v_iload_n dX6_readSum_78 rfl ?_
  replace h := p_bind_elim h
  obtain ⟨_, q_25, h⟩ := h
  cases h
  exact v_zret dX6_readSum_79 rfl (p_bl_spec q_25).1 (by decide) (by decide) (by rw [← hQ]; exact ⟨rfl, rfl, rfl, rfl, rfl⟩)

def f_X6_readTerm_J7_75 (rc : Nat → Nat → Int32 → v_S → v_I → v_F → Option (Int32 × v_I)) (S : v_S) (F : v_F) (w0 : Nat) (I : v_I) (y2 : Int32) (z0 : Int32) : Option ((Int32 × Int32 × v_I) ⊕ (Int32 × Int32 × v_I)) :=
(p_ob S 6 w0).bind fun _ =>
(f_X6_nextToken S I F w0).bind fun r_11 =>
(rc 6 w0 0 S r_11 F).bind fun r_14 =>
(F w0 0).bind fun a_16 =>
(p_ob S 8 a_16).bind fun _ =>
(f_X8_addStep S r_14.2 F a_16 z0 (0 : Int32)).bind fun r_18 =>
p_let (y2 + (1 : Int32)) fun x_21 =>
some (.inl (r_14.1, x_21, r_18.2))
def f_X6_readTerm_J7_45 (rc : Nat → Nat → Int32 → v_S → v_I → v_F → Option (Int32 × v_I)) (S : v_S) (F : v_F) (w0 : Nat) (I : v_I) (y2 : Int32) : Option ((Int32 × Int32 × v_I) ⊕ (Int32 × Int32 × v_I)) :=
(p_ob S 6 w0).bind fun _ =>
if (I w0 5) = (42 : Int32) then (
f_X6_readTerm_J7_75 rc S F w0 I y2 (11 : Int32))
else (
if (I w0 5) = (47 : Int32) then (
f_X6_readTerm_J7_75 rc S F w0 I y2 (12 : Int32))
else (
f_X6_readTerm_J7_75 rc S F w0 I y2 (13 : Int32)))
def f_X6_readTerm_B7 (rc : Nat → Nat → Int32 → v_S → v_I → v_F → Option (Int32 × v_I)) (S : v_S) (F : v_F) (w0 : Nat) (s7 : Int32 × Int32 × v_I) : Option ((Int32 × Int32 × v_I) ⊕ (Int32 × Int32 × v_I)) :=
if (400 : Int32) ≤ s7.2.1 then (
some (.inr (s7.1, s7.2.1, s7.2.2)))
else (
if s7.1 = (0 : Int32) then (
some (.inr (s7.1, s7.2.1, s7.2.2)))
else (
(p_ob S 6 w0).bind fun _ =>
if (s7.2.2 w0 5) = (42 : Int32) then (
f_X6_readTerm_J7_45 rc S F w0 s7.2.2 s7.2.1)
else (
if (s7.2.2 w0 5) = (47 : Int32) then (
f_X6_readTerm_J7_45 rc S F w0 s7.2.2 s7.2.1)
else (
if (s7.2.2 w0 5) = (37 : Int32) then (
f_X6_readTerm_J7_45 rc S F w0 s7.2.2 s7.2.1)
else (
some (.inr (s7.1, s7.2.1, s7.2.2)))))))
def f_X6_readTerm (rc : Nat → Nat → Int32 → v_S → v_I → v_F → Option (Int32 × v_I)) (S : v_S) (I : v_I) (F : v_F) (p0 : Nat) : Option (Int32 × v_I) :=
(p_ob S 6 p0).bind fun _ =>
(rc 6 p0 0 S I F).bind fun r_1 =>
(v_loop (f_X6_readTerm_B7 rc S F p0) FU (r_1.1, (0 : Int32), r_1.2)).bind fun q_25 =>
(p_bl q_25.1).bind fun _ =>
some (q_25.1, q_25.2.2)
set_option maxHeartbeats 4000000 in
set_option maxRecDepth 100000 in
theorem t_X6_readTerm {rc : Nat → Nat → Int32 → v_S → v_I → v_F → Option (Int32 × v_I)} {dd : Nat} (hK : 3 ≤ dd + 1) (hrc6 : ∀ {S : v_S} {I : v_I} {J : v_J} {F : v_F} {a : Nat} {r : Int32 × v_I}, rc 6 a 0 S I F = some r → v_R l B D ac (v_EE B wa wb wt sb sL sx) yX6_readPart cX6_readPart 4 (some .boolean) dd 0 0 [.ref (B + a)] S I J F (v_D (some (.int r.1)) S r.2 J F)) {p0 : Nat} {r : Int32 × v_I} (h : f_X6_readTerm rc S I F p0 = some r) : v_R l B D ac (v_EE B wa wb wt sb sL sx) yX6_readTerm cX6_readTerm 4 (some .boolean) (dd + 1) 0 0 [.ref (B + p0)] S I J F (v_D (some (.int r.1)) S r.2 J F) := by
  refine v_R.of (by decide) (Nat.le_of_ble_eq_true rfl) fun d hd => ?_
  generalize hQ : v_D (some (.int r.1)) S r.2 J F = Q
  have b7 : ∀ (w0 : Nat) (s7 : Int32 × Int32 × v_I) (rx7 : (Int32 × Int32 × v_I) ⊕ (Int32 × Int32 × v_I)), f_X6_readTerm_B7 rc S F w0 s7 = some rx7 → v_K (fun (sP : Int32 × Int32 × v_I) => V l B D ac (v_EE B wa wb wt sb sL sx) yX6_readTerm cX6_readTerm 4 (some .boolean) d 0 0 0 0 S sP.2.2 J F 7 [(0, .ref (B + w0)), (1, .int sP.1), (2, .int sP.2.1)] [] Q) (fun (rE : Int32 × Int32 × v_I) => V l B D ac (v_EE B wa wb wt sb sL sx) yX6_readTerm cX6_readTerm 4 (some .boolean) d 0 0 0 0 S rE.2.2 J F 101 [(1, .int rE.1)] [] Q) rx7 → V l B D ac (v_EE B wa wb wt sb sL sx) yX6_readTerm cX6_readTerm 4 (some .boolean) d 0 0 0 0 S s7.2.2 J F 7 [(0, .ref (B + w0)), (1, .int s7.1), (2, .int s7.2.1)] [] Q := by
    intro w0 s7 rx7 h hk
    have j75 : ∀ (I : v_I) (y2 : Int32) (z0 : Int32), f_X6_readTerm_J7_75 rc S F w0 I y2 z0 = some rx7 → V l B D ac (v_EE B wa wb wt sb sL sx) yX6_readTerm cX6_readTerm 4 (some .boolean) d 0 0 0 0 S I J F 75 [(0, .ref (B + w0)), (2, .int y2)] [.int z0] Q := by
      intro I y2 z0 h
      unfold f_X6_readTerm_J7_75 at h
      refine v_istore_n dX6_readTerm_75 (by decide) ?_
      refine v_sub [(0, .ref (B + w0)), (2, .int y2), (3, .int z0)] ⟨rfl, rfl, rfl, trivial⟩ ?_
      refine v_aload_n dX6_readTerm_76 rfl ?_
      replace h := p_bind_elim h
      obtain ⟨_, q_13, h⟩ := h
      have q_13 := p_ob_spec q_13
      replace h := p_bind_elim h
      obtain ⟨r_11, q_12, h⟩ := h
      refine v_cVn (t_X6_nextToken q_12) cal_X6_nextToken ml_X6_70 sel_X6_nextToken q_13 kk_6 dX6_readTerm_77 (by omega) (by decide) (by decide) (Nat.le_of_ble_eq_true rfl) rfl ?_
      refine v_aload_n dX6_readTerm_80 rfl ?_
      replace h := p_bind_elim h
      obtain ⟨r_14, q_15, h⟩ := h
      refine v_cVr (hrc6 q_15) cal_X6_readPart ml_X6_173 sel_X6_readPart q_13 kk_6 dX6_readTerm_81 (by omega) (by decide) (by decide) (Nat.le_of_ble_eq_true rfl) rfl ?_
      refine v_istore_n dX6_readTerm_84 (by decide) ?_
      refine v_sub [(0, .ref (B + w0)), (1, .int r_14.1), (2, .int y2), (3, .int z0)] ⟨rfl, rfl, rfl, rfl, trivial⟩ ?_
      refine v_aload_n dX6_readTerm_85 rfl ?_
      replace h := p_bind_elim h
      obtain ⟨a_16, q_17, h⟩ := h
      refine v_getR q_17 rfl fl_X6_14 dX6_readTerm_86 q_13 ?_
      refine v_iload_n dX6_readTerm_89 rfl ?_
      refine v_iconstE (0 : Int32) dX6_readTerm_90 (by decide) ?_
      replace h := p_bind_elim h
      obtain ⟨_, q_20, h⟩ := h
      have q_20 := p_ob_spec q_20
      replace h := p_bind_elim h
      obtain ⟨r_18, q_19, h⟩ := h
      refine v_cVr (t_X8_addStep q_19) cal_X8_addStep ml_X6_134 sel_X8_addStep q_20 kk_8 dX6_readTerm_91 (by omega) (by decide) (by decide) (Nat.le_of_ble_eq_true rfl) rfl ?_
      refine v_pop dX6_readTerm_94 rfl ?_
      replace h := p_let_elim h
      obtain ⟨x_21, h_22, h⟩ := h
      refine v_iincE (1 : Int32) dX6_readTerm_95 (by decide) rfl (by decide) ?_
      rw [← h_22]
      refine v_sub [(0, .ref (B + w0)), (1, .int r_14.1), (2, .int x_21)] ⟨rfl, rfl, rfl, trivial⟩ ?_
      refine v_goto 7 dX6_readTerm_98 (by decide) ?_
      cases h
      refine v_sub [(0, .ref (B + w0)), (1, .int r_14.1), (2, .int x_21)] ⟨rfl, rfl, rfl, trivial⟩ ?_
      exact hk
    have j45 : ∀ (I : v_I) (y2 : Int32), f_X6_readTerm_J7_45 rc S F w0 I y2 = some rx7 → V l B D ac (v_EE B wa wb wt sb sL sx) yX6_readTerm cX6_readTerm 4 (some .boolean) d 0 0 0 0 S I J F 45 [(0, .ref (B + w0)), (2, .int y2)] [] Q := by
      intro I y2 h
      unfold f_X6_readTerm_J7_45 at h
      refine v_aload_n dX6_readTerm_45 rfl ?_
      replace h := p_bind_elim h
      obtain ⟨_, q_8, h⟩ := h
      have q_8 := p_ob_spec q_8
      refine v_getI rfl fl_X6_34 dX6_readTerm_46 q_8 ?_
      refine v_bipush (42 : Int32) dX6_readTerm_49 (by decide) ?_
      refine v_icmp_ne 59 dX6_readTerm_51 (by decide) (fun c_9 => ?_) (fun c_9 => ?_)
      · rw [if_neg c_9] at h
        refine v_aload_n dX6_readTerm_59 rfl ?_
        refine v_getI rfl fl_X6_34 dX6_readTerm_60 q_8 ?_
        refine v_bipush (47 : Int32) dX6_readTerm_63 (by decide) ?_
        refine v_icmp_ne 73 dX6_readTerm_65 (by decide) (fun c_10 => ?_) (fun c_10 => ?_)
        · rw [if_neg c_10] at h
          refine v_bipush (13 : Int32) dX6_readTerm_73 (by decide) ?_
          refine v_sub [(0, .ref (B + w0)), (2, .int y2)] ⟨rfl, rfl, trivial⟩ ?_
          exact j75 _ _ _ h
        · rw [if_pos c_10] at h
          refine v_bipush (12 : Int32) dX6_readTerm_68 (by decide) ?_
          refine v_goto 75 dX6_readTerm_70 (by decide) ?_
          refine v_sub [(0, .ref (B + w0)), (2, .int y2)] ⟨rfl, rfl, trivial⟩ ?_
          exact j75 _ _ _ h
      · rw [if_pos c_9] at h
        refine v_bipush (11 : Int32) dX6_readTerm_54 (by decide) ?_
        refine v_goto 75 dX6_readTerm_56 (by decide) ?_
        refine v_sub [(0, .ref (B + w0)), (2, .int y2)] ⟨rfl, rfl, trivial⟩ ?_
        exact j75 _ _ _ h
    unfold f_X6_readTerm_B7 at h
    refine v_iload_n dX6_readTerm_7 rfl ?_
    refine v_sipush (400 : Int32) dX6_readTerm_8 (by decide) ?_
    refine v_icmp_ge 101 dX6_readTerm_11 (by decide) (fun c_4 => ?_) (fun c_4 => ?_)
    · rw [if_pos c_4] at h
      cases h
      refine v_sub [(1, .int s7.1)] ⟨rfl, trivial⟩ ?_
      exact hk
    · rw [if_neg c_4] at h
      refine v_iload_n dX6_readTerm_14 rfl ?_
      refine v_if_eq 101 dX6_readTerm_15 (by decide) (fun c_5 => ?_) (fun c_5 => ?_)
      · rw [if_pos c_5] at h
        cases h
        refine v_sub [(1, .int s7.1)] ⟨rfl, trivial⟩ ?_
        exact hk
      · rw [if_neg c_5] at h
        refine v_aload_n dX6_readTerm_18 rfl ?_
        replace h := p_bind_elim h
        obtain ⟨_, q_6, h⟩ := h
        have q_6 := p_ob_spec q_6
        refine v_getI rfl fl_X6_34 dX6_readTerm_19 q_6 ?_
        refine v_bipush (42 : Int32) dX6_readTerm_22 (by decide) ?_
        refine v_icmp_eq 45 dX6_readTerm_24 (by decide) (fun c_7 => ?_) (fun c_7 => ?_)
        · rw [if_pos c_7] at h
          refine v_sub [(0, .ref (B + w0)), (2, .int s7.2.1)] ⟨rfl, rfl, trivial⟩ ?_
          exact j45 _ _ h
        · rw [if_neg c_7] at h
          refine v_aload_n dX6_readTerm_27 rfl ?_
          refine v_getI rfl fl_X6_34 dX6_readTerm_28 q_6 ?_
          refine v_bipush (47 : Int32) dX6_readTerm_31 (by decide) ?_
          refine v_icmp_eq 45 dX6_readTerm_33 (by decide) (fun c_23 => ?_) (fun c_23 => ?_)
          · rw [if_pos c_23] at h
            refine v_sub [(0, .ref (B + w0)), (2, .int s7.2.1)] ⟨rfl, rfl, trivial⟩ ?_
            exact j45 _ _ h
          · rw [if_neg c_23] at h
            refine v_aload_n dX6_readTerm_36 rfl ?_
            refine v_getI rfl fl_X6_34 dX6_readTerm_37 q_6 ?_
            refine v_bipush (37 : Int32) dX6_readTerm_40 (by decide) ?_
            refine v_icmp_ne 101 dX6_readTerm_42 (by decide) (fun c_24 => ?_) (fun c_24 => ?_)
            · rw [if_neg c_24] at h
              cases h
              refine v_sub [(1, .int s7.1)] ⟨rfl, trivial⟩ ?_
              exact hk
            · rw [if_pos c_24] at h
              refine v_sub [(0, .ref (B + w0)), (2, .int s7.2.1)] ⟨rfl, rfl, trivial⟩ ?_
              exact j45 _ _ h
  unfold f_X6_readTerm at h
  refine v_sub [(0, .ref (B + p0))] ⟨rfl, trivial⟩ ?_
  refine v_aload_n dX6_readTerm_0 rfl ?_
  replace h := p_bind_elim h
  obtain ⟨_, q_3, h⟩ := h
  have q_3 := p_ob_spec q_3
  replace h := p_bind_elim h
  obtain ⟨r_1, q_2, h⟩ := h
  refine v_cVr (hrc6 q_2) cal_X6_readPart ml_X6_173 sel_X6_readPart q_3 kk_6 dX6_readTerm_1 (by omega) (by decide) (by decide) (Nat.le_of_ble_eq_true rfl) rfl ?_
  refine v_istore_n dX6_readTerm_4 (by decide) ?_
  refine v_sub [(0, .ref (B + p0)), (1, .int r_1.1)] ⟨rfl, rfl, trivial⟩ ?_
  refine v_iconstE (0 : Int32) dX6_readTerm_5 (by decide) ?_
  refine v_istore_n dX6_readTerm_6 (by decide) ?_
  refine v_sub [(0, .ref (B + p0)), (1, .int r_1.1), (2, .int (0 : Int32))] ⟨rfl, rfl, rfl, trivial⟩ ?_
  replace h := p_bind_elim h
  obtain ⟨q_25, h_26, h⟩ := h
  refine v_sub [(0, .ref (B + p0)), (1, .int r_1.1), (2, .int (0 : Int32))] ⟨rfl, rfl, rfl, trivial⟩ ?_
  refine v_loopV (fun (sP : Int32 × Int32 × v_I) => V l B D ac (v_EE B wa wb wt sb sL sx) yX6_readTerm cX6_readTerm 4 (some .boolean) d 0 0 0 0 S sP.2.2 J F 7 [(0, .ref (B + p0)), (1, .int sP.1), (2, .int sP.2.1)] [] Q) (fun (rE : Int32 × Int32 × v_I) => V l B D ac (v_EE B wa wb wt sb sL sx) yX6_readTerm cX6_readTerm 4 (some .boolean) d 0 0 0 0 S rE.2.2 J F 101 [(1, .int rE.1)] [] Q) (fun s_ x_ hb hk => b7 _ s_ x_ hb hk) (r := q_25) ?_ h_26
  try dsimp only
  refine v_iload_n dX6_readTerm_101 rfl ?_
  replace h := p_bind_elim h
  obtain ⟨_, q_27, h⟩ := h
  cases h
  exact v_zret dX6_readTerm_102 rfl (p_bl_spec q_27).1 (by decide) (by decide) (by rw [← hQ]; exact ⟨rfl, rfl, rfl, rfl, rfl⟩)

def f_X6_readPart_J184 (rc : Nat → Nat → Int32 → v_S → v_I → v_F → Option (Int32 × v_I)) (S : v_S) (F : v_F) (I : v_I) (z0 : Int32) (z1 : Int32) (z2 : Nat) : Option (Int32 × v_I) :=
(p_ob S 8 z2).bind fun _ =>
(p_bl (z1 ||| z0)).bind fun _ =>
p_let (v_up I z2 2 (z1 ||| z0)) fun I_30 =>
some ((1 : Int32), I_30)
def f_X6_readPart_J179 (rc : Nat → Nat → Int32 → v_S → v_I → v_F → Option (Int32 × v_I)) (S : v_S) (F : v_F) (I : v_I) (z0 : Int32) (z1 : Nat) : Option (Int32 × v_I) :=
f_X6_readPart_J184 rc S F I (1 : Int32) z0 z1
def f_X6_readPart_J150 (rc : Nat → Nat → Int32 → v_S → v_I → v_F → Option (Int32 × v_I)) (S : v_S) (F : v_F) (I : v_I) (y0 : Nat) (y2 : Int32) : Option (Int32 × v_I) :=
(p_ob S 6 y0).bind fun _ =>
(F y0 0).bind fun a_19 =>
(p_ob S 8 a_19).bind fun _ =>
(f_X8_addStep S I F a_19 (2 : Int32) y2).bind fun r_21 =>
(F y0 0).bind fun a_24 =>
(p_ob S 8 a_24).bind fun _ =>
if y2 = (5 : Int32) then (
f_X6_readPart_J179 rc S F r_21.2 (r_21.2 a_24 2) a_24)
else (
if y2 = (6 : Int32) then (
f_X6_readPart_J179 rc S F r_21.2 (r_21.2 a_24 2) a_24)
else (
f_X6_readPart_J184 rc S F r_21.2 (0 : Int32) (r_21.2 a_24 2) a_24))
def f_X6_readPart_J90 (rc : Nat → Nat → Int32 → v_S → v_I → v_F → Option (Int32 × v_I)) (S : v_S) (F : v_F) (I : v_I) (y0 : Nat) : Option (Int32 × v_I) :=
(p_ob S 6 y0).bind fun _ =>
(f_X6_faultHere S I F y0).bind fun r_46 =>
(p_bl r_46.1).bind fun _ =>
some (r_46.1, r_46.2)
def f_X6_readPart_J81 (rc : Nat → Nat → Int32 → v_S → v_I → v_F → Option (Int32 × v_I)) (S : v_S) (F : v_F) (I : v_I) (y0 : Nat) (y1 : Int32) (y2 : Int32) : Option (Int32 × v_I) :=
(p_ob S 6 y0).bind fun _ =>
if (I y0 7) < (50 : Int32) then (
p_let (v_up I y0 7 ((I y0 7) + (1 : Int32))) fun I_12 =>
(f_X6_nextToken S I_12 F y0).bind fun r_14 =>
if y1 = (-1 : Int32) then (
if (r_14 y0 6) = (0 : Int32) then (
f_X6_readPart_J150 rc S F r_14 y0 y2)
else (
(f_X6_firstOf y2).bind fun r_33 =>
if r_33 = (-1 : Int32) then (
f_X6_readPart_J150 rc S F r_14 y0 y2)
else (
(f_X6_firstOf y2).bind fun r_36 =>
(f_X6_readOne S r_14 F y0 r_36).bind fun r_38 =>
(p_bl r_38.1).bind fun _ =>
some (r_38.1, r_38.2))))
else (
(F y0 0).bind fun a_41 =>
(p_ob S 8 a_41).bind fun _ =>
(f_X8_addStep S r_14 F a_41 (1 : Int32) y1).bind fun r_43 =>
some ((1 : Int32), r_43.2)))
else (
f_X6_readPart_J90 rc S F I y0)
def f_X6_readPart_J71 (rc : Nat → Nat → Int32 → v_S → v_I → v_F → Option (Int32 × v_I)) (S : v_S) (F : v_F) (I : v_I) (y0 : Nat) (y1 : Int32) (y2 : Int32) (z0 : Int32) : Option (Int32 × v_I) :=
if y1 = (-1 : Int32) then (
if z0 = (0 : Int32) then (
f_X6_readPart_J90 rc S F I y0)
else (
f_X6_readPart_J81 rc S F I y0 y1 y2))
else (
f_X6_readPart_J81 rc S F I y0 y1 y2)
def f_X6_readPart_J70 (rc : Nat → Nat → Int32 → v_S → v_I → v_F → Option (Int32 × v_I)) (S : v_S) (F : v_F) (I : v_I) (y0 : Nat) (y1 : Int32) (y2 : Int32) : Option (Int32 × v_I) :=
f_X6_readPart_J71 rc S F I y0 y1 y2 (0 : Int32)
def f_X6_readPart (rc : Nat → Nat → Int32 → v_S → v_I → v_F → Option (Int32 × v_I)) (S : v_S) (I : v_I) (F : v_F) (p0 : Nat) : Option (Int32 × v_I) :=
(p_ob S 6 p0).bind fun _ =>
if (I p0 5) = (91 : Int32) then (
(rc 7 p0 (0 : Int32) S I F).bind fun r_54 =>
(p_bl r_54.1).bind fun _ =>
some (r_54.1, r_54.2))
else (
(f_X6_numberAtHand S I p0 (1000 : Int32)).bind fun r_3 =>
p_let ((I p0 5) - (269 : Int32)) fun x_5 =>
if (I p0 6) = (0 : Int32) then (
if (I p0 5) < (269 : Int32) then (
f_X6_readPart_J70 rc S F I p0 r_3 x_5)
else (
if (277 : Int32) < (I p0 5) then (
f_X6_readPart_J70 rc S F I p0 r_3 x_5)
else (
f_X6_readPart_J71 rc S F I p0 r_3 x_5 (1 : Int32))))
else (
(f_X6_isOrderWord x_5).bind fun r_52 =>
f_X6_readPart_J71 rc S F I p0 r_3 x_5 r_52))
set_option maxHeartbeats 4000000 in
set_option maxRecDepth 100000 in
theorem t_X6_readPart {rc : Nat → Nat → Int32 → v_S → v_I → v_F → Option (Int32 × v_I)} {dd : Nat} (hK : 3 ≤ dd + 1) (hrc7 : ∀ {S : v_S} {I : v_I} {J : v_J} {F : v_F} {a : Nat} {b : Int32} {r : Int32 × v_I}, rc 7 a b S I F = some r → v_R l B D ac (v_EE B wa wb wt sb sL sx) yX6_readBrackets cX6_readBrackets 2 (some .boolean) dd 0 0 [.ref (B + a), .int b] S I J F (v_D (some (.int r.1)) S r.2 J F)) {p0 : Nat} {r : Int32 × v_I} (h : f_X6_readPart rc S I F p0 = some r) : v_R l B D ac (v_EE B wa wb wt sb sL sx) yX6_readPart cX6_readPart 4 (some .boolean) (dd + 1) 0 0 [.ref (B + p0)] S I J F (v_D (some (.int r.1)) S r.2 J F) := by
  refine v_R.of (by decide) (Nat.le_of_ble_eq_true rfl) fun d hd => ?_
  generalize hQ : v_D (some (.int r.1)) S r.2 J F = Q
  have j184 : ∀ (I : v_I) (z0 : Int32) (z1 : Int32) (z2 : Nat), f_X6_readPart_J184 rc S F I z0 z1 z2 = some r → V l B D ac (v_EE B wa wb wt sb sL sx) yX6_readPart cX6_readPart 4 (some .boolean) d 0 0 0 0 S I J F 184 [] [.int z0, .int z1, .ref (B + z2)] Q := by
    intro I z0 z1 z2 h
    unfold f_X6_readPart_J184 at h
    refine v_ior dX6_readPart_184 ?_
    replace h := p_bind_elim h
    obtain ⟨_, q_28, h⟩ := h
    have q_28 := p_ob_spec q_28
    replace h := p_bind_elim h
    obtain ⟨_, q_29, h⟩ := h
    refine v_putI rfl fl_X6_185 dX6_readPart_185 q_28 (p_bl_spec q_29).1 (p_bl_spec q_29).2 ?_
    replace h := p_let_elim h
    obtain ⟨I_30, h_31, h⟩ := h
    rw [← h_31]
    refine v_iconstE (1 : Int32) dX6_readPart_188 (by decide) ?_
    cases h
    exact v_zret dX6_readPart_189 rfl rfl (by decide) (by decide) (by rw [← hQ]; exact ⟨rfl, rfl, rfl, rfl, rfl⟩)
  have j179 : ∀ (I : v_I) (z0 : Int32) (z1 : Nat), f_X6_readPart_J179 rc S F I z0 z1 = some r → V l B D ac (v_EE B wa wb wt sb sL sx) yX6_readPart cX6_readPart 4 (some .boolean) d 0 0 0 0 S I J F 179 [] [.int z0, .ref (B + z1)] Q := by
    intro I z0 z1 h
    unfold f_X6_readPart_J179 at h
    refine v_iconstE (1 : Int32) dX6_readPart_179 (by decide) ?_
    refine v_goto 184 dX6_readPart_180 (by decide) ?_
    refine v_sub [] trivial ?_
    exact j184 _ _ _ _ h
  have j150 : ∀ (I : v_I) (y0 : Nat) (y2 : Int32), f_X6_readPart_J150 rc S F I y0 y2 = some r → V l B D ac (v_EE B wa wb wt sb sL sx) yX6_readPart cX6_readPart 4 (some .boolean) d 0 0 0 0 S I J F 150 [(0, .ref (B + y0)), (2, .int y2)] [] Q := by
    intro I y0 y2 h
    unfold f_X6_readPart_J150 at h
    refine v_aload_n dX6_readPart_150 rfl ?_
    replace h := p_bind_elim h
    obtain ⟨_, q_18, h⟩ := h
    have q_18 := p_ob_spec q_18
    replace h := p_bind_elim h
    obtain ⟨a_19, q_20, h⟩ := h
    refine v_getR q_20 rfl fl_X6_14 dX6_readPart_151 q_18 ?_
    refine v_iconstE (2 : Int32) dX6_readPart_154 (by decide) ?_
    refine v_iload_n dX6_readPart_155 rfl ?_
    replace h := p_bind_elim h
    obtain ⟨_, q_23, h⟩ := h
    have q_23 := p_ob_spec q_23
    replace h := p_bind_elim h
    obtain ⟨r_21, q_22, h⟩ := h
    refine v_cVr (t_X8_addStep q_22) cal_X8_addStep ml_X6_134 sel_X8_addStep q_23 kk_8 dX6_readPart_156 (by omega) (by decide) (by decide) (Nat.le_of_ble_eq_true rfl) rfl ?_
    refine v_pop dX6_readPart_159 rfl ?_
    refine v_aload_n dX6_readPart_160 rfl ?_
    replace h := p_bind_elim h
    obtain ⟨a_24, q_25, h⟩ := h
    refine v_getR q_25 rfl fl_X6_14 dX6_readPart_161 q_18 ?_
    refine v_dup dX6_readPart_164 rfl ?_
    replace h := p_bind_elim h
    obtain ⟨_, q_26, h⟩ := h
    have q_26 := p_ob_spec q_26
    refine v_getI rfl fl_X6_185 dX6_readPart_165 q_26 ?_
    refine v_iload_n dX6_readPart_168 rfl ?_
    refine v_iconstE (5 : Int32) dX6_readPart_169 (by decide) ?_
    refine v_icmp_eq 179 dX6_readPart_170 (by decide) (fun c_27 => ?_) (fun c_27 => ?_)
    · rw [if_pos c_27] at h
      refine v_sub [] trivial ?_
      exact j179 _ _ _ h
    · rw [if_neg c_27] at h
      refine v_iload_n dX6_readPart_173 rfl ?_
      refine v_bipush (6 : Int32) dX6_readPart_174 (by decide) ?_
      refine v_icmp_ne 183 dX6_readPart_176 (by decide) (fun c_32 => ?_) (fun c_32 => ?_)
      · rw [if_neg c_32] at h
        refine v_iconstE (0 : Int32) dX6_readPart_183 (by decide) ?_
        refine v_sub [] trivial ?_
        exact j184 _ _ _ _ h
      · rw [if_pos c_32] at h
        refine v_sub [] trivial ?_
        exact j179 _ _ _ h
  have j90 : ∀ (I : v_I) (y0 : Nat), f_X6_readPart_J90 rc S F I y0 = some r → V l B D ac (v_EE B wa wb wt sb sL sx) yX6_readPart cX6_readPart 4 (some .boolean) d 0 0 0 0 S I J F 90 [(0, .ref (B + y0))] [] Q := by
    intro I y0 h
    unfold f_X6_readPart_J90 at h
    refine v_aload_n dX6_readPart_90 rfl ?_
    replace h := p_bind_elim h
    obtain ⟨_, q_48, h⟩ := h
    have q_48 := p_ob_spec q_48
    replace h := p_bind_elim h
    obtain ⟨r_46, q_47, h⟩ := h
    refine v_cVr (t_X6_faultHere q_47) cal_X6_faultHere ml_X6_73 sel_X6_faultHere q_48 kk_6 dX6_readPart_91 (by omega) (by decide) (by decide) (Nat.le_of_ble_eq_true rfl) rfl ?_
    replace h := p_bind_elim h
    obtain ⟨_, q_49, h⟩ := h
    cases h
    exact v_zret dX6_readPart_94 rfl (p_bl_spec q_49).1 (by decide) (by decide) (by rw [← hQ]; exact ⟨rfl, rfl, rfl, rfl, rfl⟩)
  have j81 : ∀ (I : v_I) (y0 : Nat) (y1 : Int32) (y2 : Int32), f_X6_readPart_J81 rc S F I y0 y1 y2 = some r → V l B D ac (v_EE B wa wb wt sb sL sx) yX6_readPart cX6_readPart 4 (some .boolean) d 0 0 0 0 S I J F 81 [(0, .ref (B + y0)), (1, .int y1), (2, .int y2)] [] Q := by
    intro I y0 y1 y2 h
    unfold f_X6_readPart_J81 at h
    refine v_aload_n dX6_readPart_81 rfl ?_
    replace h := p_bind_elim h
    obtain ⟨_, q_10, h⟩ := h
    have q_10 := p_ob_spec q_10
    refine v_getI rfl fl_X6_41 dX6_readPart_82 q_10 ?_
    refine v_bipush (50 : Int32) dX6_readPart_85 (by decide) ?_
    refine v_icmp_lt 95 dX6_readPart_87 (by decide) (fun c_11 => ?_) (fun c_11 => ?_)
    · rw [if_pos c_11] at h
      refine v_aload_n dX6_readPart_95 rfl ?_
      refine v_dup dX6_readPart_96 rfl ?_
      refine v_getI rfl fl_X6_41 dX6_readPart_97 q_10 ?_
      refine v_iconstE (1 : Int32) dX6_readPart_100 (by decide) ?_
      refine v_iadd dX6_readPart_101 ?_
      refine v_putI rfl fl_X6_41 dX6_readPart_102 q_10 rfl rfl ?_
      replace h := p_let_elim h
      obtain ⟨I_12, h_13, h⟩ := h
      rw [← h_13]
      refine v_aload_n dX6_readPart_105 rfl ?_
      replace h := p_bind_elim h
      obtain ⟨r_14, q_15, h⟩ := h
      refine v_cVn (t_X6_nextToken q_15) cal_X6_nextToken ml_X6_70 sel_X6_nextToken q_10 kk_6 dX6_readPart_106 (by omega) (by decide) (by decide) (Nat.le_of_ble_eq_true rfl) rfl ?_
      refine v_iload_n dX6_readPart_109 rfl ?_
      refine v_iconstE (-1 : Int32) dX6_readPart_110 (by decide) ?_
      refine v_icmp_eq 126 dX6_readPart_111 (by decide) (fun c_16 => ?_) (fun c_16 => ?_)
      · rw [if_pos c_16] at h
        refine v_aload_n dX6_readPart_126 rfl ?_
        refine v_getI rfl fl_X6_37 dX6_readPart_127 q_10 ?_
        refine v_if_eq 150 dX6_readPart_130 (by decide) (fun c_17 => ?_) (fun c_17 => ?_)
        · rw [if_pos c_17] at h
          refine v_sub [(0, .ref (B + y0)), (2, .int y2)] ⟨rfl, rfl, trivial⟩ ?_
          exact j150 _ _ _ h
        · rw [if_neg c_17] at h
          refine v_iload_n dX6_readPart_133 rfl ?_
          replace h := p_bind_elim h
          obtain ⟨r_33, q_34, h⟩ := h
          refine v_cSr (t_X6_firstOf q_34) cal_X6_firstOf ml_X6_179 sta_X6_firstOf dX6_readPart_134 (by omega) (by decide) (by decide) (Nat.le_of_ble_eq_true rfl) rfl ?_
          refine v_iconstE (-1 : Int32) dX6_readPart_137 (by decide) ?_
          refine v_icmp_eq 150 dX6_readPart_138 (by decide) (fun c_35 => ?_) (fun c_35 => ?_)
          · rw [if_pos c_35] at h
            refine v_sub [(0, .ref (B + y0)), (2, .int y2)] ⟨rfl, rfl, trivial⟩ ?_
            exact j150 _ _ _ h
          · rw [if_neg c_35] at h
            refine v_aload_n dX6_readPart_141 rfl ?_
            refine v_iload_n dX6_readPart_142 rfl ?_
            replace h := p_bind_elim h
            obtain ⟨r_36, q_37, h⟩ := h
            refine v_cSr (t_X6_firstOf q_37) cal_X6_firstOf ml_X6_179 sta_X6_firstOf dX6_readPart_143 (by omega) (by decide) (by decide) (Nat.le_of_ble_eq_true rfl) rfl ?_
            replace h := p_bind_elim h
            obtain ⟨r_38, q_39, h⟩ := h
            refine v_cVr (t_X6_readOne q_39) cal_X6_readOne ml_X6_182 sel_X6_readOne q_10 kk_6 dX6_readPart_146 (by omega) (by decide) (by decide) (Nat.le_of_ble_eq_true rfl) rfl ?_
            replace h := p_bind_elim h
            obtain ⟨_, q_40, h⟩ := h
            cases h
            exact v_zret dX6_readPart_149 rfl (p_bl_spec q_40).1 (by decide) (by decide) (by rw [← hQ]; exact ⟨rfl, rfl, rfl, rfl, rfl⟩)
      · rw [if_neg c_16] at h
        refine v_aload_n dX6_readPart_114 rfl ?_
        replace h := p_bind_elim h
        obtain ⟨a_41, q_42, h⟩ := h
        refine v_getR q_42 rfl fl_X6_14 dX6_readPart_115 q_10 ?_
        refine v_iconstE (1 : Int32) dX6_readPart_118 (by decide) ?_
        refine v_iload_n dX6_readPart_119 rfl ?_
        replace h := p_bind_elim h
        obtain ⟨_, q_45, h⟩ := h
        have q_45 := p_ob_spec q_45
        replace h := p_bind_elim h
        obtain ⟨r_43, q_44, h⟩ := h
        refine v_cVr (t_X8_addStep q_44) cal_X8_addStep ml_X6_134 sel_X8_addStep q_45 kk_8 dX6_readPart_120 (by omega) (by decide) (by decide) (Nat.le_of_ble_eq_true rfl) rfl ?_
        refine v_pop dX6_readPart_123 rfl ?_
        refine v_iconstE (1 : Int32) dX6_readPart_124 (by decide) ?_
        cases h
        exact v_zret dX6_readPart_125 rfl rfl (by decide) (by decide) (by rw [← hQ]; exact ⟨rfl, rfl, rfl, rfl, rfl⟩)
    · rw [if_neg c_11] at h
      refine v_sub [(0, .ref (B + y0))] ⟨rfl, trivial⟩ ?_
      exact j90 _ _ h
  have j71 : ∀ (I : v_I) (y0 : Nat) (y1 : Int32) (y2 : Int32) (z0 : Int32), f_X6_readPart_J71 rc S F I y0 y1 y2 z0 = some r → V l B D ac (v_EE B wa wb wt sb sL sx) yX6_readPart cX6_readPart 4 (some .boolean) d 0 0 0 0 S I J F 71 [(0, .ref (B + y0)), (1, .int y1), (2, .int y2)] [.int z0] Q := by
    intro I y0 y1 y2 z0 h
    unfold f_X6_readPart_J71 at h
    refine v_istore_n dX6_readPart_71 (by decide) ?_
    refine v_sub [(0, .ref (B + y0)), (1, .int y1), (2, .int y2), (3, .int z0)] ⟨rfl, rfl, rfl, rfl, trivial⟩ ?_
    refine v_iload_n dX6_readPart_72 rfl ?_
    refine v_iconstE (-1 : Int32) dX6_readPart_73 (by decide) ?_
    refine v_icmp_ne 81 dX6_readPart_74 (by decide) (fun c_9 => ?_) (fun c_9 => ?_)
    · rw [if_neg c_9] at h
      refine v_sub [(0, .ref (B + y0)), (1, .int y1), (2, .int y2)] ⟨rfl, rfl, rfl, trivial⟩ ?_
      exact j81 _ _ _ _ h
    · rw [if_pos c_9] at h
      refine v_iload_n dX6_readPart_77 rfl ?_
      refine v_if_eq 90 dX6_readPart_78 (by decide) (fun c_50 => ?_) (fun c_50 => ?_)
      · rw [if_pos c_50] at h
        refine v_sub [(0, .ref (B + y0))] ⟨rfl, trivial⟩ ?_
        exact j90 _ _ h
      · rw [if_neg c_50] at h
        refine v_sub [(0, .ref (B + y0)), (1, .int y1), (2, .int y2)] ⟨rfl, rfl, rfl, trivial⟩ ?_
        exact j81 _ _ _ _ h
  have j70 : ∀ (I : v_I) (y0 : Nat) (y1 : Int32) (y2 : Int32), f_X6_readPart_J70 rc S F I y0 y1 y2 = some r → V l B D ac (v_EE B wa wb wt sb sL sx) yX6_readPart cX6_readPart 4 (some .boolean) d 0 0 0 0 S I J F 70 [(0, .ref (B + y0)), (1, .int y1), (2, .int y2)] [] Q := by
    intro I y0 y1 y2 h
    unfold f_X6_readPart_J70 at h
    refine v_iconstE (0 : Int32) dX6_readPart_70 (by decide) ?_
    refine v_sub [(0, .ref (B + y0)), (1, .int y1), (2, .int y2)] ⟨rfl, rfl, rfl, trivial⟩ ?_
    exact j71 _ _ _ _ _ h
  unfold f_X6_readPart at h
  refine v_sub [(0, .ref (B + p0))] ⟨rfl, trivial⟩ ?_
  refine v_aload_n dX6_readPart_0 rfl ?_
  replace h := p_bind_elim h
  obtain ⟨_, q_1, h⟩ := h
  have q_1 := p_ob_spec q_1
  refine v_getI rfl fl_X6_34 dX6_readPart_1 q_1 ?_
  refine v_bipush (91 : Int32) dX6_readPart_4 (by decide) ?_
  refine v_icmp_ne 15 dX6_readPart_6 (by decide) (fun c_2 => ?_) (fun c_2 => ?_)
  · rw [if_neg c_2] at h
    refine v_aload_n dX6_readPart_15 rfl ?_
    refine v_sipush (1000 : Int32) dX6_readPart_16 (by decide) ?_
    replace h := p_bind_elim h
    obtain ⟨r_3, q_4, h⟩ := h
    refine v_cVr (t_X6_numberAtHand q_4) cal_X6_numberAtHand ml_X6_146 sel_X6_numberAtHand q_1 kk_6 dX6_readPart_19 (by omega) (by decide) (by decide) (Nat.le_of_ble_eq_true rfl) rfl ?_
    refine v_istore_n dX6_readPart_22 (by decide) ?_
    refine v_sub [(0, .ref (B + p0)), (1, .int r_3)] ⟨rfl, rfl, trivial⟩ ?_
    refine v_aload_n dX6_readPart_23 rfl ?_
    refine v_getI rfl fl_X6_34 dX6_readPart_24 q_1 ?_
    refine v_sipush (269 : Int32) dX6_readPart_27 (by decide) ?_
    refine v_isub dX6_readPart_30 ?_
    replace h := p_let_elim h
    obtain ⟨x_5, h_6, h⟩ := h
    rw [← h_6]
    refine v_istore_n dX6_readPart_31 (by decide) ?_
    refine v_sub [(0, .ref (B + p0)), (1, .int r_3), (2, .int x_5)] ⟨rfl, rfl, rfl, trivial⟩ ?_
    refine v_aload_n dX6_readPart_32 rfl ?_
    refine v_getI rfl fl_X6_37 dX6_readPart_33 q_1 ?_
    refine v_if_eq 46 dX6_readPart_36 (by decide) (fun c_7 => ?_) (fun c_7 => ?_)
    · rw [if_pos c_7] at h
      refine v_aload_n dX6_readPart_46 rfl ?_
      refine v_getI rfl fl_X6_34 dX6_readPart_47 q_1 ?_
      refine v_sipush (269 : Int32) dX6_readPart_50 (by decide) ?_
      refine v_icmp_lt 70 dX6_readPart_53 (by decide) (fun c_8 => ?_) (fun c_8 => ?_)
      · rw [if_pos c_8] at h
        refine v_sub [(0, .ref (B + p0)), (1, .int r_3), (2, .int x_5)] ⟨rfl, rfl, rfl, trivial⟩ ?_
        exact j70 _ _ _ _ h
      · rw [if_neg c_8] at h
        refine v_aload_n dX6_readPart_56 rfl ?_
        refine v_getI rfl fl_X6_34 dX6_readPart_57 q_1 ?_
        refine v_sipush (277 : Int32) dX6_readPart_60 (by decide) ?_
        refine v_icmp_gt 70 dX6_readPart_63 (by decide) (fun c_51 => ?_) (fun c_51 => ?_)
        · rw [if_pos c_51] at h
          refine v_sub [(0, .ref (B + p0)), (1, .int r_3), (2, .int x_5)] ⟨rfl, rfl, rfl, trivial⟩ ?_
          exact j70 _ _ _ _ h
        · rw [if_neg c_51] at h
          refine v_iconstE (1 : Int32) dX6_readPart_66 (by decide) ?_
          refine v_goto 71 dX6_readPart_67 (by decide) ?_
          refine v_sub [(0, .ref (B + p0)), (1, .int r_3), (2, .int x_5)] ⟨rfl, rfl, rfl, trivial⟩ ?_
          exact j71 _ _ _ _ _ h
    · rw [if_neg c_7] at h
      refine v_iload_n dX6_readPart_39 rfl ?_
      replace h := p_bind_elim h
      obtain ⟨r_52, q_53, h⟩ := h
      refine v_cSr (t_X6_isOrderWord q_53) cal_X6_isOrderWord ml_X6_176 sta_X6_isOrderWord dX6_readPart_40 (by omega) (by decide) (by decide) (Nat.le_of_ble_eq_true rfl) rfl ?_
      refine v_goto 71 dX6_readPart_43 (by decide) ?_
      refine v_sub [(0, .ref (B + p0)), (1, .int r_3), (2, .int x_5)] ⟨rfl, rfl, rfl, trivial⟩ ?_
      exact j71 _ _ _ _ _ h
  · rw [if_pos c_2] at h
    refine v_aload_n dX6_readPart_9 rfl ?_
    refine v_iconstE (0 : Int32) dX6_readPart_10 (by decide) ?_
    replace h := p_bind_elim h
    obtain ⟨r_54, q_55, h⟩ := h
    refine v_cVr (hrc7 q_55) cal_X6_readBrackets ml_X6_163 sel_X6_readBrackets q_1 kk_6 dX6_readPart_11 (by omega) (by decide) (by decide) (Nat.le_of_ble_eq_true rfl) rfl ?_
    replace h := p_bind_elim h
    obtain ⟨_, q_56, h⟩ := h
    cases h
    exact v_zret dX6_readPart_14 rfl (p_bl_spec q_56).1 (by decide) (by decide) (by rw [← hQ]; exact ⟨rfl, rfl, rfl, rfl, rfl⟩)

def f_X6_readBrackets_J73 (rc : Nat → Nat → Int32 → v_S → v_I → v_F → Option (Int32 × v_I)) (S : v_S) (F : v_F) (I : v_I) (y0 : Nat) (z0 : Int32) (z1 : Nat) : Option (Int32 × v_I) :=
(p_ob S 6 z1).bind fun _ =>
(f_X6_take S I F z1 z0).bind fun r_15 =>
if r_15.1 = (0 : Int32) then (
(p_ob S 6 y0).bind fun _ =>
(f_X6_faultHere S r_15.2 F y0).bind fun r_19 =>
if r_19.1 = (0 : Int32) then (
some ((0 : Int32), r_19.2))
else (
some ((1 : Int32), r_19.2)))
else (
some ((1 : Int32), r_15.2))
def f_X6_readBrackets_J51 (rc : Nat → Nat → Int32 → v_S → v_I → v_F → Option (Int32 × v_I)) (S : v_S) (F : v_F) (I : v_I) (y0 : Nat) (y1 : Int32) : Option (Int32 × v_I) :=
(p_ob S 6 y0).bind fun _ =>
p_let (v_up I y0 8 ((I y0 8) - (1 : Int32))) fun I_12 =>
if y1 = (0 : Int32) then (
f_X6_readBrackets_J73 rc S F I_12 y0 (93 : Int32) y0)
else (
f_X6_readBrackets_J73 rc S F I_12 y0 (41 : Int32) y0)
def f_X6_readBrackets (rc : Nat → Nat → Int32 → v_S → v_I → v_F → Option (Int32 × v_I)) (S : v_S) (I : v_I) (F : v_F) (p0 : Nat) (p1 : Int32) : Option (Int32 × v_I) :=
(p_ob S 6 p0).bind fun _ =>
if (I p0 8) < (8 : Int32) then (
p_let (v_up I p0 8 ((I p0 8) + (1 : Int32))) fun I_3 =>
(f_X6_nextToken S I_3 F p0).bind fun r_5 =>
if p1 = (0 : Int32) then (
(rc 4 p0 0 S r_5 F).bind fun r_8 =>
if r_8.1 = (0 : Int32) then (
some ((0 : Int32), r_8.2))
else (
f_X6_readBrackets_J51 rc S F r_8.2 p0 p1))
else (
(rc 0 p0 0 S r_5 F).bind fun r_23 =>
if r_23.1 = (0 : Int32) then (
some ((0 : Int32), r_23.2))
else (
f_X6_readBrackets_J51 rc S F r_23.2 p0 p1)))
else (
(f_X6_faultHere S I F p0).bind fun r_26 =>
(p_bl r_26.1).bind fun _ =>
some (r_26.1, r_26.2))
set_option maxHeartbeats 4000000 in
set_option maxRecDepth 100000 in
theorem t_X6_readBrackets {rc : Nat → Nat → Int32 → v_S → v_I → v_F → Option (Int32 × v_I)} {dd : Nat} (hK : 3 ≤ dd + 1) (hrc0 : ∀ {S : v_S} {I : v_I} {J : v_J} {F : v_F} {a : Nat} {r : Int32 × v_I}, rc 0 a 0 S I F = some r → v_R l B D ac (v_EE B wa wb wt sb sL sx) yX6_readTest cX6_readTest 4 (some .boolean) dd 0 0 [.ref (B + a)] S I J F (v_D (some (.int r.1)) S r.2 J F)) (hrc4 : ∀ {S : v_S} {I : v_I} {J : v_J} {F : v_F} {a : Nat} {r : Int32 × v_I}, rc 4 a 0 S I F = some r → v_R l B D ac (v_EE B wa wb wt sb sL sx) yX6_readSum cX6_readSum 4 (some .boolean) dd 0 0 [.ref (B + a)] S I J F (v_D (some (.int r.1)) S r.2 J F)) {p0 : Nat} {p1 : Int32} {r : Int32 × v_I} (h : f_X6_readBrackets rc S I F p0 p1 = some r) : v_R l B D ac (v_EE B wa wb wt sb sL sx) yX6_readBrackets cX6_readBrackets 2 (some .boolean) (dd + 1) 0 0 [.ref (B + p0), .int p1] S I J F (v_D (some (.int r.1)) S r.2 J F) := by
  refine v_R.of (by decide) (Nat.le_of_ble_eq_true rfl) fun d hd => ?_
  generalize hQ : v_D (some (.int r.1)) S r.2 J F = Q
  have j73 : ∀ (I : v_I) (y0 : Nat) (z0 : Int32) (z1 : Nat), f_X6_readBrackets_J73 rc S F I y0 z0 z1 = some r → V l B D ac (v_EE B wa wb wt sb sL sx) yX6_readBrackets cX6_readBrackets 2 (some .boolean) d 0 0 0 0 S I J F 73 [(0, .ref (B + y0))] [.int z0, .ref (B + z1)] Q := by
    intro I y0 z0 z1 h
    unfold f_X6_readBrackets_J73 at h
    replace h := p_bind_elim h
    obtain ⟨_, q_17, h⟩ := h
    have q_17 := p_ob_spec q_17
    replace h := p_bind_elim h
    obtain ⟨r_15, q_16, h⟩ := h
    refine v_cVr (t_X6_take q_16) cal_X6_take ml_X6_122 sel_X6_take q_17 kk_6 dX6_readBrackets_73 (by omega) (by decide) (by decide) (Nat.le_of_ble_eq_true rfl) rfl ?_
    refine v_if_ne 86 dX6_readBrackets_76 (by decide) (fun c_18 => ?_) (fun c_18 => ?_)
    · rw [if_neg c_18] at h
      refine v_iconstE (1 : Int32) dX6_readBrackets_86 (by decide) ?_
      refine v_goto 91 dX6_readBrackets_87 (by decide) ?_
      cases h
      exact v_zret dX6_readBrackets_91 rfl rfl (by decide) (by decide) (by rw [← hQ]; exact ⟨rfl, rfl, rfl, rfl, rfl⟩)
    · rw [if_pos c_18] at h
      refine v_aload_n dX6_readBrackets_79 rfl ?_
      replace h := p_bind_elim h
      obtain ⟨_, q_21, h⟩ := h
      have q_21 := p_ob_spec q_21
      replace h := p_bind_elim h
      obtain ⟨r_19, q_20, h⟩ := h
      refine v_cVr (t_X6_faultHere q_20) cal_X6_faultHere ml_X6_73 sel_X6_faultHere q_21 kk_6 dX6_readBrackets_80 (by omega) (by decide) (by decide) (Nat.le_of_ble_eq_true rfl) rfl ?_
      refine v_if_eq 90 dX6_readBrackets_83 (by decide) (fun c_22 => ?_) (fun c_22 => ?_)
      · rw [if_pos c_22] at h
        refine v_iconstE (0 : Int32) dX6_readBrackets_90 (by decide) ?_
        cases h
        exact v_zret dX6_readBrackets_91 rfl rfl (by decide) (by decide) (by rw [← hQ]; exact ⟨rfl, rfl, rfl, rfl, rfl⟩)
      · rw [if_neg c_22] at h
        refine v_iconstE (1 : Int32) dX6_readBrackets_86 (by decide) ?_
        refine v_goto 91 dX6_readBrackets_87 (by decide) ?_
        cases h
        exact v_zret dX6_readBrackets_91 rfl rfl (by decide) (by decide) (by rw [← hQ]; exact ⟨rfl, rfl, rfl, rfl, rfl⟩)
  have j51 : ∀ (I : v_I) (y0 : Nat) (y1 : Int32), f_X6_readBrackets_J51 rc S F I y0 y1 = some r → V l B D ac (v_EE B wa wb wt sb sL sx) yX6_readBrackets cX6_readBrackets 2 (some .boolean) d 0 0 0 0 S I J F 51 [(0, .ref (B + y0)), (1, .int y1)] [] Q := by
    intro I y0 y1 h
    unfold f_X6_readBrackets_J51 at h
    refine v_aload_n dX6_readBrackets_51 rfl ?_
    refine v_dup dX6_readBrackets_52 rfl ?_
    replace h := p_bind_elim h
    obtain ⟨_, q_11, h⟩ := h
    have q_11 := p_ob_spec q_11
    refine v_getI rfl fl_X6_44 dX6_readBrackets_53 q_11 ?_
    refine v_iconstE (1 : Int32) dX6_readBrackets_56 (by decide) ?_
    refine v_isub dX6_readBrackets_57 ?_
    refine v_putI rfl fl_X6_44 dX6_readBrackets_58 q_11 rfl rfl ?_
    replace h := p_let_elim h
    obtain ⟨I_12, h_13, h⟩ := h
    rw [← h_13]
    refine v_aload_n dX6_readBrackets_61 rfl ?_
    refine v_iload_n dX6_readBrackets_62 rfl ?_
    refine v_if_eq 71 dX6_readBrackets_63 (by decide) (fun c_14 => ?_) (fun c_14 => ?_)
    · rw [if_pos c_14] at h
      refine v_bipush (93 : Int32) dX6_readBrackets_71 (by decide) ?_
      refine v_sub [(0, .ref (B + y0))] ⟨rfl, trivial⟩ ?_
      exact j73 _ _ _ _ h
    · rw [if_neg c_14] at h
      refine v_bipush (41 : Int32) dX6_readBrackets_66 (by decide) ?_
      refine v_goto 73 dX6_readBrackets_68 (by decide) ?_
      refine v_sub [(0, .ref (B + y0))] ⟨rfl, trivial⟩ ?_
      exact j73 _ _ _ _ h
  unfold f_X6_readBrackets at h
  refine v_sub [(0, .ref (B + p0)), (1, .int p1)] ⟨rfl, rfl, trivial⟩ ?_
  refine v_aload_n dX6_readBrackets_0 rfl ?_
  replace h := p_bind_elim h
  obtain ⟨_, q_1, h⟩ := h
  have q_1 := p_ob_spec q_1
  refine v_getI rfl fl_X6_44 dX6_readBrackets_1 q_1 ?_
  refine v_bipush (8 : Int32) dX6_readBrackets_4 (by decide) ?_
  refine v_icmp_lt 14 dX6_readBrackets_6 (by decide) (fun c_2 => ?_) (fun c_2 => ?_)
  · rw [if_pos c_2] at h
    refine v_aload_n dX6_readBrackets_14 rfl ?_
    refine v_dup dX6_readBrackets_15 rfl ?_
    refine v_getI rfl fl_X6_44 dX6_readBrackets_16 q_1 ?_
    refine v_iconstE (1 : Int32) dX6_readBrackets_19 (by decide) ?_
    refine v_iadd dX6_readBrackets_20 ?_
    refine v_putI rfl fl_X6_44 dX6_readBrackets_21 q_1 rfl rfl ?_
    replace h := p_let_elim h
    obtain ⟨I_3, h_4, h⟩ := h
    rw [← h_4]
    refine v_aload_n dX6_readBrackets_24 rfl ?_
    replace h := p_bind_elim h
    obtain ⟨r_5, q_6, h⟩ := h
    refine v_cVn (t_X6_nextToken q_6) cal_X6_nextToken ml_X6_70 sel_X6_nextToken q_1 kk_6 dX6_readBrackets_25 (by omega) (by decide) (by decide) (Nat.le_of_ble_eq_true rfl) rfl ?_
    refine v_iload_n dX6_readBrackets_28 rfl ?_
    refine v_if_eq 42 dX6_readBrackets_29 (by decide) (fun c_7 => ?_) (fun c_7 => ?_)
    · rw [if_pos c_7] at h
      refine v_aload_n dX6_readBrackets_42 rfl ?_
      replace h := p_bind_elim h
      obtain ⟨r_8, q_9, h⟩ := h
      refine v_cVr (hrc4 q_9) cal_X6_readSum ml_X6_140 sel_X6_readSum q_1 kk_6 dX6_readBrackets_43 (by omega) (by decide) (by decide) (Nat.le_of_ble_eq_true rfl) rfl ?_
      refine v_if_ne 51 dX6_readBrackets_46 (by decide) (fun c_10 => ?_) (fun c_10 => ?_)
      · rw [if_neg c_10] at h
        refine v_sub [(0, .ref (B + p0)), (1, .int p1)] ⟨rfl, rfl, trivial⟩ ?_
        exact j51 _ _ _ h
      · rw [if_pos c_10] at h
        refine v_iconstE (0 : Int32) dX6_readBrackets_49 (by decide) ?_
        cases h
        exact v_zret dX6_readBrackets_50 rfl rfl (by decide) (by decide) (by rw [← hQ]; exact ⟨rfl, rfl, rfl, rfl, rfl⟩)
    · rw [if_neg c_7] at h
      refine v_aload_n dX6_readBrackets_32 rfl ?_
      replace h := p_bind_elim h
      obtain ⟨r_23, q_24, h⟩ := h
      refine v_cVr (hrc0 q_24) cal_X6_readTest ml_X6_131 sel_X6_readTest q_1 kk_6 dX6_readBrackets_33 (by omega) (by decide) (by decide) (Nat.le_of_ble_eq_true rfl) rfl ?_
      refine v_if_eq 49 dX6_readBrackets_36 (by decide) (fun c_25 => ?_) (fun c_25 => ?_)
      · rw [if_pos c_25] at h
        refine v_iconstE (0 : Int32) dX6_readBrackets_49 (by decide) ?_
        cases h
        exact v_zret dX6_readBrackets_50 rfl rfl (by decide) (by decide) (by rw [← hQ]; exact ⟨rfl, rfl, rfl, rfl, rfl⟩)
      · rw [if_neg c_25] at h
        refine v_goto 51 dX6_readBrackets_39 (by decide) ?_
        refine v_sub [(0, .ref (B + p0)), (1, .int p1)] ⟨rfl, rfl, trivial⟩ ?_
        exact j51 _ _ _ h
  · rw [if_neg c_2] at h
    refine v_aload_n dX6_readBrackets_9 rfl ?_
    replace h := p_bind_elim h
    obtain ⟨r_26, q_27, h⟩ := h
    refine v_cVr (t_X6_faultHere q_27) cal_X6_faultHere ml_X6_73 sel_X6_faultHere q_1 kk_6 dX6_readBrackets_10 (by omega) (by decide) (by decide) (Nat.le_of_ble_eq_true rfl) rfl ?_
    replace h := p_bind_elim h
    obtain ⟨_, q_28, h⟩ := h
    cases h
    exact v_zret dX6_readBrackets_13 rfl (p_bl_spec q_28).1 (by decide) (by decide) (by rw [← hQ]; exact ⟨rfl, rfl, rfl, rfl, rfl⟩)

def g_X6_readTest : Nat → Nat → Nat → Int32 → v_S → v_I → v_F → Option (Int32 × v_I)
  | 0, _, _, _, _, _, _ => none
  | n + 1, 0, a, _, S, I, F => f_X6_readTest (g_X6_readTest n) S I F a
  | n + 1, 1, a, _, S, I, F => f_X6_readBoth (g_X6_readTest n) S I F a
  | n + 1, 2, a, _, S, I, F => f_X6_readPlain (g_X6_readTest n) S I F a
  | n + 1, 3, a, _, S, I, F => f_X6_readComparison (g_X6_readTest n) S I F a
  | n + 1, 4, a, _, S, I, F => f_X6_readSum (g_X6_readTest n) S I F a
  | n + 1, 5, a, _, S, I, F => f_X6_readTerm (g_X6_readTest n) S I F a
  | n + 1, 6, a, _, S, I, F => f_X6_readPart (g_X6_readTest n) S I F a
  | n + 1, _, a, b, S, I, F => f_X6_readBrackets (g_X6_readTest n) S I F a b
set_option maxHeartbeats 4000000 in
theorem tgr_X6_readTest : ∀ n : Nat, (∀ {S : v_S} {I : v_I} {J : v_J} {F : v_F} {a : Nat} {r : Int32 × v_I}, g_X6_readTest n 0 a 0 S I F = some r → v_R l B D ac (v_EE B wa wb wt sb sL sx) yX6_readTest cX6_readTest 4 (some .boolean) (3 + n) 0 0 [.ref (B + a)] S I J F (v_D (some (.int r.1)) S r.2 J F)) ∧ (∀ {S : v_S} {I : v_I} {J : v_J} {F : v_F} {a : Nat} {r : Int32 × v_I}, g_X6_readTest n 1 a 0 S I F = some r → v_R l B D ac (v_EE B wa wb wt sb sL sx) yX6_readBoth cX6_readBoth 4 (some .boolean) (3 + n) 0 0 [.ref (B + a)] S I J F (v_D (some (.int r.1)) S r.2 J F)) ∧ (∀ {S : v_S} {I : v_I} {J : v_J} {F : v_F} {a : Nat} {r : Int32 × v_I}, g_X6_readTest n 2 a 0 S I F = some r → v_R l B D ac (v_EE B wa wb wt sb sL sx) yX6_readPlain cX6_readPlain 3 (some .boolean) (3 + n) 0 0 [.ref (B + a)] S I J F (v_D (some (.int r.1)) S r.2 J F)) ∧ (∀ {S : v_S} {I : v_I} {J : v_J} {F : v_F} {a : Nat} {r : Int32 × v_I}, g_X6_readTest n 3 a 0 S I F = some r → v_R l B D ac (v_EE B wa wb wt sb sL sx) yX6_readComparison cX6_readComparison 3 (some .boolean) (3 + n) 0 0 [.ref (B + a)] S I J F (v_D (some (.int r.1)) S r.2 J F)) ∧ (∀ {S : v_S} {I : v_I} {J : v_J} {F : v_F} {a : Nat} {r : Int32 × v_I}, g_X6_readTest n 4 a 0 S I F = some r → v_R l B D ac (v_EE B wa wb wt sb sL sx) yX6_readSum cX6_readSum 4 (some .boolean) (3 + n) 0 0 [.ref (B + a)] S I J F (v_D (some (.int r.1)) S r.2 J F)) ∧ (∀ {S : v_S} {I : v_I} {J : v_J} {F : v_F} {a : Nat} {r : Int32 × v_I}, g_X6_readTest n 5 a 0 S I F = some r → v_R l B D ac (v_EE B wa wb wt sb sL sx) yX6_readTerm cX6_readTerm 4 (some .boolean) (3 + n) 0 0 [.ref (B + a)] S I J F (v_D (some (.int r.1)) S r.2 J F)) ∧ (∀ {S : v_S} {I : v_I} {J : v_J} {F : v_F} {a : Nat} {r : Int32 × v_I}, g_X6_readTest n 6 a 0 S I F = some r → v_R l B D ac (v_EE B wa wb wt sb sL sx) yX6_readPart cX6_readPart 4 (some .boolean) (3 + n) 0 0 [.ref (B + a)] S I J F (v_D (some (.int r.1)) S r.2 J F)) ∧ (∀ {S : v_S} {I : v_I} {J : v_J} {F : v_F} {a : Nat} {b : Int32} {r : Int32 × v_I}, g_X6_readTest n 7 a b S I F = some r → v_R l B D ac (v_EE B wa wb wt sb sL sx) yX6_readBrackets cX6_readBrackets 2 (some .boolean) (3 + n) 0 0 [.ref (B + a), .int b] S I J F (v_D (some (.int r.1)) S r.2 J F))
  | 0 => ⟨(fun h => by cases h), (fun h => by cases h), (fun h => by cases h), (fun h => by cases h), (fun h => by cases h), (fun h => by cases h), (fun h => by cases h), (fun h => by cases h)⟩
  | n + 1 => by
    have ih := @tgr_X6_readTest n
    obtain ⟨i0, i1, i2, i3, i4, i5, i6, i7⟩ := ih
    exact ⟨(fun h => t_X6_readTest (dd := 3 + n) (by omega) i1 h), (fun h => t_X6_readBoth (dd := 3 + n) (by omega) i2 h), (fun h => t_X6_readPlain (dd := 3 + n) (by omega) i3 i7 h), (fun h => t_X6_readComparison (dd := 3 + n) (by omega) i4 h), (fun h => t_X6_readSum (dd := 3 + n) (by omega) i5 h), (fun h => t_X6_readTerm (dd := 3 + n) (by omega) i6 h), (fun h => t_X6_readPart (dd := 3 + n) (by omega) i7 h), (fun h => t_X6_readBrackets (dd := 3 + n) (by omega) i0 i4 h)⟩
theorem tg_X6_readTest {a : Nat} {r : Int32 × v_I} (h : g_X6_readTest GNN 0 a 0 S I F = some r) : v_R l B D ac (v_EE B wa wb wt sb sL sx) yX6_readTest cX6_readTest 4 (some .boolean) 103 0 0 [.ref (B + a)] S I J F (v_D (some (.int r.1)) S r.2 J F) := v_R.mono ((tgr_X6_readTest GNN).1 h) (by rw [GN_eq]; omega)
theorem tg_X6_readBoth {a : Nat} {r : Int32 × v_I} (h : g_X6_readTest GNN 1 a 0 S I F = some r) : v_R l B D ac (v_EE B wa wb wt sb sL sx) yX6_readBoth cX6_readBoth 4 (some .boolean) 103 0 0 [.ref (B + a)] S I J F (v_D (some (.int r.1)) S r.2 J F) := v_R.mono ((tgr_X6_readTest GNN).2.1 h) (by rw [GN_eq]; omega)
theorem tg_X6_readPlain {a : Nat} {r : Int32 × v_I} (h : g_X6_readTest GNN 2 a 0 S I F = some r) : v_R l B D ac (v_EE B wa wb wt sb sL sx) yX6_readPlain cX6_readPlain 3 (some .boolean) 103 0 0 [.ref (B + a)] S I J F (v_D (some (.int r.1)) S r.2 J F) := v_R.mono ((tgr_X6_readTest GNN).2.2.1 h) (by rw [GN_eq]; omega)
theorem tg_X6_readComparison {a : Nat} {r : Int32 × v_I} (h : g_X6_readTest GNN 3 a 0 S I F = some r) : v_R l B D ac (v_EE B wa wb wt sb sL sx) yX6_readComparison cX6_readComparison 3 (some .boolean) 103 0 0 [.ref (B + a)] S I J F (v_D (some (.int r.1)) S r.2 J F) := v_R.mono ((tgr_X6_readTest GNN).2.2.2.1 h) (by rw [GN_eq]; omega)
theorem tg_X6_readSum {a : Nat} {r : Int32 × v_I} (h : g_X6_readTest GNN 4 a 0 S I F = some r) : v_R l B D ac (v_EE B wa wb wt sb sL sx) yX6_readSum cX6_readSum 4 (some .boolean) 103 0 0 [.ref (B + a)] S I J F (v_D (some (.int r.1)) S r.2 J F) := v_R.mono ((tgr_X6_readTest GNN).2.2.2.2.1 h) (by rw [GN_eq]; omega)
theorem tg_X6_readTerm {a : Nat} {r : Int32 × v_I} (h : g_X6_readTest GNN 5 a 0 S I F = some r) : v_R l B D ac (v_EE B wa wb wt sb sL sx) yX6_readTerm cX6_readTerm 4 (some .boolean) 103 0 0 [.ref (B + a)] S I J F (v_D (some (.int r.1)) S r.2 J F) := v_R.mono ((tgr_X6_readTest GNN).2.2.2.2.2.1 h) (by rw [GN_eq]; omega)
theorem tg_X6_readPart {a : Nat} {r : Int32 × v_I} (h : g_X6_readTest GNN 6 a 0 S I F = some r) : v_R l B D ac (v_EE B wa wb wt sb sL sx) yX6_readPart cX6_readPart 4 (some .boolean) 103 0 0 [.ref (B + a)] S I J F (v_D (some (.int r.1)) S r.2 J F) := v_R.mono ((tgr_X6_readTest GNN).2.2.2.2.2.2.1 h) (by rw [GN_eq]; omega)
theorem tg_X6_readBrackets {a : Nat} {b : Int32} {r : Int32 × v_I} (h : g_X6_readTest GNN 7 a b S I F = some r) : v_R l B D ac (v_EE B wa wb wt sb sL sx) yX6_readBrackets cX6_readBrackets 2 (some .boolean) 103 0 0 [.ref (B + a), .int b] S I J F (v_D (some (.int r.1)) S r.2 J F) := v_R.mono ((tgr_X6_readTest GNN).2.2.2.2.2.2.2 h) (by rw [GN_eq]; omega)

def f_X6_readLaw (S : v_S) (I : v_I) (F : v_F) (p0 : Nat) (p1 : Int32) (p2 : Int32) : Option (Int32 × v_I) :=
if p2 = (2 : Int32) then (
some ((1 : Int32), I))
else (
(p_ob S 6 p0).bind fun _ =>
(F p0 0).bind fun a_3 =>
(p_ob S 8 a_3).bind fun _ =>
(F a_3 4).bind fun a_6 =>
(F p0 0).bind fun a_8 =>
(p_ob S 8 a_8).bind fun _ =>
(p_ix S 20 a_6 p1).bind fun j_11 =>
p_let (v_up I a_6 j_11 (I a_8 1)) fun I_13 =>
(g_X6_readTest GNN 4 p0 0 S I_13 F).bind fun r_15 =>
(F p0 0).bind fun a_17 =>
(p_ob S 8 a_17).bind fun _ =>
(f_X8_addStep S r_15.2 F a_17 (0 : Int32) (0 : Int32)).bind fun r_19 =>
(p_bl r_15.1).bind fun _ =>
some (r_15.1, r_19.2))
set_option maxHeartbeats 4000000 in
set_option maxRecDepth 100000 in
theorem t_X6_readLaw {p0 : Nat} {p1 : Int32} {p2 : Int32} {r : Int32 × v_I} (h : f_X6_readLaw S I F p0 p1 p2 = some r) : v_R l B D ac (v_EE B wa wb wt sb sL sx) yX6_readLaw cX6_readLaw 4 (some .boolean) 104 0 0 [.ref (B + p0), .int p1, .int p2] S I J F (v_D (some (.int r.1)) S r.2 J F) := by
  refine v_R.of (by decide) (Nat.le_of_ble_eq_true rfl) fun d hd => ?_
  generalize hQ : v_D (some (.int r.1)) S r.2 J F = Q
  unfold f_X6_readLaw at h
  refine v_sub [(0, .ref (B + p0)), (1, .int p1), (2, .int p2)] ⟨rfl, rfl, rfl, trivial⟩ ?_
  refine v_iload_n dX6_readLaw_0 rfl ?_
  refine v_iconstE (2 : Int32) dX6_readLaw_1 (by decide) ?_
  refine v_icmp_ne 7 dX6_readLaw_2 (by decide) (fun c_1 => ?_) (fun c_1 => ?_)
  · rw [if_neg c_1] at h
    refine v_aload_n dX6_readLaw_7 rfl ?_
    replace h := p_bind_elim h
    obtain ⟨_, q_2, h⟩ := h
    have q_2 := p_ob_spec q_2
    replace h := p_bind_elim h
    obtain ⟨a_3, q_4, h⟩ := h
    refine v_getR q_4 rfl fl_X6_14 dX6_readLaw_8 q_2 ?_
    replace h := p_bind_elim h
    obtain ⟨_, q_5, h⟩ := h
    have q_5 := p_ob_spec q_5
    replace h := p_bind_elim h
    obtain ⟨a_6, q_7, h⟩ := h
    refine v_getR q_7 rfl fl_X6_137 dX6_readLaw_11 q_5 ?_
    refine v_iload_n dX6_readLaw_14 rfl ?_
    refine v_aload_n dX6_readLaw_15 rfl ?_
    replace h := p_bind_elim h
    obtain ⟨a_8, q_9, h⟩ := h
    refine v_getR q_9 rfl fl_X6_14 dX6_readLaw_16 q_2 ?_
    replace h := p_bind_elim h
    obtain ⟨_, q_10, h⟩ := h
    have q_10 := p_ob_spec q_10
    refine v_getI rfl fl_X6_128 dX6_readLaw_19 q_10 ?_
    replace h := p_bind_elim h
    obtain ⟨j_11, q_12, h⟩ := h
    refine v_iastP dX6_readLaw_22 q_12 ?_
    replace h := p_let_elim h
    obtain ⟨I_13, h_14, h⟩ := h
    rw [← h_14]
    refine v_aload_n dX6_readLaw_23 rfl ?_
    replace h := p_bind_elim h
    obtain ⟨r_15, q_16, h⟩ := h
    refine v_cVr (tg_X6_readSum q_16) cal_X6_readSum ml_X6_140 sel_X6_readSum q_2 kk_6 dX6_readLaw_24 (by omega) (by decide) (by decide) (Nat.le_of_ble_eq_true rfl) rfl ?_
    refine v_istore_n dX6_readLaw_27 (by decide) ?_
    refine v_sub [(0, .ref (B + p0)), (3, .int r_15.1)] ⟨rfl, rfl, trivial⟩ ?_
    refine v_aload_n dX6_readLaw_28 rfl ?_
    replace h := p_bind_elim h
    obtain ⟨a_17, q_18, h⟩ := h
    refine v_getR q_18 rfl fl_X6_14 dX6_readLaw_29 q_2 ?_
    refine v_iconstE (0 : Int32) dX6_readLaw_32 (by decide) ?_
    refine v_iconstE (0 : Int32) dX6_readLaw_33 (by decide) ?_
    replace h := p_bind_elim h
    obtain ⟨_, q_21, h⟩ := h
    have q_21 := p_ob_spec q_21
    replace h := p_bind_elim h
    obtain ⟨r_19, q_20, h⟩ := h
    refine v_cVr (t_X8_addStep q_20) cal_X8_addStep ml_X6_134 sel_X8_addStep q_21 kk_8 dX6_readLaw_34 (by omega) (by decide) (by decide) (Nat.le_of_ble_eq_true rfl) rfl ?_
    refine v_pop dX6_readLaw_37 rfl ?_
    refine v_iload_n dX6_readLaw_38 rfl ?_
    replace h := p_bind_elim h
    obtain ⟨_, q_22, h⟩ := h
    cases h
    exact v_zret dX6_readLaw_39 rfl (p_bl_spec q_22).1 (by decide) (by decide) (by rw [← hQ]; exact ⟨rfl, rfl, rfl, rfl, rfl⟩)
  · rw [if_pos c_1] at h
    refine v_iconstE (1 : Int32) dX6_readLaw_5 (by decide) ?_
    cases h
    exact v_zret dX6_readLaw_6 rfl rfl (by decide) (by decide) (by rw [← hQ]; exact ⟨rfl, rfl, rfl, rfl, rfl⟩)

def f_X6_readOrder_J93 (S : v_S) (F : v_F) (I : v_I) (y0 : Nat) (y1 : Int32) (y3 : Int32) : Option (Int32 × v_I) :=
if y3 = (0 : Int32) then (
(p_bl y3).bind fun _ =>
some (y3, I))
else (
(p_ob S 6 y0).bind fun _ =>
(f_X6_take S I F y0 (265 : Int32)).bind fun r_5 =>
if r_5.1 = (0 : Int32) then (
(p_bl y3).bind fun _ =>
some (y3, r_5.2))
else (
(f_X6_numberAtHand S r_5.2 y0 (20 : Int32)).bind fun r_10 =>
if (1 : Int32) ≤ r_10 then (
(F y0 0).bind fun a_13 =>
(p_ob S 8 a_13).bind fun _ =>
(F a_13 7).bind fun a_16 =>
(p_ix S 20 a_16 y1).bind fun j_18 =>
p_let (v_up r_5.2 a_16 j_18 r_10) fun I_20 =>
(f_X6_nextToken S I_20 F y0).bind fun r_22 =>
(p_bl y3).bind fun _ =>
some (y3, r_22))
else (
(f_X6_faultHere S r_5.2 F y0).bind fun r_25 =>
(p_bl r_25.1).bind fun _ =>
some (r_25.1, r_25.2))))
def f_X6_readOrder_J38 (S : v_S) (F : v_F) (I : v_I) (y0 : Nat) (y1 : Int32) (y2 : Int32) (y3 : Int32) : Option (Int32 × v_I) :=
if y3 = (0 : Int32) then (
f_X6_readOrder_J93 S F I y0 y1 y3)
else (
if y2 = (2 : Int32) then (
(p_ob S 6 y0).bind fun _ =>
(f_X6_take S I F y0 (264 : Int32)).bind fun r_29 =>
if r_29.1 = (0 : Int32) then (
(f_X6_faultHere S r_29.2 F y0).bind fun r_52 =>
(p_bl r_52.1).bind fun _ =>
some (r_52.1, r_52.2))
else (
(F y0 0).bind fun a_33 =>
(p_ob S 8 a_33).bind fun _ =>
(F a_33 5).bind fun a_36 =>
(F y0 0).bind fun a_38 =>
(p_ob S 8 a_38).bind fun _ =>
(p_ix S 20 a_36 y1).bind fun j_41 =>
p_let (v_up r_29.2 a_36 j_41 (r_29.2 a_38 1)) fun I_43 =>
(g_X6_readTest GNN 4 y0 0 S I_43 F).bind fun r_45 =>
(F y0 0).bind fun a_47 =>
(p_ob S 8 a_47).bind fun _ =>
(f_X8_addStep S r_45.2 F a_47 (0 : Int32) (0 : Int32)).bind fun r_49 =>
f_X6_readOrder_J93 S F r_49.2 y0 y1 r_45.1))
else (
f_X6_readOrder_J93 S F I y0 y1 y3))
def f_X6_readOrder (S : v_S) (I : v_I) (F : v_F) (p0 : Nat) (p1 : Int32) (p2 : Int32) : Option (Int32 × v_I) :=
if p2 = (3 : Int32) then (
f_X6_readOrder_J38 S F I p0 p1 p2 (1 : Int32))
else (
(p_ob S 6 p0).bind fun _ =>
(F p0 0).bind fun a_56 =>
(p_ob S 8 a_56).bind fun _ =>
(F a_56 4).bind fun a_59 =>
(F p0 0).bind fun a_61 =>
(p_ob S 8 a_61).bind fun _ =>
(p_ix S 20 a_59 p1).bind fun j_64 =>
p_let (v_up I a_59 j_64 (I a_61 1)) fun I_66 =>
(g_X6_readTest GNN 4 p0 0 S I_66 F).bind fun r_68 =>
(F p0 0).bind fun a_70 =>
(p_ob S 8 a_70).bind fun _ =>
(f_X8_addStep S r_68.2 F a_70 (0 : Int32) (0 : Int32)).bind fun r_72 =>
f_X6_readOrder_J38 S F r_72.2 p0 p1 p2 r_68.1)
set_option maxHeartbeats 4000000 in
set_option maxRecDepth 100000 in
theorem t_X6_readOrder {p0 : Nat} {p1 : Int32} {p2 : Int32} {r : Int32 × v_I} (h : f_X6_readOrder S I F p0 p1 p2 = some r) : v_R l B D ac (v_EE B wa wb wt sb sL sx) yX6_readOrder cX6_readOrder 5 (some .boolean) 104 0 0 [.ref (B + p0), .int p1, .int p2] S I J F (v_D (some (.int r.1)) S r.2 J F) := by
  refine v_R.of (by decide) (Nat.le_of_ble_eq_true rfl) fun d hd => ?_
  generalize hQ : v_D (some (.int r.1)) S r.2 J F = Q
  have j93 : ∀ (I : v_I) (y0 : Nat) (y1 : Int32) (y3 : Int32), f_X6_readOrder_J93 S F I y0 y1 y3 = some r → V l B D ac (v_EE B wa wb wt sb sL sx) yX6_readOrder cX6_readOrder 5 (some .boolean) d 0 0 0 0 S I J F 93 [(0, .ref (B + y0)), (1, .int y1), (3, .int y3)] [] Q := by
    intro I y0 y1 y3 h
    unfold f_X6_readOrder_J93 at h
    refine v_iload_n dX6_readOrder_93 rfl ?_
    refine v_if_eq 141 dX6_readOrder_94 (by decide) (fun c_3 => ?_) (fun c_3 => ?_)
    · rw [if_pos c_3] at h
      refine v_iload_n dX6_readOrder_141 rfl ?_
      replace h := p_bind_elim h
      obtain ⟨_, q_4, h⟩ := h
      cases h
      exact v_zret dX6_readOrder_142 rfl (p_bl_spec q_4).1 (by decide) (by decide) (by rw [← hQ]; exact ⟨rfl, rfl, rfl, rfl, rfl⟩)
    · rw [if_neg c_3] at h
      refine v_aload_n dX6_readOrder_97 rfl ?_
      refine v_sipush (265 : Int32) dX6_readOrder_98 (by decide) ?_
      replace h := p_bind_elim h
      obtain ⟨_, q_7, h⟩ := h
      have q_7 := p_ob_spec q_7
      replace h := p_bind_elim h
      obtain ⟨r_5, q_6, h⟩ := h
      refine v_cVr (t_X6_take q_6) cal_X6_take ml_X6_122 sel_X6_take q_7 kk_6 dX6_readOrder_101 (by omega) (by decide) (by decide) (Nat.le_of_ble_eq_true rfl) rfl ?_
      refine v_if_eq 141 dX6_readOrder_104 (by decide) (fun c_8 => ?_) (fun c_8 => ?_)
      · rw [if_pos c_8] at h
        refine v_iload_n dX6_readOrder_141 rfl ?_
        replace h := p_bind_elim h
        obtain ⟨_, q_9, h⟩ := h
        cases h
        exact v_zret dX6_readOrder_142 rfl (p_bl_spec q_9).1 (by decide) (by decide) (by rw [← hQ]; exact ⟨rfl, rfl, rfl, rfl, rfl⟩)
      · rw [if_neg c_8] at h
        refine v_aload_n dX6_readOrder_107 rfl ?_
        refine v_bipush (20 : Int32) dX6_readOrder_108 (by decide) ?_
        replace h := p_bind_elim h
        obtain ⟨r_10, q_11, h⟩ := h
        refine v_cVr (t_X6_numberAtHand q_11) cal_X6_numberAtHand ml_X6_146 sel_X6_numberAtHand q_7 kk_6 dX6_readOrder_110 (by omega) (by decide) (by decide) (Nat.le_of_ble_eq_true rfl) rfl ?_
        refine v_istore dX6_readOrder_113 (by decide) ?_
        refine v_sub [(0, .ref (B + y0)), (1, .int y1), (3, .int y3), (4, .int r_10)] ⟨rfl, rfl, rfl, rfl, trivial⟩ ?_
        refine v_iload dX6_readOrder_115 rfl ?_
        refine v_iconstE (1 : Int32) dX6_readOrder_117 (by decide) ?_
        refine v_icmp_ge 126 dX6_readOrder_118 (by decide) (fun c_12 => ?_) (fun c_12 => ?_)
        · rw [if_pos c_12] at h
          refine v_aload_n dX6_readOrder_126 rfl ?_
          replace h := p_bind_elim h
          obtain ⟨a_13, q_14, h⟩ := h
          refine v_getR q_14 rfl fl_X6_14 dX6_readOrder_127 q_7 ?_
          replace h := p_bind_elim h
          obtain ⟨_, q_15, h⟩ := h
          have q_15 := p_ob_spec q_15
          replace h := p_bind_elim h
          obtain ⟨a_16, q_17, h⟩ := h
          refine v_getR q_17 rfl fl_X6_150 dX6_readOrder_130 q_15 ?_
          refine v_iload_n dX6_readOrder_133 rfl ?_
          refine v_iload dX6_readOrder_134 rfl ?_
          replace h := p_bind_elim h
          obtain ⟨j_18, q_19, h⟩ := h
          refine v_iastP dX6_readOrder_136 q_19 ?_
          replace h := p_let_elim h
          obtain ⟨I_20, h_21, h⟩ := h
          rw [← h_21]
          refine v_aload_n dX6_readOrder_137 rfl ?_
          replace h := p_bind_elim h
          obtain ⟨r_22, q_23, h⟩ := h
          refine v_cVn (t_X6_nextToken q_23) cal_X6_nextToken ml_X6_70 sel_X6_nextToken q_7 kk_6 dX6_readOrder_138 (by omega) (by decide) (by decide) (Nat.le_of_ble_eq_true rfl) rfl ?_
          refine v_iload_n dX6_readOrder_141 rfl ?_
          replace h := p_bind_elim h
          obtain ⟨_, q_24, h⟩ := h
          cases h
          exact v_zret dX6_readOrder_142 rfl (p_bl_spec q_24).1 (by decide) (by decide) (by rw [← hQ]; exact ⟨rfl, rfl, rfl, rfl, rfl⟩)
        · rw [if_neg c_12] at h
          refine v_aload_n dX6_readOrder_121 rfl ?_
          replace h := p_bind_elim h
          obtain ⟨r_25, q_26, h⟩ := h
          refine v_cVr (t_X6_faultHere q_26) cal_X6_faultHere ml_X6_73 sel_X6_faultHere q_7 kk_6 dX6_readOrder_122 (by omega) (by decide) (by decide) (Nat.le_of_ble_eq_true rfl) rfl ?_
          replace h := p_bind_elim h
          obtain ⟨_, q_27, h⟩ := h
          cases h
          exact v_zret dX6_readOrder_125 rfl (p_bl_spec q_27).1 (by decide) (by decide) (by rw [← hQ]; exact ⟨rfl, rfl, rfl, rfl, rfl⟩)
  have j38 : ∀ (I : v_I) (y0 : Nat) (y1 : Int32) (y2 : Int32) (y3 : Int32), f_X6_readOrder_J38 S F I y0 y1 y2 y3 = some r → V l B D ac (v_EE B wa wb wt sb sL sx) yX6_readOrder cX6_readOrder 5 (some .boolean) d 0 0 0 0 S I J F 38 [(0, .ref (B + y0)), (1, .int y1), (2, .int y2), (3, .int y3)] [] Q := by
    intro I y0 y1 y2 y3 h
    unfold f_X6_readOrder_J38 at h
    refine v_iload_n dX6_readOrder_38 rfl ?_
    refine v_if_eq 93 dX6_readOrder_39 (by decide) (fun c_2 => ?_) (fun c_2 => ?_)
    · rw [if_pos c_2] at h
      refine v_sub [(0, .ref (B + y0)), (1, .int y1), (3, .int y3)] ⟨rfl, rfl, rfl, trivial⟩ ?_
      exact j93 _ _ _ _ h
    · rw [if_neg c_2] at h
      refine v_iload_n dX6_readOrder_42 rfl ?_
      refine v_iconstE (2 : Int32) dX6_readOrder_43 (by decide) ?_
      refine v_icmp_ne 93 dX6_readOrder_44 (by decide) (fun c_28 => ?_) (fun c_28 => ?_)
      · rw [if_neg c_28] at h
        refine v_sub [(0, .ref (B + y0)), (1, .int y1), (3, .int y3)] ⟨rfl, rfl, rfl, trivial⟩ ?_
        exact j93 _ _ _ _ h
      · rw [if_pos c_28] at h
        refine v_aload_n dX6_readOrder_47 rfl ?_
        refine v_sipush (264 : Int32) dX6_readOrder_48 (by decide) ?_
        replace h := p_bind_elim h
        obtain ⟨_, q_31, h⟩ := h
        have q_31 := p_ob_spec q_31
        replace h := p_bind_elim h
        obtain ⟨r_29, q_30, h⟩ := h
        refine v_cVr (t_X6_take q_30) cal_X6_take ml_X6_122 sel_X6_take q_31 kk_6 dX6_readOrder_51 (by omega) (by decide) (by decide) (Nat.le_of_ble_eq_true rfl) rfl ?_
        refine v_if_ne 62 dX6_readOrder_54 (by decide) (fun c_32 => ?_) (fun c_32 => ?_)
        · rw [if_neg c_32] at h
          refine v_aload_n dX6_readOrder_62 rfl ?_
          replace h := p_bind_elim h
          obtain ⟨a_33, q_34, h⟩ := h
          refine v_getR q_34 rfl fl_X6_14 dX6_readOrder_63 q_31 ?_
          replace h := p_bind_elim h
          obtain ⟨_, q_35, h⟩ := h
          have q_35 := p_ob_spec q_35
          replace h := p_bind_elim h
          obtain ⟨a_36, q_37, h⟩ := h
          refine v_getR q_37 rfl fl_X6_143 dX6_readOrder_66 q_35 ?_
          refine v_iload_n dX6_readOrder_69 rfl ?_
          refine v_aload_n dX6_readOrder_70 rfl ?_
          replace h := p_bind_elim h
          obtain ⟨a_38, q_39, h⟩ := h
          refine v_getR q_39 rfl fl_X6_14 dX6_readOrder_71 q_31 ?_
          replace h := p_bind_elim h
          obtain ⟨_, q_40, h⟩ := h
          have q_40 := p_ob_spec q_40
          refine v_getI rfl fl_X6_128 dX6_readOrder_74 q_40 ?_
          replace h := p_bind_elim h
          obtain ⟨j_41, q_42, h⟩ := h
          refine v_iastP dX6_readOrder_77 q_42 ?_
          replace h := p_let_elim h
          obtain ⟨I_43, h_44, h⟩ := h
          rw [← h_44]
          refine v_aload_n dX6_readOrder_78 rfl ?_
          replace h := p_bind_elim h
          obtain ⟨r_45, q_46, h⟩ := h
          refine v_cVr (tg_X6_readSum q_46) cal_X6_readSum ml_X6_140 sel_X6_readSum q_31 kk_6 dX6_readOrder_79 (by omega) (by decide) (by decide) (Nat.le_of_ble_eq_true rfl) rfl ?_
          refine v_istore_n dX6_readOrder_82 (by decide) ?_
          refine v_sub [(0, .ref (B + y0)), (1, .int y1), (3, .int r_45.1)] ⟨rfl, rfl, rfl, trivial⟩ ?_
          refine v_aload_n dX6_readOrder_83 rfl ?_
          replace h := p_bind_elim h
          obtain ⟨a_47, q_48, h⟩ := h
          refine v_getR q_48 rfl fl_X6_14 dX6_readOrder_84 q_31 ?_
          refine v_iconstE (0 : Int32) dX6_readOrder_87 (by decide) ?_
          refine v_iconstE (0 : Int32) dX6_readOrder_88 (by decide) ?_
          replace h := p_bind_elim h
          obtain ⟨_, q_51, h⟩ := h
          have q_51 := p_ob_spec q_51
          replace h := p_bind_elim h
          obtain ⟨r_49, q_50, h⟩ := h
          refine v_cVr (t_X8_addStep q_50) cal_X8_addStep ml_X6_134 sel_X8_addStep q_51 kk_8 dX6_readOrder_89 (by omega) (by decide) (by decide) (Nat.le_of_ble_eq_true rfl) rfl ?_
          refine v_pop dX6_readOrder_92 rfl ?_
          refine v_sub [(0, .ref (B + y0)), (1, .int y1), (3, .int r_45.1)] ⟨rfl, rfl, rfl, trivial⟩ ?_
          exact j93 _ _ _ _ h
        · rw [if_pos c_32] at h
          refine v_aload_n dX6_readOrder_57 rfl ?_
          replace h := p_bind_elim h
          obtain ⟨r_52, q_53, h⟩ := h
          refine v_cVr (t_X6_faultHere q_53) cal_X6_faultHere ml_X6_73 sel_X6_faultHere q_31 kk_6 dX6_readOrder_58 (by omega) (by decide) (by decide) (Nat.le_of_ble_eq_true rfl) rfl ?_
          replace h := p_bind_elim h
          obtain ⟨_, q_54, h⟩ := h
          cases h
          exact v_zret dX6_readOrder_61 rfl (p_bl_spec q_54).1 (by decide) (by decide) (by rw [← hQ]; exact ⟨rfl, rfl, rfl, rfl, rfl⟩)
  unfold f_X6_readOrder at h
  refine v_sub [(0, .ref (B + p0)), (1, .int p1), (2, .int p2)] ⟨rfl, rfl, rfl, trivial⟩ ?_
  refine v_iconstE (1 : Int32) dX6_readOrder_0 (by decide) ?_
  refine v_istore_n dX6_readOrder_1 (by decide) ?_
  refine v_sub [(0, .ref (B + p0)), (1, .int p1), (2, .int p2), (3, .int (1 : Int32))] ⟨rfl, rfl, rfl, rfl, trivial⟩ ?_
  refine v_iload_n dX6_readOrder_2 rfl ?_
  refine v_iconstE (3 : Int32) dX6_readOrder_3 (by decide) ?_
  refine v_icmp_eq 38 dX6_readOrder_4 (by decide) (fun c_1 => ?_) (fun c_1 => ?_)
  · rw [if_pos c_1] at h
    refine v_sub [(0, .ref (B + p0)), (1, .int p1), (2, .int p2), (3, .int (1 : Int32))] ⟨rfl, rfl, rfl, rfl, trivial⟩ ?_
    exact j38 _ _ _ _ _ h
  · rw [if_neg c_1] at h
    refine v_aload_n dX6_readOrder_7 rfl ?_
    replace h := p_bind_elim h
    obtain ⟨_, q_55, h⟩ := h
    have q_55 := p_ob_spec q_55
    replace h := p_bind_elim h
    obtain ⟨a_56, q_57, h⟩ := h
    refine v_getR q_57 rfl fl_X6_14 dX6_readOrder_8 q_55 ?_
    replace h := p_bind_elim h
    obtain ⟨_, q_58, h⟩ := h
    have q_58 := p_ob_spec q_58
    replace h := p_bind_elim h
    obtain ⟨a_59, q_60, h⟩ := h
    refine v_getR q_60 rfl fl_X6_137 dX6_readOrder_11 q_58 ?_
    refine v_iload_n dX6_readOrder_14 rfl ?_
    refine v_aload_n dX6_readOrder_15 rfl ?_
    replace h := p_bind_elim h
    obtain ⟨a_61, q_62, h⟩ := h
    refine v_getR q_62 rfl fl_X6_14 dX6_readOrder_16 q_55 ?_
    replace h := p_bind_elim h
    obtain ⟨_, q_63, h⟩ := h
    have q_63 := p_ob_spec q_63
    refine v_getI rfl fl_X6_128 dX6_readOrder_19 q_63 ?_
    replace h := p_bind_elim h
    obtain ⟨j_64, q_65, h⟩ := h
    refine v_iastP dX6_readOrder_22 q_65 ?_
    replace h := p_let_elim h
    obtain ⟨I_66, h_67, h⟩ := h
    rw [← h_67]
    refine v_aload_n dX6_readOrder_23 rfl ?_
    replace h := p_bind_elim h
    obtain ⟨r_68, q_69, h⟩ := h
    refine v_cVr (tg_X6_readSum q_69) cal_X6_readSum ml_X6_140 sel_X6_readSum q_55 kk_6 dX6_readOrder_24 (by omega) (by decide) (by decide) (Nat.le_of_ble_eq_true rfl) rfl ?_
    refine v_istore_n dX6_readOrder_27 (by decide) ?_
    refine v_sub [(0, .ref (B + p0)), (1, .int p1), (2, .int p2), (3, .int r_68.1)] ⟨rfl, rfl, rfl, rfl, trivial⟩ ?_
    refine v_aload_n dX6_readOrder_28 rfl ?_
    replace h := p_bind_elim h
    obtain ⟨a_70, q_71, h⟩ := h
    refine v_getR q_71 rfl fl_X6_14 dX6_readOrder_29 q_55 ?_
    refine v_iconstE (0 : Int32) dX6_readOrder_32 (by decide) ?_
    refine v_iconstE (0 : Int32) dX6_readOrder_33 (by decide) ?_
    replace h := p_bind_elim h
    obtain ⟨_, q_74, h⟩ := h
    have q_74 := p_ob_spec q_74
    replace h := p_bind_elim h
    obtain ⟨r_72, q_73, h⟩ := h
    refine v_cVr (t_X8_addStep q_73) cal_X8_addStep ml_X6_134 sel_X8_addStep q_74 kk_8 dX6_readOrder_34 (by omega) (by decide) (by decide) (Nat.le_of_ble_eq_true rfl) rfl ?_
    refine v_pop dX6_readOrder_37 rfl ?_
    refine v_sub [(0, .ref (B + p0)), (1, .int p1), (2, .int p2), (3, .int r_68.1)] ⟨rfl, rfl, rfl, rfl, trivial⟩ ?_
    exact j38 _ _ _ _ _ h

def f_X6_readClause_J68 (S : v_S) (F : v_F) (I : v_I) (y0 : Nat) : Option (Int32 × v_I) :=
(p_ob S 6 y0).bind fun _ =>
(f_X6_faultHere S I F y0).bind fun r_9 =>
(p_bl r_9.1).bind fun _ =>
some (r_9.1, r_9.2)
def f_X6_readClause_J112 (S : v_S) (F : v_F) (I : v_I) (y0 : Nat) (y4 : Int32) (z0 : Int32) : Option (Int32 × v_I) :=
if z0 = (0 : Int32) then (
(p_bl z0).bind fun _ =>
some (z0, I))
else (
(p_ob S 6 y0).bind fun _ =>
(f_X6_take S I F y0 (263 : Int32)).bind fun r_32 =>
if r_32.1 = (0 : Int32) then (
(p_bl z0).bind fun _ =>
some (z0, r_32.2))
else (
(F y0 0).bind fun a_37 =>
(p_ob S 8 a_37).bind fun _ =>
(F a_37 6).bind fun a_40 =>
(F y0 0).bind fun a_42 =>
(p_ob S 8 a_42).bind fun _ =>
(p_ix S 20 a_40 y4).bind fun j_45 =>
p_let (v_up r_32.2 a_40 j_45 (r_32.2 a_42 1)) fun I_47 =>
(g_X6_readTest GNN 0 y0 0 S I_47 F).bind fun r_49 =>
(F y0 0).bind fun a_51 =>
(p_ob S 8 a_51).bind fun _ =>
(f_X8_addStep S r_49.2 F a_51 (0 : Int32) (0 : Int32)).bind fun r_53 =>
(p_bl r_49.1).bind fun _ =>
some (r_49.1, r_53.2)))
def f_X6_readClause_J33 (S : v_S) (F : v_F) (I : v_I) (y0 : Nat) (y1 : Int32) (z0 : Int32) : Option (Int32 × v_I) :=
(p_ob S 6 y0).bind fun _ =>
p_let ((I y0 5) - y1) fun x_6 =>
if (I y0 5) < y1 then (
f_X6_readClause_J68 S F I y0)
else (
if z0 < (I y0 5) then (
f_X6_readClause_J68 S F I y0)
else (
(F y0 0).bind fun a_14 =>
(p_ob S 8 a_14).bind fun _ =>
(f_X8_addClause S I F a_14 x_6).bind fun r_16 =>
if r_16.1 = (0 : Int32) then (
f_X6_readClause_J68 S F r_16.2 y0)
else (
(f_X6_nextToken S r_16.2 F y0).bind fun r_20 =>
(F y0 0).bind fun a_22 =>
(p_ob S 8 a_22).bind fun _ =>
p_let ((r_20 a_22 0) - (1 : Int32)) fun x_25 =>
if (r_20 y0 6) = (0 : Int32) then (
(f_X6_readLaw S r_20 F y0 x_25 x_6).bind fun r_28 =>
f_X6_readClause_J112 S F r_28.2 y0 x_25 r_28.1)
else (
(f_X6_readOrder S r_20 F y0 x_25 x_6).bind fun r_57 =>
f_X6_readClause_J112 S F r_57.2 y0 x_25 r_57.1))))
def f_X6_readClause_J16 (S : v_S) (F : v_F) (I : v_I) (y0 : Nat) (z0 : Int32) : Option (Int32 × v_I) :=
(p_ob S 6 y0).bind fun _ =>
if (I y0 6) = (0 : Int32) then (
f_X6_readClause_J33 S F I y0 z0 (258 : Int32))
else (
f_X6_readClause_J33 S F I y0 z0 (262 : Int32))
def f_X6_readClause (S : v_S) (I : v_I) (F : v_F) (p0 : Nat) : Option (Int32 × v_I) :=
(p_ob S 6 p0).bind fun _ =>
if (I p0 6) = (0 : Int32) then (
f_X6_readClause_J16 S F I p0 (256 : Int32))
else (
f_X6_readClause_J16 S F I p0 (259 : Int32))
set_option maxHeartbeats 4000000 in
set_option maxRecDepth 100000 in
theorem t_X6_readClause {p0 : Nat} {r : Int32 × v_I} (h : f_X6_readClause S I F p0 = some r) : v_R l B D ac (v_EE B wa wb wt sb sL sx) yX6_readClause cX6_readClause 6 (some .boolean) 105 0 0 [.ref (B + p0)] S I J F (v_D (some (.int r.1)) S r.2 J F) := by
  refine v_R.of (by decide) (Nat.le_of_ble_eq_true rfl) fun d hd => ?_
  generalize hQ : v_D (some (.int r.1)) S r.2 J F = Q
  have j68 : ∀ (I : v_I) (y0 : Nat), f_X6_readClause_J68 S F I y0 = some r → V l B D ac (v_EE B wa wb wt sb sL sx) yX6_readClause cX6_readClause 6 (some .boolean) d 0 0 0 0 S I J F 68 [(0, .ref (B + y0))] [] Q := by
    intro I y0 h
    unfold f_X6_readClause_J68 at h
    refine v_aload_n dX6_readClause_68 rfl ?_
    replace h := p_bind_elim h
    obtain ⟨_, q_11, h⟩ := h
    have q_11 := p_ob_spec q_11
    replace h := p_bind_elim h
    obtain ⟨r_9, q_10, h⟩ := h
    refine v_cVr (t_X6_faultHere q_10) cal_X6_faultHere ml_X6_73 sel_X6_faultHere q_11 kk_6 dX6_readClause_69 (by omega) (by decide) (by decide) (Nat.le_of_ble_eq_true rfl) rfl ?_
    replace h := p_bind_elim h
    obtain ⟨_, q_12, h⟩ := h
    cases h
    exact v_zret dX6_readClause_72 rfl (p_bl_spec q_12).1 (by decide) (by decide) (by rw [← hQ]; exact ⟨rfl, rfl, rfl, rfl, rfl⟩)
  have j112 : ∀ (I : v_I) (y0 : Nat) (y4 : Int32) (z0 : Int32), f_X6_readClause_J112 S F I y0 y4 z0 = some r → V l B D ac (v_EE B wa wb wt sb sL sx) yX6_readClause cX6_readClause 6 (some .boolean) d 0 0 0 0 S I J F 112 [(0, .ref (B + y0)), (4, .int y4)] [.int z0] Q := by
    intro I y0 y4 z0 h
    unfold f_X6_readClause_J112 at h
    refine v_istore dX6_readClause_112 (by decide) ?_
    refine v_sub [(0, .ref (B + y0)), (4, .int y4), (5, .int z0)] ⟨rfl, rfl, rfl, trivial⟩ ?_
    refine v_iload dX6_readClause_114 rfl ?_
    refine v_if_eq 162 dX6_readClause_116 (by decide) (fun c_30 => ?_) (fun c_30 => ?_)
    · rw [if_pos c_30] at h
      refine v_iload dX6_readClause_162 rfl ?_
      replace h := p_bind_elim h
      obtain ⟨_, q_31, h⟩ := h
      cases h
      exact v_zret dX6_readClause_164 rfl (p_bl_spec q_31).1 (by decide) (by decide) (by rw [← hQ]; exact ⟨rfl, rfl, rfl, rfl, rfl⟩)
    · rw [if_neg c_30] at h
      refine v_aload_n dX6_readClause_119 rfl ?_
      refine v_sipush (263 : Int32) dX6_readClause_120 (by decide) ?_
      replace h := p_bind_elim h
      obtain ⟨_, q_34, h⟩ := h
      have q_34 := p_ob_spec q_34
      replace h := p_bind_elim h
      obtain ⟨r_32, q_33, h⟩ := h
      refine v_cVr (t_X6_take q_33) cal_X6_take ml_X6_122 sel_X6_take q_34 kk_6 dX6_readClause_123 (by omega) (by decide) (by decide) (Nat.le_of_ble_eq_true rfl) rfl ?_
      refine v_if_eq 162 dX6_readClause_126 (by decide) (fun c_35 => ?_) (fun c_35 => ?_)
      · rw [if_pos c_35] at h
        refine v_iload dX6_readClause_162 rfl ?_
        replace h := p_bind_elim h
        obtain ⟨_, q_36, h⟩ := h
        cases h
        exact v_zret dX6_readClause_164 rfl (p_bl_spec q_36).1 (by decide) (by decide) (by rw [← hQ]; exact ⟨rfl, rfl, rfl, rfl, rfl⟩)
      · rw [if_neg c_35] at h
        refine v_aload_n dX6_readClause_129 rfl ?_
        replace h := p_bind_elim h
        obtain ⟨a_37, q_38, h⟩ := h
        refine v_getR q_38 rfl fl_X6_14 dX6_readClause_130 q_34 ?_
        replace h := p_bind_elim h
        obtain ⟨_, q_39, h⟩ := h
        have q_39 := p_ob_spec q_39
        replace h := p_bind_elim h
        obtain ⟨a_40, q_41, h⟩ := h
        refine v_getR q_41 rfl fl_X6_125 dX6_readClause_133 q_39 ?_
        refine v_iload dX6_readClause_136 rfl ?_
        refine v_aload_n dX6_readClause_138 rfl ?_
        replace h := p_bind_elim h
        obtain ⟨a_42, q_43, h⟩ := h
        refine v_getR q_43 rfl fl_X6_14 dX6_readClause_139 q_34 ?_
        replace h := p_bind_elim h
        obtain ⟨_, q_44, h⟩ := h
        have q_44 := p_ob_spec q_44
        refine v_getI rfl fl_X6_128 dX6_readClause_142 q_44 ?_
        replace h := p_bind_elim h
        obtain ⟨j_45, q_46, h⟩ := h
        refine v_iastP dX6_readClause_145 q_46 ?_
        replace h := p_let_elim h
        obtain ⟨I_47, h_48, h⟩ := h
        rw [← h_48]
        refine v_aload_n dX6_readClause_146 rfl ?_
        replace h := p_bind_elim h
        obtain ⟨r_49, q_50, h⟩ := h
        refine v_cVr (tg_X6_readTest q_50) cal_X6_readTest ml_X6_131 sel_X6_readTest q_34 kk_6 dX6_readClause_147 (by omega) (by decide) (by decide) (Nat.le_of_ble_eq_true rfl) rfl ?_
        refine v_istore dX6_readClause_150 (by decide) ?_
        refine v_sub [(0, .ref (B + y0)), (5, .int r_49.1)] ⟨rfl, rfl, trivial⟩ ?_
        refine v_aload_n dX6_readClause_152 rfl ?_
        replace h := p_bind_elim h
        obtain ⟨a_51, q_52, h⟩ := h
        refine v_getR q_52 rfl fl_X6_14 dX6_readClause_153 q_34 ?_
        refine v_iconstE (0 : Int32) dX6_readClause_156 (by decide) ?_
        refine v_iconstE (0 : Int32) dX6_readClause_157 (by decide) ?_
        replace h := p_bind_elim h
        obtain ⟨_, q_55, h⟩ := h
        have q_55 := p_ob_spec q_55
        replace h := p_bind_elim h
        obtain ⟨r_53, q_54, h⟩ := h
        refine v_cVr (t_X8_addStep q_54) cal_X8_addStep ml_X6_134 sel_X8_addStep q_55 kk_8 dX6_readClause_158 (by omega) (by decide) (by decide) (Nat.le_of_ble_eq_true rfl) rfl ?_
        refine v_pop dX6_readClause_161 rfl ?_
        refine v_iload dX6_readClause_162 rfl ?_
        replace h := p_bind_elim h
        obtain ⟨_, q_56, h⟩ := h
        cases h
        exact v_zret dX6_readClause_164 rfl (p_bl_spec q_56).1 (by decide) (by decide) (by rw [← hQ]; exact ⟨rfl, rfl, rfl, rfl, rfl⟩)
  have j33 : ∀ (I : v_I) (y0 : Nat) (y1 : Int32) (z0 : Int32), f_X6_readClause_J33 S F I y0 y1 z0 = some r → V l B D ac (v_EE B wa wb wt sb sL sx) yX6_readClause cX6_readClause 6 (some .boolean) d 0 0 0 0 S I J F 33 [(0, .ref (B + y0)), (1, .int y1)] [.int z0] Q := by
    intro I y0 y1 z0 h
    unfold f_X6_readClause_J33 at h
    refine v_istore_n dX6_readClause_33 (by decide) ?_
    refine v_sub [(0, .ref (B + y0)), (1, .int y1), (2, .int z0)] ⟨rfl, rfl, rfl, trivial⟩ ?_
    refine v_aload_n dX6_readClause_34 rfl ?_
    replace h := p_bind_elim h
    obtain ⟨_, q_5, h⟩ := h
    have q_5 := p_ob_spec q_5
    refine v_getI rfl fl_X6_34 dX6_readClause_35 q_5 ?_
    refine v_iload_n dX6_readClause_38 rfl ?_
    refine v_isub dX6_readClause_39 ?_
    replace h := p_let_elim h
    obtain ⟨x_6, h_7, h⟩ := h
    rw [← h_7]
    refine v_istore_n dX6_readClause_40 (by decide) ?_
    refine v_sub [(0, .ref (B + y0)), (1, .int y1), (2, .int z0), (3, .int x_6)] ⟨rfl, rfl, rfl, rfl, trivial⟩ ?_
    refine v_aload_n dX6_readClause_41 rfl ?_
    refine v_getI rfl fl_X6_34 dX6_readClause_42 q_5 ?_
    refine v_iload_n dX6_readClause_45 rfl ?_
    refine v_icmp_lt 68 dX6_readClause_46 (by decide) (fun c_8 => ?_) (fun c_8 => ?_)
    · rw [if_pos c_8] at h
      refine v_sub [(0, .ref (B + y0))] ⟨rfl, trivial⟩ ?_
      exact j68 _ _ h
    · rw [if_neg c_8] at h
      refine v_aload_n dX6_readClause_49 rfl ?_
      refine v_getI rfl fl_X6_34 dX6_readClause_50 q_5 ?_
      refine v_iload_n dX6_readClause_53 rfl ?_
      refine v_icmp_gt 68 dX6_readClause_54 (by decide) (fun c_13 => ?_) (fun c_13 => ?_)
      · rw [if_pos c_13] at h
        refine v_sub [(0, .ref (B + y0))] ⟨rfl, trivial⟩ ?_
        exact j68 _ _ h
      · rw [if_neg c_13] at h
        refine v_aload_n dX6_readClause_57 rfl ?_
        replace h := p_bind_elim h
        obtain ⟨a_14, q_15, h⟩ := h
        refine v_getR q_15 rfl fl_X6_14 dX6_readClause_58 q_5 ?_
        refine v_iload_n dX6_readClause_61 rfl ?_
        replace h := p_bind_elim h
        obtain ⟨_, q_18, h⟩ := h
        have q_18 := p_ob_spec q_18
        replace h := p_bind_elim h
        obtain ⟨r_16, q_17, h⟩ := h
        refine v_cVr (t_X8_addClause q_17) cal_X8_addClause ml_X6_109 sel_X8_addClause q_18 kk_8 dX6_readClause_62 (by omega) (by decide) (by decide) (Nat.le_of_ble_eq_true rfl) rfl ?_
        refine v_if_ne 73 dX6_readClause_65 (by decide) (fun c_19 => ?_) (fun c_19 => ?_)
        · rw [if_neg c_19] at h
          refine v_aload_n dX6_readClause_73 rfl ?_
          replace h := p_bind_elim h
          obtain ⟨r_20, q_21, h⟩ := h
          refine v_cVn (t_X6_nextToken q_21) cal_X6_nextToken ml_X6_70 sel_X6_nextToken q_5 kk_6 dX6_readClause_74 (by omega) (by decide) (by decide) (Nat.le_of_ble_eq_true rfl) rfl ?_
          refine v_aload_n dX6_readClause_77 rfl ?_
          replace h := p_bind_elim h
          obtain ⟨a_22, q_23, h⟩ := h
          refine v_getR q_23 rfl fl_X6_14 dX6_readClause_78 q_5 ?_
          replace h := p_bind_elim h
          obtain ⟨_, q_24, h⟩ := h
          have q_24 := p_ob_spec q_24
          refine v_getI rfl fl_X6_112 dX6_readClause_81 q_24 ?_
          refine v_iconstE (1 : Int32) dX6_readClause_84 (by decide) ?_
          refine v_isub dX6_readClause_85 ?_
          replace h := p_let_elim h
          obtain ⟨x_25, h_26, h⟩ := h
          rw [← h_26]
          refine v_istore dX6_readClause_86 (by decide) ?_
          refine v_sub [(0, .ref (B + y0)), (3, .int x_6), (4, .int x_25)] ⟨rfl, rfl, rfl, trivial⟩ ?_
          refine v_aload_n dX6_readClause_88 rfl ?_
          refine v_getI rfl fl_X6_37 dX6_readClause_89 q_5 ?_
          refine v_if_eq 105 dX6_readClause_92 (by decide) (fun c_27 => ?_) (fun c_27 => ?_)
          · rw [if_pos c_27] at h
            refine v_aload_n dX6_readClause_105 rfl ?_
            refine v_iload dX6_readClause_106 rfl ?_
            refine v_iload_n dX6_readClause_108 rfl ?_
            replace h := p_bind_elim h
            obtain ⟨r_28, q_29, h⟩ := h
            refine v_cVr (t_X6_readLaw q_29) cal_X6_readLaw ml_X6_119 sel_X6_readLaw q_5 kk_6 dX6_readClause_109 (by omega) (by decide) (by decide) (Nat.le_of_ble_eq_true rfl) rfl ?_
            refine v_sub [(0, .ref (B + y0)), (4, .int x_25)] ⟨rfl, rfl, trivial⟩ ?_
            exact j112 _ _ _ _ h
          · rw [if_neg c_27] at h
            refine v_aload_n dX6_readClause_95 rfl ?_
            refine v_iload dX6_readClause_96 rfl ?_
            refine v_iload_n dX6_readClause_98 rfl ?_
            replace h := p_bind_elim h
            obtain ⟨r_57, q_58, h⟩ := h
            refine v_cVr (t_X6_readOrder q_58) cal_X6_readOrder ml_X6_115 sel_X6_readOrder q_5 kk_6 dX6_readClause_99 (by omega) (by decide) (by decide) (Nat.le_of_ble_eq_true rfl) rfl ?_
            refine v_goto 112 dX6_readClause_102 (by decide) ?_
            refine v_sub [(0, .ref (B + y0)), (4, .int x_25)] ⟨rfl, rfl, trivial⟩ ?_
            exact j112 _ _ _ _ h
        · rw [if_pos c_19] at h
          refine v_sub [(0, .ref (B + y0))] ⟨rfl, trivial⟩ ?_
          exact j68 _ _ h
  have j16 : ∀ (I : v_I) (y0 : Nat) (z0 : Int32), f_X6_readClause_J16 S F I y0 z0 = some r → V l B D ac (v_EE B wa wb wt sb sL sx) yX6_readClause cX6_readClause 6 (some .boolean) d 0 0 0 0 S I J F 16 [(0, .ref (B + y0))] [.int z0] Q := by
    intro I y0 z0 h
    unfold f_X6_readClause_J16 at h
    refine v_istore_n dX6_readClause_16 (by decide) ?_
    refine v_sub [(0, .ref (B + y0)), (1, .int z0)] ⟨rfl, rfl, trivial⟩ ?_
    refine v_aload_n dX6_readClause_17 rfl ?_
    replace h := p_bind_elim h
    obtain ⟨_, q_3, h⟩ := h
    have q_3 := p_ob_spec q_3
    refine v_getI rfl fl_X6_37 dX6_readClause_18 q_3 ?_
    refine v_if_eq 30 dX6_readClause_21 (by decide) (fun c_4 => ?_) (fun c_4 => ?_)
    · rw [if_pos c_4] at h
      refine v_sipush (258 : Int32) dX6_readClause_30 (by decide) ?_
      refine v_sub [(0, .ref (B + y0)), (1, .int z0)] ⟨rfl, rfl, trivial⟩ ?_
      exact j33 _ _ _ _ h
    · rw [if_neg c_4] at h
      refine v_sipush (262 : Int32) dX6_readClause_24 (by decide) ?_
      refine v_goto 33 dX6_readClause_27 (by decide) ?_
      refine v_sub [(0, .ref (B + y0)), (1, .int z0)] ⟨rfl, rfl, trivial⟩ ?_
      exact j33 _ _ _ _ h
  unfold f_X6_readClause at h
  refine v_sub [(0, .ref (B + p0))] ⟨rfl, trivial⟩ ?_
  refine v_aload_n dX6_readClause_0 rfl ?_
  replace h := p_bind_elim h
  obtain ⟨_, q_1, h⟩ := h
  have q_1 := p_ob_spec q_1
  refine v_getI rfl fl_X6_37 dX6_readClause_1 q_1 ?_
  refine v_if_eq 13 dX6_readClause_4 (by decide) (fun c_2 => ?_) (fun c_2 => ?_)
  · rw [if_pos c_2] at h
    refine v_sipush (256 : Int32) dX6_readClause_13 (by decide) ?_
    refine v_sub [(0, .ref (B + p0))] ⟨rfl, trivial⟩ ?_
    exact j16 _ _ _ h
  · rw [if_neg c_2] at h
    refine v_sipush (259 : Int32) dX6_readClause_7 (by decide) ?_
    refine v_goto 16 dX6_readClause_10 (by decide) ?_
    refine v_sub [(0, .ref (B + p0))] ⟨rfl, trivial⟩ ?_
    exact j16 _ _ _ h

def f_X6_read_B76 (S : v_S) (F : v_F) (w0 : Nat) (s76 : Int32 × Int32 × v_I) : Option ((Int32 × Int32 × v_I) ⊕ (Int32 × Int32 × v_I)) :=
if (400 : Int32) ≤ s76.2.1 then (
some (.inr (s76.1, s76.2.1, s76.2.2)))
else (
if s76.1 = (0 : Int32) then (
some (.inr (s76.1, s76.2.1, s76.2.2)))
else (
(p_ob S 6 w0).bind fun _ =>
if (s76.2.2 w0 5) = (59 : Int32) then (
(f_X6_nextToken S s76.2.2 F w0).bind fun r_36 =>
(f_X6_readClause S r_36 F w0).bind fun r_38 =>
p_let (s76.2.1 + (1 : Int32)) fun x_40 =>
some (.inl (r_38.1, x_40, r_38.2)))
else (
some (.inr (s76.1, s76.2.1, s76.2.2)))))
def f_X6_read_J114 (S : v_S) (F : v_F) (I : v_I) (y0 : Nat) (y5 : Int32) : Option (Int32 × v_I) :=
if y5 = (0 : Int32) then (
(p_ob S 6 y0).bind fun _ =>
some (I y0 9, I))
else (
(p_ob S 6 y0).bind fun _ =>
if (I y0 3) ≤ (I y0 4) then (
some (I y0 9, I))
else (
(f_X6_faultHere S I F y0).bind fun r_48 =>
some (r_48.2 y0 9, r_48.2)))
def f_X6_read (S : v_S) (I : v_I) (F : v_F) (p0 : Nat) (p1 : Nat) (p2 : Int32) (p3 : Int32) : Option (Int32 × v_I) :=
(p_len S 20 p1).bind fun x_1 =>
p_let (p_max (0 : Int32) (p_min p2 (p_min x_1 (400 : Int32)))) fun x_3 =>
(p_ob S 6 p0).bind fun _ =>
(f_X6_splitTokens S I F p0 p1 x_3).bind fun r_5 =>
(p_bl p3).bind fun _ =>
p_let (v_up r_5 p0 6 p3) fun I_9 =>
p_let (v_up I_9 p0 7 (0 : Int32)) fun I_11 =>
p_let (v_up I_11 p0 8 (0 : Int32)) fun I_13 =>
p_let (v_up I_13 p0 9 (-1 : Int32)) fun I_15 =>
(F p0 0).bind fun a_17 =>
(p_ob S 8 a_17).bind fun _ =>
(f_X8_clear S I_15 a_17).bind fun r_19 =>
p_let (v_up r_19 p0 4 (0 : Int32)) fun I_22 =>
(F p0 1).bind fun a_24 =>
(p_ix S 20 a_24 (0 : Int32)).bind fun j_26 =>
p_let (v_up I_22 p0 5 (I_22 a_24 j_26)) fun I_28 =>
(f_X6_readClause S I_28 F p0).bind fun r_30 =>
(v_loop (f_X6_read_B76 S F p0) FU (r_30.1, (0 : Int32), r_30.2)).bind fun q_42 =>
f_X6_read_J114 S F q_42.2.2 p0 q_42.1
set_option maxHeartbeats 4000000 in
set_option maxRecDepth 100000 in
theorem t_X6_read {p0 : Nat} {p1 : Nat} {p2 : Int32} {p3 : Int32} {r : Int32 × v_I} (h : f_X6_read S I F p0 p1 p2 p3 = some r) : v_R l B D ac (v_EE B wa wb wt sb sL sx) yX6_read cX6_read 7 (some .int) 106 0 0 [.ref (B + p0), .ref (B + p1), .int p2, .int p3] S I J F (v_D (some (.int r.1)) S r.2 J F) := by
  refine v_R.of (by decide) (Nat.le_of_ble_eq_true rfl) fun d hd => ?_
  generalize hQ : v_D (some (.int r.1)) S r.2 J F = Q
  have b76 : ∀ (w0 : Nat) (s76 : Int32 × Int32 × v_I) (rx76 : (Int32 × Int32 × v_I) ⊕ (Int32 × Int32 × v_I)), f_X6_read_B76 S F w0 s76 = some rx76 → v_K (fun (sP : Int32 × Int32 × v_I) => V l B D ac (v_EE B wa wb wt sb sL sx) yX6_read cX6_read 7 (some .int) d 0 0 0 0 S sP.2.2 J F 76 [(0, .ref (B + w0)), (5, .int sP.1), (6, .int sP.2.1)] [] Q) (fun (rE : Int32 × Int32 × v_I) => V l B D ac (v_EE B wa wb wt sb sL sx) yX6_read cX6_read 7 (some .int) d 0 0 0 0 S rE.2.2 J F 114 [(0, .ref (B + w0)), (5, .int rE.1)] [] Q) rx76 → V l B D ac (v_EE B wa wb wt sb sL sx) yX6_read cX6_read 7 (some .int) d 0 0 0 0 S s76.2.2 J F 76 [(0, .ref (B + w0)), (5, .int s76.1), (6, .int s76.2.1)] [] Q := by
    intro w0 s76 rx76 h hk
    unfold f_X6_read_B76 at h
    refine v_iload dX6_read_76 rfl ?_
    refine v_sipush (400 : Int32) dX6_read_78 (by decide) ?_
    refine v_icmp_ge 114 dX6_read_81 (by decide) (fun c_32 => ?_) (fun c_32 => ?_)
    · rw [if_pos c_32] at h
      cases h
      refine v_sub [(0, .ref (B + w0)), (5, .int s76.1)] ⟨rfl, rfl, trivial⟩ ?_
      exact hk
    · rw [if_neg c_32] at h
      refine v_iload dX6_read_84 rfl ?_
      refine v_if_eq 114 dX6_read_86 (by decide) (fun c_33 => ?_) (fun c_33 => ?_)
      · rw [if_pos c_33] at h
        cases h
        refine v_sub [(0, .ref (B + w0)), (5, .int s76.1)] ⟨rfl, rfl, trivial⟩ ?_
        exact hk
      · rw [if_neg c_33] at h
        refine v_aload_n dX6_read_89 rfl ?_
        replace h := p_bind_elim h
        obtain ⟨_, q_34, h⟩ := h
        have q_34 := p_ob_spec q_34
        refine v_getI rfl fl_X6_34 dX6_read_90 q_34 ?_
        refine v_bipush (59 : Int32) dX6_read_93 (by decide) ?_
        refine v_icmp_ne 114 dX6_read_95 (by decide) (fun c_35 => ?_) (fun c_35 => ?_)
        · rw [if_neg c_35] at h
          cases h
          refine v_sub [(0, .ref (B + w0)), (5, .int s76.1)] ⟨rfl, rfl, trivial⟩ ?_
          exact hk
        · rw [if_pos c_35] at h
          refine v_aload_n dX6_read_98 rfl ?_
          replace h := p_bind_elim h
          obtain ⟨r_36, q_37, h⟩ := h
          refine v_cVn (t_X6_nextToken q_37) cal_X6_nextToken ml_X6_70 sel_X6_nextToken q_34 kk_6 dX6_read_99 (by omega) (by decide) (by decide) (Nat.le_of_ble_eq_true rfl) rfl ?_
          refine v_aload_n dX6_read_102 rfl ?_
          replace h := p_bind_elim h
          obtain ⟨r_38, q_39, h⟩ := h
          refine v_cVr (t_X6_readClause q_39) cal_X6_readClause ml_X6_66 sel_X6_readClause q_34 kk_6 dX6_read_103 (by omega) (by decide) (by decide) (Nat.le_of_ble_eq_true rfl) rfl ?_
          refine v_istore dX6_read_106 (by decide) ?_
          refine v_sub [(0, .ref (B + w0)), (5, .int r_38.1), (6, .int s76.2.1)] ⟨rfl, rfl, rfl, trivial⟩ ?_
          replace h := p_let_elim h
          obtain ⟨x_40, h_41, h⟩ := h
          refine v_iincE (1 : Int32) dX6_read_108 (by decide) rfl (by decide) ?_
          rw [← h_41]
          refine v_sub [(0, .ref (B + w0)), (5, .int r_38.1), (6, .int x_40)] ⟨rfl, rfl, rfl, trivial⟩ ?_
          refine v_goto 76 dX6_read_111 (by decide) ?_
          cases h
          refine v_sub [(0, .ref (B + w0)), (5, .int r_38.1), (6, .int x_40)] ⟨rfl, rfl, rfl, trivial⟩ ?_
          exact hk
  have j114 : ∀ (I : v_I) (y0 : Nat) (y5 : Int32), f_X6_read_J114 S F I y0 y5 = some r → V l B D ac (v_EE B wa wb wt sb sL sx) yX6_read cX6_read 7 (some .int) d 0 0 0 0 S I J F 114 [(0, .ref (B + y0)), (5, .int y5)] [] Q := by
    intro I y0 y5 h
    unfold f_X6_read_J114 at h
    refine v_iload dX6_read_114 rfl ?_
    refine v_if_eq 135 dX6_read_116 (by decide) (fun c_44 => ?_) (fun c_44 => ?_)
    · rw [if_pos c_44] at h
      refine v_aload_n dX6_read_135 rfl ?_
      replace h := p_bind_elim h
      obtain ⟨_, q_45, h⟩ := h
      have q_45 := p_ob_spec q_45
      refine v_getI rfl fl_X6_47 dX6_read_136 q_45 ?_
      cases h
      exact v_iret dX6_read_139 rfl (by decide) (by decide) (by rw [← hQ]; exact ⟨rfl, rfl, rfl, rfl, rfl⟩)
    · rw [if_neg c_44] at h
      refine v_aload_n dX6_read_119 rfl ?_
      replace h := p_bind_elim h
      obtain ⟨_, q_46, h⟩ := h
      have q_46 := p_ob_spec q_46
      refine v_getI rfl fl_X6_31 dX6_read_120 q_46 ?_
      refine v_aload_n dX6_read_123 rfl ?_
      refine v_getI rfl fl_X6_27 dX6_read_124 q_46 ?_
      refine v_icmp_ge 135 dX6_read_127 (by decide) (fun c_47 => ?_) (fun c_47 => ?_)
      · rw [if_pos c_47] at h
        refine v_aload_n dX6_read_135 rfl ?_
        refine v_getI rfl fl_X6_47 dX6_read_136 q_46 ?_
        cases h
        exact v_iret dX6_read_139 rfl (by decide) (by decide) (by rw [← hQ]; exact ⟨rfl, rfl, rfl, rfl, rfl⟩)
      · rw [if_neg c_47] at h
        refine v_aload_n dX6_read_130 rfl ?_
        replace h := p_bind_elim h
        obtain ⟨r_48, q_49, h⟩ := h
        refine v_cVr (t_X6_faultHere q_49) cal_X6_faultHere ml_X6_73 sel_X6_faultHere q_46 kk_6 dX6_read_131 (by omega) (by decide) (by decide) (Nat.le_of_ble_eq_true rfl) rfl ?_
        refine v_pop dX6_read_134 rfl ?_
        refine v_aload_n dX6_read_135 rfl ?_
        refine v_getI rfl fl_X6_47 dX6_read_136 q_46 ?_
        cases h
        exact v_iret dX6_read_139 rfl (by decide) (by decide) (by rw [← hQ]; exact ⟨rfl, rfl, rfl, rfl, rfl⟩)
  unfold f_X6_read at h
  refine v_sub [(0, .ref (B + p0)), (1, .ref (B + p1)), (2, .int p2), (3, .int p3)] ⟨rfl, rfl, rfl, rfl, trivial⟩ ?_
  refine v_iconstE (0 : Int32) dX6_read_0 (by decide) ?_
  refine v_iload_n dX6_read_1 rfl ?_
  refine v_aload_n dX6_read_2 rfl ?_
  replace h := p_bind_elim h
  obtain ⟨x_1, q_2, h⟩ := h
  refine v_alenPI dX6_read_3 q_2 ?_
  refine v_sipush (400 : Int32) dX6_read_4 (by decide) ?_
  refine v_min dX6_read_7 ml_X6_50 (by omega) (by decide) (by decide) (Nat.le_of_ble_eq_true rfl) ?_
  refine v_min dX6_read_10 ml_X6_50 (by omega) (by decide) (by decide) (Nat.le_of_ble_eq_true rfl) ?_
  refine v_max dX6_read_13 ml_X6_56 (by omega) (by decide) (by decide) (Nat.le_of_ble_eq_true rfl) ?_
  replace h := p_let_elim h
  obtain ⟨x_3, h_4, h⟩ := h
  rw [← h_4]
  refine v_istore dX6_read_16 (by decide) ?_
  refine v_sub [(0, .ref (B + p0)), (1, .ref (B + p1)), (3, .int p3), (4, .int x_3)] ⟨rfl, rfl, rfl, rfl, trivial⟩ ?_
  refine v_aload_n dX6_read_18 rfl ?_
  refine v_aload_n dX6_read_19 rfl ?_
  refine v_iload dX6_read_20 rfl ?_
  replace h := p_bind_elim h
  obtain ⟨_, q_7, h⟩ := h
  have q_7 := p_ob_spec q_7
  replace h := p_bind_elim h
  obtain ⟨r_5, q_6, h⟩ := h
  refine v_cVn (t_X6_splitTokens q_6) cal_X6_splitTokens ml_X6_59 sel_X6_splitTokens q_7 kk_6 dX6_read_22 (by omega) (by decide) (by decide) (Nat.le_of_ble_eq_true rfl) rfl ?_
  refine v_aload_n dX6_read_25 rfl ?_
  refine v_iload_n dX6_read_26 rfl ?_
  replace h := p_bind_elim h
  obtain ⟨_, q_8, h⟩ := h
  refine v_putI rfl fl_X6_37 dX6_read_27 q_7 (p_bl_spec q_8).1 (p_bl_spec q_8).2 ?_
  replace h := p_let_elim h
  obtain ⟨I_9, h_10, h⟩ := h
  rw [← h_10]
  refine v_aload_n dX6_read_30 rfl ?_
  refine v_iconstE (0 : Int32) dX6_read_31 (by decide) ?_
  refine v_putI rfl fl_X6_41 dX6_read_32 q_7 rfl rfl ?_
  replace h := p_let_elim h
  obtain ⟨I_11, h_12, h⟩ := h
  rw [← h_12]
  refine v_aload_n dX6_read_35 rfl ?_
  refine v_iconstE (0 : Int32) dX6_read_36 (by decide) ?_
  refine v_putI rfl fl_X6_44 dX6_read_37 q_7 rfl rfl ?_
  replace h := p_let_elim h
  obtain ⟨I_13, h_14, h⟩ := h
  rw [← h_14]
  refine v_aload_n dX6_read_40 rfl ?_
  refine v_iconstE (-1 : Int32) dX6_read_41 (by decide) ?_
  refine v_putI rfl fl_X6_47 dX6_read_42 q_7 rfl rfl ?_
  replace h := p_let_elim h
  obtain ⟨I_15, h_16, h⟩ := h
  rw [← h_16]
  refine v_aload_n dX6_read_45 rfl ?_
  replace h := p_bind_elim h
  obtain ⟨a_17, q_18, h⟩ := h
  refine v_getR q_18 rfl fl_X6_14 dX6_read_46 q_7 ?_
  replace h := p_bind_elim h
  obtain ⟨_, q_21, h⟩ := h
  have q_21 := p_ob_spec q_21
  replace h := p_bind_elim h
  obtain ⟨r_19, q_20, h⟩ := h
  refine v_cVn (t_X8_clear q_20) cal_X8_clear ml_X6_63 sel_X8_clear q_21 kk_8 dX6_read_49 (by omega) (by decide) (by decide) (Nat.le_of_ble_eq_true rfl) rfl ?_
  refine v_aload_n dX6_read_52 rfl ?_
  refine v_iconstE (0 : Int32) dX6_read_53 (by decide) ?_
  refine v_putI rfl fl_X6_31 dX6_read_54 q_7 rfl rfl ?_
  replace h := p_let_elim h
  obtain ⟨I_22, h_23, h⟩ := h
  rw [← h_23]
  refine v_aload_n dX6_read_57 rfl ?_
  refine v_aload_n dX6_read_58 rfl ?_
  replace h := p_bind_elim h
  obtain ⟨a_24, q_25, h⟩ := h
  refine v_getR q_25 rfl fl_X6_20 dX6_read_59 q_7 ?_
  refine v_iconstE (0 : Int32) dX6_read_62 (by decide) ?_
  replace h := p_bind_elim h
  obtain ⟨j_26, q_27, h⟩ := h
  refine v_ialdP dX6_read_63 q_27 ?_
  refine v_putI rfl fl_X6_34 dX6_read_64 q_7 rfl rfl ?_
  replace h := p_let_elim h
  obtain ⟨I_28, h_29, h⟩ := h
  rw [← h_29]
  refine v_aload_n dX6_read_67 rfl ?_
  replace h := p_bind_elim h
  obtain ⟨r_30, q_31, h⟩ := h
  refine v_cVr (t_X6_readClause q_31) cal_X6_readClause ml_X6_66 sel_X6_readClause q_7 kk_6 dX6_read_68 (by omega) (by decide) (by decide) (Nat.le_of_ble_eq_true rfl) rfl ?_
  refine v_istore dX6_read_71 (by decide) ?_
  refine v_sub [(0, .ref (B + p0)), (5, .int r_30.1)] ⟨rfl, rfl, trivial⟩ ?_
  refine v_iconstE (0 : Int32) dX6_read_73 (by decide) ?_
  refine v_istore dX6_read_74 (by decide) ?_
  refine v_sub [(0, .ref (B + p0)), (5, .int r_30.1), (6, .int (0 : Int32))] ⟨rfl, rfl, rfl, trivial⟩ ?_
  replace h := p_bind_elim h
  obtain ⟨q_42, h_43, h⟩ := h
  refine v_sub [(0, .ref (B + p0)), (5, .int r_30.1), (6, .int (0 : Int32))] ⟨rfl, rfl, rfl, trivial⟩ ?_
  refine v_loopV (fun (sP : Int32 × Int32 × v_I) => V l B D ac (v_EE B wa wb wt sb sL sx) yX6_read cX6_read 7 (some .int) d 0 0 0 0 S sP.2.2 J F 76 [(0, .ref (B + p0)), (5, .int sP.1), (6, .int sP.2.1)] [] Q) (fun (rE : Int32 × Int32 × v_I) => V l B D ac (v_EE B wa wb wt sb sL sx) yX6_read cX6_read 7 (some .int) d 0 0 0 0 S rE.2.2 J F 114 [(0, .ref (B + p0)), (5, .int rE.1)] [] Q) (fun s_ x_ hb hk => b76 _ s_ x_ hb hk) (r := q_42) ?_ h_43
  try dsimp only
  refine v_sub [(0, .ref (B + p0)), (5, .int q_42.1)] ⟨rfl, rfl, trivial⟩ ?_
  exact j114 _ _ _ h

def f_X9_law (S : v_S) (I : v_I) (F : v_F) (p0 : Nat) : Option (Int32 × v_S × v_I × v_F) :=
(p_ob S 9 p0).bind fun _ =>
(F p0 0).bind fun a_2 =>
(p_ob S 0 a_2).bind fun _ =>
if (I a_2 10) < (6 : Int32) then (
(F p0 9).bind fun a_6 =>
(F p0 7).bind fun a_8 =>
(p_ob S 6 a_6).bind fun _ =>
(f_X6_read S I F a_6 a_8 (I p0 8) (0 : Int32)).bind fun r_10 =>
p_let (v_up r_10.2 p0 16 r_10.1) fun I_13 =>
p_let (v_up I_13 p0 8 (0 : Int32)) fun I_15 =>
if (I_15 p0 16) = (-1 : Int32) then (
(F p0 0).bind fun a_18 =>
(F p0 9).bind fun a_20 =>
(p_ob S 6 a_20).bind fun _ =>
(F a_20 0).bind fun a_23 =>
(p_ob S 8 a_23).bind fun _ =>
(f_X8_trimmed S I_15 F a_23).bind fun r_25 =>
(p_ob r_25.2.1 0 a_18).bind fun _ =>
(f_X0_addLaw r_25.2.1 r_25.2.2.1 r_25.2.2.2 a_18 r_25.1).bind fun r_28 =>
(p_ob r_25.2.1 9 p0).bind fun _ =>
(f_X9_accept r_25.2.1 r_28.2.1 p0 r_28.1).bind fun r_31 =>
some (r_31.1, r_25.2.1, r_31.2, r_28.2.2))
else (
(f_X9_refuse S I_15 F p0 (-6 : Int32)).bind fun r_34 =>
some (r_34.1, S, r_34.2, F)))
else (
p_let (v_up I p0 8 (0 : Int32)) fun I_36 =>
(f_X9_refuse S I_36 F p0 (-5 : Int32)).bind fun r_38 =>
some (r_38.1, S, r_38.2, F))
set_option maxHeartbeats 4000000 in
set_option maxRecDepth 100000 in
theorem t_X9_law {p0 : Nat} {r : Int32 × v_S × v_I × v_F} (h : f_X9_law S I F p0 = some r) : v_R l B D ac (v_EE B wa wb wt sb sL sx) yX9_law cX9_law 1 (some .int) 107 7 505 [.ref (B + p0)] S I J F (v_D (some (.int r.1)) r.2.1 r.2.2.1 J r.2.2.2) := by
  refine v_R.of (by decide) (Nat.le_of_ble_eq_true rfl) fun d hd => ?_
  generalize hQ : v_D (some (.int r.1)) r.2.1 r.2.2.1 J r.2.2.2 = Q
  unfold f_X9_law at h
  refine v_sub [(0, .ref (B + p0))] ⟨rfl, trivial⟩ ?_
  refine v_aload_n dX9_law_0 rfl ?_
  replace h := p_bind_elim h
  obtain ⟨_, q_1, h⟩ := h
  have q_1 := p_ob_spec q_1
  replace h := p_bind_elim h
  obtain ⟨a_2, q_3, h⟩ := h
  refine v_getR q_3 rfl fl_X9_12 dX9_law_1 q_1 ?_
  replace h := p_bind_elim h
  obtain ⟨_, q_4, h⟩ := h
  have q_4 := p_ob_spec q_4
  refine v_getI rfl fl_X9_163 dX9_law_4 q_4 ?_
  refine v_bipush (6 : Int32) dX9_law_7 (by decide) ?_
  refine v_icmp_lt 24 dX9_law_9 (by decide) (fun c_5 => ?_) (fun c_5 => ?_)
  · rw [if_pos c_5] at h
    refine v_aload_n dX9_law_24 rfl ?_
    refine v_aload_n dX9_law_25 rfl ?_
    replace h := p_bind_elim h
    obtain ⟨a_6, q_7, h⟩ := h
    refine v_getR q_7 rfl fl_X9_62 dX9_law_26 q_1 ?_
    refine v_aload_n dX9_law_29 rfl ?_
    replace h := p_bind_elim h
    obtain ⟨a_8, q_9, h⟩ := h
    refine v_getR q_9 rfl fl_X9_52 dX9_law_30 q_1 ?_
    refine v_aload_n dX9_law_33 rfl ?_
    refine v_getI rfl fl_X9_56 dX9_law_34 q_1 ?_
    refine v_iconstE (0 : Int32) dX9_law_37 (by decide) ?_
    replace h := p_bind_elim h
    obtain ⟨_, q_12, h⟩ := h
    have q_12 := p_ob_spec q_12
    replace h := p_bind_elim h
    obtain ⟨r_10, q_11, h⟩ := h
    refine v_cVr (t_X6_read q_11) cal_X6_read ml_X9_166 sel_X6_read q_12 kk_6 dX9_law_38 (by omega) (by decide) (by decide) (Nat.le_of_ble_eq_true rfl) rfl ?_
    refine v_putI rfl fl_X9_89 dX9_law_41 q_1 rfl rfl ?_
    replace h := p_let_elim h
    obtain ⟨I_13, h_14, h⟩ := h
    rw [← h_14]
    refine v_aload_n dX9_law_44 rfl ?_
    refine v_iconstE (0 : Int32) dX9_law_45 (by decide) ?_
    refine v_putI rfl fl_X9_56 dX9_law_46 q_1 rfl rfl ?_
    replace h := p_let_elim h
    obtain ⟨I_15, h_16, h⟩ := h
    rw [← h_16]
    refine v_aload_n dX9_law_49 rfl ?_
    refine v_getI rfl fl_X9_89 dX9_law_50 q_1 ?_
    refine v_iconstE (-1 : Int32) dX9_law_53 (by decide) ?_
    refine v_icmp_eq 64 dX9_law_54 (by decide) (fun c_17 => ?_) (fun c_17 => ?_)
    · rw [if_pos c_17] at h
      refine v_aload_n dX9_law_64 rfl ?_
      refine v_aload_n dX9_law_65 rfl ?_
      replace h := p_bind_elim h
      obtain ⟨a_18, q_19, h⟩ := h
      refine v_getR q_19 rfl fl_X9_12 dX9_law_66 q_1 ?_
      refine v_aload_n dX9_law_69 rfl ?_
      replace h := p_bind_elim h
      obtain ⟨a_20, q_21, h⟩ := h
      refine v_getR q_21 rfl fl_X9_62 dX9_law_70 q_1 ?_
      replace h := p_bind_elim h
      obtain ⟨_, q_22, h⟩ := h
      have q_22 := p_ob_spec q_22
      replace h := p_bind_elim h
      obtain ⟨a_23, q_24, h⟩ := h
      refine v_getR q_24 rfl fl_X9_170 dX9_law_73 q_22 ?_
      replace h := p_bind_elim h
      obtain ⟨_, q_27, h⟩ := h
      have q_27 := p_ob_spec q_27
      replace h := p_bind_elim h
      obtain ⟨r_25, q_26, h⟩ := h
      refine v_cVrc (t_X8_trimmed q_26) cal_X8_trimmed ml_X9_174 sel_X8_trimmed q_27 kk_8 dX9_law_76 (by omega) (by decide) (by decide) (Nat.le_of_ble_eq_true rfl) rfl ?_
      replace h := p_bind_elim h
      obtain ⟨_, q_30, h⟩ := h
      have q_30 := p_ob_spec q_30
      replace h := p_bind_elim h
      obtain ⟨r_28, q_29, h⟩ := h
      refine v_cVr (t_X0_addLaw q_29) cal_X0_addLaw ml_X9_180 sel_X0_addLaw q_30 kk_0 dX9_law_79 (by omega) (by decide) (by decide) (Nat.le_of_ble_eq_true rfl) rfl ?_
      replace h := p_bind_elim h
      obtain ⟨_, q_33, h⟩ := h
      have q_33 := p_ob_spec q_33
      replace h := p_bind_elim h
      obtain ⟨r_31, q_32, h⟩ := h
      refine v_cVr (t_X9_accept q_32) cal_X9_accept ml_X9_113 sel_X9_accept q_33 kk_9 dX9_law_82 (by omega) (by decide) (by decide) (Nat.le_of_ble_eq_true rfl) rfl ?_
      cases h
      exact v_iret dX9_law_85 rfl (by decide) (by decide) (by rw [← hQ]; exact ⟨rfl, rfl, rfl, rfl, rfl⟩)
    · rw [if_neg c_17] at h
      refine v_aload_n dX9_law_57 rfl ?_
      refine v_bipush (-6 : Int32) dX9_law_58 (by decide) ?_
      replace h := p_bind_elim h
      obtain ⟨r_34, q_35, h⟩ := h
      refine v_cVr (t_X9_refuse q_35) cal_X9_refuse ml_X9_99 sel_X9_refuse q_1 kk_9 dX9_law_60 (by omega) (by decide) (by decide) (Nat.le_of_ble_eq_true rfl) rfl ?_
      cases h
      exact v_iret dX9_law_63 rfl (by decide) (by decide) (by rw [← hQ]; exact ⟨rfl, rfl, rfl, rfl, rfl⟩)
  · rw [if_neg c_5] at h
    refine v_aload_n dX9_law_12 rfl ?_
    refine v_iconstE (0 : Int32) dX9_law_13 (by decide) ?_
    refine v_putI rfl fl_X9_56 dX9_law_14 q_1 rfl rfl ?_
    replace h := p_let_elim h
    obtain ⟨I_36, h_37, h⟩ := h
    rw [← h_37]
    refine v_aload_n dX9_law_17 rfl ?_
    refine v_bipush (-5 : Int32) dX9_law_18 (by decide) ?_
    replace h := p_bind_elim h
    obtain ⟨r_38, q_39, h⟩ := h
    refine v_cVr (t_X9_refuse q_39) cal_X9_refuse ml_X9_99 sel_X9_refuse q_1 kk_9 dX9_law_20 (by omega) (by decide) (by decide) (Nat.le_of_ble_eq_true rfl) rfl ?_
    cases h
    exact v_iret dX9_law_23 rfl (by decide) (by decide) (by rw [← hQ]; exact ⟨rfl, rfl, rfl, rfl, rfl⟩)

def f_X10_sumOf_J6_95 (rc : Nat → Nat → Int32 → v_S → v_I → v_F → Option (Int64 × v_I)) (S : v_S) (F : v_F) (w0 : Nat) (w1 : Int32) (I : v_I) (z0 : Int64) (z1 : Nat) : Option ((Int64 × v_I) ⊕ (Int64 × v_I)) :=
(p_ob S 10 z1).bind fun _ =>
(f_X10_bounded S I z1 z0 w1).bind fun r_22 =>
some (.inl (r_22.1, r_22.2))
def f_X10_sumOf_J6_59 (rc : Nat → Nat → Int32 → v_S → v_I → v_F → Option (Int64 × v_I)) (S : v_S) (F : v_F) (w0 : Nat) (w1 : Int32) (I : v_I) (y2 : Int64) (z0 : Int32) : Option ((Int64 × v_I) ⊕ (Int64 × v_I)) :=
(p_ob S 10 w0).bind fun _ =>
p_let (v_up I w0 22 ((I w0 22) + (1 : Int32))) fun I_17 =>
(rc 1 w0 w1 S I_17 F).bind fun r_19 =>
if z0 = (0 : Int32) then (
f_X10_sumOf_J6_95 rc S F w0 w1 r_19.2 (y2 - r_19.1) w0)
else (
f_X10_sumOf_J6_95 rc S F w0 w1 r_19.2 (y2 + r_19.1) w0)
def f_X10_sumOf_J6_38 (rc : Nat → Nat → Int32 → v_S → v_I → v_F → Option (Int64 × v_I)) (S : v_S) (F : v_F) (w0 : Nat) (w1 : Int32) (I : v_I) (y2 : Int64) : Option ((Int64 × v_I) ⊕ (Int64 × v_I)) :=
(p_ob S 10 w0).bind fun _ =>
(f_X10_codeAt S I F w0 (I w0 22)).bind fun r_11 =>
(f_X10_sign (43 : Int32)).bind fun r_13 =>
if r_11 = r_13 then (
f_X10_sumOf_J6_59 rc S F w0 w1 I y2 (1 : Int32))
else (
f_X10_sumOf_J6_59 rc S F w0 w1 I y2 (0 : Int32))
def f_X10_sumOf_B6 (rc : Nat → Nat → Int32 → v_S → v_I → v_F → Option (Int64 × v_I)) (S : v_S) (F : v_F) (w0 : Nat) (w1 : Int32) (s6 : Int64 × v_I) : Option ((Int64 × v_I) ⊕ (Int64 × v_I)) :=
(p_ob S 10 w0).bind fun _ =>
(f_X10_codeAt S s6.2 F w0 (s6.2 w0 22)).bind fun r_5 =>
(f_X10_sign (43 : Int32)).bind fun r_7 =>
if r_5 = r_7 then (
f_X10_sumOf_J6_38 rc S F w0 w1 s6.2 s6.1)
else (
(f_X10_codeAt S s6.2 F w0 (s6.2 w0 22)).bind fun r_25 =>
(f_X10_sign (45 : Int32)).bind fun r_27 =>
if r_25 = r_27 then (
f_X10_sumOf_J6_38 rc S F w0 w1 s6.2 s6.1)
else (
some (.inr (s6.1, s6.2))))
def f_X10_sumOf (rc : Nat → Nat → Int32 → v_S → v_I → v_F → Option (Int64 × v_I)) (S : v_S) (I : v_I) (F : v_F) (p0 : Nat) (p1 : Int32) : Option (Int64 × v_I) :=
(p_ob S 10 p0).bind fun _ =>
(rc 1 p0 p1 S I F).bind fun r_1 =>
(v_loop (f_X10_sumOf_B6 rc S F p0 p1) FU (r_1.1, r_1.2)).bind fun q_30 =>
some (q_30.1, q_30.2)
set_option maxHeartbeats 4000000 in
set_option maxRecDepth 100000 in
theorem t_X10_sumOf {rc : Nat → Nat → Int32 → v_S → v_I → v_F → Option (Int64 × v_I)} {dd : Nat} (hK : 4 ≤ dd + 1) (hrc1 : ∀ {S : v_S} {I : v_I} {J : v_J} {F : v_F} {a : Nat} {b : Int32} {r : Int64 × v_I}, rc 1 a b S I F = some r → v_R l B D ac (v_EE B wa wb wt sb sL sx) yX10_termOf cX10_termOf 7 (some .long) dd 0 0 [.ref (B + a), .int b] S I J F (v_D (some (.long r.1)) S r.2 J F)) {p0 : Nat} {p1 : Int32} {r : Int64 × v_I} (h : f_X10_sumOf rc S I F p0 p1 = some r) : v_R l B D ac (v_EE B wa wb wt sb sL sx) yX10_sumOf cX10_sumOf 7 (some .long) (dd + 1) 0 0 [.ref (B + p0), .int p1] S I J F (v_D (some (.long r.1)) S r.2 J F) := by
  refine v_R.of (by decide) (Nat.le_of_ble_eq_true rfl) fun d hd => ?_
  generalize hQ : v_D (some (.long r.1)) S r.2 J F = Q
  have b6 : ∀ (w0 : Nat) (w1 : Int32) (s6 : Int64 × v_I) (rx6 : (Int64 × v_I) ⊕ (Int64 × v_I)), f_X10_sumOf_B6 rc S F w0 w1 s6 = some rx6 → v_K (fun (sP : Int64 × v_I) => V l B D ac (v_EE B wa wb wt sb sL sx) yX10_sumOf cX10_sumOf 7 (some .long) d 0 0 0 0 S sP.2 J F 6 [(0, .ref (B + w0)), (1, .int w1), (2, .long sP.1)] [] Q) (fun (rE : Int64 × v_I) => V l B D ac (v_EE B wa wb wt sb sL sx) yX10_sumOf cX10_sumOf 7 (some .long) d 0 0 0 0 S rE.2 J F 103 [(2, .long rE.1)] [] Q) rx6 → V l B D ac (v_EE B wa wb wt sb sL sx) yX10_sumOf cX10_sumOf 7 (some .long) d 0 0 0 0 S s6.2 J F 6 [(0, .ref (B + w0)), (1, .int w1), (2, .long s6.1)] [] Q := by
    intro w0 w1 s6 rx6 h hk
    have j95 : ∀ (I : v_I) (z0 : Int64) (z1 : Nat), f_X10_sumOf_J6_95 rc S F w0 w1 I z0 z1 = some rx6 → V l B D ac (v_EE B wa wb wt sb sL sx) yX10_sumOf cX10_sumOf 7 (some .long) d 0 0 0 0 S I J F 95 [(0, .ref (B + w0)), (1, .int w1)] [.long z0, .ref (B + z1)] Q := by
      intro I z0 z1 h
      unfold f_X10_sumOf_J6_95 at h
      refine v_iload_n dX10_sumOf_95 rfl ?_
      replace h := p_bind_elim h
      obtain ⟨_, q_24, h⟩ := h
      have q_24 := p_ob_spec q_24
      replace h := p_bind_elim h
      obtain ⟨r_22, q_23, h⟩ := h
      refine v_cVr (t_X10_bounded q_23) cal_X10_bounded ml_X10_294 sel_X10_bounded q_24 kk_10 dX10_sumOf_96 (by omega) (by decide) (by decide) (Nat.le_of_ble_eq_true rfl) rfl ?_
      refine v_lstore_n dX10_sumOf_99 (by decide) ?_
      refine v_sub [(0, .ref (B + w0)), (1, .int w1), (2, .long r_22.1)] ⟨rfl, rfl, rfl, trivial⟩ ?_
      refine v_goto 6 dX10_sumOf_100 (by decide) ?_
      cases h
      refine v_sub [(0, .ref (B + w0)), (1, .int w1), (2, .long r_22.1)] ⟨rfl, rfl, rfl, trivial⟩ ?_
      exact hk
    have j59 : ∀ (I : v_I) (y2 : Int64) (z0 : Int32), f_X10_sumOf_J6_59 rc S F w0 w1 I y2 z0 = some rx6 → V l B D ac (v_EE B wa wb wt sb sL sx) yX10_sumOf cX10_sumOf 7 (some .long) d 0 0 0 0 S I J F 59 [(0, .ref (B + w0)), (1, .int w1), (2, .long y2)] [.int z0] Q := by
      intro I y2 z0 h
      unfold f_X10_sumOf_J6_59 at h
      refine v_istore dX10_sumOf_59 (by decide) ?_
      refine v_sub [(0, .ref (B + w0)), (1, .int w1), (2, .long y2), (4, .int z0)] ⟨rfl, rfl, rfl, rfl, trivial⟩ ?_
      refine v_aload_n dX10_sumOf_61 rfl ?_
      refine v_dup dX10_sumOf_62 rfl ?_
      replace h := p_bind_elim h
      obtain ⟨_, q_16, h⟩ := h
      have q_16 := p_ob_spec q_16
      refine v_getI rfl fl_X10_277 dX10_sumOf_63 q_16 ?_
      refine v_iconstE (1 : Int32) dX10_sumOf_66 (by decide) ?_
      refine v_iadd dX10_sumOf_67 ?_
      refine v_putI rfl fl_X10_277 dX10_sumOf_68 q_16 rfl rfl ?_
      replace h := p_let_elim h
      obtain ⟨I_17, h_18, h⟩ := h
      rw [← h_18]
      refine v_aload_n dX10_sumOf_71 rfl ?_
      refine v_iload_n dX10_sumOf_72 rfl ?_
      replace h := p_bind_elim h
      obtain ⟨r_19, q_20, h⟩ := h
      refine v_cVr (hrc1 q_20) cal_X10_termOf ml_X10_290 sel_X10_termOf q_16 kk_10 dX10_sumOf_73 (by omega) (by decide) (by decide) (Nat.le_of_ble_eq_true rfl) rfl ?_
      refine v_lstore dX10_sumOf_76 (by decide) ?_
      refine v_sub [(0, .ref (B + w0)), (1, .int w1), (2, .long y2), (4, .int z0), (5, .long r_19.1)] ⟨rfl, rfl, rfl, rfl, rfl, trivial⟩ ?_
      refine v_aload_n dX10_sumOf_78 rfl ?_
      refine v_iload dX10_sumOf_79 rfl ?_
      refine v_if_eq 91 dX10_sumOf_81 (by decide) (fun c_21 => ?_) (fun c_21 => ?_)
      · rw [if_pos c_21] at h
        refine v_lload_n dX10_sumOf_91 rfl ?_
        refine v_lload dX10_sumOf_92 rfl ?_
        refine v_lsub dX10_sumOf_94 ?_
        refine v_sub [(0, .ref (B + w0)), (1, .int w1)] ⟨rfl, rfl, trivial⟩ ?_
        exact j95 _ _ _ h
      · rw [if_neg c_21] at h
        refine v_lload_n dX10_sumOf_84 rfl ?_
        refine v_lload dX10_sumOf_85 rfl ?_
        refine v_ladd dX10_sumOf_87 ?_
        refine v_goto 95 dX10_sumOf_88 (by decide) ?_
        refine v_sub [(0, .ref (B + w0)), (1, .int w1)] ⟨rfl, rfl, trivial⟩ ?_
        exact j95 _ _ _ h
    have j38 : ∀ (I : v_I) (y2 : Int64), f_X10_sumOf_J6_38 rc S F w0 w1 I y2 = some rx6 → V l B D ac (v_EE B wa wb wt sb sL sx) yX10_sumOf cX10_sumOf 7 (some .long) d 0 0 0 0 S I J F 38 [(0, .ref (B + w0)), (1, .int w1), (2, .long y2)] [] Q := by
      intro I y2 h
      unfold f_X10_sumOf_J6_38 at h
      refine v_aload_n dX10_sumOf_38 rfl ?_
      refine v_aload_n dX10_sumOf_39 rfl ?_
      replace h := p_bind_elim h
      obtain ⟨_, q_10, h⟩ := h
      have q_10 := p_ob_spec q_10
      refine v_getI rfl fl_X10_277 dX10_sumOf_40 q_10 ?_
      replace h := p_bind_elim h
      obtain ⟨r_11, q_12, h⟩ := h
      refine v_cVr (t_X10_codeAt q_12) cal_X10_codeAt ml_X10_280 sel_X10_codeAt q_10 kk_10 dX10_sumOf_43 (by omega) (by decide) (by decide) (Nat.le_of_ble_eq_true rfl) rfl ?_
      refine v_bipush (43 : Int32) dX10_sumOf_46 (by decide) ?_
      replace h := p_bind_elim h
      obtain ⟨r_13, q_14, h⟩ := h
      refine v_cSr (t_X10_sign q_14) cal_X10_sign ml_X10_236 sta_X10_sign dX10_sumOf_48 (by omega) (by decide) (by decide) (Nat.le_of_ble_eq_true rfl) rfl ?_
      refine v_icmp_ne 58 dX10_sumOf_51 (by decide) (fun c_15 => ?_) (fun c_15 => ?_)
      · rw [if_neg c_15] at h
        refine v_iconstE (0 : Int32) dX10_sumOf_58 (by decide) ?_
        refine v_sub [(0, .ref (B + w0)), (1, .int w1), (2, .long y2)] ⟨rfl, rfl, rfl, trivial⟩ ?_
        exact j59 _ _ _ h
      · rw [if_pos c_15] at h
        refine v_iconstE (1 : Int32) dX10_sumOf_54 (by decide) ?_
        refine v_goto 59 dX10_sumOf_55 (by decide) ?_
        refine v_sub [(0, .ref (B + w0)), (1, .int w1), (2, .long y2)] ⟨rfl, rfl, rfl, trivial⟩ ?_
        exact j59 _ _ _ h
    unfold f_X10_sumOf_B6 at h
    refine v_aload_n dX10_sumOf_6 rfl ?_
    refine v_aload_n dX10_sumOf_7 rfl ?_
    replace h := p_bind_elim h
    obtain ⟨_, q_4, h⟩ := h
    have q_4 := p_ob_spec q_4
    refine v_getI rfl fl_X10_277 dX10_sumOf_8 q_4 ?_
    replace h := p_bind_elim h
    obtain ⟨r_5, q_6, h⟩ := h
    refine v_cVr (t_X10_codeAt q_6) cal_X10_codeAt ml_X10_280 sel_X10_codeAt q_4 kk_10 dX10_sumOf_11 (by omega) (by decide) (by decide) (Nat.le_of_ble_eq_true rfl) rfl ?_
    refine v_bipush (43 : Int32) dX10_sumOf_14 (by decide) ?_
    replace h := p_bind_elim h
    obtain ⟨r_7, q_8, h⟩ := h
    refine v_cSr (t_X10_sign q_8) cal_X10_sign ml_X10_236 sta_X10_sign dX10_sumOf_16 (by omega) (by decide) (by decide) (Nat.le_of_ble_eq_true rfl) rfl ?_
    refine v_icmp_eq 38 dX10_sumOf_19 (by decide) (fun c_9 => ?_) (fun c_9 => ?_)
    · rw [if_pos c_9] at h
      refine v_sub [(0, .ref (B + w0)), (1, .int w1), (2, .long s6.1)] ⟨rfl, rfl, rfl, trivial⟩ ?_
      exact j38 _ _ h
    · rw [if_neg c_9] at h
      refine v_aload_n dX10_sumOf_22 rfl ?_
      refine v_aload_n dX10_sumOf_23 rfl ?_
      refine v_getI rfl fl_X10_277 dX10_sumOf_24 q_4 ?_
      replace h := p_bind_elim h
      obtain ⟨r_25, q_26, h⟩ := h
      refine v_cVr (t_X10_codeAt q_26) cal_X10_codeAt ml_X10_280 sel_X10_codeAt q_4 kk_10 dX10_sumOf_27 (by omega) (by decide) (by decide) (Nat.le_of_ble_eq_true rfl) rfl ?_
      refine v_bipush (45 : Int32) dX10_sumOf_30 (by decide) ?_
      replace h := p_bind_elim h
      obtain ⟨r_27, q_28, h⟩ := h
      refine v_cSr (t_X10_sign q_28) cal_X10_sign ml_X10_236 sta_X10_sign dX10_sumOf_32 (by omega) (by decide) (by decide) (Nat.le_of_ble_eq_true rfl) rfl ?_
      refine v_icmp_ne 103 dX10_sumOf_35 (by decide) (fun c_29 => ?_) (fun c_29 => ?_)
      · rw [if_neg c_29] at h
        cases h
        refine v_sub [(2, .long s6.1)] ⟨rfl, trivial⟩ ?_
        exact hk
      · rw [if_pos c_29] at h
        refine v_sub [(0, .ref (B + w0)), (1, .int w1), (2, .long s6.1)] ⟨rfl, rfl, rfl, trivial⟩ ?_
        exact j38 _ _ h
  unfold f_X10_sumOf at h
  refine v_sub [(0, .ref (B + p0)), (1, .int p1)] ⟨rfl, rfl, trivial⟩ ?_
  refine v_aload_n dX10_sumOf_0 rfl ?_
  refine v_iload_n dX10_sumOf_1 rfl ?_
  replace h := p_bind_elim h
  obtain ⟨_, q_3, h⟩ := h
  have q_3 := p_ob_spec q_3
  replace h := p_bind_elim h
  obtain ⟨r_1, q_2, h⟩ := h
  refine v_cVr (hrc1 q_2) cal_X10_termOf ml_X10_290 sel_X10_termOf q_3 kk_10 dX10_sumOf_2 (by omega) (by decide) (by decide) (Nat.le_of_ble_eq_true rfl) rfl ?_
  refine v_lstore_n dX10_sumOf_5 (by decide) ?_
  refine v_sub [(0, .ref (B + p0)), (1, .int p1), (2, .long r_1.1)] ⟨rfl, rfl, rfl, trivial⟩ ?_
  replace h := p_bind_elim h
  obtain ⟨q_30, h_31, h⟩ := h
  refine v_sub [(0, .ref (B + p0)), (1, .int p1), (2, .long r_1.1)] ⟨rfl, rfl, rfl, trivial⟩ ?_
  refine v_loopV (fun (sP : Int64 × v_I) => V l B D ac (v_EE B wa wb wt sb sL sx) yX10_sumOf cX10_sumOf 7 (some .long) d 0 0 0 0 S sP.2 J F 6 [(0, .ref (B + p0)), (1, .int p1), (2, .long sP.1)] [] Q) (fun (rE : Int64 × v_I) => V l B D ac (v_EE B wa wb wt sb sL sx) yX10_sumOf cX10_sumOf 7 (some .long) d 0 0 0 0 S rE.2 J F 103 [(2, .long rE.1)] [] Q) (fun s_ x_ hb hk => b6 _ _ s_ x_ hb hk) (r := q_30) ?_ h_31
  try dsimp only
  refine v_lload_n dX10_sumOf_103 rfl ?_
  cases h
  exact v_lret dX10_sumOf_104 rfl (by decide) (by decide) (by rw [← hQ]; exact ⟨rfl, rfl, rfl, rfl, rfl⟩)

def f_X10_termOf_J6_160 (rc : Nat → Nat → Int32 → v_S → v_I → v_F → Option (Int64 × v_I)) (S : v_S) (F : v_F) (w0 : Nat) (w1 : Int32) (I : v_I) (z0 : Int64) (z1 : Nat) : Option ((Int64 × v_I) ⊕ (Int64 × v_I)) :=
(p_ob S 10 z1).bind fun _ =>
(f_X10_bounded S I z1 z0 w1).bind fun r_27 =>
some (.inl (r_27.1, r_27.2))
def f_X10_termOf_J6_121 (rc : Nat → Nat → Int32 → v_S → v_I → v_F → Option (Int64 × v_I)) (S : v_S) (F : v_F) (w0 : Nat) (w1 : Int32) (I : v_I) (y2 : Int64) (y4 : Int32) (y5 : Int64) : Option ((Int64 × v_I) ⊕ (Int64 × v_I)) :=
(f_X10_sign (42 : Int32)).bind fun r_20 =>
if y4 = r_20 then (
f_X10_termOf_J6_160 rc S F w0 w1 I (y2 * y5) w0)
else (
(f_X10_sign (47 : Int32)).bind fun r_23 =>
if y4 = r_23 then (
(p_nz64 y5).bind fun _ =>
f_X10_termOf_J6_160 rc S F w0 w1 I (y2 / y5) w0)
else (
(p_nz64 y5).bind fun _ =>
f_X10_termOf_J6_160 rc S F w0 w1 I (y2 - y2 / y5 * y5) w0))
def f_X10_termOf_J6_115 (rc : Nat → Nat → Int32 → v_S → v_I → v_F → Option (Int64 × v_I)) (S : v_S) (F : v_F) (w0 : Nat) (w1 : Int32) (I : v_I) (y2 : Int64) (y4 : Int32) (z0 : Int32) (z1 : Nat) : Option ((Int64 × v_I) ⊕ (Int64 × v_I)) :=
(p_ob S 10 z1).bind fun _ =>
(p_bl z0).bind fun _ =>
p_let (v_up I z1 24 z0) fun I_35 =>
f_X10_termOf_J6_121 rc S F w0 w1 I_35 y2 y4 (1 : Int64)
def f_X10_termOf_J6_110 (rc : Nat → Nat → Int32 → v_S → v_I → v_F → Option (Int64 × v_I)) (S : v_S) (F : v_F) (w0 : Nat) (w1 : Int32) (I : v_I) (y2 : Int64) (y4 : Int32) (z0 : Nat) : Option ((Int64 × v_I) ⊕ (Int64 × v_I)) :=
f_X10_termOf_J6_115 rc S F w0 w1 I y2 y4 (1 : Int32) z0
def f_X10_termOf_J6_54 (rc : Nat → Nat → Int32 → v_S → v_I → v_F → Option (Int64 × v_I)) (S : v_S) (F : v_F) (w0 : Nat) (w1 : Int32) (I : v_I) (y2 : Int64) : Option ((Int64 × v_I) ⊕ (Int64 × v_I)) :=
(p_ob S 10 w0).bind fun _ =>
(f_X10_codeAt S I F w0 (I w0 22)).bind fun r_11 =>
p_let (v_up I w0 22 ((I w0 22) + (1 : Int32))) fun I_13 =>
(rc 2 w0 w1 S I_13 F).bind fun r_15 =>
(f_X10_sign (42 : Int32)).bind fun r_17 =>
if r_11 = r_17 then (
f_X10_termOf_J6_121 rc S F w0 w1 r_15.2 y2 r_11 r_15.1)
else (
if (lg_cmp r_15.1 (0 : Int64)) = (0 : Int32) then (
if (r_15.2 w0 24) = (0 : Int32) then (
if w1 = (0 : Int32) then (
f_X10_termOf_J6_115 rc S F w0 w1 r_15.2 y2 r_11 (0 : Int32) w0)
else (
f_X10_termOf_J6_110 rc S F w0 w1 r_15.2 y2 r_11 w0))
else (
f_X10_termOf_J6_110 rc S F w0 w1 r_15.2 y2 r_11 w0))
else (
f_X10_termOf_J6_121 rc S F w0 w1 r_15.2 y2 r_11 r_15.1))
def f_X10_termOf_B6 (rc : Nat → Nat → Int32 → v_S → v_I → v_F → Option (Int64 × v_I)) (S : v_S) (F : v_F) (w0 : Nat) (w1 : Int32) (s6 : Int64 × v_I) : Option ((Int64 × v_I) ⊕ (Int64 × v_I)) :=
(p_ob S 10 w0).bind fun _ =>
(f_X10_codeAt S s6.2 F w0 (s6.2 w0 22)).bind fun r_5 =>
(f_X10_sign (42 : Int32)).bind fun r_7 =>
if r_5 = r_7 then (
f_X10_termOf_J6_54 rc S F w0 w1 s6.2 s6.1)
else (
(f_X10_codeAt S s6.2 F w0 (s6.2 w0 22)).bind fun r_38 =>
(f_X10_sign (47 : Int32)).bind fun r_40 =>
if r_38 = r_40 then (
f_X10_termOf_J6_54 rc S F w0 w1 s6.2 s6.1)
else (
(f_X10_codeAt S s6.2 F w0 (s6.2 w0 22)).bind fun r_43 =>
(f_X10_sign (37 : Int32)).bind fun r_45 =>
if r_43 = r_45 then (
f_X10_termOf_J6_54 rc S F w0 w1 s6.2 s6.1)
else (
some (.inr (s6.1, s6.2)))))
def f_X10_termOf (rc : Nat → Nat → Int32 → v_S → v_I → v_F → Option (Int64 × v_I)) (S : v_S) (I : v_I) (F : v_F) (p0 : Nat) (p1 : Int32) : Option (Int64 × v_I) :=
(p_ob S 10 p0).bind fun _ =>
(rc 2 p0 p1 S I F).bind fun r_1 =>
(v_loop (f_X10_termOf_B6 rc S F p0 p1) FU (r_1.1, r_1.2)).bind fun q_48 =>
some (q_48.1, q_48.2)
set_option maxHeartbeats 4000000 in
set_option maxRecDepth 100000 in
theorem t_X10_termOf {rc : Nat → Nat → Int32 → v_S → v_I → v_F → Option (Int64 × v_I)} {dd : Nat} (hK : 4 ≤ dd + 1) (hrc2 : ∀ {S : v_S} {I : v_I} {J : v_J} {F : v_F} {a : Nat} {b : Int32} {r : Int64 × v_I}, rc 2 a b S I F = some r → v_R l B D ac (v_EE B wa wb wt sb sL sx) yX10_partOf cX10_partOf 4 (some .long) dd 0 0 [.ref (B + a), .int b] S I J F (v_D (some (.long r.1)) S r.2 J F)) {p0 : Nat} {p1 : Int32} {r : Int64 × v_I} (h : f_X10_termOf rc S I F p0 p1 = some r) : v_R l B D ac (v_EE B wa wb wt sb sL sx) yX10_termOf cX10_termOf 7 (some .long) (dd + 1) 0 0 [.ref (B + p0), .int p1] S I J F (v_D (some (.long r.1)) S r.2 J F) := by
  refine v_R.of (by decide) (Nat.le_of_ble_eq_true rfl) fun d hd => ?_
  generalize hQ : v_D (some (.long r.1)) S r.2 J F = Q
  have b6 : ∀ (w0 : Nat) (w1 : Int32) (s6 : Int64 × v_I) (rx6 : (Int64 × v_I) ⊕ (Int64 × v_I)), f_X10_termOf_B6 rc S F w0 w1 s6 = some rx6 → v_K (fun (sP : Int64 × v_I) => V l B D ac (v_EE B wa wb wt sb sL sx) yX10_termOf cX10_termOf 7 (some .long) d 0 0 0 0 S sP.2 J F 6 [(0, .ref (B + w0)), (1, .int w1), (2, .long sP.1)] [] Q) (fun (rE : Int64 × v_I) => V l B D ac (v_EE B wa wb wt sb sL sx) yX10_termOf cX10_termOf 7 (some .long) d 0 0 0 0 S rE.2 J F 168 [(2, .long rE.1)] [] Q) rx6 → V l B D ac (v_EE B wa wb wt sb sL sx) yX10_termOf cX10_termOf 7 (some .long) d 0 0 0 0 S s6.2 J F 6 [(0, .ref (B + w0)), (1, .int w1), (2, .long s6.1)] [] Q := by
    intro w0 w1 s6 rx6 h hk
    have j160 : ∀ (I : v_I) (z0 : Int64) (z1 : Nat), f_X10_termOf_J6_160 rc S F w0 w1 I z0 z1 = some rx6 → V l B D ac (v_EE B wa wb wt sb sL sx) yX10_termOf cX10_termOf 7 (some .long) d 0 0 0 0 S I J F 160 [(0, .ref (B + w0)), (1, .int w1)] [.long z0, .ref (B + z1)] Q := by
      intro I z0 z1 h
      unfold f_X10_termOf_J6_160 at h
      refine v_iload_n dX10_termOf_160 rfl ?_
      replace h := p_bind_elim h
      obtain ⟨_, q_29, h⟩ := h
      have q_29 := p_ob_spec q_29
      replace h := p_bind_elim h
      obtain ⟨r_27, q_28, h⟩ := h
      refine v_cVr (t_X10_bounded q_28) cal_X10_bounded ml_X10_294 sel_X10_bounded q_29 kk_10 dX10_termOf_161 (by omega) (by decide) (by decide) (Nat.le_of_ble_eq_true rfl) rfl ?_
      refine v_lstore_n dX10_termOf_164 (by decide) ?_
      refine v_sub [(0, .ref (B + w0)), (1, .int w1), (2, .long r_27.1)] ⟨rfl, rfl, rfl, trivial⟩ ?_
      refine v_goto 6 dX10_termOf_165 (by decide) ?_
      cases h
      refine v_sub [(0, .ref (B + w0)), (1, .int w1), (2, .long r_27.1)] ⟨rfl, rfl, rfl, trivial⟩ ?_
      exact hk
    have j121 : ∀ (I : v_I) (y2 : Int64) (y4 : Int32) (y5 : Int64), f_X10_termOf_J6_121 rc S F w0 w1 I y2 y4 y5 = some rx6 → V l B D ac (v_EE B wa wb wt sb sL sx) yX10_termOf cX10_termOf 7 (some .long) d 0 0 0 0 S I J F 121 [(0, .ref (B + w0)), (1, .int w1), (2, .long y2), (4, .int y4), (5, .long y5)] [] Q := by
      intro I y2 y4 y5 h
      unfold f_X10_termOf_J6_121 at h
      refine v_aload_n dX10_termOf_121 rfl ?_
      refine v_iload dX10_termOf_122 rfl ?_
      refine v_bipush (42 : Int32) dX10_termOf_124 (by decide) ?_
      replace h := p_bind_elim h
      obtain ⟨r_20, q_21, h⟩ := h
      refine v_cSr (t_X10_sign q_21) cal_X10_sign ml_X10_236 sta_X10_sign dX10_termOf_126 (by omega) (by decide) (by decide) (Nat.le_of_ble_eq_true rfl) rfl ?_
      refine v_icmp_ne 139 dX10_termOf_129 (by decide) (fun c_22 => ?_) (fun c_22 => ?_)
      · rw [if_neg c_22] at h
        refine v_iload dX10_termOf_139 rfl ?_
        refine v_bipush (47 : Int32) dX10_termOf_141 (by decide) ?_
        replace h := p_bind_elim h
        obtain ⟨r_23, q_24, h⟩ := h
        refine v_cSr (t_X10_sign q_24) cal_X10_sign ml_X10_236 sta_X10_sign dX10_termOf_143 (by omega) (by decide) (by decide) (Nat.le_of_ble_eq_true rfl) rfl ?_
        refine v_icmp_ne 156 dX10_termOf_146 (by decide) (fun c_25 => ?_) (fun c_25 => ?_)
        · rw [if_neg c_25] at h
          refine v_lload_n dX10_termOf_156 rfl ?_
          refine v_lload dX10_termOf_157 rfl ?_
          replace h := p_bind_elim h
          obtain ⟨_, q_26, h⟩ := h
          refine v_lrem dX10_termOf_159 (p_nz64_spec q_26) ?_
          refine v_sub [(0, .ref (B + w0)), (1, .int w1)] ⟨rfl, rfl, trivial⟩ ?_
          exact j160 _ _ _ h
        · rw [if_pos c_25] at h
          refine v_lload_n dX10_termOf_149 rfl ?_
          refine v_lload dX10_termOf_150 rfl ?_
          replace h := p_bind_elim h
          obtain ⟨_, q_30, h⟩ := h
          refine v_ldiv dX10_termOf_152 (p_nz64_spec q_30) ?_
          refine v_goto 160 dX10_termOf_153 (by decide) ?_
          refine v_sub [(0, .ref (B + w0)), (1, .int w1)] ⟨rfl, rfl, trivial⟩ ?_
          exact j160 _ _ _ h
      · rw [if_pos c_22] at h
        refine v_lload_n dX10_termOf_132 rfl ?_
        refine v_lload dX10_termOf_133 rfl ?_
        refine v_lmul dX10_termOf_135 ?_
        refine v_goto 160 dX10_termOf_136 (by decide) ?_
        refine v_sub [(0, .ref (B + w0)), (1, .int w1)] ⟨rfl, rfl, trivial⟩ ?_
        exact j160 _ _ _ h
    have j115 : ∀ (I : v_I) (y2 : Int64) (y4 : Int32) (z0 : Int32) (z1 : Nat), f_X10_termOf_J6_115 rc S F w0 w1 I y2 y4 z0 z1 = some rx6 → V l B D ac (v_EE B wa wb wt sb sL sx) yX10_termOf cX10_termOf 7 (some .long) d 0 0 0 0 S I J F 115 [(0, .ref (B + w0)), (1, .int w1), (2, .long y2), (4, .int y4)] [.int z0, .ref (B + z1)] Q := by
      intro I y2 y4 z0 z1 h
      unfold f_X10_termOf_J6_115 at h
      replace h := p_bind_elim h
      obtain ⟨_, q_33, h⟩ := h
      have q_33 := p_ob_spec q_33
      replace h := p_bind_elim h
      obtain ⟨_, q_34, h⟩ := h
      refine v_putI rfl fl_X10_287 dX10_termOf_115 q_33 (p_bl_spec q_34).1 (p_bl_spec q_34).2 ?_
      replace h := p_let_elim h
      obtain ⟨I_35, h_36, h⟩ := h
      rw [← h_36]
      refine v_lconst (1 : Int64) dX10_termOf_118 (by decide) ?_
      refine v_lstore dX10_termOf_119 (by decide) ?_
      refine v_sub [(0, .ref (B + w0)), (1, .int w1), (2, .long y2), (4, .int y4), (5, .long (1 : Int64))] ⟨rfl, rfl, rfl, rfl, rfl, trivial⟩ ?_
      refine v_sub [(0, .ref (B + w0)), (1, .int w1), (2, .long y2), (4, .int y4), (5, .long (1 : Int64))] ⟨rfl, rfl, rfl, rfl, rfl, trivial⟩ ?_
      exact j121 _ _ _ _ h
    have j110 : ∀ (I : v_I) (y2 : Int64) (y4 : Int32) (z0 : Nat), f_X10_termOf_J6_110 rc S F w0 w1 I y2 y4 z0 = some rx6 → V l B D ac (v_EE B wa wb wt sb sL sx) yX10_termOf cX10_termOf 7 (some .long) d 0 0 0 0 S I J F 110 [(0, .ref (B + w0)), (1, .int w1), (2, .long y2), (4, .int y4)] [.ref (B + z0)] Q := by
      intro I y2 y4 z0 h
      unfold f_X10_termOf_J6_110 at h
      refine v_iconstE (1 : Int32) dX10_termOf_110 (by decide) ?_
      refine v_goto 115 dX10_termOf_111 (by decide) ?_
      refine v_sub [(0, .ref (B + w0)), (1, .int w1), (2, .long y2), (4, .int y4)] ⟨rfl, rfl, rfl, rfl, trivial⟩ ?_
      exact j115 _ _ _ _ _ h
    have j54 : ∀ (I : v_I) (y2 : Int64), f_X10_termOf_J6_54 rc S F w0 w1 I y2 = some rx6 → V l B D ac (v_EE B wa wb wt sb sL sx) yX10_termOf cX10_termOf 7 (some .long) d 0 0 0 0 S I J F 54 [(0, .ref (B + w0)), (1, .int w1), (2, .long y2)] [] Q := by
      intro I y2 h
      unfold f_X10_termOf_J6_54 at h
      refine v_aload_n dX10_termOf_54 rfl ?_
      refine v_aload_n dX10_termOf_55 rfl ?_
      replace h := p_bind_elim h
      obtain ⟨_, q_10, h⟩ := h
      have q_10 := p_ob_spec q_10
      refine v_getI rfl fl_X10_277 dX10_termOf_56 q_10 ?_
      replace h := p_bind_elim h
      obtain ⟨r_11, q_12, h⟩ := h
      refine v_cVr (t_X10_codeAt q_12) cal_X10_codeAt ml_X10_280 sel_X10_codeAt q_10 kk_10 dX10_termOf_59 (by omega) (by decide) (by decide) (Nat.le_of_ble_eq_true rfl) rfl ?_
      refine v_istore dX10_termOf_62 (by decide) ?_
      refine v_sub [(0, .ref (B + w0)), (1, .int w1), (2, .long y2), (4, .int r_11)] ⟨rfl, rfl, rfl, rfl, trivial⟩ ?_
      refine v_aload_n dX10_termOf_64 rfl ?_
      refine v_dup dX10_termOf_65 rfl ?_
      refine v_getI rfl fl_X10_277 dX10_termOf_66 q_10 ?_
      refine v_iconstE (1 : Int32) dX10_termOf_69 (by decide) ?_
      refine v_iadd dX10_termOf_70 ?_
      refine v_putI rfl fl_X10_277 dX10_termOf_71 q_10 rfl rfl ?_
      replace h := p_let_elim h
      obtain ⟨I_13, h_14, h⟩ := h
      rw [← h_14]
      refine v_aload_n dX10_termOf_74 rfl ?_
      refine v_iload_n dX10_termOf_75 rfl ?_
      replace h := p_bind_elim h
      obtain ⟨r_15, q_16, h⟩ := h
      refine v_cVr (hrc2 q_16) cal_X10_partOf ml_X10_298 sel_X10_partOf q_10 kk_10 dX10_termOf_76 (by omega) (by decide) (by decide) (Nat.le_of_ble_eq_true rfl) rfl ?_
      refine v_lstore dX10_termOf_79 (by decide) ?_
      refine v_sub [(0, .ref (B + w0)), (1, .int w1), (2, .long y2), (4, .int r_11), (5, .long r_15.1)] ⟨rfl, rfl, rfl, rfl, rfl, trivial⟩ ?_
      refine v_iload dX10_termOf_81 rfl ?_
      refine v_bipush (42 : Int32) dX10_termOf_83 (by decide) ?_
      replace h := p_bind_elim h
      obtain ⟨r_17, q_18, h⟩ := h
      refine v_cSr (t_X10_sign q_18) cal_X10_sign ml_X10_236 sta_X10_sign dX10_termOf_85 (by omega) (by decide) (by decide) (Nat.le_of_ble_eq_true rfl) rfl ?_
      refine v_icmp_eq 121 dX10_termOf_88 (by decide) (fun c_19 => ?_) (fun c_19 => ?_)
      · rw [if_pos c_19] at h
        refine v_sub [(0, .ref (B + w0)), (1, .int w1), (2, .long y2), (4, .int r_11), (5, .long r_15.1)] ⟨rfl, rfl, rfl, rfl, rfl, trivial⟩ ?_
        exact j121 _ _ _ _ h
      · rw [if_neg c_19] at h
        refine v_lload dX10_termOf_91 rfl ?_
        refine v_lconst (0 : Int64) dX10_termOf_93 (by decide) ?_
        refine v_lcmp dX10_termOf_94 ?_
        refine v_if_ne 121 dX10_termOf_95 (by decide) (fun c_31 => ?_) (fun c_31 => ?_)
        · rw [if_neg c_31] at h
          refine v_sub [(0, .ref (B + w0)), (1, .int w1), (2, .long y2), (4, .int r_11), (5, .long r_15.1)] ⟨rfl, rfl, rfl, rfl, rfl, trivial⟩ ?_
          exact j121 _ _ _ _ h
        · rw [if_pos c_31] at h
          refine v_aload_n dX10_termOf_98 rfl ?_
          refine v_aload_n dX10_termOf_99 rfl ?_
          refine v_getI rfl fl_X10_287 dX10_termOf_100 q_10 ?_
          refine v_if_ne 110 dX10_termOf_103 (by decide) (fun c_32 => ?_) (fun c_32 => ?_)
          · rw [if_neg c_32] at h
            refine v_sub [(0, .ref (B + w0)), (1, .int w1), (2, .long y2), (4, .int r_11)] ⟨rfl, rfl, rfl, rfl, trivial⟩ ?_
            exact j110 _ _ _ _ h
          · rw [if_pos c_32] at h
            refine v_iload_n dX10_termOf_106 rfl ?_
            refine v_if_eq 114 dX10_termOf_107 (by decide) (fun c_37 => ?_) (fun c_37 => ?_)
            · rw [if_pos c_37] at h
              refine v_iconstE (0 : Int32) dX10_termOf_114 (by decide) ?_
              refine v_sub [(0, .ref (B + w0)), (1, .int w1), (2, .long y2), (4, .int r_11)] ⟨rfl, rfl, rfl, rfl, trivial⟩ ?_
              exact j115 _ _ _ _ _ h
            · rw [if_neg c_37] at h
              refine v_sub [(0, .ref (B + w0)), (1, .int w1), (2, .long y2), (4, .int r_11)] ⟨rfl, rfl, rfl, rfl, trivial⟩ ?_
              exact j110 _ _ _ _ h
    unfold f_X10_termOf_B6 at h
    refine v_aload_n dX10_termOf_6 rfl ?_
    refine v_aload_n dX10_termOf_7 rfl ?_
    replace h := p_bind_elim h
    obtain ⟨_, q_4, h⟩ := h
    have q_4 := p_ob_spec q_4
    refine v_getI rfl fl_X10_277 dX10_termOf_8 q_4 ?_
    replace h := p_bind_elim h
    obtain ⟨r_5, q_6, h⟩ := h
    refine v_cVr (t_X10_codeAt q_6) cal_X10_codeAt ml_X10_280 sel_X10_codeAt q_4 kk_10 dX10_termOf_11 (by omega) (by decide) (by decide) (Nat.le_of_ble_eq_true rfl) rfl ?_
    refine v_bipush (42 : Int32) dX10_termOf_14 (by decide) ?_
    replace h := p_bind_elim h
    obtain ⟨r_7, q_8, h⟩ := h
    refine v_cSr (t_X10_sign q_8) cal_X10_sign ml_X10_236 sta_X10_sign dX10_termOf_16 (by omega) (by decide) (by decide) (Nat.le_of_ble_eq_true rfl) rfl ?_
    refine v_icmp_eq 54 dX10_termOf_19 (by decide) (fun c_9 => ?_) (fun c_9 => ?_)
    · rw [if_pos c_9] at h
      refine v_sub [(0, .ref (B + w0)), (1, .int w1), (2, .long s6.1)] ⟨rfl, rfl, rfl, trivial⟩ ?_
      exact j54 _ _ h
    · rw [if_neg c_9] at h
      refine v_aload_n dX10_termOf_22 rfl ?_
      refine v_aload_n dX10_termOf_23 rfl ?_
      refine v_getI rfl fl_X10_277 dX10_termOf_24 q_4 ?_
      replace h := p_bind_elim h
      obtain ⟨r_38, q_39, h⟩ := h
      refine v_cVr (t_X10_codeAt q_39) cal_X10_codeAt ml_X10_280 sel_X10_codeAt q_4 kk_10 dX10_termOf_27 (by omega) (by decide) (by decide) (Nat.le_of_ble_eq_true rfl) rfl ?_
      refine v_bipush (47 : Int32) dX10_termOf_30 (by decide) ?_
      replace h := p_bind_elim h
      obtain ⟨r_40, q_41, h⟩ := h
      refine v_cSr (t_X10_sign q_41) cal_X10_sign ml_X10_236 sta_X10_sign dX10_termOf_32 (by omega) (by decide) (by decide) (Nat.le_of_ble_eq_true rfl) rfl ?_
      refine v_icmp_eq 54 dX10_termOf_35 (by decide) (fun c_42 => ?_) (fun c_42 => ?_)
      · rw [if_pos c_42] at h
        refine v_sub [(0, .ref (B + w0)), (1, .int w1), (2, .long s6.1)] ⟨rfl, rfl, rfl, trivial⟩ ?_
        exact j54 _ _ h
      · rw [if_neg c_42] at h
        refine v_aload_n dX10_termOf_38 rfl ?_
        refine v_aload_n dX10_termOf_39 rfl ?_
        refine v_getI rfl fl_X10_277 dX10_termOf_40 q_4 ?_
        replace h := p_bind_elim h
        obtain ⟨r_43, q_44, h⟩ := h
        refine v_cVr (t_X10_codeAt q_44) cal_X10_codeAt ml_X10_280 sel_X10_codeAt q_4 kk_10 dX10_termOf_43 (by omega) (by decide) (by decide) (Nat.le_of_ble_eq_true rfl) rfl ?_
        refine v_bipush (37 : Int32) dX10_termOf_46 (by decide) ?_
        replace h := p_bind_elim h
        obtain ⟨r_45, q_46, h⟩ := h
        refine v_cSr (t_X10_sign q_46) cal_X10_sign ml_X10_236 sta_X10_sign dX10_termOf_48 (by omega) (by decide) (by decide) (Nat.le_of_ble_eq_true rfl) rfl ?_
        refine v_icmp_ne 168 dX10_termOf_51 (by decide) (fun c_47 => ?_) (fun c_47 => ?_)
        · rw [if_neg c_47] at h
          cases h
          refine v_sub [(2, .long s6.1)] ⟨rfl, trivial⟩ ?_
          exact hk
        · rw [if_pos c_47] at h
          refine v_sub [(0, .ref (B + w0)), (1, .int w1), (2, .long s6.1)] ⟨rfl, rfl, rfl, trivial⟩ ?_
          exact j54 _ _ h
  unfold f_X10_termOf at h
  refine v_sub [(0, .ref (B + p0)), (1, .int p1)] ⟨rfl, rfl, trivial⟩ ?_
  refine v_aload_n dX10_termOf_0 rfl ?_
  refine v_iload_n dX10_termOf_1 rfl ?_
  replace h := p_bind_elim h
  obtain ⟨_, q_3, h⟩ := h
  have q_3 := p_ob_spec q_3
  replace h := p_bind_elim h
  obtain ⟨r_1, q_2, h⟩ := h
  refine v_cVr (hrc2 q_2) cal_X10_partOf ml_X10_298 sel_X10_partOf q_3 kk_10 dX10_termOf_2 (by omega) (by decide) (by decide) (Nat.le_of_ble_eq_true rfl) rfl ?_
  refine v_lstore_n dX10_termOf_5 (by decide) ?_
  refine v_sub [(0, .ref (B + p0)), (1, .int p1), (2, .long r_1.1)] ⟨rfl, rfl, rfl, trivial⟩ ?_
  replace h := p_bind_elim h
  obtain ⟨q_48, h_49, h⟩ := h
  refine v_sub [(0, .ref (B + p0)), (1, .int p1), (2, .long r_1.1)] ⟨rfl, rfl, rfl, trivial⟩ ?_
  refine v_loopV (fun (sP : Int64 × v_I) => V l B D ac (v_EE B wa wb wt sb sL sx) yX10_termOf cX10_termOf 7 (some .long) d 0 0 0 0 S sP.2 J F 6 [(0, .ref (B + p0)), (1, .int p1), (2, .long sP.1)] [] Q) (fun (rE : Int64 × v_I) => V l B D ac (v_EE B wa wb wt sb sL sx) yX10_termOf cX10_termOf 7 (some .long) d 0 0 0 0 S rE.2 J F 168 [(2, .long rE.1)] [] Q) (fun s_ x_ hb hk => b6 _ _ s_ x_ hb hk) (r := q_48) ?_ h_49
  try dsimp only
  refine v_lload_n dX10_termOf_168 rfl ?_
  cases h
  exact v_lret dX10_termOf_169 rfl (by decide) (by decide) (by rw [← hQ]; exact ⟨rfl, rfl, rfl, rfl, rfl⟩)

def f_X10_partOf_J100 (rc : Nat → Nat → Int32 → v_S → v_I → v_F → Option (Int64 × v_I)) (S : v_S) (F : v_F) (I : v_I) (y0 : Nat) (y1 : Int32) (y2 : Int32) (y3 : Int32) : Option (Int64 × v_I) :=
if y1 = (0 : Int32) then (
some ((0 : Int64), I))
else (
(p_ob S 10 y0).bind fun _ =>
if (I y0 24) = (0 : Int32) then (
if y2 = (50 : Int32) then (
(F y0 2).bind fun a_23 =>
(p_ix S 20 a_23 (((2860 : Int32) + (I y0 22)) - (1 : Int32))).bind fun j_25 =>
some ((I a_23 j_25).toInt64, I))
else (
if (I y0 25) = (0 : Int32) then (
(F y0 26).bind fun a_17 =>
(p_ix S 20 a_17 (y2 - (8 : Int32))).bind fun j_19 =>
some ((I a_17 j_19).toInt64, I))
else (
(f_X10_orderValue S I F y0 y2 y3).bind fun r_21 =>
some (r_21.toInt64, I))))
else (
some ((0 : Int64), I)))
def f_X10_partOf_J76 (rc : Nat → Nat → Int32 → v_S → v_I → v_F → Option (Int64 × v_I)) (S : v_S) (F : v_F) (I : v_I) (y0 : Nat) (y1 : Int32) (y2 : Int32) : Option (Int64 × v_I) :=
(p_ob S 10 y0).bind fun _ =>
(F y0 2).bind fun a_29 =>
(p_ix S 20 a_29 ((2860 : Int32) + (I y0 22))).bind fun j_31 =>
p_let (I a_29 j_31) fun x_33 =>
p_let (v_up I y0 22 ((I y0 22) + (1 : Int32))) fun I_35 =>
f_X10_partOf_J100 rc S F I_35 y0 y1 y2 x_33
def f_X10_partOf (rc : Nat → Nat → Int32 → v_S → v_I → v_F → Option (Int64 × v_I)) (S : v_S) (I : v_I) (F : v_F) (p0 : Nat) (p1 : Int32) : Option (Int64 × v_I) :=
(f_X10_sign (91 : Int32)).bind fun r_1 =>
(p_ob S 10 p0).bind fun _ =>
(f_X10_passes0 S I F p0 r_1).bind fun r_3 =>
if r_3.1 = (0 : Int32) then (
(f_X10_codeAt S r_3.2 F p0 (r_3.2 p0 22)).bind fun r_7 =>
p_let (v_up r_3.2 p0 22 ((r_3.2 p0 22) + (1 : Int32))) fun I_9 =>
if (I_9 p0 25) = (0 : Int32) then (
f_X10_partOf_J100 rc S F I_9 p0 p1 r_7 (0 : Int32))
else (
if r_7 = (13 : Int32) then (
f_X10_partOf_J76 rc S F I_9 p0 p1 r_7)
else (
if r_7 = (14 : Int32) then (
f_X10_partOf_J76 rc S F I_9 p0 p1 r_7)
else (
if r_7 = (19 : Int32) then (
f_X10_partOf_J76 rc S F I_9 p0 p1 r_7)
else (
f_X10_partOf_J100 rc S F I_9 p0 p1 r_7 (0 : Int32))))))
else (
(rc 0 p0 p1 S r_3.2 F).bind fun r_39 =>
p_let (v_up r_39.2 p0 22 ((r_39.2 p0 22) + (1 : Int32))) fun I_41 =>
some (r_39.1, I_41))
set_option maxHeartbeats 4000000 in
set_option maxRecDepth 100000 in
theorem t_X10_partOf {rc : Nat → Nat → Int32 → v_S → v_I → v_F → Option (Int64 × v_I)} {dd : Nat} (hK : 4 ≤ dd + 1) (hrc0 : ∀ {S : v_S} {I : v_I} {J : v_J} {F : v_F} {a : Nat} {b : Int32} {r : Int64 × v_I}, rc 0 a b S I F = some r → v_R l B D ac (v_EE B wa wb wt sb sL sx) yX10_sumOf cX10_sumOf 7 (some .long) dd 0 0 [.ref (B + a), .int b] S I J F (v_D (some (.long r.1)) S r.2 J F)) {p0 : Nat} {p1 : Int32} {r : Int64 × v_I} (h : f_X10_partOf rc S I F p0 p1 = some r) : v_R l B D ac (v_EE B wa wb wt sb sL sx) yX10_partOf cX10_partOf 4 (some .long) (dd + 1) 0 0 [.ref (B + p0), .int p1] S I J F (v_D (some (.long r.1)) S r.2 J F) := by
  refine v_R.of (by decide) (Nat.le_of_ble_eq_true rfl) fun d hd => ?_
  generalize hQ : v_D (some (.long r.1)) S r.2 J F = Q
  have j100 : ∀ (I : v_I) (y0 : Nat) (y1 : Int32) (y2 : Int32) (y3 : Int32), f_X10_partOf_J100 rc S F I y0 y1 y2 y3 = some r → V l B D ac (v_EE B wa wb wt sb sL sx) yX10_partOf cX10_partOf 4 (some .long) d 0 0 0 0 S I J F 100 [(0, .ref (B + y0)), (1, .int y1), (2, .int y2), (3, .int y3)] [] Q := by
    intro I y0 y1 y2 y3 h
    unfold f_X10_partOf_J100 at h
    refine v_iload_n dX10_partOf_100 rfl ?_
    refine v_if_eq 111 dX10_partOf_101 (by decide) (fun c_12 => ?_) (fun c_12 => ?_)
    · rw [if_pos c_12] at h
      refine v_lconst (0 : Int64) dX10_partOf_111 (by decide) ?_
      cases h
      exact v_lret dX10_partOf_112 rfl (by decide) (by decide) (by rw [← hQ]; exact ⟨rfl, rfl, rfl, rfl, rfl⟩)
    · rw [if_neg c_12] at h
      refine v_aload_n dX10_partOf_104 rfl ?_
      replace h := p_bind_elim h
      obtain ⟨_, q_13, h⟩ := h
      have q_13 := p_ob_spec q_13
      refine v_getI rfl fl_X10_287 dX10_partOf_105 q_13 ?_
      refine v_if_eq 113 dX10_partOf_108 (by decide) (fun c_14 => ?_) (fun c_14 => ?_)
      · rw [if_pos c_14] at h
        refine v_iload_n dX10_partOf_113 rfl ?_
        refine v_bipush (50 : Int32) dX10_partOf_114 (by decide) ?_
        refine v_icmp_ne 136 dX10_partOf_116 (by decide) (fun c_15 => ?_) (fun c_15 => ?_)
        · rw [if_neg c_15] at h
          refine v_aload_n dX10_partOf_136 rfl ?_
          refine v_getI rfl fl_X10_307 dX10_partOf_137 q_13 ?_
          refine v_if_eq 153 dX10_partOf_140 (by decide) (fun c_16 => ?_) (fun c_16 => ?_)
          · rw [if_pos c_16] at h
            refine v_aload_n dX10_partOf_153 rfl ?_
            replace h := p_bind_elim h
            obtain ⟨a_17, q_18, h⟩ := h
            refine v_getR q_18 rfl fl_X10_63 dX10_partOf_154 q_13 ?_
            refine v_iload_n dX10_partOf_157 rfl ?_
            refine v_bipush (8 : Int32) dX10_partOf_158 (by decide) ?_
            refine v_isub dX10_partOf_160 ?_
            replace h := p_bind_elim h
            obtain ⟨j_19, q_20, h⟩ := h
            refine v_ialdP dX10_partOf_161 q_20 ?_
            refine v_i2l dX10_partOf_162 ?_
            cases h
            exact v_lret dX10_partOf_163 rfl (by decide) (by decide) (by rw [← hQ]; exact ⟨rfl, rfl, rfl, rfl, rfl⟩)
          · rw [if_neg c_16] at h
            refine v_aload_n dX10_partOf_143 rfl ?_
            refine v_iload_n dX10_partOf_144 rfl ?_
            refine v_iload_n dX10_partOf_145 rfl ?_
            replace h := p_bind_elim h
            obtain ⟨r_21, q_22, h⟩ := h
            refine v_cVr (t_X10_orderValue q_22) cal_X10_orderValue ml_X10_310 sel_X10_orderValue q_13 kk_10 dX10_partOf_146 (by omega) (by decide) (by decide) (Nat.le_of_ble_eq_true rfl) rfl ?_
            refine v_i2l dX10_partOf_149 ?_
            refine v_goto 163 dX10_partOf_150 (by decide) ?_
            cases h
            exact v_lret dX10_partOf_163 rfl (by decide) (by decide) (by rw [← hQ]; exact ⟨rfl, rfl, rfl, rfl, rfl⟩)
        · rw [if_pos c_15] at h
          refine v_aload_n dX10_partOf_119 rfl ?_
          replace h := p_bind_elim h
          obtain ⟨a_23, q_24, h⟩ := h
          refine v_getR q_24 rfl fl_X10_28 dX10_partOf_120 q_13 ?_
          refine v_sipush (2860 : Int32) dX10_partOf_123 (by decide) ?_
          refine v_aload_n dX10_partOf_126 rfl ?_
          refine v_getI rfl fl_X10_277 dX10_partOf_127 q_13 ?_
          refine v_iadd dX10_partOf_130 ?_
          refine v_iconstE (1 : Int32) dX10_partOf_131 (by decide) ?_
          refine v_isub dX10_partOf_132 ?_
          replace h := p_bind_elim h
          obtain ⟨j_25, q_26, h⟩ := h
          refine v_ialdP dX10_partOf_133 q_26 ?_
          refine v_i2l dX10_partOf_134 ?_
          cases h
          exact v_lret dX10_partOf_135 rfl (by decide) (by decide) (by rw [← hQ]; exact ⟨rfl, rfl, rfl, rfl, rfl⟩)
      · rw [if_neg c_14] at h
        refine v_lconst (0 : Int64) dX10_partOf_111 (by decide) ?_
        cases h
        exact v_lret dX10_partOf_112 rfl (by decide) (by decide) (by rw [← hQ]; exact ⟨rfl, rfl, rfl, rfl, rfl⟩)
  have j76 : ∀ (I : v_I) (y0 : Nat) (y1 : Int32) (y2 : Int32), f_X10_partOf_J76 rc S F I y0 y1 y2 = some r → V l B D ac (v_EE B wa wb wt sb sL sx) yX10_partOf cX10_partOf 4 (some .long) d 0 0 0 0 S I J F 76 [(0, .ref (B + y0)), (1, .int y1), (2, .int y2)] [] Q := by
    intro I y0 y1 y2 h
    unfold f_X10_partOf_J76 at h
    refine v_aload_n dX10_partOf_76 rfl ?_
    replace h := p_bind_elim h
    obtain ⟨_, q_28, h⟩ := h
    have q_28 := p_ob_spec q_28
    replace h := p_bind_elim h
    obtain ⟨a_29, q_30, h⟩ := h
    refine v_getR q_30 rfl fl_X10_28 dX10_partOf_77 q_28 ?_
    refine v_sipush (2860 : Int32) dX10_partOf_80 (by decide) ?_
    refine v_aload_n dX10_partOf_83 rfl ?_
    refine v_getI rfl fl_X10_277 dX10_partOf_84 q_28 ?_
    refine v_iadd dX10_partOf_87 ?_
    replace h := p_bind_elim h
    obtain ⟨j_31, q_32, h⟩ := h
    refine v_ialdP dX10_partOf_88 q_32 ?_
    replace h := p_let_elim h
    obtain ⟨x_33, h_34, h⟩ := h
    rw [← h_34]
    refine v_istore_n dX10_partOf_89 (by decide) ?_
    refine v_sub [(0, .ref (B + y0)), (1, .int y1), (2, .int y2), (3, .int x_33)] ⟨rfl, rfl, rfl, rfl, trivial⟩ ?_
    refine v_aload_n dX10_partOf_90 rfl ?_
    refine v_dup dX10_partOf_91 rfl ?_
    refine v_getI rfl fl_X10_277 dX10_partOf_92 q_28 ?_
    refine v_iconstE (1 : Int32) dX10_partOf_95 (by decide) ?_
    refine v_iadd dX10_partOf_96 ?_
    refine v_putI rfl fl_X10_277 dX10_partOf_97 q_28 rfl rfl ?_
    replace h := p_let_elim h
    obtain ⟨I_35, h_36, h⟩ := h
    rw [← h_36]
    refine v_sub [(0, .ref (B + y0)), (1, .int y1), (2, .int y2), (3, .int x_33)] ⟨rfl, rfl, rfl, rfl, trivial⟩ ?_
    exact j100 _ _ _ _ _ h
  unfold f_X10_partOf at h
  refine v_sub [(0, .ref (B + p0)), (1, .int p1)] ⟨rfl, rfl, trivial⟩ ?_
  refine v_aload_n dX10_partOf_0 rfl ?_
  refine v_bipush (91 : Int32) dX10_partOf_1 (by decide) ?_
  replace h := p_bind_elim h
  obtain ⟨r_1, q_2, h⟩ := h
  refine v_cSr (t_X10_sign q_2) cal_X10_sign ml_X10_236 sta_X10_sign dX10_partOf_3 (by omega) (by decide) (by decide) (Nat.le_of_ble_eq_true rfl) rfl ?_
  replace h := p_bind_elim h
  obtain ⟨_, q_5, h⟩ := h
  have q_5 := p_ob_spec q_5
  replace h := p_bind_elim h
  obtain ⟨r_3, q_4, h⟩ := h
  refine v_cVr (t_X10_passes0 q_4) cal_X10_passes0 ml_X10_301 sel_X10_passes0 q_5 kk_10 dX10_partOf_6 (by omega) (by decide) (by decide) (Nat.le_of_ble_eq_true rfl) rfl ?_
  refine v_if_eq 30 dX10_partOf_9 (by decide) (fun c_6 => ?_) (fun c_6 => ?_)
  · rw [if_pos c_6] at h
    refine v_aload_n dX10_partOf_30 rfl ?_
    refine v_aload_n dX10_partOf_31 rfl ?_
    refine v_getI rfl fl_X10_277 dX10_partOf_32 q_5 ?_
    replace h := p_bind_elim h
    obtain ⟨r_7, q_8, h⟩ := h
    refine v_cVr (t_X10_codeAt q_8) cal_X10_codeAt ml_X10_280 sel_X10_codeAt q_5 kk_10 dX10_partOf_35 (by omega) (by decide) (by decide) (Nat.le_of_ble_eq_true rfl) rfl ?_
    refine v_istore_n dX10_partOf_38 (by decide) ?_
    refine v_sub [(0, .ref (B + p0)), (1, .int p1), (2, .int r_7)] ⟨rfl, rfl, rfl, trivial⟩ ?_
    refine v_iconstE (0 : Int32) dX10_partOf_39 (by decide) ?_
    refine v_istore_n dX10_partOf_40 (by decide) ?_
    refine v_sub [(0, .ref (B + p0)), (1, .int p1), (2, .int r_7), (3, .int (0 : Int32))] ⟨rfl, rfl, rfl, rfl, trivial⟩ ?_
    refine v_aload_n dX10_partOf_41 rfl ?_
    refine v_dup dX10_partOf_42 rfl ?_
    refine v_getI rfl fl_X10_277 dX10_partOf_43 q_5 ?_
    refine v_iconstE (1 : Int32) dX10_partOf_46 (by decide) ?_
    refine v_iadd dX10_partOf_47 ?_
    refine v_putI rfl fl_X10_277 dX10_partOf_48 q_5 rfl rfl ?_
    replace h := p_let_elim h
    obtain ⟨I_9, h_10, h⟩ := h
    rw [← h_10]
    refine v_aload_n dX10_partOf_51 rfl ?_
    refine v_getI rfl fl_X10_307 dX10_partOf_52 q_5 ?_
    refine v_if_eq 100 dX10_partOf_55 (by decide) (fun c_11 => ?_) (fun c_11 => ?_)
    · rw [if_pos c_11] at h
      refine v_sub [(0, .ref (B + p0)), (1, .int p1), (2, .int r_7), (3, .int (0 : Int32))] ⟨rfl, rfl, rfl, rfl, trivial⟩ ?_
      exact j100 _ _ _ _ _ h
    · rw [if_neg c_11] at h
      refine v_iload_n dX10_partOf_58 rfl ?_
      refine v_bipush (13 : Int32) dX10_partOf_59 (by decide) ?_
      refine v_icmp_eq 76 dX10_partOf_61 (by decide) (fun c_27 => ?_) (fun c_27 => ?_)
      · rw [if_pos c_27] at h
        refine v_sub [(0, .ref (B + p0)), (1, .int p1), (2, .int r_7)] ⟨rfl, rfl, rfl, trivial⟩ ?_
        exact j76 _ _ _ _ h
      · rw [if_neg c_27] at h
        refine v_iload_n dX10_partOf_64 rfl ?_
        refine v_bipush (14 : Int32) dX10_partOf_65 (by decide) ?_
        refine v_icmp_eq 76 dX10_partOf_67 (by decide) (fun c_37 => ?_) (fun c_37 => ?_)
        · rw [if_pos c_37] at h
          refine v_sub [(0, .ref (B + p0)), (1, .int p1), (2, .int r_7)] ⟨rfl, rfl, rfl, trivial⟩ ?_
          exact j76 _ _ _ _ h
        · rw [if_neg c_37] at h
          refine v_iload_n dX10_partOf_70 rfl ?_
          refine v_bipush (19 : Int32) dX10_partOf_71 (by decide) ?_
          refine v_icmp_ne 100 dX10_partOf_73 (by decide) (fun c_38 => ?_) (fun c_38 => ?_)
          · rw [if_neg c_38] at h
            refine v_sub [(0, .ref (B + p0)), (1, .int p1), (2, .int r_7), (3, .int (0 : Int32))] ⟨rfl, rfl, rfl, rfl, trivial⟩ ?_
            exact j100 _ _ _ _ _ h
          · rw [if_pos c_38] at h
            refine v_sub [(0, .ref (B + p0)), (1, .int p1), (2, .int r_7)] ⟨rfl, rfl, rfl, trivial⟩ ?_
            exact j76 _ _ _ _ h
  · rw [if_neg c_6] at h
    refine v_aload_n dX10_partOf_12 rfl ?_
    refine v_iload_n dX10_partOf_13 rfl ?_
    replace h := p_bind_elim h
    obtain ⟨r_39, q_40, h⟩ := h
    refine v_cVr (hrc0 q_40) cal_X10_sumOf ml_X10_304 sel_X10_sumOf q_5 kk_10 dX10_partOf_14 (by omega) (by decide) (by decide) (Nat.le_of_ble_eq_true rfl) rfl ?_
    refine v_lstore_n dX10_partOf_17 (by decide) ?_
    refine v_sub [(0, .ref (B + p0)), (2, .long r_39.1)] ⟨rfl, rfl, trivial⟩ ?_
    refine v_aload_n dX10_partOf_18 rfl ?_
    refine v_dup dX10_partOf_19 rfl ?_
    refine v_getI rfl fl_X10_277 dX10_partOf_20 q_5 ?_
    refine v_iconstE (1 : Int32) dX10_partOf_23 (by decide) ?_
    refine v_iadd dX10_partOf_24 ?_
    refine v_putI rfl fl_X10_277 dX10_partOf_25 q_5 rfl rfl ?_
    replace h := p_let_elim h
    obtain ⟨I_41, h_42, h⟩ := h
    rw [← h_42]
    refine v_lload_n dX10_partOf_28 rfl ?_
    cases h
    exact v_lret dX10_partOf_29 rfl (by decide) (by decide) (by rw [← hQ]; exact ⟨rfl, rfl, rfl, rfl, rfl⟩)

def g_X10_sumOf : Nat → Nat → Nat → Int32 → v_S → v_I → v_F → Option (Int64 × v_I)
  | 0, _, _, _, _, _, _ => none
  | n + 1, 0, a, b, S, I, F => f_X10_sumOf (g_X10_sumOf n) S I F a b
  | n + 1, 1, a, b, S, I, F => f_X10_termOf (g_X10_sumOf n) S I F a b
  | n + 1, _, a, b, S, I, F => f_X10_partOf (g_X10_sumOf n) S I F a b
set_option maxHeartbeats 4000000 in
theorem tgr_X10_sumOf : ∀ n : Nat, (∀ {S : v_S} {I : v_I} {J : v_J} {F : v_F} {a : Nat} {b : Int32} {r : Int64 × v_I}, g_X10_sumOf n 0 a b S I F = some r → v_R l B D ac (v_EE B wa wb wt sb sL sx) yX10_sumOf cX10_sumOf 7 (some .long) (4 + n) 0 0 [.ref (B + a), .int b] S I J F (v_D (some (.long r.1)) S r.2 J F)) ∧ (∀ {S : v_S} {I : v_I} {J : v_J} {F : v_F} {a : Nat} {b : Int32} {r : Int64 × v_I}, g_X10_sumOf n 1 a b S I F = some r → v_R l B D ac (v_EE B wa wb wt sb sL sx) yX10_termOf cX10_termOf 7 (some .long) (4 + n) 0 0 [.ref (B + a), .int b] S I J F (v_D (some (.long r.1)) S r.2 J F)) ∧ (∀ {S : v_S} {I : v_I} {J : v_J} {F : v_F} {a : Nat} {b : Int32} {r : Int64 × v_I}, g_X10_sumOf n 2 a b S I F = some r → v_R l B D ac (v_EE B wa wb wt sb sL sx) yX10_partOf cX10_partOf 4 (some .long) (4 + n) 0 0 [.ref (B + a), .int b] S I J F (v_D (some (.long r.1)) S r.2 J F))
  | 0 => ⟨(fun h => by cases h), (fun h => by cases h), (fun h => by cases h)⟩
  | n + 1 => by
    have ih := @tgr_X10_sumOf n
    obtain ⟨i0, i1, i2⟩ := ih
    exact ⟨(fun h => t_X10_sumOf (dd := 4 + n) (by omega) i1 h), (fun h => t_X10_termOf (dd := 4 + n) (by omega) i2 h), (fun h => t_X10_partOf (dd := 4 + n) (by omega) i0 h)⟩
theorem tg_X10_sumOf {a : Nat} {b : Int32} {r : Int64 × v_I} (h : g_X10_sumOf GNN 0 a b S I F = some r) : v_R l B D ac (v_EE B wa wb wt sb sL sx) yX10_sumOf cX10_sumOf 7 (some .long) 104 0 0 [.ref (B + a), .int b] S I J F (v_D (some (.long r.1)) S r.2 J F) := v_R.mono ((tgr_X10_sumOf GNN).1 h) (by rw [GN_eq]; omega)
theorem tg_X10_termOf {a : Nat} {b : Int32} {r : Int64 × v_I} (h : g_X10_sumOf GNN 1 a b S I F = some r) : v_R l B D ac (v_EE B wa wb wt sb sL sx) yX10_termOf cX10_termOf 7 (some .long) 104 0 0 [.ref (B + a), .int b] S I J F (v_D (some (.long r.1)) S r.2 J F) := v_R.mono ((tgr_X10_sumOf GNN).2.1 h) (by rw [GN_eq]; omega)
theorem tg_X10_partOf {a : Nat} {b : Int32} {r : Int64 × v_I} (h : g_X10_sumOf GNN 2 a b S I F = some r) : v_R l B D ac (v_EE B wa wb wt sb sL sx) yX10_partOf cX10_partOf 4 (some .long) 104 0 0 [.ref (B + a), .int b] S I J F (v_D (some (.long r.1)) S r.2 J F) := v_R.mono ((tgr_X10_sumOf GNN).2.2 h) (by rw [GN_eq]; omega)

def f_X10_testOf_J6_45 (rc : Nat → Nat → Int32 → v_S → v_I → v_F → Option (Int32 × v_I)) (S : v_S) (F : v_F) (w0 : Nat) (w1 : Int32) (I : v_I) (z0 : Int32) : Option ((Int32 × v_I) ⊕ (Int32 × v_I)) :=
some (.inl (z0, I))
def f_X10_testOf_J6_40 (rc : Nat → Nat → Int32 → v_S → v_I → v_F → Option (Int32 × v_I)) (S : v_S) (F : v_F) (w0 : Nat) (w1 : Int32) (I : v_I) : Option ((Int32 × v_I) ⊕ (Int32 × v_I)) :=
f_X10_testOf_J6_45 rc S F w0 w1 I (1 : Int32)
def f_X10_testOf_J6_28 (rc : Nat → Nat → Int32 → v_S → v_I → v_F → Option (Int32 × v_I)) (S : v_S) (F : v_F) (w0 : Nat) (w1 : Int32) (I : v_I) (y2 : Int32) (z0 : Int32) (z1 : Nat) : Option ((Int32 × v_I) ⊕ (Int32 × v_I)) :=
(p_ob S 10 z1).bind fun _ =>
(rc 1 z1 z0 S I F).bind fun r_9 =>
if y2 = (0 : Int32) then (
if r_9.1 = (0 : Int32) then (
f_X10_testOf_J6_45 rc S F w0 w1 r_9.2 (0 : Int32))
else (
f_X10_testOf_J6_40 rc S F w0 w1 r_9.2))
else (
f_X10_testOf_J6_40 rc S F w0 w1 r_9.2)
def f_X10_testOf_J6_27 (rc : Nat → Nat → Int32 → v_S → v_I → v_F → Option (Int32 × v_I)) (S : v_S) (F : v_F) (w0 : Nat) (w1 : Int32) (I : v_I) (y2 : Int32) (z0 : Nat) : Option ((Int32 × v_I) ⊕ (Int32 × v_I)) :=
f_X10_testOf_J6_28 rc S F w0 w1 I y2 (0 : Int32) z0
def f_X10_testOf_B6 (rc : Nat → Nat → Int32 → v_S → v_I → v_F → Option (Int32 × v_I)) (S : v_S) (F : v_F) (w0 : Nat) (w1 : Int32) (s6 : Int32 × v_I) : Option ((Int32 × v_I) ⊕ (Int32 × v_I)) :=
(p_ob S 10 w0).bind fun _ =>
(f_X10_passes0 S s6.2 F w0 (5 : Int32)).bind fun r_4 =>
if r_4.1 = (0 : Int32) then (
some (.inr (s6.1, r_4.2)))
else (
if w1 = (0 : Int32) then (
f_X10_testOf_J6_27 rc S F w0 w1 r_4.2 s6.1 w0)
else (
if s6.1 = (0 : Int32) then (
f_X10_testOf_J6_28 rc S F w0 w1 r_4.2 s6.1 (1 : Int32) w0)
else (
f_X10_testOf_J6_27 rc S F w0 w1 r_4.2 s6.1 w0)))
def f_X10_testOf (rc : Nat → Nat → Int32 → v_S → v_I → v_F → Option (Int32 × v_I)) (S : v_S) (I : v_I) (F : v_F) (p0 : Nat) (p1 : Int32) : Option (Int32 × v_I) :=
(p_ob S 10 p0).bind fun _ =>
(rc 1 p0 p1 S I F).bind fun r_1 =>
(v_loop (f_X10_testOf_B6 rc S F p0 p1) FU (r_1.1, r_1.2)).bind fun q_15 =>
(p_bl q_15.1).bind fun _ =>
some (q_15.1, q_15.2)
set_option maxHeartbeats 4000000 in
set_option maxRecDepth 100000 in
theorem t_X10_testOf {rc : Nat → Nat → Int32 → v_S → v_I → v_F → Option (Int32 × v_I)} {dd : Nat} (hK : 105 ≤ dd + 1) (hrc1 : ∀ {S : v_S} {I : v_I} {J : v_J} {F : v_F} {a : Nat} {b : Int32} {r : Int32 × v_I}, rc 1 a b S I F = some r → v_R l B D ac (v_EE B wa wb wt sb sL sx) yX10_bothOf cX10_bothOf 4 (some .boolean) dd 0 0 [.ref (B + a), .int b] S I J F (v_D (some (.int r.1)) S r.2 J F)) {p0 : Nat} {p1 : Int32} {r : Int32 × v_I} (h : f_X10_testOf rc S I F p0 p1 = some r) : v_R l B D ac (v_EE B wa wb wt sb sL sx) yX10_testOf cX10_testOf 4 (some .boolean) (dd + 1) 0 0 [.ref (B + p0), .int p1] S I J F (v_D (some (.int r.1)) S r.2 J F) := by
  refine v_R.of (by decide) (Nat.le_of_ble_eq_true rfl) fun d hd => ?_
  generalize hQ : v_D (some (.int r.1)) S r.2 J F = Q
  have b6 : ∀ (w0 : Nat) (w1 : Int32) (s6 : Int32 × v_I) (rx6 : (Int32 × v_I) ⊕ (Int32 × v_I)), f_X10_testOf_B6 rc S F w0 w1 s6 = some rx6 → v_K (fun (sP : Int32 × v_I) => V l B D ac (v_EE B wa wb wt sb sL sx) yX10_testOf cX10_testOf 4 (some .boolean) d 0 0 0 0 S sP.2 J F 6 [(0, .ref (B + w0)), (1, .int w1), (2, .int sP.1)] [] Q) (fun (rE : Int32 × v_I) => V l B D ac (v_EE B wa wb wt sb sL sx) yX10_testOf cX10_testOf 4 (some .boolean) d 0 0 0 0 S rE.2 J F 49 [(2, .int rE.1)] [] Q) rx6 → V l B D ac (v_EE B wa wb wt sb sL sx) yX10_testOf cX10_testOf 4 (some .boolean) d 0 0 0 0 S s6.2 J F 6 [(0, .ref (B + w0)), (1, .int w1), (2, .int s6.1)] [] Q := by
    intro w0 w1 s6 rx6 h hk
    have j45 : ∀ (I : v_I) (z0 : Int32), f_X10_testOf_J6_45 rc S F w0 w1 I z0 = some rx6 → V l B D ac (v_EE B wa wb wt sb sL sx) yX10_testOf cX10_testOf 4 (some .boolean) d 0 0 0 0 S I J F 45 [(0, .ref (B + w0)), (1, .int w1)] [.int z0] Q := by
      intro I z0 h
      unfold f_X10_testOf_J6_45 at h
      refine v_istore_n dX10_testOf_45 (by decide) ?_
      refine v_sub [(0, .ref (B + w0)), (1, .int w1), (2, .int z0)] ⟨rfl, rfl, rfl, trivial⟩ ?_
      refine v_goto 6 dX10_testOf_46 (by decide) ?_
      cases h
      refine v_sub [(0, .ref (B + w0)), (1, .int w1), (2, .int z0)] ⟨rfl, rfl, rfl, trivial⟩ ?_
      exact hk
    have j40 : ∀ (I : v_I), f_X10_testOf_J6_40 rc S F w0 w1 I = some rx6 → V l B D ac (v_EE B wa wb wt sb sL sx) yX10_testOf cX10_testOf 4 (some .boolean) d 0 0 0 0 S I J F 40 [(0, .ref (B + w0)), (1, .int w1)] [] Q := by
      intro I h
      unfold f_X10_testOf_J6_40 at h
      refine v_iconstE (1 : Int32) dX10_testOf_40 (by decide) ?_
      refine v_goto 45 dX10_testOf_41 (by decide) ?_
      refine v_sub [(0, .ref (B + w0)), (1, .int w1)] ⟨rfl, rfl, trivial⟩ ?_
      exact j45 _ _ h
    have j28 : ∀ (I : v_I) (y2 : Int32) (z0 : Int32) (z1 : Nat), f_X10_testOf_J6_28 rc S F w0 w1 I y2 z0 z1 = some rx6 → V l B D ac (v_EE B wa wb wt sb sL sx) yX10_testOf cX10_testOf 4 (some .boolean) d 0 0 0 0 S I J F 28 [(0, .ref (B + w0)), (1, .int w1), (2, .int y2)] [.int z0, .ref (B + z1)] Q := by
      intro I y2 z0 z1 h
      unfold f_X10_testOf_J6_28 at h
      replace h := p_bind_elim h
      obtain ⟨_, q_11, h⟩ := h
      have q_11 := p_ob_spec q_11
      replace h := p_bind_elim h
      obtain ⟨r_9, q_10, h⟩ := h
      refine v_cVr (hrc1 q_10) cal_X10_bothOf ml_X10_322 sel_X10_bothOf q_11 kk_10 dX10_testOf_28 (by omega) (by decide) (by decide) (Nat.le_of_ble_eq_true rfl) rfl ?_
      refine v_istore_n dX10_testOf_31 (by decide) ?_
      refine v_sub [(0, .ref (B + w0)), (1, .int w1), (2, .int y2), (3, .int r_9.1)] ⟨rfl, rfl, rfl, rfl, trivial⟩ ?_
      refine v_iload_n dX10_testOf_32 rfl ?_
      refine v_if_ne 40 dX10_testOf_33 (by decide) (fun c_12 => ?_) (fun c_12 => ?_)
      · rw [if_neg c_12] at h
        refine v_sub [(0, .ref (B + w0)), (1, .int w1)] ⟨rfl, rfl, trivial⟩ ?_
        exact j40 _ h
      · rw [if_pos c_12] at h
        refine v_iload_n dX10_testOf_36 rfl ?_
        refine v_if_eq 44 dX10_testOf_37 (by decide) (fun c_13 => ?_) (fun c_13 => ?_)
        · rw [if_pos c_13] at h
          refine v_iconstE (0 : Int32) dX10_testOf_44 (by decide) ?_
          refine v_sub [(0, .ref (B + w0)), (1, .int w1)] ⟨rfl, rfl, trivial⟩ ?_
          exact j45 _ _ h
        · rw [if_neg c_13] at h
          refine v_sub [(0, .ref (B + w0)), (1, .int w1)] ⟨rfl, rfl, trivial⟩ ?_
          exact j40 _ h
    have j27 : ∀ (I : v_I) (y2 : Int32) (z0 : Nat), f_X10_testOf_J6_27 rc S F w0 w1 I y2 z0 = some rx6 → V l B D ac (v_EE B wa wb wt sb sL sx) yX10_testOf cX10_testOf 4 (some .boolean) d 0 0 0 0 S I J F 27 [(0, .ref (B + w0)), (1, .int w1), (2, .int y2)] [.ref (B + z0)] Q := by
      intro I y2 z0 h
      unfold f_X10_testOf_J6_27 at h
      refine v_iconstE (0 : Int32) dX10_testOf_27 (by decide) ?_
      refine v_sub [(0, .ref (B + w0)), (1, .int w1), (2, .int y2)] ⟨rfl, rfl, rfl, trivial⟩ ?_
      exact j28 _ _ _ _ h
    unfold f_X10_testOf_B6 at h
    refine v_aload_n dX10_testOf_6 rfl ?_
    refine v_iconstE (5 : Int32) dX10_testOf_7 (by decide) ?_
    replace h := p_bind_elim h
    obtain ⟨_, q_6, h⟩ := h
    have q_6 := p_ob_spec q_6
    replace h := p_bind_elim h
    obtain ⟨r_4, q_5, h⟩ := h
    refine v_cVr (t_X10_passes0 q_5) cal_X10_passes0 ml_X10_301 sel_X10_passes0 q_6 kk_10 dX10_testOf_8 (by omega) (by decide) (by decide) (Nat.le_of_ble_eq_true rfl) rfl ?_
    refine v_if_eq 49 dX10_testOf_11 (by decide) (fun c_7 => ?_) (fun c_7 => ?_)
    · rw [if_pos c_7] at h
      cases h
      refine v_sub [(2, .int s6.1)] ⟨rfl, trivial⟩ ?_
      exact hk
    · rw [if_neg c_7] at h
      refine v_aload_n dX10_testOf_14 rfl ?_
      refine v_iload_n dX10_testOf_15 rfl ?_
      refine v_if_eq 27 dX10_testOf_16 (by decide) (fun c_8 => ?_) (fun c_8 => ?_)
      · rw [if_pos c_8] at h
        refine v_sub [(0, .ref (B + w0)), (1, .int w1), (2, .int s6.1)] ⟨rfl, rfl, rfl, trivial⟩ ?_
        exact j27 _ _ _ h
      · rw [if_neg c_8] at h
        refine v_iload_n dX10_testOf_19 rfl ?_
        refine v_if_ne 27 dX10_testOf_20 (by decide) (fun c_14 => ?_) (fun c_14 => ?_)
        · rw [if_neg c_14] at h
          refine v_sub [(0, .ref (B + w0)), (1, .int w1), (2, .int s6.1)] ⟨rfl, rfl, rfl, trivial⟩ ?_
          exact j27 _ _ _ h
        · rw [if_pos c_14] at h
          refine v_iconstE (1 : Int32) dX10_testOf_23 (by decide) ?_
          refine v_goto 28 dX10_testOf_24 (by decide) ?_
          refine v_sub [(0, .ref (B + w0)), (1, .int w1), (2, .int s6.1)] ⟨rfl, rfl, rfl, trivial⟩ ?_
          exact j28 _ _ _ _ h
  unfold f_X10_testOf at h
  refine v_sub [(0, .ref (B + p0)), (1, .int p1)] ⟨rfl, rfl, trivial⟩ ?_
  refine v_aload_n dX10_testOf_0 rfl ?_
  refine v_iload_n dX10_testOf_1 rfl ?_
  replace h := p_bind_elim h
  obtain ⟨_, q_3, h⟩ := h
  have q_3 := p_ob_spec q_3
  replace h := p_bind_elim h
  obtain ⟨r_1, q_2, h⟩ := h
  refine v_cVr (hrc1 q_2) cal_X10_bothOf ml_X10_322 sel_X10_bothOf q_3 kk_10 dX10_testOf_2 (by omega) (by decide) (by decide) (Nat.le_of_ble_eq_true rfl) rfl ?_
  refine v_istore_n dX10_testOf_5 (by decide) ?_
  refine v_sub [(0, .ref (B + p0)), (1, .int p1), (2, .int r_1.1)] ⟨rfl, rfl, rfl, trivial⟩ ?_
  replace h := p_bind_elim h
  obtain ⟨q_15, h_16, h⟩ := h
  refine v_sub [(0, .ref (B + p0)), (1, .int p1), (2, .int r_1.1)] ⟨rfl, rfl, rfl, trivial⟩ ?_
  refine v_loopV (fun (sP : Int32 × v_I) => V l B D ac (v_EE B wa wb wt sb sL sx) yX10_testOf cX10_testOf 4 (some .boolean) d 0 0 0 0 S sP.2 J F 6 [(0, .ref (B + p0)), (1, .int p1), (2, .int sP.1)] [] Q) (fun (rE : Int32 × v_I) => V l B D ac (v_EE B wa wb wt sb sL sx) yX10_testOf cX10_testOf 4 (some .boolean) d 0 0 0 0 S rE.2 J F 49 [(2, .int rE.1)] [] Q) (fun s_ x_ hb hk => b6 _ _ s_ x_ hb hk) (r := q_15) ?_ h_16
  try dsimp only
  refine v_iload_n dX10_testOf_49 rfl ?_
  replace h := p_bind_elim h
  obtain ⟨_, q_17, h⟩ := h
  cases h
  exact v_zret dX10_testOf_50 rfl (p_bl_spec q_17).1 (by decide) (by decide) (by rw [← hQ]; exact ⟨rfl, rfl, rfl, rfl, rfl⟩)

def f_X10_bothOf_J6_46 (rc : Nat → Nat → Int32 → v_S → v_I → v_F → Option (Int32 × v_I)) (S : v_S) (F : v_F) (w0 : Nat) (w1 : Int32) (I : v_I) (z0 : Int32) : Option ((Int32 × v_I) ⊕ (Int32 × v_I)) :=
some (.inl (z0, I))
def f_X10_bothOf_J6_45 (rc : Nat → Nat → Int32 → v_S → v_I → v_F → Option (Int32 × v_I)) (S : v_S) (F : v_F) (w0 : Nat) (w1 : Int32) (I : v_I) : Option ((Int32 × v_I) ⊕ (Int32 × v_I)) :=
f_X10_bothOf_J6_46 rc S F w0 w1 I (0 : Int32)
def f_X10_bothOf_J6_29 (rc : Nat → Nat → Int32 → v_S → v_I → v_F → Option (Int32 × v_I)) (S : v_S) (F : v_F) (w0 : Nat) (w1 : Int32) (I : v_I) (y2 : Int32) (z0 : Int32) (z1 : Nat) : Option ((Int32 × v_I) ⊕ (Int32 × v_I)) :=
(p_ob S 10 z1).bind fun _ =>
(rc 2 z1 z0 S I F).bind fun r_9 =>
if y2 = (0 : Int32) then (
f_X10_bothOf_J6_45 rc S F w0 w1 r_9.2)
else (
if r_9.1 = (0 : Int32) then (
f_X10_bothOf_J6_45 rc S F w0 w1 r_9.2)
else (
f_X10_bothOf_J6_46 rc S F w0 w1 r_9.2 (1 : Int32)))
def f_X10_bothOf_J6_28 (rc : Nat → Nat → Int32 → v_S → v_I → v_F → Option (Int32 × v_I)) (S : v_S) (F : v_F) (w0 : Nat) (w1 : Int32) (I : v_I) (y2 : Int32) (z0 : Nat) : Option ((Int32 × v_I) ⊕ (Int32 × v_I)) :=
f_X10_bothOf_J6_29 rc S F w0 w1 I y2 (0 : Int32) z0
def f_X10_bothOf_B6 (rc : Nat → Nat → Int32 → v_S → v_I → v_F → Option (Int32 × v_I)) (S : v_S) (F : v_F) (w0 : Nat) (w1 : Int32) (s6 : Int32 × v_I) : Option ((Int32 × v_I) ⊕ (Int32 × v_I)) :=
(p_ob S 10 w0).bind fun _ =>
(f_X10_passes0 S s6.2 F w0 (6 : Int32)).bind fun r_4 =>
if r_4.1 = (0 : Int32) then (
some (.inr (s6.1, r_4.2)))
else (
if w1 = (0 : Int32) then (
f_X10_bothOf_J6_28 rc S F w0 w1 r_4.2 s6.1 w0)
else (
if s6.1 = (0 : Int32) then (
f_X10_bothOf_J6_28 rc S F w0 w1 r_4.2 s6.1 w0)
else (
f_X10_bothOf_J6_29 rc S F w0 w1 r_4.2 s6.1 (1 : Int32) w0)))
def f_X10_bothOf (rc : Nat → Nat → Int32 → v_S → v_I → v_F → Option (Int32 × v_I)) (S : v_S) (I : v_I) (F : v_F) (p0 : Nat) (p1 : Int32) : Option (Int32 × v_I) :=
(p_ob S 10 p0).bind fun _ =>
(rc 2 p0 p1 S I F).bind fun r_1 =>
(v_loop (f_X10_bothOf_B6 rc S F p0 p1) FU (r_1.1, r_1.2)).bind fun q_15 =>
(p_bl q_15.1).bind fun _ =>
some (q_15.1, q_15.2)
set_option maxHeartbeats 4000000 in
set_option maxRecDepth 100000 in
theorem t_X10_bothOf {rc : Nat → Nat → Int32 → v_S → v_I → v_F → Option (Int32 × v_I)} {dd : Nat} (hK : 105 ≤ dd + 1) (hrc2 : ∀ {S : v_S} {I : v_I} {J : v_J} {F : v_F} {a : Nat} {b : Int32} {r : Int32 × v_I}, rc 2 a b S I F = some r → v_R l B D ac (v_EE B wa wb wt sb sL sx) yX10_plainOf cX10_plainOf 3 (some .boolean) dd 0 0 [.ref (B + a), .int b] S I J F (v_D (some (.int r.1)) S r.2 J F)) {p0 : Nat} {p1 : Int32} {r : Int32 × v_I} (h : f_X10_bothOf rc S I F p0 p1 = some r) : v_R l B D ac (v_EE B wa wb wt sb sL sx) yX10_bothOf cX10_bothOf 4 (some .boolean) (dd + 1) 0 0 [.ref (B + p0), .int p1] S I J F (v_D (some (.int r.1)) S r.2 J F) := by
  refine v_R.of (by decide) (Nat.le_of_ble_eq_true rfl) fun d hd => ?_
  generalize hQ : v_D (some (.int r.1)) S r.2 J F = Q
  have b6 : ∀ (w0 : Nat) (w1 : Int32) (s6 : Int32 × v_I) (rx6 : (Int32 × v_I) ⊕ (Int32 × v_I)), f_X10_bothOf_B6 rc S F w0 w1 s6 = some rx6 → v_K (fun (sP : Int32 × v_I) => V l B D ac (v_EE B wa wb wt sb sL sx) yX10_bothOf cX10_bothOf 4 (some .boolean) d 0 0 0 0 S sP.2 J F 6 [(0, .ref (B + w0)), (1, .int w1), (2, .int sP.1)] [] Q) (fun (rE : Int32 × v_I) => V l B D ac (v_EE B wa wb wt sb sL sx) yX10_bothOf cX10_bothOf 4 (some .boolean) d 0 0 0 0 S rE.2 J F 50 [(2, .int rE.1)] [] Q) rx6 → V l B D ac (v_EE B wa wb wt sb sL sx) yX10_bothOf cX10_bothOf 4 (some .boolean) d 0 0 0 0 S s6.2 J F 6 [(0, .ref (B + w0)), (1, .int w1), (2, .int s6.1)] [] Q := by
    intro w0 w1 s6 rx6 h hk
    have j46 : ∀ (I : v_I) (z0 : Int32), f_X10_bothOf_J6_46 rc S F w0 w1 I z0 = some rx6 → V l B D ac (v_EE B wa wb wt sb sL sx) yX10_bothOf cX10_bothOf 4 (some .boolean) d 0 0 0 0 S I J F 46 [(0, .ref (B + w0)), (1, .int w1)] [.int z0] Q := by
      intro I z0 h
      unfold f_X10_bothOf_J6_46 at h
      refine v_istore_n dX10_bothOf_46 (by decide) ?_
      refine v_sub [(0, .ref (B + w0)), (1, .int w1), (2, .int z0)] ⟨rfl, rfl, rfl, trivial⟩ ?_
      refine v_goto 6 dX10_bothOf_47 (by decide) ?_
      cases h
      refine v_sub [(0, .ref (B + w0)), (1, .int w1), (2, .int z0)] ⟨rfl, rfl, rfl, trivial⟩ ?_
      exact hk
    have j45 : ∀ (I : v_I), f_X10_bothOf_J6_45 rc S F w0 w1 I = some rx6 → V l B D ac (v_EE B wa wb wt sb sL sx) yX10_bothOf cX10_bothOf 4 (some .boolean) d 0 0 0 0 S I J F 45 [(0, .ref (B + w0)), (1, .int w1)] [] Q := by
      intro I h
      unfold f_X10_bothOf_J6_45 at h
      refine v_iconstE (0 : Int32) dX10_bothOf_45 (by decide) ?_
      refine v_sub [(0, .ref (B + w0)), (1, .int w1)] ⟨rfl, rfl, trivial⟩ ?_
      exact j46 _ _ h
    have j29 : ∀ (I : v_I) (y2 : Int32) (z0 : Int32) (z1 : Nat), f_X10_bothOf_J6_29 rc S F w0 w1 I y2 z0 z1 = some rx6 → V l B D ac (v_EE B wa wb wt sb sL sx) yX10_bothOf cX10_bothOf 4 (some .boolean) d 0 0 0 0 S I J F 29 [(0, .ref (B + w0)), (1, .int w1), (2, .int y2)] [.int z0, .ref (B + z1)] Q := by
      intro I y2 z0 z1 h
      unfold f_X10_bothOf_J6_29 at h
      replace h := p_bind_elim h
      obtain ⟨_, q_11, h⟩ := h
      have q_11 := p_ob_spec q_11
      replace h := p_bind_elim h
      obtain ⟨r_9, q_10, h⟩ := h
      refine v_cVr (hrc2 q_10) cal_X10_plainOf ml_X10_325 sel_X10_plainOf q_11 kk_10 dX10_bothOf_29 (by omega) (by decide) (by decide) (Nat.le_of_ble_eq_true rfl) rfl ?_
      refine v_istore_n dX10_bothOf_32 (by decide) ?_
      refine v_sub [(0, .ref (B + w0)), (1, .int w1), (2, .int y2), (3, .int r_9.1)] ⟨rfl, rfl, rfl, rfl, trivial⟩ ?_
      refine v_iload_n dX10_bothOf_33 rfl ?_
      refine v_if_eq 45 dX10_bothOf_34 (by decide) (fun c_12 => ?_) (fun c_12 => ?_)
      · rw [if_pos c_12] at h
        refine v_sub [(0, .ref (B + w0)), (1, .int w1)] ⟨rfl, rfl, trivial⟩ ?_
        exact j45 _ h
      · rw [if_neg c_12] at h
        refine v_iload_n dX10_bothOf_37 rfl ?_
        refine v_if_eq 45 dX10_bothOf_38 (by decide) (fun c_13 => ?_) (fun c_13 => ?_)
        · rw [if_pos c_13] at h
          refine v_sub [(0, .ref (B + w0)), (1, .int w1)] ⟨rfl, rfl, trivial⟩ ?_
          exact j45 _ h
        · rw [if_neg c_13] at h
          refine v_iconstE (1 : Int32) dX10_bothOf_41 (by decide) ?_
          refine v_goto 46 dX10_bothOf_42 (by decide) ?_
          refine v_sub [(0, .ref (B + w0)), (1, .int w1)] ⟨rfl, rfl, trivial⟩ ?_
          exact j46 _ _ h
    have j28 : ∀ (I : v_I) (y2 : Int32) (z0 : Nat), f_X10_bothOf_J6_28 rc S F w0 w1 I y2 z0 = some rx6 → V l B D ac (v_EE B wa wb wt sb sL sx) yX10_bothOf cX10_bothOf 4 (some .boolean) d 0 0 0 0 S I J F 28 [(0, .ref (B + w0)), (1, .int w1), (2, .int y2)] [.ref (B + z0)] Q := by
      intro I y2 z0 h
      unfold f_X10_bothOf_J6_28 at h
      refine v_iconstE (0 : Int32) dX10_bothOf_28 (by decide) ?_
      refine v_sub [(0, .ref (B + w0)), (1, .int w1), (2, .int y2)] ⟨rfl, rfl, rfl, trivial⟩ ?_
      exact j29 _ _ _ _ h
    unfold f_X10_bothOf_B6 at h
    refine v_aload_n dX10_bothOf_6 rfl ?_
    refine v_bipush (6 : Int32) dX10_bothOf_7 (by decide) ?_
    replace h := p_bind_elim h
    obtain ⟨_, q_6, h⟩ := h
    have q_6 := p_ob_spec q_6
    replace h := p_bind_elim h
    obtain ⟨r_4, q_5, h⟩ := h
    refine v_cVr (t_X10_passes0 q_5) cal_X10_passes0 ml_X10_301 sel_X10_passes0 q_6 kk_10 dX10_bothOf_9 (by omega) (by decide) (by decide) (Nat.le_of_ble_eq_true rfl) rfl ?_
    refine v_if_eq 50 dX10_bothOf_12 (by decide) (fun c_7 => ?_) (fun c_7 => ?_)
    · rw [if_pos c_7] at h
      cases h
      refine v_sub [(2, .int s6.1)] ⟨rfl, trivial⟩ ?_
      exact hk
    · rw [if_neg c_7] at h
      refine v_aload_n dX10_bothOf_15 rfl ?_
      refine v_iload_n dX10_bothOf_16 rfl ?_
      refine v_if_eq 28 dX10_bothOf_17 (by decide) (fun c_8 => ?_) (fun c_8 => ?_)
      · rw [if_pos c_8] at h
        refine v_sub [(0, .ref (B + w0)), (1, .int w1), (2, .int s6.1)] ⟨rfl, rfl, rfl, trivial⟩ ?_
        exact j28 _ _ _ h
      · rw [if_neg c_8] at h
        refine v_iload_n dX10_bothOf_20 rfl ?_
        refine v_if_eq 28 dX10_bothOf_21 (by decide) (fun c_14 => ?_) (fun c_14 => ?_)
        · rw [if_pos c_14] at h
          refine v_sub [(0, .ref (B + w0)), (1, .int w1), (2, .int s6.1)] ⟨rfl, rfl, rfl, trivial⟩ ?_
          exact j28 _ _ _ h
        · rw [if_neg c_14] at h
          refine v_iconstE (1 : Int32) dX10_bothOf_24 (by decide) ?_
          refine v_goto 29 dX10_bothOf_25 (by decide) ?_
          refine v_sub [(0, .ref (B + w0)), (1, .int w1), (2, .int s6.1)] ⟨rfl, rfl, rfl, trivial⟩ ?_
          exact j29 _ _ _ _ h
  unfold f_X10_bothOf at h
  refine v_sub [(0, .ref (B + p0)), (1, .int p1)] ⟨rfl, rfl, trivial⟩ ?_
  refine v_aload_n dX10_bothOf_0 rfl ?_
  refine v_iload_n dX10_bothOf_1 rfl ?_
  replace h := p_bind_elim h
  obtain ⟨_, q_3, h⟩ := h
  have q_3 := p_ob_spec q_3
  replace h := p_bind_elim h
  obtain ⟨r_1, q_2, h⟩ := h
  refine v_cVr (hrc2 q_2) cal_X10_plainOf ml_X10_325 sel_X10_plainOf q_3 kk_10 dX10_bothOf_2 (by omega) (by decide) (by decide) (Nat.le_of_ble_eq_true rfl) rfl ?_
  refine v_istore_n dX10_bothOf_5 (by decide) ?_
  refine v_sub [(0, .ref (B + p0)), (1, .int p1), (2, .int r_1.1)] ⟨rfl, rfl, rfl, trivial⟩ ?_
  replace h := p_bind_elim h
  obtain ⟨q_15, h_16, h⟩ := h
  refine v_sub [(0, .ref (B + p0)), (1, .int p1), (2, .int r_1.1)] ⟨rfl, rfl, rfl, trivial⟩ ?_
  refine v_loopV (fun (sP : Int32 × v_I) => V l B D ac (v_EE B wa wb wt sb sL sx) yX10_bothOf cX10_bothOf 4 (some .boolean) d 0 0 0 0 S sP.2 J F 6 [(0, .ref (B + p0)), (1, .int p1), (2, .int sP.1)] [] Q) (fun (rE : Int32 × v_I) => V l B D ac (v_EE B wa wb wt sb sL sx) yX10_bothOf cX10_bothOf 4 (some .boolean) d 0 0 0 0 S rE.2 J F 50 [(2, .int rE.1)] [] Q) (fun s_ x_ hb hk => b6 _ _ s_ x_ hb hk) (r := q_15) ?_ h_16
  try dsimp only
  refine v_iload_n dX10_bothOf_50 rfl ?_
  replace h := p_bind_elim h
  obtain ⟨_, q_17, h⟩ := h
  cases h
  exact v_zret dX10_bothOf_51 rfl (p_bl_spec q_17).1 (by decide) (by decide) (by rw [← hQ]; exact ⟨rfl, rfl, rfl, rfl, rfl⟩)

def f_X10_plainOf_J2_20 (rc : Nat → Nat → Int32 → v_S → v_I → v_F → Option (Int32 × v_I)) (S : v_S) (F : v_F) (w0 : Nat) (w1 : Int32) (I : v_I) (z0 : Int32) : Option ((Int32 × v_I) ⊕ (Int32 × v_I)) :=
some (.inl (z0, I))
def f_X10_plainOf_B2 (rc : Nat → Nat → Int32 → v_S → v_I → v_F → Option (Int32 × v_I)) (S : v_S) (F : v_F) (w0 : Nat) (w1 : Int32) (s2 : Int32 × v_I) : Option ((Int32 × v_I) ⊕ (Int32 × v_I)) :=
(p_ob S 10 w0).bind fun _ =>
(f_X10_passes0 S s2.2 F w0 (7 : Int32)).bind fun r_1 =>
if r_1.1 = (0 : Int32) then (
some (.inr (s2.1, r_1.2)))
else (
if s2.1 = (0 : Int32) then (
f_X10_plainOf_J2_20 rc S F w0 w1 r_1.2 (1 : Int32))
else (
f_X10_plainOf_J2_20 rc S F w0 w1 r_1.2 (0 : Int32)))
def f_X10_plainOf (rc : Nat → Nat → Int32 → v_S → v_I → v_F → Option (Int32 × v_I)) (S : v_S) (I : v_I) (F : v_F) (p0 : Nat) (p1 : Int32) : Option (Int32 × v_I) :=
(v_loop (f_X10_plainOf_B2 rc S F p0 p1) FU ((0 : Int32), I)).bind fun q_6 =>
(p_ob S 10 p0).bind fun _ =>
(rc 3 p0 p1 S q_6.2 F).bind fun r_8 =>
if r_8.1 = q_6.1 then (
some ((0 : Int32), r_8.2))
else (
some ((1 : Int32), r_8.2))
set_option maxHeartbeats 4000000 in
set_option maxRecDepth 100000 in
theorem t_X10_plainOf {rc : Nat → Nat → Int32 → v_S → v_I → v_F → Option (Int32 × v_I)} {dd : Nat} (hK : 105 ≤ dd + 1) (hrc3 : ∀ {S : v_S} {I : v_I} {J : v_J} {F : v_F} {a : Nat} {b : Int32} {r : Int32 × v_I}, rc 3 a b S I F = some r → v_R l B D ac (v_EE B wa wb wt sb sL sx) yX10_positiveOf cX10_positiveOf 7 (some .boolean) dd 0 0 [.ref (B + a), .int b] S I J F (v_D (some (.int r.1)) S r.2 J F)) {p0 : Nat} {p1 : Int32} {r : Int32 × v_I} (h : f_X10_plainOf rc S I F p0 p1 = some r) : v_R l B D ac (v_EE B wa wb wt sb sL sx) yX10_plainOf cX10_plainOf 3 (some .boolean) (dd + 1) 0 0 [.ref (B + p0), .int p1] S I J F (v_D (some (.int r.1)) S r.2 J F) := by
  refine v_R.of (by decide) (Nat.le_of_ble_eq_true rfl) fun d hd => ?_
  generalize hQ : v_D (some (.int r.1)) S r.2 J F = Q
  have b2 : ∀ (w0 : Nat) (w1 : Int32) (s2 : Int32 × v_I) (rx2 : (Int32 × v_I) ⊕ (Int32 × v_I)), f_X10_plainOf_B2 rc S F w0 w1 s2 = some rx2 → v_K (fun (sP : Int32 × v_I) => V l B D ac (v_EE B wa wb wt sb sL sx) yX10_plainOf cX10_plainOf 3 (some .boolean) d 0 0 0 0 S sP.2 J F 2 [(0, .ref (B + w0)), (1, .int w1), (2, .int sP.1)] [] Q) (fun (rE : Int32 × v_I) => V l B D ac (v_EE B wa wb wt sb sL sx) yX10_plainOf cX10_plainOf 3 (some .boolean) d 0 0 0 0 S rE.2 J F 24 [(0, .ref (B + w0)), (1, .int w1), (2, .int rE.1)] [] Q) rx2 → V l B D ac (v_EE B wa wb wt sb sL sx) yX10_plainOf cX10_plainOf 3 (some .boolean) d 0 0 0 0 S s2.2 J F 2 [(0, .ref (B + w0)), (1, .int w1), (2, .int s2.1)] [] Q := by
    intro w0 w1 s2 rx2 h hk
    have j20 : ∀ (I : v_I) (z0 : Int32), f_X10_plainOf_J2_20 rc S F w0 w1 I z0 = some rx2 → V l B D ac (v_EE B wa wb wt sb sL sx) yX10_plainOf cX10_plainOf 3 (some .boolean) d 0 0 0 0 S I J F 20 [(0, .ref (B + w0)), (1, .int w1)] [.int z0] Q := by
      intro I z0 h
      unfold f_X10_plainOf_J2_20 at h
      refine v_istore_n dX10_plainOf_20 (by decide) ?_
      refine v_sub [(0, .ref (B + w0)), (1, .int w1), (2, .int z0)] ⟨rfl, rfl, rfl, trivial⟩ ?_
      refine v_goto 2 dX10_plainOf_21 (by decide) ?_
      cases h
      refine v_sub [(0, .ref (B + w0)), (1, .int w1), (2, .int z0)] ⟨rfl, rfl, rfl, trivial⟩ ?_
      exact hk
    unfold f_X10_plainOf_B2 at h
    refine v_aload_n dX10_plainOf_2 rfl ?_
    refine v_bipush (7 : Int32) dX10_plainOf_3 (by decide) ?_
    replace h := p_bind_elim h
    obtain ⟨_, q_3, h⟩ := h
    have q_3 := p_ob_spec q_3
    replace h := p_bind_elim h
    obtain ⟨r_1, q_2, h⟩ := h
    refine v_cVr (t_X10_passes0 q_2) cal_X10_passes0 ml_X10_301 sel_X10_passes0 q_3 kk_10 dX10_plainOf_5 (by omega) (by decide) (by decide) (Nat.le_of_ble_eq_true rfl) rfl ?_
    refine v_if_eq 24 dX10_plainOf_8 (by decide) (fun c_4 => ?_) (fun c_4 => ?_)
    · rw [if_pos c_4] at h
      cases h
      refine v_sub [(0, .ref (B + w0)), (1, .int w1), (2, .int s2.1)] ⟨rfl, rfl, rfl, trivial⟩ ?_
      exact hk
    · rw [if_neg c_4] at h
      refine v_iload_n dX10_plainOf_11 rfl ?_
      refine v_if_ne 19 dX10_plainOf_12 (by decide) (fun c_5 => ?_) (fun c_5 => ?_)
      · rw [if_neg c_5] at h
        refine v_iconstE (0 : Int32) dX10_plainOf_19 (by decide) ?_
        refine v_sub [(0, .ref (B + w0)), (1, .int w1)] ⟨rfl, rfl, trivial⟩ ?_
        exact j20 _ _ h
      · rw [if_pos c_5] at h
        refine v_iconstE (1 : Int32) dX10_plainOf_15 (by decide) ?_
        refine v_goto 20 dX10_plainOf_16 (by decide) ?_
        refine v_sub [(0, .ref (B + w0)), (1, .int w1)] ⟨rfl, rfl, trivial⟩ ?_
        exact j20 _ _ h
  unfold f_X10_plainOf at h
  refine v_sub [(0, .ref (B + p0)), (1, .int p1)] ⟨rfl, rfl, trivial⟩ ?_
  refine v_iconstE (0 : Int32) dX10_plainOf_0 (by decide) ?_
  refine v_istore_n dX10_plainOf_1 (by decide) ?_
  refine v_sub [(0, .ref (B + p0)), (1, .int p1), (2, .int (0 : Int32))] ⟨rfl, rfl, rfl, trivial⟩ ?_
  replace h := p_bind_elim h
  obtain ⟨q_6, h_7, h⟩ := h
  refine v_sub [(0, .ref (B + p0)), (1, .int p1), (2, .int (0 : Int32))] ⟨rfl, rfl, rfl, trivial⟩ ?_
  refine v_loopV (fun (sP : Int32 × v_I) => V l B D ac (v_EE B wa wb wt sb sL sx) yX10_plainOf cX10_plainOf 3 (some .boolean) d 0 0 0 0 S sP.2 J F 2 [(0, .ref (B + p0)), (1, .int p1), (2, .int sP.1)] [] Q) (fun (rE : Int32 × v_I) => V l B D ac (v_EE B wa wb wt sb sL sx) yX10_plainOf cX10_plainOf 3 (some .boolean) d 0 0 0 0 S rE.2 J F 24 [(0, .ref (B + p0)), (1, .int p1), (2, .int rE.1)] [] Q) (fun s_ x_ hb hk => b2 _ _ s_ x_ hb hk) (r := q_6) ?_ h_7
  try dsimp only
  refine v_aload_n dX10_plainOf_24 rfl ?_
  refine v_iload_n dX10_plainOf_25 rfl ?_
  replace h := p_bind_elim h
  obtain ⟨_, q_10, h⟩ := h
  have q_10 := p_ob_spec q_10
  replace h := p_bind_elim h
  obtain ⟨r_8, q_9, h⟩ := h
  refine v_cVr (hrc3 q_9) cal_X10_positiveOf ml_X10_328 sel_X10_positiveOf q_10 kk_10 dX10_plainOf_26 (by omega) (by decide) (by decide) (Nat.le_of_ble_eq_true rfl) rfl ?_
  refine v_iload_n dX10_plainOf_29 rfl ?_
  refine v_icmp_eq 37 dX10_plainOf_30 (by decide) (fun c_11 => ?_) (fun c_11 => ?_)
  · rw [if_pos c_11] at h
    refine v_iconstE (0 : Int32) dX10_plainOf_37 (by decide) ?_
    cases h
    exact v_zret dX10_plainOf_38 rfl rfl (by decide) (by decide) (by rw [← hQ]; exact ⟨rfl, rfl, rfl, rfl, rfl⟩)
  · rw [if_neg c_11] at h
    refine v_iconstE (1 : Int32) dX10_plainOf_33 (by decide) ?_
    refine v_goto 38 dX10_plainOf_34 (by decide) ?_
    cases h
    exact v_zret dX10_plainOf_38 rfl rfl (by decide) (by decide) (by rw [← hQ]; exact ⟨rfl, rfl, rfl, rfl, rfl⟩)

def f_X10_positiveOf (rc : Nat → Nat → Int32 → v_S → v_I → v_F → Option (Int32 × v_I)) (S : v_S) (I : v_I) (F : v_F) (p0 : Nat) (p1 : Int32) : Option (Int32 × v_I) :=
(f_X10_sign (40 : Int32)).bind fun r_1 =>
(p_ob S 10 p0).bind fun _ =>
(f_X10_passes0 S I F p0 r_1).bind fun r_3 =>
if r_3.1 = (0 : Int32) then (
(g_X10_sumOf GNN 0 p0 p1 S r_3.2 F).bind fun r_7 =>
(f_X10_codeAt S r_7.2 F p0 (r_7.2 p0 22)).bind fun r_9 =>
p_let (v_up r_7.2 p0 22 ((r_7.2 p0 22) + (1 : Int32))) fun I_11 =>
(g_X10_sumOf GNN 0 p0 p1 S I_11 F).bind fun r_13 =>
if p1 = (0 : Int32) then (
some ((0 : Int32), r_13.2))
else (
if (r_13.2 p0 24) = (0 : Int32) then (
(f_X10_sign (60 : Int32)).bind fun r_17 =>
if r_9 = r_17 then (
if (0 : Int32) ≤ (lg_cmp r_7.1 r_13.1) then (
some ((0 : Int32), r_13.2))
else (
some ((1 : Int32), r_13.2)))
else (
(f_X10_sign (62 : Int32)).bind fun r_20 =>
if r_9 = r_20 then (
if (lg_cmp r_7.1 r_13.1) ≤ (0 : Int32) then (
some ((0 : Int32), r_13.2))
else (
some ((1 : Int32), r_13.2)))
else (
if (lg_cmp r_7.1 r_13.1) = (0 : Int32) then (
some ((1 : Int32), r_13.2))
else (
some ((0 : Int32), r_13.2)))))
else (
some ((0 : Int32), r_13.2))))
else (
(rc 0 p0 p1 S r_3.2 F).bind fun r_26 =>
p_let (v_up r_26.2 p0 22 ((r_26.2 p0 22) + (1 : Int32))) fun I_28 =>
(p_bl r_26.1).bind fun _ =>
some (r_26.1, I_28))
set_option maxHeartbeats 4000000 in
set_option maxRecDepth 100000 in
theorem t_X10_positiveOf {rc : Nat → Nat → Int32 → v_S → v_I → v_F → Option (Int32 × v_I)} {dd : Nat} (hK : 105 ≤ dd + 1) (hrc0 : ∀ {S : v_S} {I : v_I} {J : v_J} {F : v_F} {a : Nat} {b : Int32} {r : Int32 × v_I}, rc 0 a b S I F = some r → v_R l B D ac (v_EE B wa wb wt sb sL sx) yX10_testOf cX10_testOf 4 (some .boolean) dd 0 0 [.ref (B + a), .int b] S I J F (v_D (some (.int r.1)) S r.2 J F)) {p0 : Nat} {p1 : Int32} {r : Int32 × v_I} (h : f_X10_positiveOf rc S I F p0 p1 = some r) : v_R l B D ac (v_EE B wa wb wt sb sL sx) yX10_positiveOf cX10_positiveOf 7 (some .boolean) (dd + 1) 0 0 [.ref (B + p0), .int p1] S I J F (v_D (some (.int r.1)) S r.2 J F) := by
  refine v_R.of (by decide) (Nat.le_of_ble_eq_true rfl) fun d hd => ?_
  generalize hQ : v_D (some (.int r.1)) S r.2 J F = Q
  unfold f_X10_positiveOf at h
  refine v_sub [(0, .ref (B + p0)), (1, .int p1)] ⟨rfl, rfl, trivial⟩ ?_
  refine v_aload_n dX10_positiveOf_0 rfl ?_
  refine v_bipush (40 : Int32) dX10_positiveOf_1 (by decide) ?_
  replace h := p_bind_elim h
  obtain ⟨r_1, q_2, h⟩ := h
  refine v_cSr (t_X10_sign q_2) cal_X10_sign ml_X10_236 sta_X10_sign dX10_positiveOf_3 (by omega) (by decide) (by decide) (Nat.le_of_ble_eq_true rfl) rfl ?_
  replace h := p_bind_elim h
  obtain ⟨_, q_5, h⟩ := h
  have q_5 := p_ob_spec q_5
  replace h := p_bind_elim h
  obtain ⟨r_3, q_4, h⟩ := h
  refine v_cVr (t_X10_passes0 q_4) cal_X10_passes0 ml_X10_301 sel_X10_passes0 q_5 kk_10 dX10_positiveOf_6 (by omega) (by decide) (by decide) (Nat.le_of_ble_eq_true rfl) rfl ?_
  refine v_if_eq 30 dX10_positiveOf_9 (by decide) (fun c_6 => ?_) (fun c_6 => ?_)
  · rw [if_pos c_6] at h
    refine v_aload_n dX10_positiveOf_30 rfl ?_
    refine v_iload_n dX10_positiveOf_31 rfl ?_
    replace h := p_bind_elim h
    obtain ⟨r_7, q_8, h⟩ := h
    refine v_cVr (tg_X10_sumOf q_8) cal_X10_sumOf ml_X10_304 sel_X10_sumOf q_5 kk_10 dX10_positiveOf_32 (by omega) (by decide) (by decide) (Nat.le_of_ble_eq_true rfl) rfl ?_
    refine v_lstore_n dX10_positiveOf_35 (by decide) ?_
    refine v_sub [(0, .ref (B + p0)), (1, .int p1), (2, .long r_7.1)] ⟨rfl, rfl, rfl, trivial⟩ ?_
    refine v_aload_n dX10_positiveOf_36 rfl ?_
    refine v_aload_n dX10_positiveOf_37 rfl ?_
    refine v_getI rfl fl_X10_277 dX10_positiveOf_38 q_5 ?_
    replace h := p_bind_elim h
    obtain ⟨r_9, q_10, h⟩ := h
    refine v_cVr (t_X10_codeAt q_10) cal_X10_codeAt ml_X10_280 sel_X10_codeAt q_5 kk_10 dX10_positiveOf_41 (by omega) (by decide) (by decide) (Nat.le_of_ble_eq_true rfl) rfl ?_
    refine v_istore dX10_positiveOf_44 (by decide) ?_
    refine v_sub [(0, .ref (B + p0)), (1, .int p1), (2, .long r_7.1), (4, .int r_9)] ⟨rfl, rfl, rfl, rfl, trivial⟩ ?_
    refine v_aload_n dX10_positiveOf_46 rfl ?_
    refine v_dup dX10_positiveOf_47 rfl ?_
    refine v_getI rfl fl_X10_277 dX10_positiveOf_48 q_5 ?_
    refine v_iconstE (1 : Int32) dX10_positiveOf_51 (by decide) ?_
    refine v_iadd dX10_positiveOf_52 ?_
    refine v_putI rfl fl_X10_277 dX10_positiveOf_53 q_5 rfl rfl ?_
    replace h := p_let_elim h
    obtain ⟨I_11, h_12, h⟩ := h
    rw [← h_12]
    refine v_aload_n dX10_positiveOf_56 rfl ?_
    refine v_iload_n dX10_positiveOf_57 rfl ?_
    replace h := p_bind_elim h
    obtain ⟨r_13, q_14, h⟩ := h
    refine v_cVr (tg_X10_sumOf q_14) cal_X10_sumOf ml_X10_304 sel_X10_sumOf q_5 kk_10 dX10_positiveOf_58 (by omega) (by decide) (by decide) (Nat.le_of_ble_eq_true rfl) rfl ?_
    refine v_lstore dX10_positiveOf_61 (by decide) ?_
    refine v_sub [(0, .ref (B + p0)), (1, .int p1), (2, .long r_7.1), (4, .int r_9), (5, .long r_13.1)] ⟨rfl, rfl, rfl, rfl, rfl, trivial⟩ ?_
    refine v_iload_n dX10_positiveOf_63 rfl ?_
    refine v_if_eq 125 dX10_positiveOf_64 (by decide) (fun c_15 => ?_) (fun c_15 => ?_)
    · rw [if_pos c_15] at h
      refine v_iconstE (0 : Int32) dX10_positiveOf_125 (by decide) ?_
      cases h
      exact v_zret dX10_positiveOf_126 rfl rfl (by decide) (by decide) (by rw [← hQ]; exact ⟨rfl, rfl, rfl, rfl, rfl⟩)
    · rw [if_neg c_15] at h
      refine v_aload_n dX10_positiveOf_67 rfl ?_
      refine v_getI rfl fl_X10_287 dX10_positiveOf_68 q_5 ?_
      refine v_if_ne 125 dX10_positiveOf_71 (by decide) (fun c_16 => ?_) (fun c_16 => ?_)
      · rw [if_neg c_16] at h
        refine v_iconstE (0 : Int32) dX10_positiveOf_125 (by decide) ?_
        cases h
        exact v_zret dX10_positiveOf_126 rfl rfl (by decide) (by decide) (by rw [← hQ]; exact ⟨rfl, rfl, rfl, rfl, rfl⟩)
      · rw [if_pos c_16] at h
        refine v_iload dX10_positiveOf_74 rfl ?_
        refine v_bipush (60 : Int32) dX10_positiveOf_76 (by decide) ?_
        replace h := p_bind_elim h
        obtain ⟨r_17, q_18, h⟩ := h
        refine v_cSr (t_X10_sign q_18) cal_X10_sign ml_X10_236 sta_X10_sign dX10_positiveOf_78 (by omega) (by decide) (by decide) (Nat.le_of_ble_eq_true rfl) rfl ?_
        refine v_icmp_ne 94 dX10_positiveOf_81 (by decide) (fun c_19 => ?_) (fun c_19 => ?_)
        · rw [if_neg c_19] at h
          refine v_iload dX10_positiveOf_94 rfl ?_
          refine v_bipush (62 : Int32) dX10_positiveOf_96 (by decide) ?_
          replace h := p_bind_elim h
          obtain ⟨r_20, q_21, h⟩ := h
          refine v_cSr (t_X10_sign q_21) cal_X10_sign ml_X10_236 sta_X10_sign dX10_positiveOf_98 (by omega) (by decide) (by decide) (Nat.le_of_ble_eq_true rfl) rfl ?_
          refine v_icmp_ne 114 dX10_positiveOf_101 (by decide) (fun c_22 => ?_) (fun c_22 => ?_)
          · rw [if_neg c_22] at h
            refine v_lload_n dX10_positiveOf_114 rfl ?_
            refine v_lload dX10_positiveOf_115 rfl ?_
            refine v_lcmp dX10_positiveOf_117 ?_
            refine v_if_ne 125 dX10_positiveOf_118 (by decide) (fun c_23 => ?_) (fun c_23 => ?_)
            · rw [if_neg c_23] at h
              refine v_iconstE (0 : Int32) dX10_positiveOf_125 (by decide) ?_
              cases h
              exact v_zret dX10_positiveOf_126 rfl rfl (by decide) (by decide) (by rw [← hQ]; exact ⟨rfl, rfl, rfl, rfl, rfl⟩)
            · rw [if_pos c_23] at h
              refine v_iconstE (1 : Int32) dX10_positiveOf_121 (by decide) ?_
              refine v_goto 126 dX10_positiveOf_122 (by decide) ?_
              cases h
              exact v_zret dX10_positiveOf_126 rfl rfl (by decide) (by decide) (by rw [← hQ]; exact ⟨rfl, rfl, rfl, rfl, rfl⟩)
          · rw [if_pos c_22] at h
            refine v_lload_n dX10_positiveOf_104 rfl ?_
            refine v_lload dX10_positiveOf_105 rfl ?_
            refine v_lcmp dX10_positiveOf_107 ?_
            refine v_if_le 125 dX10_positiveOf_108 (by decide) (fun c_24 => ?_) (fun c_24 => ?_)
            · rw [if_pos c_24] at h
              refine v_iconstE (0 : Int32) dX10_positiveOf_125 (by decide) ?_
              cases h
              exact v_zret dX10_positiveOf_126 rfl rfl (by decide) (by decide) (by rw [← hQ]; exact ⟨rfl, rfl, rfl, rfl, rfl⟩)
            · rw [if_neg c_24] at h
              refine v_goto 121 dX10_positiveOf_111 (by decide) ?_
              refine v_iconstE (1 : Int32) dX10_positiveOf_121 (by decide) ?_
              refine v_goto 126 dX10_positiveOf_122 (by decide) ?_
              cases h
              exact v_zret dX10_positiveOf_126 rfl rfl (by decide) (by decide) (by rw [← hQ]; exact ⟨rfl, rfl, rfl, rfl, rfl⟩)
        · rw [if_pos c_19] at h
          refine v_lload_n dX10_positiveOf_84 rfl ?_
          refine v_lload dX10_positiveOf_85 rfl ?_
          refine v_lcmp dX10_positiveOf_87 ?_
          refine v_if_ge 125 dX10_positiveOf_88 (by decide) (fun c_25 => ?_) (fun c_25 => ?_)
          · rw [if_pos c_25] at h
            refine v_iconstE (0 : Int32) dX10_positiveOf_125 (by decide) ?_
            cases h
            exact v_zret dX10_positiveOf_126 rfl rfl (by decide) (by decide) (by rw [← hQ]; exact ⟨rfl, rfl, rfl, rfl, rfl⟩)
          · rw [if_neg c_25] at h
            refine v_goto 121 dX10_positiveOf_91 (by decide) ?_
            refine v_iconstE (1 : Int32) dX10_positiveOf_121 (by decide) ?_
            refine v_goto 126 dX10_positiveOf_122 (by decide) ?_
            cases h
            exact v_zret dX10_positiveOf_126 rfl rfl (by decide) (by decide) (by rw [← hQ]; exact ⟨rfl, rfl, rfl, rfl, rfl⟩)
  · rw [if_neg c_6] at h
    refine v_aload_n dX10_positiveOf_12 rfl ?_
    refine v_iload_n dX10_positiveOf_13 rfl ?_
    replace h := p_bind_elim h
    obtain ⟨r_26, q_27, h⟩ := h
    refine v_cVr (hrc0 q_27) cal_X10_testOf ml_X10_331 sel_X10_testOf q_5 kk_10 dX10_positiveOf_14 (by omega) (by decide) (by decide) (Nat.le_of_ble_eq_true rfl) rfl ?_
    refine v_istore_n dX10_positiveOf_17 (by decide) ?_
    refine v_sub [(0, .ref (B + p0)), (2, .int r_26.1)] ⟨rfl, rfl, trivial⟩ ?_
    refine v_aload_n dX10_positiveOf_18 rfl ?_
    refine v_dup dX10_positiveOf_19 rfl ?_
    refine v_getI rfl fl_X10_277 dX10_positiveOf_20 q_5 ?_
    refine v_iconstE (1 : Int32) dX10_positiveOf_23 (by decide) ?_
    refine v_iadd dX10_positiveOf_24 ?_
    refine v_putI rfl fl_X10_277 dX10_positiveOf_25 q_5 rfl rfl ?_
    replace h := p_let_elim h
    obtain ⟨I_28, h_29, h⟩ := h
    rw [← h_29]
    refine v_iload_n dX10_positiveOf_28 rfl ?_
    replace h := p_bind_elim h
    obtain ⟨_, q_30, h⟩ := h
    cases h
    exact v_zret dX10_positiveOf_29 rfl (p_bl_spec q_30).1 (by decide) (by decide) (by rw [← hQ]; exact ⟨rfl, rfl, rfl, rfl, rfl⟩)

def g_X10_testOf : Nat → Nat → Nat → Int32 → v_S → v_I → v_F → Option (Int32 × v_I)
  | 0, _, _, _, _, _, _ => none
  | n + 1, 0, a, b, S, I, F => f_X10_testOf (g_X10_testOf n) S I F a b
  | n + 1, 1, a, b, S, I, F => f_X10_bothOf (g_X10_testOf n) S I F a b
  | n + 1, 2, a, b, S, I, F => f_X10_plainOf (g_X10_testOf n) S I F a b
  | n + 1, _, a, b, S, I, F => f_X10_positiveOf (g_X10_testOf n) S I F a b
set_option maxHeartbeats 4000000 in
theorem tgr_X10_testOf : ∀ n : Nat, (∀ {S : v_S} {I : v_I} {J : v_J} {F : v_F} {a : Nat} {b : Int32} {r : Int32 × v_I}, g_X10_testOf n 0 a b S I F = some r → v_R l B D ac (v_EE B wa wb wt sb sL sx) yX10_testOf cX10_testOf 4 (some .boolean) (105 + n) 0 0 [.ref (B + a), .int b] S I J F (v_D (some (.int r.1)) S r.2 J F)) ∧ (∀ {S : v_S} {I : v_I} {J : v_J} {F : v_F} {a : Nat} {b : Int32} {r : Int32 × v_I}, g_X10_testOf n 1 a b S I F = some r → v_R l B D ac (v_EE B wa wb wt sb sL sx) yX10_bothOf cX10_bothOf 4 (some .boolean) (105 + n) 0 0 [.ref (B + a), .int b] S I J F (v_D (some (.int r.1)) S r.2 J F)) ∧ (∀ {S : v_S} {I : v_I} {J : v_J} {F : v_F} {a : Nat} {b : Int32} {r : Int32 × v_I}, g_X10_testOf n 2 a b S I F = some r → v_R l B D ac (v_EE B wa wb wt sb sL sx) yX10_plainOf cX10_plainOf 3 (some .boolean) (105 + n) 0 0 [.ref (B + a), .int b] S I J F (v_D (some (.int r.1)) S r.2 J F)) ∧ (∀ {S : v_S} {I : v_I} {J : v_J} {F : v_F} {a : Nat} {b : Int32} {r : Int32 × v_I}, g_X10_testOf n 3 a b S I F = some r → v_R l B D ac (v_EE B wa wb wt sb sL sx) yX10_positiveOf cX10_positiveOf 7 (some .boolean) (105 + n) 0 0 [.ref (B + a), .int b] S I J F (v_D (some (.int r.1)) S r.2 J F))
  | 0 => ⟨(fun h => by cases h), (fun h => by cases h), (fun h => by cases h), (fun h => by cases h)⟩
  | n + 1 => by
    have ih := @tgr_X10_testOf n
    obtain ⟨i0, i1, i2, i3⟩ := ih
    exact ⟨(fun h => t_X10_testOf (dd := 105 + n) (by omega) i1 h), (fun h => t_X10_bothOf (dd := 105 + n) (by omega) i2 h), (fun h => t_X10_plainOf (dd := 105 + n) (by omega) i3 h), (fun h => t_X10_positiveOf (dd := 105 + n) (by omega) i0 h)⟩
theorem tg_X10_testOf {a : Nat} {b : Int32} {r : Int32 × v_I} (h : g_X10_testOf GNN 0 a b S I F = some r) : v_R l B D ac (v_EE B wa wb wt sb sL sx) yX10_testOf cX10_testOf 4 (some .boolean) 205 0 0 [.ref (B + a), .int b] S I J F (v_D (some (.int r.1)) S r.2 J F) := v_R.mono ((tgr_X10_testOf GNN).1 h) (by rw [GN_eq]; omega)
theorem tg_X10_bothOf {a : Nat} {b : Int32} {r : Int32 × v_I} (h : g_X10_testOf GNN 1 a b S I F = some r) : v_R l B D ac (v_EE B wa wb wt sb sL sx) yX10_bothOf cX10_bothOf 4 (some .boolean) 205 0 0 [.ref (B + a), .int b] S I J F (v_D (some (.int r.1)) S r.2 J F) := v_R.mono ((tgr_X10_testOf GNN).2.1 h) (by rw [GN_eq]; omega)
theorem tg_X10_plainOf {a : Nat} {b : Int32} {r : Int32 × v_I} (h : g_X10_testOf GNN 2 a b S I F = some r) : v_R l B D ac (v_EE B wa wb wt sb sL sx) yX10_plainOf cX10_plainOf 3 (some .boolean) 205 0 0 [.ref (B + a), .int b] S I J F (v_D (some (.int r.1)) S r.2 J F) := v_R.mono ((tgr_X10_testOf GNN).2.2.1 h) (by rw [GN_eq]; omega)
theorem tg_X10_positiveOf {a : Nat} {b : Int32} {r : Int32 × v_I} (h : g_X10_testOf GNN 3 a b S I F = some r) : v_R l B D ac (v_EE B wa wb wt sb sL sx) yX10_positiveOf cX10_positiveOf 7 (some .boolean) 205 0 0 [.ref (B + a), .int b] S I J F (v_D (some (.int r.1)) S r.2 J F) := v_R.mono ((tgr_X10_testOf GNN).2.2.2 h) (by rw [GN_eq]; omega)

end g00
