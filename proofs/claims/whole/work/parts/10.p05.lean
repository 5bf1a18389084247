noncomputable section p05
variable {l : Launch} {B : Nat} {D : va_G} {ac : Nat → ClassId} {wa wb wt sb sL : Nat} {sx : Nat → Int32} {S : v_S} {I : v_I} {J : v_J} {F : v_F}
def f_X10_nextInChain_J2_28 (S : v_S) (I : v_I) (F : v_F) (w0 : Nat) (w1 : Int32) (y2 : Int32) : Option ((Int32) ⊕ (Int32)) :=
p_let (y2 + (1 : Int32)) fun x_5 =>
some (.inl x_5)
def f_X10_nextInChain_B2 (S : v_S) (I : v_I) (F : v_F) (w0 : Nat) (w1 : Int32) (s2 : Int32) : Option ((Int32) ⊕ (Int32)) :=
(p_ob S 10 w0).bind fun _ =>
(f_X10_watches S I F w0 s2 w1).bind fun r_1 =>
if r_1 = (0 : Int32) then (
f_X10_nextInChain_J2_28 S I F w0 w1 s2)
else (
(F w0 34).bind fun a_7 =>
(p_ix S 20 a_7 s2).bind fun j_9 =>
(F w0 34).bind fun a_11 =>
(p_ix S 20 a_11 w1).bind fun j_13 =>
if (I a_7 j_9) = ((I a_11 j_13) - (1 : Int32)) then (
some (.inr s2))
else (
f_X10_nextInChain_J2_28 S I F w0 w1 s2))
def f_X10_nextInChain (S : v_S) (I : v_I) (F : v_F) (p0 : Nat) (p1 : Int32) : Option (Int32) :=
(v_loop (f_X10_nextInChain_B2 S I F p0 p1) FU (0 : Int32)).bind fun q_16 =>
some (q_16)
set_option maxHeartbeats 4000000 in
set_option maxRecDepth 100000 in
theorem t_X10_nextInChain {p0 : Nat} {p1 : Int32} {r : Int32} (h : f_X10_nextInChain S I F p0 p1 = some r) : v_R l B D ac (v_EE B wa wb wt sb sL sx) yX10_nextInChain cX10_nextInChain 3 (some .int) 3 0 0 [.ref (B + p0), .int p1] S I J F (v_D (some (.int r)) S I J F) := by
  refine v_R.of (by decide) (Nat.le_of_ble_eq_true rfl) fun d hd => ?_
  generalize hQ : v_D (some (.int r)) S I J F = Q
  have b2 : ∀ (w0 : Nat) (w1 : Int32) (s2 : Int32) (rx2 : (Int32) ⊕ (Int32)), f_X10_nextInChain_B2 S I F w0 w1 s2 = some rx2 → v_K (fun (sP : Int32) => V l B D ac (v_EE B wa wb wt sb sL sx) yX10_nextInChain cX10_nextInChain 3 (some .int) d 0 0 0 0 S I J F 2 [(0, .ref (B + w0)), (1, .int w1), (2, .int sP)] [] Q) (fun (rE : Int32) => V l B D ac (v_EE B wa wb wt sb sL sx) yX10_nextInChain cX10_nextInChain 3 (some .int) d 0 0 0 0 S I J F 34 [(2, .int rE)] [] Q) rx2 → V l B D ac (v_EE B wa wb wt sb sL sx) yX10_nextInChain cX10_nextInChain 3 (some .int) d 0 0 0 0 S I J F 2 [(0, .ref (B + w0)), (1, .int w1), (2, .int s2)] [] Q := by
    intro w0 w1 s2 rx2 h hk
    have j28 : ∀ (y2 : Int32), f_X10_nextInChain_J2_28 S I F w0 w1 y2 = some rx2 → V l B D ac (v_EE B wa wb wt sb sL sx) yX10_nextInChain cX10_nextInChain 3 (some .int) d 0 0 0 0 S I J F 28 [(0, .ref (B + w0)), (1, .int w1), (2, .int y2)] [] Q := by
      intro y2 h
      unfold f_X10_nextInChain_J2_28 at h
      replace h := p_let_elim h
      obtain ⟨x_5, h_6, h⟩ := h
      refine v_iincE (1 : Int32) dX10_nextInChain_28 (by decide) rfl (by decide) ?_
      rw [← h_6]
      refine v_sub [(0, .ref (B + w0)), (1, .int w1), (2, .int x_5)] ⟨rfl, rfl, rfl, trivial⟩ ?_
      refine v_goto 2 dX10_nextInChain_31 (by decide) ?_
      cases h
      refine v_sub [(0, .ref (B + w0)), (1, .int w1), (2, .int x_5)] ⟨rfl, rfl, rfl, trivial⟩ ?_
      exact hk
    unfold f_X10_nextInChain_B2 at h
    refine v_aload_n dX10_nextInChain_2 rfl ?_
    refine v_iload_n dX10_nextInChain_3 rfl ?_
    refine v_iload_n dX10_nextInChain_4 rfl ?_
    replace h := p_bind_elim h
    obtain ⟨_, q_3, h⟩ := h
    have q_3 := p_ob_spec q_3
    replace h := p_bind_elim h
    obtain ⟨r_1, q_2, h⟩ := h
    refine v_cVr (t_X10_watches q_2) cal_X10_watches ml_X10_413 sel_X10_watches q_3 kk_10 dX10_nextInChain_5 (by omega) (by decide) (by decide) (Nat.le_of_ble_eq_true rfl) rfl ?_
    refine v_if_eq 28 dX10_nextInChain_8 (by decide) (fun c_4 => ?_) (fun c_4 => ?_)
    · rw [if_pos c_4] at h
      refine v_sub [(0, .ref (B + w0)), (1, .int w1), (2, .int s2)] ⟨rfl, rfl, rfl, trivial⟩ ?_
      exact j28 _ h
    · rw [if_neg c_4] at h
      refine v_aload_n dX10_nextInChain_11 rfl ?_
      replace h := p_bind_elim h
      obtain ⟨a_7, q_8, h⟩ := h
      refine v_getR q_8 rfl fl_X10_78 dX10_nextInChain_12 q_3 ?_
      refine v_iload_n dX10_nextInChain_15 rfl ?_
      replace h := p_bind_elim h
      obtain ⟨j_9, q_10, h⟩ := h
      refine v_ialdP dX10_nextInChain_16 q_10 ?_
      refine v_aload_n dX10_nextInChain_17 rfl ?_
      replace h := p_bind_elim h
      obtain ⟨a_11, q_12, h⟩ := h
      refine v_getR q_12 rfl fl_X10_78 dX10_nextInChain_18 q_3 ?_
      refine v_iload_n dX10_nextInChain_21 rfl ?_
      replace h := p_bind_elim h
      obtain ⟨j_13, q_14, h⟩ := h
      refine v_ialdP dX10_nextInChain_22 q_14 ?_
      refine v_iconstE (1 : Int32) dX10_nextInChain_23 (by decide) ?_
      refine v_isub dX10_nextInChain_24 ?_
      refine v_icmp_eq 34 dX10_nextInChain_25 (by decide) (fun c_15 => ?_) (fun c_15 => ?_)
      · rw [if_pos c_15] at h
        cases h
        refine v_sub [(2, .int s2)] ⟨rfl, trivial⟩ ?_
        exact hk
      · rw [if_neg c_15] at h
        refine v_sub [(0, .ref (B + w0)), (1, .int w1), (2, .int s2)] ⟨rfl, rfl, rfl, trivial⟩ ?_
        exact j28 _ h
  unfold f_X10_nextInChain at h
  refine v_sub [(0, .ref (B + p0)), (1, .int p1)] ⟨rfl, rfl, trivial⟩ ?_
  refine v_iconstE (0 : Int32) dX10_nextInChain_0 (by decide) ?_
  refine v_istore_n dX10_nextInChain_1 (by decide) ?_
  refine v_sub [(0, .ref (B + p0)), (1, .int p1), (2, .int (0 : Int32))] ⟨rfl, rfl, rfl, trivial⟩ ?_
  replace h := p_bind_elim h
  obtain ⟨q_16, h_17, h⟩ := h
  refine v_sub [(0, .ref (B + p0)), (1, .int p1), (2, .int (0 : Int32))] ⟨rfl, rfl, rfl, trivial⟩ ?_
  refine v_loopV (fun (sP : Int32) => V l B D ac (v_EE B wa wb wt sb sL sx) yX10_nextInChain cX10_nextInChain 3 (some .int) d 0 0 0 0 S I J F 2 [(0, .ref (B + p0)), (1, .int p1), (2, .int sP)] [] Q) (fun (rE : Int32) => V l B D ac (v_EE B wa wb wt sb sL sx) yX10_nextInChain cX10_nextInChain 3 (some .int) d 0 0 0 0 S I J F 34 [(2, .int rE)] [] Q) (fun s_ x_ hb hk => b2 _ _ s_ x_ hb hk) (r := q_16) ?_ h_17
  try dsimp only
  refine v_iload_n dX10_nextInChain_34 rfl ?_
  cases h
  exact v_iret dX10_nextInChain_35 rfl (by decide) (by decide) (by rw [← hQ]; exact ⟨rfl, rfl, rfl, rfl, rfl⟩)

def f_X10_chain_J44 (S : v_S) (F : v_F) (I : v_I) (y0 : Nat) (y1 : Int32) : Option (Int32 × v_I) :=
(p_ob S 10 y0).bind fun _ =>
(F y0 34).bind fun a_17 =>
(p_ix S 20 a_17 y1).bind fun j_19 =>
if (I a_17 j_19) < (1000000 : Int32) then (
(F y0 34).bind fun a_22 =>
(p_ix S 20 a_22 y1).bind fun j_24 =>
some (I a_22 j_24, I))
else (
some ((-1 : Int32), I))
def f_X10_chain_B72 (S : v_S) (F : v_F) (I : v_I) (w0 : Nat) (w2 : Int32) (w3 : Int32) (s72 : Int32 × Int32) : Option ((Int32 × Int32) ⊕ (Nat × (Int32 × Int32))) :=
if w3 < s72.2 then (
some (.inr (1, (s72.1, s72.2))))
else (
if s72.1 = w2 then (
some (.inr (0, (s72.1, s72.2))))
else (
(p_ob S 10 w0).bind fun _ =>
(f_X10_nextInChain S I F w0 s72.1).bind fun r_29 =>
p_let (s72.2 + (1 : Int32)) fun x_32 =>
some (.inl (r_29, x_32))))
def f_X10_chain (S : v_S) (I : v_I) (F : v_F) (p0 : Nat) (p1 : Int32) (p2 : Int32) (p3 : Int32) : Option (Int32 × v_I) :=
(p_ob S 10 p0).bind fun _ =>
(f_X10_isOne S I F p0 p1).bind fun r_1 =>
if r_1 = (0 : Int32) then (
some ((-1 : Int32), I))
else (
(f_X10_isOne S I F p0 p2).bind fun r_5 =>
if r_5 = (0 : Int32) then (
some ((-1 : Int32), I))
else (
if (-1 : Int32) ≤ p3 then (
(f_X10_laysLeft S I F p0 p2).bind fun r_9 =>
(F p0 34).bind fun a_11 =>
(p_ix S 20 a_11 p1).bind fun j_13 =>
if (1000000 : Int32) ≤ (r_9 a_11 j_13) then (
f_X10_chain_J44 S F r_9 p0 p1)
else (
if p3 = (-1 : Int32) then (
f_X10_chain_J44 S F r_9 p0 p1)
else (
(v_loop (f_X10_chain_B72 S F r_9 p0 p2 p3) FU (p1, (0 : Int32))).bind fun q_34 =>
if q_34.1 = 0 then (
some ((-1 : Int32), r_9))
else (
some (q_34.2.1, r_9)))))
else (
some ((-1 : Int32), I))))
set_option maxHeartbeats 4000000 in
set_option maxRecDepth 100000 in
theorem t_X10_chain {p0 : Nat} {p1 : Int32} {p2 : Int32} {p3 : Int32} {r : Int32 × v_I} (h : f_X10_chain S I F p0 p1 p2 p3 = some r) : v_R l B D ac (v_EE B wa wb wt sb sL sx) yX10_chain cX10_chain 6 (some .int) 4 0 0 [.ref (B + p0), .int p1, .int p2, .int p3] S I J F (v_D (some (.int r.1)) S r.2 J F) := by
  refine v_R.of (by decide) (Nat.le_of_ble_eq_true rfl) fun d hd => ?_
  generalize hQ : v_D (some (.int r.1)) S r.2 J F = Q
  have j44 : ∀ (I : v_I) (y0 : Nat) (y1 : Int32), f_X10_chain_J44 S F I y0 y1 = some r → V l B D ac (v_EE B wa wb wt sb sL sx) yX10_chain cX10_chain 6 (some .int) d 0 0 0 0 S I J F 44 [(0, .ref (B + y0)), (1, .int y1)] [] Q := by
    intro I y0 y1 h
    unfold f_X10_chain_J44 at h
    refine v_aload_n dX10_chain_44 rfl ?_
    replace h := p_bind_elim h
    obtain ⟨_, q_16, h⟩ := h
    have q_16 := p_ob_spec q_16
    replace h := p_bind_elim h
    obtain ⟨a_17, q_18, h⟩ := h
    refine v_getR q_18 rfl fl_X10_78 dX10_chain_45 q_16 ?_
    refine v_iload_n dX10_chain_48 rfl ?_
    replace h := p_bind_elim h
    obtain ⟨j_19, q_20, h⟩ := h
    refine v_ialdP dX10_chain_49 q_20 ?_
    refine v_ldc (1000000 : Int32) dX10_chain_50 kn_X10_186 ?_
    refine v_icmp_lt 59 dX10_chain_52 (by decide) (fun c_21 => ?_) (fun c_21 => ?_)
    · rw [if_pos c_21] at h
      refine v_aload_n dX10_chain_59 rfl ?_
      replace h := p_bind_elim h
      obtain ⟨a_22, q_23, h⟩ := h
      refine v_getR q_23 rfl fl_X10_78 dX10_chain_60 q_16 ?_
      refine v_iload_n dX10_chain_63 rfl ?_
      replace h := p_bind_elim h
      obtain ⟨j_24, q_25, h⟩ := h
      refine v_ialdP dX10_chain_64 q_25 ?_
      cases h
      exact v_iret dX10_chain_65 rfl (by decide) (by decide) (by rw [← hQ]; exact ⟨rfl, rfl, rfl, rfl, rfl⟩)
    · rw [if_neg c_21] at h
      refine v_iconstE (-1 : Int32) dX10_chain_55 (by decide) ?_
      refine v_goto 65 dX10_chain_56 (by decide) ?_
      cases h
      exact v_iret dX10_chain_65 rfl (by decide) (by decide) (by rw [← hQ]; exact ⟨rfl, rfl, rfl, rfl, rfl⟩)
  have b72 : ∀ (I : v_I) (w0 : Nat) (w2 : Int32) (w3 : Int32) (s72 : Int32 × Int32) (rx72 : (Int32 × Int32) ⊕ (Nat × (Int32 × Int32))), f_X10_chain_B72 S F I w0 w2 w3 s72 = some rx72 → v_K (fun (sP : Int32 × Int32) => V l B D ac (v_EE B wa wb wt sb sL sx) yX10_chain cX10_chain 6 (some .int) d 0 0 0 0 S I J F 72 [(0, .ref (B + w0)), (2, .int w2), (3, .int w3), (4, .int sP.1), (5, .int sP.2)] [] Q) (fun (rE : Nat × (Int32 × Int32)) => (rE.1 = 0 → V l B D ac (v_EE B wa wb wt sb sL sx) yX10_chain cX10_chain 6 (some .int) d 0 0 0 0 S I J F 84 [] [] Q) ∧ (¬ rE.1 = 0 → V l B D ac (v_EE B wa wb wt sb sL sx) yX10_chain cX10_chain 6 (some .int) d 0 0 0 0 S I J F 100 [(4, .int rE.2.1)] [] Q)) rx72 → V l B D ac (v_EE B wa wb wt sb sL sx) yX10_chain cX10_chain 6 (some .int) d 0 0 0 0 S I J F 72 [(0, .ref (B + w0)), (2, .int w2), (3, .int w3), (4, .int s72.1), (5, .int s72.2)] [] Q := by
    intro I w0 w2 w3 s72 rx72 h hk
    unfold f_X10_chain_B72 at h
    refine v_iload dX10_chain_72 rfl ?_
    refine v_iload_n dX10_chain_74 rfl ?_
    refine v_icmp_gt 100 dX10_chain_75 (by decide) (fun c_27 => ?_) (fun c_27 => ?_)
    · rw [if_pos c_27] at h
      cases h
      refine v_sub [(4, .int s72.1)] ⟨rfl, trivial⟩ ?_
      exact (hk.2 (Nat.succ_ne_zero _))
    · rw [if_neg c_27] at h
      refine v_iload dX10_chain_78 rfl ?_
      refine v_iload_n dX10_chain_80 rfl ?_
      refine v_icmp_ne 86 dX10_chain_81 (by decide) (fun c_28 => ?_) (fun c_28 => ?_)
      · rw [if_neg c_28] at h
        refine v_aload_n dX10_chain_86 rfl ?_
        refine v_iload dX10_chain_87 rfl ?_
        replace h := p_bind_elim h
        obtain ⟨_, q_31, h⟩ := h
        have q_31 := p_ob_spec q_31
        replace h := p_bind_elim h
        obtain ⟨r_29, q_30, h⟩ := h
        refine v_cVr (t_X10_nextInChain q_30) cal_X10_nextInChain ml_X10_419 sel_X10_nextInChain q_31 kk_10 dX10_chain_89 (by omega) (by decide) (by decide) (Nat.le_of_ble_eq_true rfl) rfl ?_
        refine v_istore dX10_chain_92 (by decide) ?_
        refine v_sub [(0, .ref (B + w0)), (2, .int w2), (3, .int w3), (4, .int r_29), (5, .int s72.2)] ⟨rfl, rfl, rfl, rfl, rfl, trivial⟩ ?_
        replace h := p_let_elim h
        obtain ⟨x_32, h_33, h⟩ := h
        refine v_iincE (1 : Int32) dX10_chain_94 (by decide) rfl (by decide) ?_
        rw [← h_33]
        refine v_sub [(0, .ref (B + w0)), (2, .int w2), (3, .int w3), (4, .int r_29), (5, .int x_32)] ⟨rfl, rfl, rfl, rfl, rfl, trivial⟩ ?_
        refine v_goto 72 dX10_chain_97 (by decide) ?_
        cases h
        refine v_sub [(0, .ref (B + w0)), (2, .int w2), (3, .int w3), (4, .int r_29), (5, .int x_32)] ⟨rfl, rfl, rfl, rfl, rfl, trivial⟩ ?_
        exact hk
      · rw [if_pos c_28] at h
        cases h
        refine v_sub [] trivial ?_
        exact hk.1 rfl
  unfold f_X10_chain at h
  refine v_sub [(0, .ref (B + p0)), (1, .int p1), (2, .int p2), (3, .int p3)] ⟨rfl, rfl, rfl, rfl, trivial⟩ ?_
  refine v_aload_n dX10_chain_0 rfl ?_
  refine v_iload_n dX10_chain_1 rfl ?_
  replace h := p_bind_elim h
  obtain ⟨_, q_3, h⟩ := h
  have q_3 := p_ob_spec q_3
  replace h := p_bind_elim h
  obtain ⟨r_1, q_2, h⟩ := h
  refine v_cVr (t_X10_isOne q_2) cal_X10_isOne ml_X10_128 sel_X10_isOne q_3 kk_10 dX10_chain_2 (by omega) (by decide) (by decide) (Nat.le_of_ble_eq_true rfl) rfl ?_
  refine v_if_eq 21 dX10_chain_5 (by decide) (fun c_4 => ?_) (fun c_4 => ?_)
  · rw [if_pos c_4] at h
    refine v_iconstE (-1 : Int32) dX10_chain_21 (by decide) ?_
    cases h
    exact v_iret dX10_chain_22 rfl (by decide) (by decide) (by rw [← hQ]; exact ⟨rfl, rfl, rfl, rfl, rfl⟩)
  · rw [if_neg c_4] at h
    refine v_aload_n dX10_chain_8 rfl ?_
    refine v_iload_n dX10_chain_9 rfl ?_
    replace h := p_bind_elim h
    obtain ⟨r_5, q_6, h⟩ := h
    refine v_cVr (t_X10_isOne q_6) cal_X10_isOne ml_X10_128 sel_X10_isOne q_3 kk_10 dX10_chain_10 (by omega) (by decide) (by decide) (Nat.le_of_ble_eq_true rfl) rfl ?_
    refine v_if_eq 21 dX10_chain_13 (by decide) (fun c_7 => ?_) (fun c_7 => ?_)
    · rw [if_pos c_7] at h
      refine v_iconstE (-1 : Int32) dX10_chain_21 (by decide) ?_
      cases h
      exact v_iret dX10_chain_22 rfl (by decide) (by decide) (by rw [← hQ]; exact ⟨rfl, rfl, rfl, rfl, rfl⟩)
    · rw [if_neg c_7] at h
      refine v_iload_n dX10_chain_16 rfl ?_
      refine v_iconstE (-1 : Int32) dX10_chain_17 (by decide) ?_
      refine v_icmp_ge 23 dX10_chain_18 (by decide) (fun c_8 => ?_) (fun c_8 => ?_)
      · rw [if_pos c_8] at h
        refine v_aload_n dX10_chain_23 rfl ?_
        refine v_iload_n dX10_chain_24 rfl ?_
        replace h := p_bind_elim h
        obtain ⟨r_9, q_10, h⟩ := h
        refine v_cVn (t_X10_laysLeft q_10) cal_X10_laysLeft ml_X10_416 sel_X10_laysLeft q_3 kk_10 dX10_chain_25 (by omega) (by decide) (by decide) (Nat.le_of_ble_eq_true rfl) rfl ?_
        refine v_aload_n dX10_chain_28 rfl ?_
        replace h := p_bind_elim h
        obtain ⟨a_11, q_12, h⟩ := h
        refine v_getR q_12 rfl fl_X10_78 dX10_chain_29 q_3 ?_
        refine v_iload_n dX10_chain_32 rfl ?_
        replace h := p_bind_elim h
        obtain ⟨j_13, q_14, h⟩ := h
        refine v_ialdP dX10_chain_33 q_14 ?_
        refine v_ldc (1000000 : Int32) dX10_chain_34 kn_X10_186 ?_
        refine v_icmp_ge 44 dX10_chain_36 (by decide) (fun c_15 => ?_) (fun c_15 => ?_)
        · rw [if_pos c_15] at h
          refine v_sub [(0, .ref (B + p0)), (1, .int p1)] ⟨rfl, rfl, trivial⟩ ?_
          exact j44 _ _ _ h
        · rw [if_neg c_15] at h
          refine v_iload_n dX10_chain_39 rfl ?_
          refine v_iconstE (-1 : Int32) dX10_chain_40 (by decide) ?_
          refine v_icmp_ne 66 dX10_chain_41 (by decide) (fun c_26 => ?_) (fun c_26 => ?_)
          · rw [if_neg c_26] at h
            refine v_iload_n dX10_chain_66 rfl ?_
            refine v_istore dX10_chain_67 (by decide) ?_
            refine v_sub [(0, .ref (B + p0)), (2, .int p2), (3, .int p3), (4, .int p1)] ⟨rfl, rfl, rfl, rfl, trivial⟩ ?_
            refine v_iconstE (0 : Int32) dX10_chain_69 (by decide) ?_
            refine v_istore dX10_chain_70 (by decide) ?_
            refine v_sub [(0, .ref (B + p0)), (2, .int p2), (3, .int p3), (4, .int p1), (5, .int (0 : Int32))] ⟨rfl, rfl, rfl, rfl, rfl, trivial⟩ ?_
            replace h := p_bind_elim h
            obtain ⟨q_34, h_35, h⟩ := h
            refine v_sub [(0, .ref (B + p0)), (2, .int p2), (3, .int p3), (4, .int p1), (5, .int (0 : Int32))] ⟨rfl, rfl, rfl, rfl, rfl, trivial⟩ ?_
            refine v_loopV (fun (sP : Int32 × Int32) => V l B D ac (v_EE B wa wb wt sb sL sx) yX10_chain cX10_chain 6 (some .int) d 0 0 0 0 S r_9 J F 72 [(0, .ref (B + p0)), (2, .int p2), (3, .int p3), (4, .int sP.1), (5, .int sP.2)] [] Q) (fun (rE : Nat × (Int32 × Int32)) => (rE.1 = 0 → V l B D ac (v_EE B wa wb wt sb sL sx) yX10_chain cX10_chain 6 (some .int) d 0 0 0 0 S r_9 J F 84 [] [] Q) ∧ (¬ rE.1 = 0 → V l B D ac (v_EE B wa wb wt sb sL sx) yX10_chain cX10_chain 6 (some .int) d 0 0 0 0 S r_9 J F 100 [(4, .int rE.2.1)] [] Q)) (fun s_ x_ hb hk => b72 _ _ _ _ s_ x_ hb hk) (r := q_34) ?_ h_35
            try dsimp only
            refine ⟨fun c_36 => ?_, fun c_36 => ?_⟩
            · rw [if_pos c_36] at h
              refine v_iconstE (-1 : Int32) dX10_chain_84 (by decide) ?_
              cases h
              exact v_iret dX10_chain_85 rfl (by decide) (by decide) (by rw [← hQ]; exact ⟨rfl, rfl, rfl, rfl, rfl⟩)
            · rw [if_neg c_36] at h
              refine v_iload dX10_chain_100 rfl ?_
              cases h
              exact v_iret dX10_chain_102 rfl (by decide) (by decide) (by rw [← hQ]; exact ⟨rfl, rfl, rfl, rfl, rfl⟩)
          · rw [if_pos c_26] at h
            refine v_sub [(0, .ref (B + p0)), (1, .int p1)] ⟨rfl, rfl, trivial⟩ ?_
            exact j44 _ _ _ h
      · rw [if_neg c_8] at h
        refine v_iconstE (-1 : Int32) dX10_chain_21 (by decide) ?_
        cases h
        exact v_iret dX10_chain_22 rfl (by decide) (by decide) (by rw [← hQ]; exact ⟨rfl, rfl, rfl, rfl, rfl⟩)

def f_X10_isLowest (S : v_S) (I : v_I) (F : v_F) (p0 : Nat) (p1 : Int32) : Option (Int32) :=
(p_ob S 10 p0).bind fun _ =>
(F p0 36).bind fun a_2 =>
(p_ix S 20 a_2 p1).bind fun j_4 =>
if ((I a_2 j_4) &&& (((1 : Int32) <<< (p1 &&& 31)) - (1 : Int32))) = (0 : Int32) then (
some ((1 : Int32)))
else (
some ((0 : Int32)))
set_option maxHeartbeats 4000000 in
set_option maxRecDepth 100000 in
theorem t_X10_isLowest {p0 : Nat} {p1 : Int32} {r : Int32} (h : f_X10_isLowest S I F p0 p1 = some r) : v_R l B D ac (v_EE B wa wb wt sb sL sx) yX10_isLowest cX10_isLowest 2 (some .boolean) 1 0 0 [.ref (B + p0), .int p1] S I J F (v_D (some (.int r)) S I J F) := by
  refine v_R.of (by decide) (Nat.le_of_ble_eq_true rfl) fun d hd => ?_
  generalize hQ : v_D (some (.int r)) S I J F = Q
  unfold f_X10_isLowest at h
  refine v_sub [(0, .ref (B + p0)), (1, .int p1)] ⟨rfl, rfl, trivial⟩ ?_
  refine v_aload_n dX10_isLowest_0 rfl ?_
  replace h := p_bind_elim h
  obtain ⟨_, q_1, h⟩ := h
  have q_1 := p_ob_spec q_1
  replace h := p_bind_elim h
  obtain ⟨a_2, q_3, h⟩ := h
  refine v_getR q_3 rfl fl_X10_84 dX10_isLowest_1 q_1 ?_
  refine v_iload_n dX10_isLowest_4 rfl ?_
  replace h := p_bind_elim h
  obtain ⟨j_4, q_5, h⟩ := h
  refine v_ialdP dX10_isLowest_5 q_5 ?_
  refine v_iconstE (1 : Int32) dX10_isLowest_6 (by decide) ?_
  refine v_iload_n dX10_isLowest_7 rfl ?_
  refine v_ishl dX10_isLowest_8 ?_
  refine v_iconstE (1 : Int32) dX10_isLowest_9 (by decide) ?_
  refine v_isub dX10_isLowest_10 ?_
  refine v_iand dX10_isLowest_11 ?_
  refine v_if_ne 19 dX10_isLowest_12 (by decide) (fun c_6 => ?_) (fun c_6 => ?_)
  · rw [if_neg c_6] at h
    refine v_iconstE (0 : Int32) dX10_isLowest_19 (by decide) ?_
    cases h
    exact v_zret dX10_isLowest_20 rfl rfl (by decide) (by decide) (by rw [← hQ]; exact ⟨rfl, rfl, rfl, rfl, rfl⟩)
  · rw [if_pos c_6] at h
    refine v_iconstE (1 : Int32) dX10_isLowest_15 (by decide) ?_
    refine v_goto 20 dX10_isLowest_16 (by decide) ?_
    cases h
    exact v_zret dX10_isLowest_20 rfl rfl (by decide) (by decide) (by rw [← hQ]; exact ⟨rfl, rfl, rfl, rfl, rfl⟩)

def f_X10_reached_J16_49 (S : v_S) (I : v_I) (F : v_F) (w0 : Nat) (w3 : Int32) (y4 : Int32) (z0 : Int32) (z1 : Int32) : Option ((Int32 × Int32) ⊕ (Int32 × Int32)) :=
p_let (z1 ||| z0) fun x_13 =>
p_let (y4 + (1 : Int32)) fun x_15 =>
some (.inl (x_13, x_15))
def f_X10_reached_B16 (S : v_S) (I : v_I) (F : v_F) (w0 : Nat) (w3 : Int32) (s16 : Int32 × Int32) : Option ((Int32 × Int32) ⊕ (Int32 × Int32)) :=
(p_ob S 10 w0).bind fun _ =>
(f_X10_many S I F w0).bind fun r_4 =>
if r_4 ≤ s16.2 then (
some (.inr (s16.1, s16.2)))
else (
(F w0 2).bind fun a_8 =>
(p_ix S 20 a_8 ((26 : Int32) + s16.2)).bind fun j_10 =>
if ((I a_8 j_10) &&& w3) = (0 : Int32) then (
f_X10_reached_J16_49 S I F w0 w3 s16.2 (0 : Int32) s16.1)
else (
f_X10_reached_J16_49 S I F w0 w3 s16.2 ((1 : Int32) <<< (s16.2 &&& 31)) s16.1))
def f_X10_reached_B6 (S : v_S) (I : v_I) (F : v_F) (w0 : Nat) (s6 : Int32 × Int32) : Option ((Int32 × Int32) ⊕ (Int32 × Int32)) :=
if s6.1 = s6.2 then (
some (.inr (s6.1, s6.2)))
else (
(v_loop (f_X10_reached_B16 S I F w0 s6.1) FU (s6.1, (0 : Int32))).bind fun q_17 =>
some (.inl (q_17.1, s6.1)))
def f_X10_reached (S : v_S) (I : v_I) (F : v_F) (p0 : Nat) (p1 : Int32) : Option (Int32) :=
p_let ((1 : Int32) <<< (p1 &&& 31)) fun x_1 =>
(v_loop (f_X10_reached_B6 S I F p0) FU (x_1, (-1 : Int32))).bind fun q_19 =>
some (q_19.1)
set_option maxHeartbeats 4000000 in
set_option maxRecDepth 100000 in
theorem t_X10_reached {p0 : Nat} {p1 : Int32} {r : Int32} (h : f_X10_reached S I F p0 p1 = some r) : v_R l B D ac (v_EE B wa wb wt sb sL sx) yX10_reached cX10_reached 5 (some .int) 2 0 0 [.ref (B + p0), .int p1] S I J F (v_D (some (.int r)) S I J F) := by
  refine v_R.of (by decide) (Nat.le_of_ble_eq_true rfl) fun d hd => ?_
  generalize hQ : v_D (some (.int r)) S I J F = Q
  have b6 : ∀ (w0 : Nat) (s6 : Int32 × Int32) (rx6 : (Int32 × Int32) ⊕ (Int32 × Int32)), f_X10_reached_B6 S I F w0 s6 = some rx6 → v_K (fun (sP : Int32 × Int32) => V l B D ac (v_EE B wa wb wt sb sL sx) yX10_reached cX10_reached 5 (some .int) d 0 0 0 0 S I J F 6 [(0, .ref (B + w0)), (2, .int sP.1), (3, .int sP.2)] [] Q) (fun (rE : Int32 × Int32) => V l B D ac (v_EE B wa wb wt sb sL sx) yX10_reached cX10_reached 5 (some .int) d 0 0 0 0 S I J F 60 [(2, .int rE.1)] [] Q) rx6 → V l B D ac (v_EE B wa wb wt sb sL sx) yX10_reached cX10_reached 5 (some .int) d 0 0 0 0 S I J F 6 [(0, .ref (B + w0)), (2, .int s6.1), (3, .int s6.2)] [] Q := by
    intro w0 s6 rx6 h hk
    have b16 : ∀ (w0 : Nat) (w3 : Int32) (s16 : Int32 × Int32) (rx16 : (Int32 × Int32) ⊕ (Int32 × Int32)), f_X10_reached_B16 S I F w0 w3 s16 = some rx16 → v_K (fun (sP : Int32 × Int32) => V l B D ac (v_EE B wa wb wt sb sL sx) yX10_reached cX10_reached 5 (some .int) d 0 0 0 0 S I J F 16 [(0, .ref (B + w0)), (2, .int sP.1), (3, .int w3), (4, .int sP.2)] [] Q) (fun (rE : Int32 × Int32) => V l B D ac (v_EE B wa wb wt sb sL sx) yX10_reached cX10_reached 5 (some .int) d 0 0 0 0 S I J F 57 [(0, .ref (B + w0)), (2, .int rE.1), (3, .int w3)] [] Q) rx16 → V l B D ac (v_EE B wa wb wt sb sL sx) yX10_reached cX10_reached 5 (some .int) d 0 0 0 0 S I J F 16 [(0, .ref (B + w0)), (2, .int s16.1), (3, .int w3), (4, .int s16.2)] [] Q := by
      intro w0 w3 s16 rx16 h hk
      have j49 : ∀ (y4 : Int32) (z0 : Int32) (z1 : Int32), f_X10_reached_J16_49 S I F w0 w3 y4 z0 z1 = some rx16 → V l B D ac (v_EE B wa wb wt sb sL sx) yX10_reached cX10_reached 5 (some .int) d 0 0 0 0 S I J F 49 [(0, .ref (B + w0)), (3, .int w3), (4, .int y4)] [.int z0, .int z1] Q := by
        intro y4 z0 z1 h
        unfold f_X10_reached_J16_49 at h
        refine v_ior dX10_reached_49 ?_
        replace h := p_let_elim h
        obtain ⟨x_13, h_14, h⟩ := h
        rw [← h_14]
        refine v_istore_n dX10_reached_50 (by decide) ?_
        refine v_sub [(0, .ref (B + w0)), (2, .int x_13), (3, .int w3), (4, .int y4)] ⟨rfl, rfl, rfl, rfl, trivial⟩ ?_
        replace h := p_let_elim h
        obtain ⟨x_15, h_16, h⟩ := h
        refine v_iincE (1 : Int32) dX10_reached_51 (by decide) rfl (by decide) ?_
        rw [← h_16]
        refine v_sub [(0, .ref (B + w0)), (2, .int x_13), (3, .int w3), (4, .int x_15)] ⟨rfl, rfl, rfl, rfl, trivial⟩ ?_
        refine v_goto 16 dX10_reached_54 (by decide) ?_
        cases h
        refine v_sub [(0, .ref (B + w0)), (2, .int x_13), (3, .int w3), (4, .int x_15)] ⟨rfl, rfl, rfl, rfl, trivial⟩ ?_
        exact hk
      unfold f_X10_reached_B16 at h
      refine v_iload dX10_reached_16 rfl ?_
      refine v_aload_n dX10_reached_18 rfl ?_
      replace h := p_bind_elim h
      obtain ⟨_, q_6, h⟩ := h
      have q_6 := p_ob_spec q_6
      replace h := p_bind_elim h
      obtain ⟨r_4, q_5, h⟩ := h
      refine v_cVr (t_X10_many q_5) cal_X10_many ml_X10_109 sel_X10_many q_6 kk_10 dX10_reached_19 (by omega) (by decide) (by decide) (Nat.le_of_ble_eq_true rfl) rfl ?_
      refine v_icmp_ge 57 dX10_reached_22 (by decide) (fun c_7 => ?_) (fun c_7 => ?_)
      · rw [if_pos c_7] at h
        cases h
        refine v_sub [(0, .ref (B + w0)), (2, .int s16.1), (3, .int w3)] ⟨rfl, rfl, rfl, trivial⟩ ?_
        exact hk
      · rw [if_neg c_7] at h
        refine v_iload_n dX10_reached_25 rfl ?_
        refine v_aload_n dX10_reached_26 rfl ?_
        replace h := p_bind_elim h
        obtain ⟨a_8, q_9, h⟩ := h
        refine v_getR q_9 rfl fl_X10_28 dX10_reached_27 q_6 ?_
        refine v_bipush (26 : Int32) dX10_reached_30 (by decide) ?_
        refine v_iload dX10_reached_32 rfl ?_
        refine v_iadd dX10_reached_34 ?_
        replace h := p_bind_elim h
        obtain ⟨j_10, q_11, h⟩ := h
        refine v_ialdP dX10_reached_35 q_11 ?_
        refine v_iload_n dX10_reached_36 rfl ?_
        refine v_iand dX10_reached_37 ?_
        refine v_if_eq 48 dX10_reached_38 (by decide) (fun c_12 => ?_) (fun c_12 => ?_)
        · rw [if_pos c_12] at h
          refine v_iconstE (0 : Int32) dX10_reached_48 (by decide) ?_
          refine v_sub [(0, .ref (B + w0)), (3, .int w3), (4, .int s16.2)] ⟨rfl, rfl, rfl, trivial⟩ ?_
          exact j49 _ _ _ h
        · rw [if_neg c_12] at h
          refine v_iconstE (1 : Int32) dX10_reached_41 (by decide) ?_
          refine v_iload dX10_reached_42 rfl ?_
          refine v_ishl dX10_reached_44 ?_
          refine v_goto 49 dX10_reached_45 (by decide) ?_
          refine v_sub [(0, .ref (B + w0)), (3, .int w3), (4, .int s16.2)] ⟨rfl, rfl, rfl, trivial⟩ ?_
          exact j49 _ _ _ h
    unfold f_X10_reached_B6 at h
    refine v_iload_n dX10_reached_6 rfl ?_
    refine v_iload_n dX10_reached_7 rfl ?_
    refine v_icmp_eq 60 dX10_reached_8 (by decide) (fun c_3 => ?_) (fun c_3 => ?_)
    · rw [if_pos c_3] at h
      cases h
      refine v_sub [(2, .int s6.1)] ⟨rfl, trivial⟩ ?_
      exact hk
    · rw [if_neg c_3] at h
      refine v_iload_n dX10_reached_11 rfl ?_
      refine v_istore_n dX10_reached_12 (by decide) ?_
      refine v_sub [(0, .ref (B + w0)), (2, .int s6.1), (3, .int s6.1)] ⟨rfl, rfl, rfl, trivial⟩ ?_
      refine v_iconstE (0 : Int32) dX10_reached_13 (by decide) ?_
      refine v_istore dX10_reached_14 (by decide) ?_
      refine v_sub [(0, .ref (B + w0)), (2, .int s6.1), (3, .int s6.1), (4, .int (0 : Int32))] ⟨rfl, rfl, rfl, rfl, trivial⟩ ?_
      replace h := p_bind_elim h
      obtain ⟨q_17, h_18, h⟩ := h
      refine v_sub [(0, .ref (B + w0)), (2, .int s6.1), (3, .int s6.1), (4, .int (0 : Int32))] ⟨rfl, rfl, rfl, rfl, trivial⟩ ?_
      refine v_loopV (fun (sP : Int32 × Int32) => V l B D ac (v_EE B wa wb wt sb sL sx) yX10_reached cX10_reached 5 (some .int) d 0 0 0 0 S I J F 16 [(0, .ref (B + w0)), (2, .int sP.1), (3, .int s6.1), (4, .int sP.2)] [] Q) (fun (rE : Int32 × Int32) => V l B D ac (v_EE B wa wb wt sb sL sx) yX10_reached cX10_reached 5 (some .int) d 0 0 0 0 S I J F 57 [(0, .ref (B + w0)), (2, .int rE.1), (3, .int s6.1)] [] Q) (fun s_ x_ hb hk => b16 _ _ s_ x_ hb hk) (r := q_17) ?_ h_18
      try dsimp only
      refine v_goto 6 dX10_reached_57 (by decide) ?_
      cases h
      refine v_sub [(0, .ref (B + w0)), (2, .int q_17.1), (3, .int s6.1)] ⟨rfl, rfl, rfl, trivial⟩ ?_
      exact hk
  unfold f_X10_reached at h
  refine v_sub [(0, .ref (B + p0)), (1, .int p1)] ⟨rfl, rfl, trivial⟩ ?_
  refine v_iconstE (1 : Int32) dX10_reached_0 (by decide) ?_
  refine v_iload_n dX10_reached_1 rfl ?_
  refine v_ishl dX10_reached_2 ?_
  replace h := p_let_elim h
  obtain ⟨x_1, h_2, h⟩ := h
  rw [← h_2]
  refine v_istore_n dX10_reached_3 (by decide) ?_
  refine v_sub [(0, .ref (B + p0)), (2, .int x_1)] ⟨rfl, rfl, trivial⟩ ?_
  refine v_iconstE (-1 : Int32) dX10_reached_4 (by decide) ?_
  refine v_istore_n dX10_reached_5 (by decide) ?_
  refine v_sub [(0, .ref (B + p0)), (2, .int x_1), (3, .int (-1 : Int32))] ⟨rfl, rfl, rfl, trivial⟩ ?_
  replace h := p_bind_elim h
  obtain ⟨q_19, h_20, h⟩ := h
  refine v_sub [(0, .ref (B + p0)), (2, .int x_1), (3, .int (-1 : Int32))] ⟨rfl, rfl, rfl, trivial⟩ ?_
  refine v_loopV (fun (sP : Int32 × Int32) => V l B D ac (v_EE B wa wb wt sb sL sx) yX10_reached cX10_reached 5 (some .int) d 0 0 0 0 S I J F 6 [(0, .ref (B + p0)), (2, .int sP.1), (3, .int sP.2)] [] Q) (fun (rE : Int32 × Int32) => V l B D ac (v_EE B wa wb wt sb sL sx) yX10_reached cX10_reached 5 (some .int) d 0 0 0 0 S I J F 60 [(2, .int rE.1)] [] Q) (fun s_ x_ hb hk => b6 _ s_ x_ hb hk) (r := q_19) ?_ h_20
  try dsimp only
  refine v_iload_n dX10_reached_60 rfl ?_
  cases h
  exact v_iret dX10_reached_61 rfl (by decide) (by decide) (by rw [← hQ]; exact ⟨rfl, rfl, rfl, rfl, rfl⟩)

def f_X10_laysKnots_B2 (S : v_S) (F : v_F) (w0 : Nat) (s2 : Int32 × v_I) : Option ((Int32 × v_I) ⊕ (Int32 × v_I)) :=
(p_ob S 10 w0).bind fun _ =>
(f_X10_many S s2.2 F w0).bind fun r_1 =>
if r_1 ≤ s2.1 then (
some (.inr (s2.1, s2.2)))
else (
(F w0 35).bind fun a_5 =>
(f_X10_reached S s2.2 F w0 s2.1).bind fun r_7 =>
(p_ix S 20 a_5 s2.1).bind fun j_9 =>
p_let (v_up s2.2 a_5 j_9 r_7) fun I_11 =>
p_let (s2.1 + (1 : Int32)) fun x_13 =>
some (.inl (x_13, I_11)))
def f_X10_laysKnots_J46_94 (S : v_S) (F : v_F) (w0 : Nat) (w1 : Int32) (I : v_I) (y2 : Int32) (z0 : Int32) (z1 : Int32) (z2 : Int32) (z3 : Nat) : Option ((Int32 × v_I) ⊕ (Int32 × v_I)) :=
(p_ix S 20 z3 z2).bind fun j_42 =>
p_let (v_up I z3 j_42 (z1 ||| z0)) fun I_44 =>
p_let (y2 + (1 : Int32)) fun x_46 =>
some (.inl (x_46, I_44))
def f_X10_laysKnots_J46_93 (S : v_S) (F : v_F) (w0 : Nat) (w1 : Int32) (I : v_I) (y2 : Int32) (z0 : Int32) (z1 : Int32) (z2 : Nat) : Option ((Int32 × v_I) ⊕ (Int32 × v_I)) :=
f_X10_laysKnots_J46_94 S F w0 w1 I y2 (0 : Int32) z0 z1 z2
def f_X10_laysKnots_B46 (S : v_S) (F : v_F) (w0 : Nat) (w1 : Int32) (s46 : Int32 × v_I) : Option ((Int32 × v_I) ⊕ (Int32 × v_I)) :=
(p_ob S 10 w0).bind fun _ =>
(f_X10_many S s46.2 F w0).bind fun r_27 =>
if r_27 ≤ s46.1 then (
some (.inr (s46.1, s46.2)))
else (
(F w0 36).bind fun a_31 =>
(p_ix S 20 a_31 w1).bind fun j_33 =>
(F w0 35).bind fun a_35 =>
(p_ix S 20 a_35 w1).bind fun j_37 =>
(f_X10_isIn (s46.2 a_35 j_37) s46.1).bind fun r_39 =>
if r_39 = (0 : Int32) then (
f_X10_laysKnots_J46_93 S F w0 w1 s46.2 s46.1 (s46.2 a_31 j_33) w1 a_31)
else (
(F w0 35).bind fun a_48 =>
(p_ix S 20 a_48 s46.1).bind fun j_50 =>
(f_X10_isIn (s46.2 a_48 j_50) w1).bind fun r_52 =>
if r_52 = (0 : Int32) then (
f_X10_laysKnots_J46_93 S F w0 w1 s46.2 s46.1 (s46.2 a_31 j_33) w1 a_31)
else (
f_X10_laysKnots_J46_94 S F w0 w1 s46.2 s46.1 ((1 : Int32) <<< (s46.1 &&& 31)) (s46.2 a_31 j_33) w1 a_31)))
def f_X10_laysKnots_B29 (S : v_S) (F : v_F) (w0 : Nat) (s29 : Int32 × v_I) : Option ((Int32 × v_I) ⊕ (Int32 × v_I)) :=
(p_ob S 10 w0).bind fun _ =>
(f_X10_many S s29.2 F w0).bind fun r_17 =>
if r_17 ≤ s29.1 then (
some (.inr (s29.1, s29.2)))
else (
(F w0 36).bind fun a_21 =>
(p_ix S 20 a_21 s29.1).bind fun j_23 =>
p_let (v_up s29.2 a_21 j_23 (0 : Int32)) fun I_25 =>
(v_loop (f_X10_laysKnots_B46 S F w0 s29.1) FU ((0 : Int32), I_25)).bind fun q_55 =>
p_let (s29.1 + (1 : Int32)) fun x_57 =>
some (.inl (x_57, q_55.2)))
def f_X10_laysKnots (S : v_S) (I : v_I) (F : v_F) (p0 : Nat) : Option (v_I) :=
(v_loop (f_X10_laysKnots_B2 S F p0) FU ((0 : Int32), I)).bind fun q_15 =>
(v_loop (f_X10_laysKnots_B29 S F p0) FU ((0 : Int32), q_15.2)).bind fun q_59 =>
some (q_59.2)
set_option maxHeartbeats 4000000 in
set_option maxRecDepth 100000 in
theorem t_X10_laysKnots {p0 : Nat} {r : v_I} (h : f_X10_laysKnots S I F p0 = some r) : v_R l B D ac (v_EE B wa wb wt sb sL sx) yX10_laysKnots cX10_laysKnots 3 none 3 0 0 [.ref (B + p0)] S I J F (v_D none S r J F) := by
  refine v_R.of (by decide) (Nat.le_of_ble_eq_true rfl) fun d hd => ?_
  generalize hQ : v_D none S r J F = Q
  have b2 : ∀ (w0 : Nat) (s2 : Int32 × v_I) (rx2 : (Int32 × v_I) ⊕ (Int32 × v_I)), f_X10_laysKnots_B2 S F w0 s2 = some rx2 → v_K (fun (sP : Int32 × v_I) => V l B D ac (v_EE B wa wb wt sb sL sx) yX10_laysKnots cX10_laysKnots 3 none d 0 0 0 0 S sP.2 J F 2 [(0, .ref (B + w0)), (1, .int sP.1)] [] Q) (fun (rE : Int32 × v_I) => V l B D ac (v_EE B wa wb wt sb sL sx) yX10_laysKnots cX10_laysKnots 3 none d 0 0 0 0 S rE.2 J F 27 [(0, .ref (B + w0))] [] Q) rx2 → V l B D ac (v_EE B wa wb wt sb sL sx) yX10_laysKnots cX10_laysKnots 3 none d 0 0 0 0 S s2.2 J F 2 [(0, .ref (B + w0)), (1, .int s2.1)] [] Q := by
    intro w0 s2 rx2 h hk
    unfold f_X10_laysKnots_B2 at h
    refine v_iload_n dX10_laysKnots_2 rfl ?_
    refine v_aload_n dX10_laysKnots_3 rfl ?_
    replace h := p_bind_elim h
    obtain ⟨_, q_3, h⟩ := h
    have q_3 := p_ob_spec q_3
    replace h := p_bind_elim h
    obtain ⟨r_1, q_2, h⟩ := h
    refine v_cVr (t_X10_many q_2) cal_X10_many ml_X10_109 sel_X10_many q_3 kk_10 dX10_laysKnots_4 (by omega) (by decide) (by decide) (Nat.le_of_ble_eq_true rfl) rfl ?_
    refine v_icmp_ge 27 dX10_laysKnots_7 (by decide) (fun c_4 => ?_) (fun c_4 => ?_)
    · rw [if_pos c_4] at h
      cases h
      refine v_sub [(0, .ref (B + w0))] ⟨rfl, trivial⟩ ?_
      exact hk
    · rw [if_neg c_4] at h
      refine v_aload_n dX10_laysKnots_10 rfl ?_
      replace h := p_bind_elim h
      obtain ⟨a_5, q_6, h⟩ := h
      refine v_getR q_6 rfl fl_X10_81 dX10_laysKnots_11 q_3 ?_
      refine v_iload_n dX10_laysKnots_14 rfl ?_
      refine v_aload_n dX10_laysKnots_15 rfl ?_
      refine v_iload_n dX10_laysKnots_16 rfl ?_
      replace h := p_bind_elim h
      obtain ⟨r_7, q_8, h⟩ := h
      refine v_cVr (t_X10_reached q_8) cal_X10_reached ml_X10_422 sel_X10_reached q_3 kk_10 dX10_laysKnots_17 (by omega) (by decide) (by decide) (Nat.le_of_ble_eq_true rfl) rfl ?_
      replace h := p_bind_elim h
      obtain ⟨j_9, q_10, h⟩ := h
      refine v_iastP dX10_laysKnots_20 q_10 ?_
      replace h := p_let_elim h
      obtain ⟨I_11, h_12, h⟩ := h
      rw [← h_12]
      replace h := p_let_elim h
      obtain ⟨x_13, h_14, h⟩ := h
      refine v_iincE (1 : Int32) dX10_laysKnots_21 (by decide) rfl (by decide) ?_
      rw [← h_14]
      refine v_sub [(0, .ref (B + w0)), (1, .int x_13)] ⟨rfl, rfl, trivial⟩ ?_
      refine v_goto 2 dX10_laysKnots_24 (by decide) ?_
      cases h
      refine v_sub [(0, .ref (B + w0)), (1, .int x_13)] ⟨rfl, rfl, trivial⟩ ?_
      exact hk
  have b29 : ∀ (w0 : Nat) (s29 : Int32 × v_I) (rx29 : (Int32 × v_I) ⊕ (Int32 × v_I)), f_X10_laysKnots_B29 S F w0 s29 = some rx29 → v_K (fun (sP : Int32 × v_I) => V l B D ac (v_EE B wa wb wt sb sL sx) yX10_laysKnots cX10_laysKnots 3 none d 0 0 0 0 S sP.2 J F 29 [(0, .ref (B + w0)), (1, .int sP.1)] [] Q) (fun (rE : Int32 × v_I) => V l B D ac (v_EE B wa wb wt sb sL sx) yX10_laysKnots cX10_laysKnots 3 none d 0 0 0 0 S rE.2 J F 108 [] [] Q) rx29 → V l B D ac (v_EE B wa wb wt sb sL sx) yX10_laysKnots cX10_laysKnots 3 none d 0 0 0 0 S s29.2 J F 29 [(0, .ref (B + w0)), (1, .int s29.1)] [] Q := by
    intro w0 s29 rx29 h hk
    have b46 : ∀ (w0 : Nat) (w1 : Int32) (s46 : Int32 × v_I) (rx46 : (Int32 × v_I) ⊕ (Int32 × v_I)), f_X10_laysKnots_B46 S F w0 w1 s46 = some rx46 → v_K (fun (sP : Int32 × v_I) => V l B D ac (v_EE B wa wb wt sb sL sx) yX10_laysKnots cX10_laysKnots 3 none d 0 0 0 0 S sP.2 J F 46 [(0, .ref (B + w0)), (1, .int w1), (2, .int sP.1)] [] Q) (fun (rE : Int32 × v_I) => V l B D ac (v_EE B wa wb wt sb sL sx) yX10_laysKnots cX10_laysKnots 3 none d 0 0 0 0 S rE.2 J F 102 [(0, .ref (B + w0)), (1, .int w1)] [] Q) rx46 → V l B D ac (v_EE B wa wb wt sb sL sx) yX10_laysKnots cX10_laysKnots 3 none d 0 0 0 0 S s46.2 J F 46 [(0, .ref (B + w0)), (1, .int w1), (2, .int s46.1)] [] Q := by
      intro w0 w1 s46 rx46 h hk
      have j94 : ∀ (I : v_I) (y2 : Int32) (z0 : Int32) (z1 : Int32) (z2 : Int32) (z3 : Nat), f_X10_laysKnots_J46_94 S F w0 w1 I y2 z0 z1 z2 z3 = some rx46 → V l B D ac (v_EE B wa wb wt sb sL sx) yX10_laysKnots cX10_laysKnots 3 none d 0 0 0 0 S I J F 94 [(0, .ref (B + w0)), (1, .int w1), (2, .int y2)] [.int z0, .int z1, .int z2, .ref (B + z3)] Q := by
        intro I y2 z0 z1 z2 z3 h
        unfold f_X10_laysKnots_J46_94 at h
        refine v_ior dX10_laysKnots_94 ?_
        replace h := p_bind_elim h
        obtain ⟨j_42, q_43, h⟩ := h
        refine v_iastP dX10_laysKnots_95 q_43 ?_
        replace h := p_let_elim h
        obtain ⟨I_44, h_45, h⟩ := h
        rw [← h_45]
        replace h := p_let_elim h
        obtain ⟨x_46, h_47, h⟩ := h
        refine v_iincE (1 : Int32) dX10_laysKnots_96 (by decide) rfl (by decide) ?_
        rw [← h_47]
        refine v_sub [(0, .ref (B + w0)), (1, .int w1), (2, .int x_46)] ⟨rfl, rfl, rfl, trivial⟩ ?_
        refine v_goto 46 dX10_laysKnots_99 (by decide) ?_
        cases h
        refine v_sub [(0, .ref (B + w0)), (1, .int w1), (2, .int x_46)] ⟨rfl, rfl, rfl, trivial⟩ ?_
        exact hk
      have j93 : ∀ (I : v_I) (y2 : Int32) (z0 : Int32) (z1 : Int32) (z2 : Nat), f_X10_laysKnots_J46_93 S F w0 w1 I y2 z0 z1 z2 = some rx46 → V l B D ac (v_EE B wa wb wt sb sL sx) yX10_laysKnots cX10_laysKnots 3 none d 0 0 0 0 S I J F 93 [(0, .ref (B + w0)), (1, .int w1), (2, .int y2)] [.int z0, .int z1, .ref (B + z2)] Q := by
        intro I y2 z0 z1 z2 h
        unfold f_X10_laysKnots_J46_93 at h
        refine v_iconstE (0 : Int32) dX10_laysKnots_93 (by decide) ?_
        refine v_sub [(0, .ref (B + w0)), (1, .int w1), (2, .int y2)] ⟨rfl, rfl, rfl, trivial⟩ ?_
        exact j94 _ _ _ _ _ _ h
      unfold f_X10_laysKnots_B46 at h
      refine v_iload_n dX10_laysKnots_46 rfl ?_
      refine v_aload_n dX10_laysKnots_47 rfl ?_
      replace h := p_bind_elim h
      obtain ⟨_, q_29, h⟩ := h
      have q_29 := p_ob_spec q_29
      replace h := p_bind_elim h
      obtain ⟨r_27, q_28, h⟩ := h
      refine v_cVr (t_X10_many q_28) cal_X10_many ml_X10_109 sel_X10_many q_29 kk_10 dX10_laysKnots_48 (by omega) (by decide) (by decide) (Nat.le_of_ble_eq_true rfl) rfl ?_
      refine v_icmp_ge 102 dX10_laysKnots_51 (by decide) (fun c_30 => ?_) (fun c_30 => ?_)
      · rw [if_pos c_30] at h
        cases h
        refine v_sub [(0, .ref (B + w0)), (1, .int w1)] ⟨rfl, rfl, trivial⟩ ?_
        exact hk
      · rw [if_neg c_30] at h
        refine v_aload_n dX10_laysKnots_54 rfl ?_
        replace h := p_bind_elim h
        obtain ⟨a_31, q_32, h⟩ := h
        refine v_getR q_32 rfl fl_X10_84 dX10_laysKnots_55 q_29 ?_
        refine v_iload_n dX10_laysKnots_58 rfl ?_
        refine v_dup2 dX10_laysKnots_59 rfl rfl ?_
        replace h := p_bind_elim h
        obtain ⟨j_33, q_34, h⟩ := h
        refine v_ialdP dX10_laysKnots_60 q_34 ?_
        refine v_aload_n dX10_laysKnots_61 rfl ?_
        replace h := p_bind_elim h
        obtain ⟨a_35, q_36, h⟩ := h
        refine v_getR q_36 rfl fl_X10_81 dX10_laysKnots_62 q_29 ?_
        refine v_iload_n dX10_laysKnots_65 rfl ?_
        replace h := p_bind_elim h
        obtain ⟨j_37, q_38, h⟩ := h
        refine v_ialdP dX10_laysKnots_66 q_38 ?_
        refine v_iload_n dX10_laysKnots_67 rfl ?_
        replace h := p_bind_elim h
        obtain ⟨r_39, q_40, h⟩ := h
        refine v_cSr (t_X10_isIn q_40) cal_X10_isIn ml_X10_113 sta_X10_isIn dX10_laysKnots_68 (by omega) (by decide) (by decide) (Nat.le_of_ble_eq_true rfl) rfl ?_
        refine v_if_eq 93 dX10_laysKnots_71 (by decide) (fun c_41 => ?_) (fun c_41 => ?_)
        · rw [if_pos c_41] at h
          refine v_sub [(0, .ref (B + w0)), (1, .int w1), (2, .int s46.1)] ⟨rfl, rfl, rfl, trivial⟩ ?_
          exact j93 _ _ _ _ _ h
        · rw [if_neg c_41] at h
          refine v_aload_n dX10_laysKnots_74 rfl ?_
          replace h := p_bind_elim h
          obtain ⟨a_48, q_49, h⟩ := h
          refine v_getR q_49 rfl fl_X10_81 dX10_laysKnots_75 q_29 ?_
          refine v_iload_n dX10_laysKnots_78 rfl ?_
          replace h := p_bind_elim h
          obtain ⟨j_50, q_51, h⟩ := h
          refine v_ialdP dX10_laysKnots_79 q_51 ?_
          refine v_iload_n dX10_laysKnots_80 rfl ?_
          replace h := p_bind_elim h
          obtain ⟨r_52, q_53, h⟩ := h
          refine v_cSr (t_X10_isIn q_53) cal_X10_isIn ml_X10_113 sta_X10_isIn dX10_laysKnots_81 (by omega) (by decide) (by decide) (Nat.le_of_ble_eq_true rfl) rfl ?_
          refine v_if_eq 93 dX10_laysKnots_84 (by decide) (fun c_54 => ?_) (fun c_54 => ?_)
          · rw [if_pos c_54] at h
            refine v_sub [(0, .ref (B + w0)), (1, .int w1), (2, .int s46.1)] ⟨rfl, rfl, rfl, trivial⟩ ?_
            exact j93 _ _ _ _ _ h
          · rw [if_neg c_54] at h
            refine v_iconstE (1 : Int32) dX10_laysKnots_87 (by decide) ?_
            refine v_iload_n dX10_laysKnots_88 rfl ?_
            refine v_ishl dX10_laysKnots_89 ?_
            refine v_goto 94 dX10_laysKnots_90 (by decide) ?_
            refine v_sub [(0, .ref (B + w0)), (1, .int w1), (2, .int s46.1)] ⟨rfl, rfl, rfl, trivial⟩ ?_
            exact j94 _ _ _ _ _ _ h
    unfold f_X10_laysKnots_B29 at h
    refine v_iload_n dX10_laysKnots_29 rfl ?_
    refine v_aload_n dX10_laysKnots_30 rfl ?_
    replace h := p_bind_elim h
    obtain ⟨_, q_19, h⟩ := h
    have q_19 := p_ob_spec q_19
    replace h := p_bind_elim h
    obtain ⟨r_17, q_18, h⟩ := h
    refine v_cVr (t_X10_many q_18) cal_X10_many ml_X10_109 sel_X10_many q_19 kk_10 dX10_laysKnots_31 (by omega) (by decide) (by decide) (Nat.le_of_ble_eq_true rfl) rfl ?_
    refine v_icmp_ge 108 dX10_laysKnots_34 (by decide) (fun c_20 => ?_) (fun c_20 => ?_)
    · rw [if_pos c_20] at h
      cases h
      refine v_sub [] trivial ?_
      exact hk
    · rw [if_neg c_20] at h
      refine v_aload_n dX10_laysKnots_37 rfl ?_
      replace h := p_bind_elim h
      obtain ⟨a_21, q_22, h⟩ := h
      refine v_getR q_22 rfl fl_X10_84 dX10_laysKnots_38 q_19 ?_
      refine v_iload_n dX10_laysKnots_41 rfl ?_
      refine v_iconstE (0 : Int32) dX10_laysKnots_42 (by decide) ?_
      replace h := p_bind_elim h
      obtain ⟨j_23, q_24, h⟩ := h
      refine v_iastP dX10_laysKnots_43 q_24 ?_
      replace h := p_let_elim h
      obtain ⟨I_25, h_26, h⟩ := h
      rw [← h_26]
      refine v_iconstE (0 : Int32) dX10_laysKnots_44 (by decide) ?_
      refine v_istore_n dX10_laysKnots_45 (by decide) ?_
      refine v_sub [(0, .ref (B + w0)), (1, .int s29.1), (2, .int (0 : Int32))] ⟨rfl, rfl, rfl, trivial⟩ ?_
      replace h := p_bind_elim h
      obtain ⟨q_55, h_56, h⟩ := h
      refine v_sub [(0, .ref (B + w0)), (1, .int s29.1), (2, .int (0 : Int32))] ⟨rfl, rfl, rfl, trivial⟩ ?_
      refine v_loopV (fun (sP : Int32 × v_I) => V l B D ac (v_EE B wa wb wt sb sL sx) yX10_laysKnots cX10_laysKnots 3 none d 0 0 0 0 S sP.2 J F 46 [(0, .ref (B + w0)), (1, .int s29.1), (2, .int sP.1)] [] Q) (fun (rE : Int32 × v_I) => V l B D ac (v_EE B wa wb wt sb sL sx) yX10_laysKnots cX10_laysKnots 3 none d 0 0 0 0 S rE.2 J F 102 [(0, .ref (B + w0)), (1, .int s29.1)] [] Q) (fun s_ x_ hb hk => b46 _ _ s_ x_ hb hk) (r := q_55) ?_ h_56
      try dsimp only
      replace h := p_let_elim h
      obtain ⟨x_57, h_58, h⟩ := h
      refine v_iincE (1 : Int32) dX10_laysKnots_102 (by decide) rfl (by decide) ?_
      rw [← h_58]
      refine v_sub [(0, .ref (B + w0)), (1, .int x_57)] ⟨rfl, rfl, trivial⟩ ?_
      refine v_goto 29 dX10_laysKnots_105 (by decide) ?_
      cases h
      refine v_sub [(0, .ref (B + w0)), (1, .int x_57)] ⟨rfl, rfl, trivial⟩ ?_
      exact hk
  unfold f_X10_laysKnots at h
  refine v_sub [(0, .ref (B + p0))] ⟨rfl, trivial⟩ ?_
  refine v_iconstE (0 : Int32) dX10_laysKnots_0 (by decide) ?_
  refine v_istore_n dX10_laysKnots_1 (by decide) ?_
  refine v_sub [(0, .ref (B + p0)), (1, .int (0 : Int32))] ⟨rfl, rfl, trivial⟩ ?_
  replace h := p_bind_elim h
  obtain ⟨q_15, h_16, h⟩ := h
  refine v_sub [(0, .ref (B + p0)), (1, .int (0 : Int32))] ⟨rfl, rfl, trivial⟩ ?_
  refine v_loopV (fun (sP : Int32 × v_I) => V l B D ac (v_EE B wa wb wt sb sL sx) yX10_laysKnots cX10_laysKnots 3 none d 0 0 0 0 S sP.2 J F 2 [(0, .ref (B + p0)), (1, .int sP.1)] [] Q) (fun (rE : Int32 × v_I) => V l B D ac (v_EE B wa wb wt sb sL sx) yX10_laysKnots cX10_laysKnots 3 none d 0 0 0 0 S rE.2 J F 27 [(0, .ref (B + p0))] [] Q) (fun s_ x_ hb hk => b2 _ s_ x_ hb hk) (r := q_15) ?_ h_16
  try dsimp only
  refine v_iconstE (0 : Int32) dX10_laysKnots_27 (by decide) ?_
  refine v_istore_n dX10_laysKnots_28 (by decide) ?_
  refine v_sub [(0, .ref (B + p0)), (1, .int (0 : Int32))] ⟨rfl, rfl, trivial⟩ ?_
  replace h := p_bind_elim h
  obtain ⟨q_59, h_60, h⟩ := h
  refine v_sub [(0, .ref (B + p0)), (1, .int (0 : Int32))] ⟨rfl, rfl, trivial⟩ ?_
  refine v_loopV (fun (sP : Int32 × v_I) => V l B D ac (v_EE B wa wb wt sb sL sx) yX10_laysKnots cX10_laysKnots 3 none d 0 0 0 0 S sP.2 J F 29 [(0, .ref (B + p0)), (1, .int sP.1)] [] Q) (fun (rE : Int32 × v_I) => V l B D ac (v_EE B wa wb wt sb sL sx) yX10_laysKnots cX10_laysKnots 3 none d 0 0 0 0 S rE.2 J F 108 [] [] Q) (fun s_ x_ hb hk => b29 _ s_ x_ hb hk) (r := q_59) ?_ h_60
  try dsimp only
  cases h
  exact v_vret dX10_laysKnots_108 rfl (by decide) (by decide) (by rw [← hQ]; exact ⟨rfl, rfl, rfl, rfl, rfl⟩)

def f_X10_knots_J8_30 (S : v_S) (I : v_I) (F : v_F) (w0 : Nat) (y2 : Int32) (z0 : Int32) (z1 : Int32) : Option ((Int32 × Int32) ⊕ (Int32 × Int32)) :=
p_let (z1 + z0) fun x_11 =>
p_let (y2 + (1 : Int32)) fun x_13 =>
some (.inl (x_11, x_13))
def f_X10_knots_B8 (S : v_S) (F : v_F) (I : v_I) (w0 : Nat) (s8 : Int32 × Int32) : Option ((Int32 × Int32) ⊕ (Int32 × Int32)) :=
(p_ob S 10 w0).bind fun _ =>
(f_X10_many S I F w0).bind fun r_4 =>
if r_4 ≤ s8.2 then (
some (.inr (s8.1, s8.2)))
else (
(f_X10_isLowest S I F w0 s8.2).bind fun r_8 =>
if r_8 = (0 : Int32) then (
f_X10_knots_J8_30 S I F w0 s8.2 (0 : Int32) s8.1)
else (
f_X10_knots_J8_30 S I F w0 s8.2 (1 : Int32) s8.1))
def f_X10_knots (S : v_S) (I : v_I) (F : v_F) (p0 : Nat) : Option (Int32 × v_I) :=
(p_ob S 10 p0).bind fun _ =>
(f_X10_laysKnots S I F p0).bind fun r_1 =>
(v_loop (f_X10_knots_B8 S F r_1 p0) FU ((0 : Int32), (0 : Int32))).bind fun q_15 =>
some (q_15.1, r_1)
set_option maxHeartbeats 4000000 in
set_option maxRecDepth 100000 in
theorem t_X10_knots {p0 : Nat} {r : Int32 × v_I} (h : f_X10_knots S I F p0 = some r) : v_R l B D ac (v_EE B wa wb wt sb sL sx) yX10_knots cX10_knots 3 (some .int) 4 0 0 [.ref (B + p0)] S I J F (v_D (some (.int r.1)) S r.2 J F) := by
  refine v_R.of (by decide) (Nat.le_of_ble_eq_true rfl) fun d hd => ?_
  generalize hQ : v_D (some (.int r.1)) S r.2 J F = Q
  have b8 : ∀ (I : v_I) (w0 : Nat) (s8 : Int32 × Int32) (rx8 : (Int32 × Int32) ⊕ (Int32 × Int32)), f_X10_knots_B8 S F I w0 s8 = some rx8 → v_K (fun (sP : Int32 × Int32) => V l B D ac (v_EE B wa wb wt sb sL sx) yX10_knots cX10_knots 3 (some .int) d 0 0 0 0 S I J F 8 [(0, .ref (B + w0)), (1, .int sP.1), (2, .int sP.2)] [] Q) (fun (rE : Int32 × Int32) => V l B D ac (v_EE B wa wb wt sb sL sx) yX10_knots cX10_knots 3 (some .int) d 0 0 0 0 S I J F 38 [(1, .int rE.1)] [] Q) rx8 → V l B D ac (v_EE B wa wb wt sb sL sx) yX10_knots cX10_knots 3 (some .int) d 0 0 0 0 S I J F 8 [(0, .ref (B + w0)), (1, .int s8.1), (2, .int s8.2)] [] Q := by
    intro I w0 s8 rx8 h hk
    have j30 : ∀ (y2 : Int32) (z0 : Int32) (z1 : Int32), f_X10_knots_J8_30 S I F w0 y2 z0 z1 = some rx8 → V l B D ac (v_EE B wa wb wt sb sL sx) yX10_knots cX10_knots 3 (some .int) d 0 0 0 0 S I J F 30 [(0, .ref (B + w0)), (2, .int y2)] [.int z0, .int z1] Q := by
      intro y2 z0 z1 h
      unfold f_X10_knots_J8_30 at h
      refine v_iadd dX10_knots_30 ?_
      replace h := p_let_elim h
      obtain ⟨x_11, h_12, h⟩ := h
      rw [← h_12]
      refine v_istore_n dX10_knots_31 (by decide) ?_
      refine v_sub [(0, .ref (B + w0)), (1, .int x_11), (2, .int y2)] ⟨rfl, rfl, rfl, trivial⟩ ?_
      replace h := p_let_elim h
      obtain ⟨x_13, h_14, h⟩ := h
      refine v_iincE (1 : Int32) dX10_knots_32 (by decide) rfl (by decide) ?_
      rw [← h_14]
      refine v_sub [(0, .ref (B + w0)), (1, .int x_11), (2, .int x_13)] ⟨rfl, rfl, rfl, trivial⟩ ?_
      refine v_goto 8 dX10_knots_35 (by decide) ?_
      cases h
      refine v_sub [(0, .ref (B + w0)), (1, .int x_11), (2, .int x_13)] ⟨rfl, rfl, rfl, trivial⟩ ?_
      exact hk
    unfold f_X10_knots_B8 at h
    refine v_iload_n dX10_knots_8 rfl ?_
    refine v_aload_n dX10_knots_9 rfl ?_
    replace h := p_bind_elim h
    obtain ⟨_, q_6, h⟩ := h
    have q_6 := p_ob_spec q_6
    replace h := p_bind_elim h
    obtain ⟨r_4, q_5, h⟩ := h
    refine v_cVr (t_X10_many q_5) cal_X10_many ml_X10_109 sel_X10_many q_6 kk_10 dX10_knots_10 (by omega) (by decide) (by decide) (Nat.le_of_ble_eq_true rfl) rfl ?_
    refine v_icmp_ge 38 dX10_knots_13 (by decide) (fun c_7 => ?_) (fun c_7 => ?_)
    · rw [if_pos c_7] at h
      cases h
      refine v_sub [(1, .int s8.1)] ⟨rfl, trivial⟩ ?_
      exact hk
    · rw [if_neg c_7] at h
      refine v_iload_n dX10_knots_16 rfl ?_
      refine v_aload_n dX10_knots_17 rfl ?_
      refine v_iload_n dX10_knots_18 rfl ?_
      replace h := p_bind_elim h
      obtain ⟨r_8, q_9, h⟩ := h
      refine v_cVr (t_X10_isLowest q_9) cal_X10_isLowest ml_X10_428 sel_X10_isLowest q_6 kk_10 dX10_knots_19 (by omega) (by decide) (by decide) (Nat.le_of_ble_eq_true rfl) rfl ?_
      refine v_if_eq 29 dX10_knots_22 (by decide) (fun c_10 => ?_) (fun c_10 => ?_)
      · rw [if_pos c_10] at h
        refine v_iconstE (0 : Int32) dX10_knots_29 (by decide) ?_
        refine v_sub [(0, .ref (B + w0)), (2, .int s8.2)] ⟨rfl, rfl, trivial⟩ ?_
        exact j30 _ _ _ h
      · rw [if_neg c_10] at h
        refine v_iconstE (1 : Int32) dX10_knots_25 (by decide) ?_
        refine v_goto 30 dX10_knots_26 (by decide) ?_
        refine v_sub [(0, .ref (B + w0)), (2, .int s8.2)] ⟨rfl, rfl, trivial⟩ ?_
        exact j30 _ _ _ h
  unfold f_X10_knots at h
  refine v_sub [(0, .ref (B + p0))] ⟨rfl, trivial⟩ ?_
  refine v_aload_n dX10_knots_0 rfl ?_
  replace h := p_bind_elim h
  obtain ⟨_, q_3, h⟩ := h
  have q_3 := p_ob_spec q_3
  replace h := p_bind_elim h
  obtain ⟨r_1, q_2, h⟩ := h
  refine v_cVn (t_X10_laysKnots q_2) cal_X10_laysKnots ml_X10_425 sel_X10_laysKnots q_3 kk_10 dX10_knots_1 (by omega) (by decide) (by decide) (Nat.le_of_ble_eq_true rfl) rfl ?_
  refine v_iconstE (0 : Int32) dX10_knots_4 (by decide) ?_
  refine v_istore_n dX10_knots_5 (by decide) ?_
  refine v_sub [(0, .ref (B + p0)), (1, .int (0 : Int32))] ⟨rfl, rfl, trivial⟩ ?_
  refine v_iconstE (0 : Int32) dX10_knots_6 (by decide) ?_
  refine v_istore_n dX10_knots_7 (by decide) ?_
  refine v_sub [(0, .ref (B + p0)), (1, .int (0 : Int32)), (2, .int (0 : Int32))] ⟨rfl, rfl, rfl, trivial⟩ ?_
  replace h := p_bind_elim h
  obtain ⟨q_15, h_16, h⟩ := h
  refine v_sub [(0, .ref (B + p0)), (1, .int (0 : Int32)), (2, .int (0 : Int32))] ⟨rfl, rfl, rfl, trivial⟩ ?_
  refine v_loopV (fun (sP : Int32 × Int32) => V l B D ac (v_EE B wa wb wt sb sL sx) yX10_knots cX10_knots 3 (some .int) d 0 0 0 0 S r_1 J F 8 [(0, .ref (B + p0)), (1, .int sP.1), (2, .int sP.2)] [] Q) (fun (rE : Int32 × Int32) => V l B D ac (v_EE B wa wb wt sb sL sx) yX10_knots cX10_knots 3 (some .int) d 0 0 0 0 S r_1 J F 38 [(1, .int rE.1)] [] Q) (fun s_ x_ hb hk => b8 _ _ s_ x_ hb hk) (r := q_15) ?_ h_16
  try dsimp only
  refine v_iload_n dX10_knots_38 rfl ?_
  cases h
  exact v_iret dX10_knots_39 rfl (by decide) (by decide) (by rw [← hQ]; exact ⟨rfl, rfl, rfl, rfl, rfl⟩)

def f_X10_isReached_J4_47 (S : v_S) (I : v_I) (F : v_F) (w0 : Nat) (w1 : Int32) (y3 : Int32) (z0 : Int32) : Option ((Int32 × Int32) ⊕ (Int32 × Int32)) :=
p_let (y3 + (1 : Int32)) fun x_6 =>
some (.inl (z0, x_6))
def f_X10_isReached_J4_42 (S : v_S) (I : v_I) (F : v_F) (w0 : Nat) (w1 : Int32) (y3 : Int32) : Option ((Int32 × Int32) ⊕ (Int32 × Int32)) :=
f_X10_isReached_J4_47 S I F w0 w1 y3 (1 : Int32)
def f_X10_isReached_J4_46 (S : v_S) (I : v_I) (F : v_F) (w0 : Nat) (w1 : Int32) (y3 : Int32) : Option ((Int32 × Int32) ⊕ (Int32 × Int32)) :=
f_X10_isReached_J4_47 S I F w0 w1 y3 (0 : Int32)
def f_X10_isReached_B4 (S : v_S) (I : v_I) (F : v_F) (w0 : Nat) (w1 : Int32) (s4 : Int32 × Int32) : Option ((Int32 × Int32) ⊕ (Int32 × Int32)) :=
(p_ob S 10 w0).bind fun _ =>
(f_X10_many S I F w0).bind fun r_1 =>
if r_1 ≤ s4.2 then (
some (.inr (s4.1, s4.2)))
else (
if s4.1 = (0 : Int32) then (
(F w0 36).bind fun a_8 =>
(p_ix S 20 a_8 w1).bind fun j_10 =>
(f_X10_isIn (I a_8 j_10) s4.2).bind fun r_12 =>
if r_12 = (0 : Int32) then (
(F w0 35).bind fun a_15 =>
(p_ix S 20 a_15 s4.2).bind fun j_17 =>
(f_X10_isIn (I a_15 j_17) w1).bind fun r_19 =>
if r_19 = (0 : Int32) then (
f_X10_isReached_J4_46 S I F w0 w1 s4.2)
else (
f_X10_isReached_J4_42 S I F w0 w1 s4.2))
else (
f_X10_isReached_J4_46 S I F w0 w1 s4.2))
else (
f_X10_isReached_J4_42 S I F w0 w1 s4.2))
def f_X10_isReached (S : v_S) (I : v_I) (F : v_F) (p0 : Nat) (p1 : Int32) : Option (Int32) :=
(v_loop (f_X10_isReached_B4 S I F p0 p1) FU ((0 : Int32), (0 : Int32))).bind fun q_22 =>
(p_bl q_22.1).bind fun _ =>
some (q_22.1)
set_option maxHeartbeats 4000000 in
set_option maxRecDepth 100000 in
theorem t_X10_isReached {p0 : Nat} {p1 : Int32} {r : Int32} (h : f_X10_isReached S I F p0 p1 = some r) : v_R l B D ac (v_EE B wa wb wt sb sL sx) yX10_isReached cX10_isReached 4 (some .boolean) 2 0 0 [.ref (B + p0), .int p1] S I J F (v_D (some (.int r)) S I J F) := by
  refine v_R.of (by decide) (Nat.le_of_ble_eq_true rfl) fun d hd => ?_
  generalize hQ : v_D (some (.int r)) S I J F = Q
  have b4 : ∀ (w0 : Nat) (w1 : Int32) (s4 : Int32 × Int32) (rx4 : (Int32 × Int32) ⊕ (Int32 × Int32)), f_X10_isReached_B4 S I F w0 w1 s4 = some rx4 → v_K (fun (sP : Int32 × Int32) => V l B D ac (v_EE B wa wb wt sb sL sx) yX10_isReached cX10_isReached 4 (some .boolean) d 0 0 0 0 S I J F 4 [(0, .ref (B + w0)), (1, .int w1), (2, .int sP.1), (3, .int sP.2)] [] Q) (fun (rE : Int32 × Int32) => V l B D ac (v_EE B wa wb wt sb sL sx) yX10_isReached cX10_isReached 4 (some .boolean) d 0 0 0 0 S I J F 54 [(2, .int rE.1)] [] Q) rx4 → V l B D ac (v_EE B wa wb wt sb sL sx) yX10_isReached cX10_isReached 4 (some .boolean) d 0 0 0 0 S I J F 4 [(0, .ref (B + w0)), (1, .int w1), (2, .int s4.1), (3, .int s4.2)] [] Q := by
    intro w0 w1 s4 rx4 h hk
    have j47 : ∀ (y3 : Int32) (z0 : Int32), f_X10_isReached_J4_47 S I F w0 w1 y3 z0 = some rx4 → V l B D ac (v_EE B wa wb wt sb sL sx) yX10_isReached cX10_isReached 4 (some .boolean) d 0 0 0 0 S I J F 47 [(0, .ref (B + w0)), (1, .int w1), (3, .int y3)] [.int z0] Q := by
      intro y3 z0 h
      unfold f_X10_isReached_J4_47 at h
      refine v_istore_n dX10_isReached_47 (by decide) ?_
      refine v_sub [(0, .ref (B + w0)), (1, .int w1), (2, .int z0), (3, .int y3)] ⟨rfl, rfl, rfl, rfl, trivial⟩ ?_
      replace h := p_let_elim h
      obtain ⟨x_6, h_7, h⟩ := h
      refine v_iincE (1 : Int32) dX10_isReached_48 (by decide) rfl (by decide) ?_
      rw [← h_7]
      refine v_sub [(0, .ref (B + w0)), (1, .int w1), (2, .int z0), (3, .int x_6)] ⟨rfl, rfl, rfl, rfl, trivial⟩ ?_
      refine v_goto 4 dX10_isReached_51 (by decide) ?_
      cases h
      refine v_sub [(0, .ref (B + w0)), (1, .int w1), (2, .int z0), (3, .int x_6)] ⟨rfl, rfl, rfl, rfl, trivial⟩ ?_
      exact hk
    have j42 : ∀ (y3 : Int32), f_X10_isReached_J4_42 S I F w0 w1 y3 = some rx4 → V l B D ac (v_EE B wa wb wt sb sL sx) yX10_isReached cX10_isReached 4 (some .boolean) d 0 0 0 0 S I J F 42 [(0, .ref (B + w0)), (1, .int w1), (3, .int y3)] [] Q := by
      intro y3 h
      unfold f_X10_isReached_J4_42 at h
      refine v_iconstE (1 : Int32) dX10_isReached_42 (by decide) ?_
      refine v_goto 47 dX10_isReached_43 (by decide) ?_
      refine v_sub [(0, .ref (B + w0)), (1, .int w1), (3, .int y3)] ⟨rfl, rfl, rfl, trivial⟩ ?_
      exact j47 _ _ h
    have j46 : ∀ (y3 : Int32), f_X10_isReached_J4_46 S I F w0 w1 y3 = some rx4 → V l B D ac (v_EE B wa wb wt sb sL sx) yX10_isReached cX10_isReached 4 (some .boolean) d 0 0 0 0 S I J F 46 [(0, .ref (B + w0)), (1, .int w1), (3, .int y3)] [] Q := by
      intro y3 h
      unfold f_X10_isReached_J4_46 at h
      refine v_iconstE (0 : Int32) dX10_isReached_46 (by decide) ?_
      refine v_sub [(0, .ref (B + w0)), (1, .int w1), (3, .int y3)] ⟨rfl, rfl, rfl, trivial⟩ ?_
      exact j47 _ _ h
    unfold f_X10_isReached_B4 at h
    refine v_iload_n dX10_isReached_4 rfl ?_
    refine v_aload_n dX10_isReached_5 rfl ?_
    replace h := p_bind_elim h
    obtain ⟨_, q_3, h⟩ := h
    have q_3 := p_ob_spec q_3
    replace h := p_bind_elim h
    obtain ⟨r_1, q_2, h⟩ := h
    refine v_cVr (t_X10_many q_2) cal_X10_many ml_X10_109 sel_X10_many q_3 kk_10 dX10_isReached_6 (by omega) (by decide) (by decide) (Nat.le_of_ble_eq_true rfl) rfl ?_
    refine v_icmp_ge 54 dX10_isReached_9 (by decide) (fun c_4 => ?_) (fun c_4 => ?_)
    · rw [if_pos c_4] at h
      cases h
      refine v_sub [(2, .int s4.1)] ⟨rfl, trivial⟩ ?_
      exact hk
    · rw [if_neg c_4] at h
      refine v_iload_n dX10_isReached_12 rfl ?_
      refine v_if_ne 42 dX10_isReached_13 (by decide) (fun c_5 => ?_) (fun c_5 => ?_)
      · rw [if_neg c_5] at h
        refine v_sub [(0, .ref (B + w0)), (1, .int w1), (3, .int s4.2)] ⟨rfl, rfl, rfl, trivial⟩ ?_
        exact j42 _ h
      · rw [if_pos c_5] at h
        refine v_aload_n dX10_isReached_16 rfl ?_
        replace h := p_bind_elim h
        obtain ⟨a_8, q_9, h⟩ := h
        refine v_getR q_9 rfl fl_X10_84 dX10_isReached_17 q_3 ?_
        refine v_iload_n dX10_isReached_20 rfl ?_
        replace h := p_bind_elim h
        obtain ⟨j_10, q_11, h⟩ := h
        refine v_ialdP dX10_isReached_21 q_11 ?_
        refine v_iload_n dX10_isReached_22 rfl ?_
        replace h := p_bind_elim h
        obtain ⟨r_12, q_13, h⟩ := h
        refine v_cSr (t_X10_isIn q_13) cal_X10_isIn ml_X10_113 sta_X10_isIn dX10_isReached_23 (by omega) (by decide) (by decide) (Nat.le_of_ble_eq_true rfl) rfl ?_
        refine v_if_ne 46 dX10_isReached_26 (by decide) (fun c_14 => ?_) (fun c_14 => ?_)
        · rw [if_neg c_14] at h
          refine v_sub [(0, .ref (B + w0)), (1, .int w1), (3, .int s4.2)] ⟨rfl, rfl, rfl, trivial⟩ ?_
          exact j46 _ h
        · rw [if_pos c_14] at h
          refine v_aload_n dX10_isReached_29 rfl ?_
          replace h := p_bind_elim h
          obtain ⟨a_15, q_16, h⟩ := h
          refine v_getR q_16 rfl fl_X10_81 dX10_isReached_30 q_3 ?_
          refine v_iload_n dX10_isReached_33 rfl ?_
          replace h := p_bind_elim h
          obtain ⟨j_17, q_18, h⟩ := h
          refine v_ialdP dX10_isReached_34 q_18 ?_
          refine v_iload_n dX10_isReached_35 rfl ?_
          replace h := p_bind_elim h
          obtain ⟨r_19, q_20, h⟩ := h
          refine v_cSr (t_X10_isIn q_20) cal_X10_isIn ml_X10_113 sta_X10_isIn dX10_isReached_36 (by omega) (by decide) (by decide) (Nat.le_of_ble_eq_true rfl) rfl ?_
          refine v_if_eq 46 dX10_isReached_39 (by decide) (fun c_21 => ?_) (fun c_21 => ?_)
          · rw [if_pos c_21] at h
            refine v_sub [(0, .ref (B + w0)), (1, .int w1), (3, .int s4.2)] ⟨rfl, rfl, rfl, trivial⟩ ?_
            exact j46 _ h
          · rw [if_neg c_21] at h
            refine v_sub [(0, .ref (B + w0)), (1, .int w1), (3, .int s4.2)] ⟨rfl, rfl, rfl, trivial⟩ ?_
            exact j42 _ h
  unfold f_X10_isReached at h
  refine v_sub [(0, .ref (B + p0)), (1, .int p1)] ⟨rfl, rfl, trivial⟩ ?_
  refine v_iconstE (0 : Int32) dX10_isReached_0 (by decide) ?_
  refine v_istore_n dX10_isReached_1 (by decide) ?_
  refine v_sub [(0, .ref (B + p0)), (1, .int p1), (2, .int (0 : Int32))] ⟨rfl, rfl, rfl, trivial⟩ ?_
  refine v_iconstE (0 : Int32) dX10_isReached_2 (by decide) ?_
  refine v_istore_n dX10_isReached_3 (by decide) ?_
  refine v_sub [(0, .ref (B + p0)), (1, .int p1), (2, .int (0 : Int32)), (3, .int (0 : Int32))] ⟨rfl, rfl, rfl, rfl, trivial⟩ ?_
  replace h := p_bind_elim h
  obtain ⟨q_22, h_23, h⟩ := h
  refine v_sub [(0, .ref (B + p0)), (1, .int p1), (2, .int (0 : Int32)), (3, .int (0 : Int32))] ⟨rfl, rfl, rfl, rfl, trivial⟩ ?_
  refine v_loopV (fun (sP : Int32 × Int32) => V l B D ac (v_EE B wa wb wt sb sL sx) yX10_isReached cX10_isReached 4 (some .boolean) d 0 0 0 0 S I J F 4 [(0, .ref (B + p0)), (1, .int p1), (2, .int sP.1), (3, .int sP.2)] [] Q) (fun (rE : Int32 × Int32) => V l B D ac (v_EE B wa wb wt sb sL sx) yX10_isReached cX10_isReached 4 (some .boolean) d 0 0 0 0 S I J F 54 [(2, .int rE.1)] [] Q) (fun s_ x_ hb hk => b4 _ _ s_ x_ hb hk) (r := q_22) ?_ h_23
  try dsimp only
  refine v_iload_n dX10_isReached_54 rfl ?_
  replace h := p_bind_elim h
  obtain ⟨_, q_24, h⟩ := h
  cases h
  exact v_zret dX10_isReached_55 rfl (p_bl_spec q_24).1 (by decide) (by decide) (by rw [← hQ]; exact ⟨rfl, rfl, rfl, rfl, rfl⟩)

def f_X10_heads_J17_49 (S : v_S) (I : v_I) (F : v_F) (w0 : Nat) (w1 : Int32) (y3 : Int32) (z0 : Int32) (z1 : Int32) : Option ((Int32 × Int32) ⊕ (Int32 × Int32)) :=
p_let (z1 ||| z0) fun x_14 =>
p_let (y3 + (1 : Int32)) fun x_16 =>
some (.inl (x_14, x_16))
def f_X10_heads_J17_48 (S : v_S) (I : v_I) (F : v_F) (w0 : Nat) (w1 : Int32) (y3 : Int32) (z0 : Int32) : Option ((Int32 × Int32) ⊕ (Int32 × Int32)) :=
f_X10_heads_J17_49 S I F w0 w1 y3 (0 : Int32) z0
def f_X10_heads_B17 (S : v_S) (F : v_F) (I : v_I) (w0 : Nat) (w1 : Int32) (s17 : Int32 × Int32) : Option ((Int32 × Int32) ⊕ (Int32 × Int32)) :=
(p_ob S 10 w0).bind fun _ =>
(f_X10_many S I F w0).bind fun r_7 =>
if r_7 ≤ s17.2 then (
some (.inr (s17.1, s17.2)))
else (
(f_X10_isLowest S I F w0 s17.2).bind fun r_11 =>
if r_11 = (0 : Int32) then (
f_X10_heads_J17_48 S I F w0 w1 s17.2 s17.1)
else (
(f_X10_isReached S I F w0 s17.2).bind fun r_18 =>
if r_18 = (0 : Int32) then (
f_X10_heads_J17_49 S I F w0 w1 s17.2 ((1 : Int32) <<< (s17.2 &&& 31)) s17.1)
else (
f_X10_heads_J17_48 S I F w0 w1 s17.2 s17.1)))
def f_X10_heads (S : v_S) (I : v_I) (F : v_F) (p0 : Nat) (p1 : Int32) : Option (Int32 × v_I) :=
(f_X10_isBit p1).bind fun r_1 =>
if r_1 = (0 : Int32) then (
some ((-1 : Int32), I))
else (
(p_ob S 10 p0).bind fun _ =>
(f_X10_laysKnots S I F p0).bind fun r_4 =>
(v_loop (f_X10_heads_B17 S F r_4 p0 p1) FU ((0 : Int32), (0 : Int32))).bind fun q_21 =>
(f_X10_toldOf q_21.1 p1).bind fun r_23 =>
some (r_23, r_4))
set_option maxHeartbeats 4000000 in
set_option maxRecDepth 100000 in
theorem t_X10_heads {p0 : Nat} {p1 : Int32} {r : Int32 × v_I} (h : f_X10_heads S I F p0 p1 = some r) : v_R l B D ac (v_EE B wa wb wt sb sL sx) yX10_heads cX10_heads 4 (some .int) 4 0 0 [.ref (B + p0), .int p1] S I J F (v_D (some (.int r.1)) S r.2 J F) := by
  refine v_R.of (by decide) (Nat.le_of_ble_eq_true rfl) fun d hd => ?_
  generalize hQ : v_D (some (.int r.1)) S r.2 J F = Q
  have b17 : ∀ (I : v_I) (w0 : Nat) (w1 : Int32) (s17 : Int32 × Int32) (rx17 : (Int32 × Int32) ⊕ (Int32 × Int32)), f_X10_heads_B17 S F I w0 w1 s17 = some rx17 → v_K (fun (sP : Int32 × Int32) => V l B D ac (v_EE B wa wb wt sb sL sx) yX10_heads cX10_heads 4 (some .int) d 0 0 0 0 S I J F 17 [(0, .ref (B + w0)), (1, .int w1), (2, .int sP.1), (3, .int sP.2)] [] Q) (fun (rE : Int32 × Int32) => V l B D ac (v_EE B wa wb wt sb sL sx) yX10_heads cX10_heads 4 (some .int) d 0 0 0 0 S I J F 57 [(1, .int w1), (2, .int rE.1)] [] Q) rx17 → V l B D ac (v_EE B wa wb wt sb sL sx) yX10_heads cX10_heads 4 (some .int) d 0 0 0 0 S I J F 17 [(0, .ref (B + w0)), (1, .int w1), (2, .int s17.1), (3, .int s17.2)] [] Q := by
    intro I w0 w1 s17 rx17 h hk
    have j49 : ∀ (y3 : Int32) (z0 : Int32) (z1 : Int32), f_X10_heads_J17_49 S I F w0 w1 y3 z0 z1 = some rx17 → V l B D ac (v_EE B wa wb wt sb sL sx) yX10_heads cX10_heads 4 (some .int) d 0 0 0 0 S I J F 49 [(0, .ref (B + w0)), (1, .int w1), (3, .int y3)] [.int z0, .int z1] Q := by
      intro y3 z0 z1 h
      unfold f_X10_heads_J17_49 at h
      refine v_ior dX10_heads_49 ?_
      replace h := p_let_elim h
      obtain ⟨x_14, h_15, h⟩ := h
      rw [← h_15]
      refine v_istore_n dX10_heads_50 (by decide) ?_
      refine v_sub [(0, .ref (B + w0)), (1, .int w1), (2, .int x_14), (3, .int y3)] ⟨rfl, rfl, rfl, rfl, trivial⟩ ?_
      replace h := p_let_elim h
      obtain ⟨x_16, h_17, h⟩ := h
      refine v_iincE (1 : Int32) dX10_heads_51 (by decide) rfl (by decide) ?_
      rw [← h_17]
      refine v_sub [(0, .ref (B + w0)), (1, .int w1), (2, .int x_14), (3, .int x_16)] ⟨rfl, rfl, rfl, rfl, trivial⟩ ?_
      refine v_goto 17 dX10_heads_54 (by decide) ?_
      cases h
      refine v_sub [(0, .ref (B + w0)), (1, .int w1), (2, .int x_14), (3, .int x_16)] ⟨rfl, rfl, rfl, rfl, trivial⟩ ?_
      exact hk
    have j48 : ∀ (y3 : Int32) (z0 : Int32), f_X10_heads_J17_48 S I F w0 w1 y3 z0 = some rx17 → V l B D ac (v_EE B wa wb wt sb sL sx) yX10_heads cX10_heads 4 (some .int) d 0 0 0 0 S I J F 48 [(0, .ref (B + w0)), (1, .int w1), (3, .int y3)] [.int z0] Q := by
      intro y3 z0 h
      unfold f_X10_heads_J17_48 at h
      refine v_iconstE (0 : Int32) dX10_heads_48 (by decide) ?_
      refine v_sub [(0, .ref (B + w0)), (1, .int w1), (3, .int y3)] ⟨rfl, rfl, rfl, trivial⟩ ?_
      exact j49 _ _ _ h
    unfold f_X10_heads_B17 at h
    refine v_iload_n dX10_heads_17 rfl ?_
    refine v_aload_n dX10_heads_18 rfl ?_
    replace h := p_bind_elim h
    obtain ⟨_, q_9, h⟩ := h
    have q_9 := p_ob_spec q_9
    replace h := p_bind_elim h
    obtain ⟨r_7, q_8, h⟩ := h
    refine v_cVr (t_X10_many q_8) cal_X10_many ml_X10_109 sel_X10_many q_9 kk_10 dX10_heads_19 (by omega) (by decide) (by decide) (Nat.le_of_ble_eq_true rfl) rfl ?_
    refine v_icmp_ge 57 dX10_heads_22 (by decide) (fun c_10 => ?_) (fun c_10 => ?_)
    · rw [if_pos c_10] at h
      cases h
      refine v_sub [(1, .int w1), (2, .int s17.1)] ⟨rfl, rfl, trivial⟩ ?_
      exact hk
    · rw [if_neg c_10] at h
      refine v_iload_n dX10_heads_25 rfl ?_
      refine v_aload_n dX10_heads_26 rfl ?_
      refine v_iload_n dX10_heads_27 rfl ?_
      replace h := p_bind_elim h
      obtain ⟨r_11, q_12, h⟩ := h
      refine v_cVr (t_X10_isLowest q_12) cal_X10_isLowest ml_X10_428 sel_X10_isLowest q_9 kk_10 dX10_heads_28 (by omega) (by decide) (by decide) (Nat.le_of_ble_eq_true rfl) rfl ?_
      refine v_if_eq 48 dX10_heads_31 (by decide) (fun c_13 => ?_) (fun c_13 => ?_)
      · rw [if_pos c_13] at h
        refine v_sub [(0, .ref (B + w0)), (1, .int w1), (3, .int s17.2)] ⟨rfl, rfl, rfl, trivial⟩ ?_
        exact j48 _ _ h
      · rw [if_neg c_13] at h
        refine v_aload_n dX10_heads_34 rfl ?_
        refine v_iload_n dX10_heads_35 rfl ?_
        replace h := p_bind_elim h
        obtain ⟨r_18, q_19, h⟩ := h
        refine v_cVr (t_X10_isReached q_19) cal_X10_isReached ml_X10_431 sel_X10_isReached q_9 kk_10 dX10_heads_36 (by omega) (by decide) (by decide) (Nat.le_of_ble_eq_true rfl) rfl ?_
        refine v_if_ne 48 dX10_heads_39 (by decide) (fun c_20 => ?_) (fun c_20 => ?_)
        · rw [if_neg c_20] at h
          refine v_sub [(0, .ref (B + w0)), (1, .int w1), (3, .int s17.2)] ⟨rfl, rfl, rfl, trivial⟩ ?_
          exact j48 _ _ h
        · rw [if_pos c_20] at h
          refine v_iconstE (1 : Int32) dX10_heads_42 (by decide) ?_
          refine v_iload_n dX10_heads_43 rfl ?_
          refine v_ishl dX10_heads_44 ?_
          refine v_goto 49 dX10_heads_45 (by decide) ?_
          refine v_sub [(0, .ref (B + w0)), (1, .int w1), (3, .int s17.2)] ⟨rfl, rfl, rfl, trivial⟩ ?_
          exact j49 _ _ _ h
  unfold f_X10_heads at h
  refine v_sub [(0, .ref (B + p0)), (1, .int p1)] ⟨rfl, rfl, trivial⟩ ?_
  refine v_iload_n dX10_heads_0 rfl ?_
  replace h := p_bind_elim h
  obtain ⟨r_1, q_2, h⟩ := h
  refine v_cSr (t_X10_isBit q_2) cal_X10_isBit ml_X10_125 sta_X10_isBit dX10_heads_1 (by omega) (by decide) (by decide) (Nat.le_of_ble_eq_true rfl) rfl ?_
  refine v_if_ne 9 dX10_heads_4 (by decide) (fun c_3 => ?_) (fun c_3 => ?_)
  · rw [if_neg c_3] at h
    refine v_aload_n dX10_heads_9 rfl ?_
    replace h := p_bind_elim h
    obtain ⟨_, q_6, h⟩ := h
    have q_6 := p_ob_spec q_6
    replace h := p_bind_elim h
    obtain ⟨r_4, q_5, h⟩ := h
    refine v_cVn (t_X10_laysKnots q_5) cal_X10_laysKnots ml_X10_425 sel_X10_laysKnots q_6 kk_10 dX10_heads_10 (by omega) (by decide) (by decide) (Nat.le_of_ble_eq_true rfl) rfl ?_
    refine v_iconstE (0 : Int32) dX10_heads_13 (by decide) ?_
    refine v_istore_n dX10_heads_14 (by decide) ?_
    refine v_sub [(0, .ref (B + p0)), (1, .int p1), (2, .int (0 : Int32))] ⟨rfl, rfl, rfl, trivial⟩ ?_
    refine v_iconstE (0 : Int32) dX10_heads_15 (by decide) ?_
    refine v_istore_n dX10_heads_16 (by decide) ?_
    refine v_sub [(0, .ref (B + p0)), (1, .int p1), (2, .int (0 : Int32)), (3, .int (0 : Int32))] ⟨rfl, rfl, rfl, rfl, trivial⟩ ?_
    replace h := p_bind_elim h
    obtain ⟨q_21, h_22, h⟩ := h
    refine v_sub [(0, .ref (B + p0)), (1, .int p1), (2, .int (0 : Int32)), (3, .int (0 : Int32))] ⟨rfl, rfl, rfl, rfl, trivial⟩ ?_
    refine v_loopV (fun (sP : Int32 × Int32) => V l B D ac (v_EE B wa wb wt sb sL sx) yX10_heads cX10_heads 4 (some .int) d 0 0 0 0 S r_4 J F 17 [(0, .ref (B + p0)), (1, .int p1), (2, .int sP.1), (3, .int sP.2)] [] Q) (fun (rE : Int32 × Int32) => V l B D ac (v_EE B wa wb wt sb sL sx) yX10_heads cX10_heads 4 (some .int) d 0 0 0 0 S r_4 J F 57 [(1, .int p1), (2, .int rE.1)] [] Q) (fun s_ x_ hb hk => b17 _ _ _ s_ x_ hb hk) (r := q_21) ?_ h_22
    try dsimp only
    refine v_iload_n dX10_heads_57 rfl ?_
    refine v_iload_n dX10_heads_58 rfl ?_
    replace h := p_bind_elim h
    obtain ⟨r_23, q_24, h⟩ := h
    refine v_cSr (t_X10_toldOf q_24) cal_X10_toldOf ml_X10_398 sta_X10_toldOf dX10_heads_59 (by omega) (by decide) (by decide) (Nat.le_of_ble_eq_true rfl) rfl ?_
    cases h
    exact v_iret dX10_heads_62 rfl (by decide) (by decide) (by rw [← hQ]; exact ⟨rfl, rfl, rfl, rfl, rfl⟩)
  · rw [if_pos c_3] at h
    refine v_iconstE (-1 : Int32) dX10_heads_7 (by decide) ?_
    cases h
    exact v_iret dX10_heads_8 rfl (by decide) (by decide) (by rw [← hQ]; exact ⟨rfl, rfl, rfl, rfl, rfl⟩)

def f_X10_seen_J17 (S : v_S) (F : v_F) (I : v_I) (y0 : Nat) : Option (Int32 × v_I) :=
(p_ob S 10 y0).bind fun _ =>
(f_X10_refuses S I F y0 (-1 : Int32)).bind fun r_4 =>
some (r_4.1, r_4.2)
def f_X10_seen (S : v_S) (I : v_I) (F : v_F) (p0 : Nat) (p1 : Int32) (p2 : Int32) : Option (Int32 × v_I) :=
(f_X10_lies p1 (0 : Int32) (60 : Int32)).bind fun r_1 =>
if r_1 = (0 : Int32) then (
f_X10_seen_J17 S F I p0)
else (
(f_X10_isBit p2).bind fun r_7 =>
if r_7 = (0 : Int32) then (
f_X10_seen_J17 S F I p0)
else (
(p_ob S 10 p0).bind fun _ =>
(F p0 2).bind fun a_11 =>
(p_ix S 20 a_11 (50 : Int32)).bind fun j_13 =>
p_let ((34 : Int32) + ((2 : Int32) * (I a_11 j_13))) fun x_15 =>
(F p0 2).bind fun a_17 =>
(p_ix S 20 a_17 (50 : Int32)).bind fun j_19 =>
if (I a_17 j_19) = (6 : Int32) then (
(f_X10_refuses S I F p0 (-5 : Int32)).bind fun r_48 =>
some (r_48.1, r_48.2))
else (
(F p0 2).bind fun a_22 =>
(p_ix S 20 a_22 x_15).bind fun j_24 =>
p_let (v_up I a_22 j_24 p1) fun I_26 =>
(F p0 2).bind fun a_28 =>
(p_ix S 20 a_28 (x_15 + (1 : Int32))).bind fun j_30 =>
p_let (v_up I_26 a_28 j_30 p2) fun I_32 =>
(F p0 2).bind fun a_34 =>
(p_ix S 20 a_34 (50 : Int32)).bind fun j_36 =>
(p_ix S 20 a_34 (50 : Int32)).bind fun j_38 =>
p_let (v_up I_32 a_34 j_38 ((I_32 a_34 j_36) + (1 : Int32))) fun I_40 =>
(F p0 2).bind fun a_42 =>
(p_ix S 20 a_42 (50 : Int32)).bind fun j_44 =>
(f_X10_good S I_40 p0 (I_40 a_42 j_44)).bind fun r_46 =>
some (r_46.1, r_46.2))))
set_option maxHeartbeats 4000000 in
set_option maxRecDepth 100000 in
theorem t_X10_seen {p0 : Nat} {p1 : Int32} {p2 : Int32} {r : Int32 × v_I} (h : f_X10_seen S I F p0 p1 p2 = some r) : v_R l B D ac (v_EE B wa wb wt sb sL sx) yX10_seen cX10_seen 4 (some .int) 3 0 0 [.ref (B + p0), .int p1, .int p2] S I J F (v_D (some (.int r.1)) S r.2 J F) := by
  refine v_R.of (by decide) (Nat.le_of_ble_eq_true rfl) fun d hd => ?_
  generalize hQ : v_D (some (.int r.1)) S r.2 J F = Q
  have j17 : ∀ (I : v_I) (y0 : Nat), f_X10_seen_J17 S F I y0 = some r → V l B D ac (v_EE B wa wb wt sb sL sx) yX10_seen cX10_seen 4 (some .int) d 0 0 0 0 S I J F 17 [(0, .ref (B + y0))] [] Q := by
    intro I y0 h
    unfold f_X10_seen_J17 at h
    refine v_aload_n dX10_seen_17 rfl ?_
    refine v_iconstE (-1 : Int32) dX10_seen_18 (by decide) ?_
    replace h := p_bind_elim h
    obtain ⟨_, q_6, h⟩ := h
    have q_6 := p_ob_spec q_6
    replace h := p_bind_elim h
    obtain ⟨r_4, q_5, h⟩ := h
    refine v_cVr (t_X10_refuses q_5) cal_X10_refuses ml_X10_103 sel_X10_refuses q_6 kk_10 dX10_seen_19 (by omega) (by decide) (by decide) (Nat.le_of_ble_eq_true rfl) rfl ?_
    cases h
    exact v_iret dX10_seen_22 rfl (by decide) (by decide) (by rw [← hQ]; exact ⟨rfl, rfl, rfl, rfl, rfl⟩)
  unfold f_X10_seen at h
  refine v_sub [(0, .ref (B + p0)), (1, .int p1), (2, .int p2)] ⟨rfl, rfl, rfl, trivial⟩ ?_
  refine v_iload_n dX10_seen_0 rfl ?_
  refine v_iconstE (0 : Int32) dX10_seen_1 (by decide) ?_
  refine v_bipush (60 : Int32) dX10_seen_2 (by decide) ?_
  replace h := p_bind_elim h
  obtain ⟨r_1, q_2, h⟩ := h
  refine v_cSr (t_X10_lies q_2) cal_X10_lies ml_X10_18 sta_X10_lies dX10_seen_4 (by omega) (by decide) (by decide) (Nat.le_of_ble_eq_true rfl) rfl ?_
  refine v_if_eq 17 dX10_seen_7 (by decide) (fun c_3 => ?_) (fun c_3 => ?_)
  · rw [if_pos c_3] at h
    refine v_sub [(0, .ref (B + p0))] ⟨rfl, trivial⟩ ?_
    exact j17 _ _ h
  · rw [if_neg c_3] at h
    refine v_iload_n dX10_seen_10 rfl ?_
    replace h := p_bind_elim h
    obtain ⟨r_7, q_8, h⟩ := h
    refine v_cSr (t_X10_isBit q_8) cal_X10_isBit ml_X10_125 sta_X10_isBit dX10_seen_11 (by omega) (by decide) (by decide) (Nat.le_of_ble_eq_true rfl) rfl ?_
    refine v_if_ne 23 dX10_seen_14 (by decide) (fun c_9 => ?_) (fun c_9 => ?_)
    · rw [if_neg c_9] at h
      refine v_bipush (34 : Int32) dX10_seen_23 (by decide) ?_
      refine v_iconstE (2 : Int32) dX10_seen_25 (by decide) ?_
      refine v_aload_n dX10_seen_26 rfl ?_
      replace h := p_bind_elim h
      obtain ⟨_, q_10, h⟩ := h
      have q_10 := p_ob_spec q_10
      replace h := p_bind_elim h
      obtain ⟨a_11, q_12, h⟩ := h
      refine v_getR q_12 rfl fl_X10_28 dX10_seen_27 q_10 ?_
      refine v_bipush (50 : Int32) dX10_seen_30 (by decide) ?_
      replace h := p_bind_elim h
      obtain ⟨j_13, q_14, h⟩ := h
      refine v_ialdP dX10_seen_32 q_14 ?_
      refine v_imul dX10_seen_33 ?_
      refine v_iadd dX10_seen_34 ?_
      replace h := p_let_elim h
      obtain ⟨x_15, h_16, h⟩ := h
      rw [← h_16]
      refine v_istore_n dX10_seen_35 (by decide) ?_
      refine v_sub [(0, .ref (B + p0)), (1, .int p1), (2, .int p2), (3, .int x_15)] ⟨rfl, rfl, rfl, rfl, trivial⟩ ?_
      refine v_aload_n dX10_seen_36 rfl ?_
      replace h := p_bind_elim h
      obtain ⟨a_17, q_18, h⟩ := h
      refine v_getR q_18 rfl fl_X10_28 dX10_seen_37 q_10 ?_
      refine v_bipush (50 : Int32) dX10_seen_40 (by decide) ?_
      replace h := p_bind_elim h
      obtain ⟨j_19, q_20, h⟩ := h
      refine v_ialdP dX10_seen_42 q_20 ?_
      refine v_bipush (6 : Int32) dX10_seen_43 (by decide) ?_
      refine v_icmp_ne 55 dX10_seen_45 (by decide) (fun c_21 => ?_) (fun c_21 => ?_)
      · rw [if_neg c_21] at h
        refine v_aload_n dX10_seen_55 rfl ?_
        replace h := p_bind_elim h
        obtain ⟨a_22, q_23, h⟩ := h
        refine v_getR q_23 rfl fl_X10_28 dX10_seen_56 q_10 ?_
        refine v_iload_n dX10_seen_59 rfl ?_
        refine v_iload_n dX10_seen_60 rfl ?_
        replace h := p_bind_elim h
        obtain ⟨j_24, q_25, h⟩ := h
        refine v_iastP dX10_seen_61 q_25 ?_
        replace h := p_let_elim h
        obtain ⟨I_26, h_27, h⟩ := h
        rw [← h_27]
        refine v_aload_n dX10_seen_62 rfl ?_
        replace h := p_bind_elim h
        obtain ⟨a_28, q_29, h⟩ := h
        refine v_getR q_29 rfl fl_X10_28 dX10_seen_63 q_10 ?_
        refine v_iload_n dX10_seen_66 rfl ?_
        refine v_iconstE (1 : Int32) dX10_seen_67 (by decide) ?_
        refine v_iadd dX10_seen_68 ?_
        refine v_iload_n dX10_seen_69 rfl ?_
        replace h := p_bind_elim h
        obtain ⟨j_30, q_31, h⟩ := h
        refine v_iastP dX10_seen_70 q_31 ?_
        replace h := p_let_elim h
        obtain ⟨I_32, h_33, h⟩ := h
        rw [← h_33]
        refine v_aload_n dX10_seen_71 rfl ?_
        replace h := p_bind_elim h
        obtain ⟨a_34, q_35, h⟩ := h
        refine v_getR q_35 rfl fl_X10_28 dX10_seen_72 q_10 ?_
        refine v_bipush (50 : Int32) dX10_seen_75 (by decide) ?_
        refine v_dup2 dX10_seen_77 rfl rfl ?_
        replace h := p_bind_elim h
        obtain ⟨j_36, q_37, h⟩ := h
        refine v_ialdP dX10_seen_78 q_37 ?_
        refine v_iconstE (1 : Int32) dX10_seen_79 (by decide) ?_
        refine v_iadd dX10_seen_80 ?_
        replace h := p_bind_elim h
        obtain ⟨j_38, q_39, h⟩ := h
        refine v_iastP dX10_seen_81 q_39 ?_
        replace h := p_let_elim h
        obtain ⟨I_40, h_41, h⟩ := h
        rw [← h_41]
        refine v_aload_n dX10_seen_82 rfl ?_
        refine v_aload_n dX10_seen_83 rfl ?_
        replace h := p_bind_elim h
        obtain ⟨a_42, q_43, h⟩ := h
        refine v_getR q_43 rfl fl_X10_28 dX10_seen_84 q_10 ?_
        refine v_bipush (50 : Int32) dX10_seen_87 (by decide) ?_
        replace h := p_bind_elim h
        obtain ⟨j_44, q_45, h⟩ := h
        refine v_ialdP dX10_seen_89 q_45 ?_
        replace h := p_bind_elim h
        obtain ⟨r_46, q_47, h⟩ := h
        refine v_cVr (t_X10_good q_47) cal_X10_good ml_X10_14 sel_X10_good q_10 kk_10 dX10_seen_90 (by omega) (by decide) (by decide) (Nat.le_of_ble_eq_true rfl) rfl ?_
        cases h
        exact v_iret dX10_seen_93 rfl (by decide) (by decide) (by rw [← hQ]; exact ⟨rfl, rfl, rfl, rfl, rfl⟩)
      · rw [if_pos c_21] at h
        refine v_aload_n dX10_seen_48 rfl ?_
        refine v_bipush (-5 : Int32) dX10_seen_49 (by decide) ?_
        replace h := p_bind_elim h
        obtain ⟨r_48, q_49, h⟩ := h
        refine v_cVr (t_X10_refuses q_49) cal_X10_refuses ml_X10_103 sel_X10_refuses q_10 kk_10 dX10_seen_51 (by omega) (by decide) (by decide) (Nat.le_of_ble_eq_true rfl) rfl ?_
        cases h
        exact v_iret dX10_seen_54 rfl (by decide) (by decide) (by rw [← hQ]; exact ⟨rfl, rfl, rfl, rfl, rfl⟩)
    · rw [if_pos c_9] at h
      refine v_sub [(0, .ref (B + p0))] ⟨rfl, trivial⟩ ?_
      exact j17 _ _ h

def f_X10_forget (S : v_S) (I : v_I) (F : v_F) (p0 : Nat) : Option (Int32 × v_I) :=
(p_ob S 10 p0).bind fun _ =>
(F p0 2).bind fun a_2 =>
(p_ix S 20 a_2 (50 : Int32)).bind fun j_4 =>
p_let (I a_2 j_4) fun x_6 =>
(F p0 2).bind fun a_8 =>
(p_ix S 20 a_8 (50 : Int32)).bind fun j_10 =>
p_let (v_up I a_8 j_10 (0 : Int32)) fun I_12 =>
some (x_6, I_12)
set_option maxHeartbeats 4000000 in
set_option maxRecDepth 100000 in
theorem t_X10_forget {p0 : Nat} {r : Int32 × v_I} (h : f_X10_forget S I F p0 = some r) : v_R l B D ac (v_EE B wa wb wt sb sL sx) yX10_forget cX10_forget 2 (some .int) 1 0 0 [.ref (B + p0)] S I J F (v_D (some (.int r.1)) S r.2 J F) := by
  refine v_R.of (by decide) (Nat.le_of_ble_eq_true rfl) fun d hd => ?_
  generalize hQ : v_D (some (.int r.1)) S r.2 J F = Q
  unfold f_X10_forget at h
  refine v_sub [(0, .ref (B + p0))] ⟨rfl, trivial⟩ ?_
  refine v_aload_n dX10_forget_0 rfl ?_
  replace h := p_bind_elim h
  obtain ⟨_, q_1, h⟩ := h
  have q_1 := p_ob_spec q_1
  replace h := p_bind_elim h
  obtain ⟨a_2, q_3, h⟩ := h
  refine v_getR q_3 rfl fl_X10_28 dX10_forget_1 q_1 ?_
  refine v_bipush (50 : Int32) dX10_forget_4 (by decide) ?_
  replace h := p_bind_elim h
  obtain ⟨j_4, q_5, h⟩ := h
  refine v_ialdP dX10_forget_6 q_5 ?_
  replace h := p_let_elim h
  obtain ⟨x_6, h_7, h⟩ := h
  rw [← h_7]
  refine v_istore_n dX10_forget_7 (by decide) ?_
  refine v_sub [(0, .ref (B + p0)), (1, .int x_6)] ⟨rfl, rfl, trivial⟩ ?_
  refine v_aload_n dX10_forget_8 rfl ?_
  replace h := p_bind_elim h
  obtain ⟨a_8, q_9, h⟩ := h
  refine v_getR q_9 rfl fl_X10_28 dX10_forget_9 q_1 ?_
  refine v_bipush (50 : Int32) dX10_forget_12 (by decide) ?_
  refine v_iconstE (0 : Int32) dX10_forget_14 (by decide) ?_
  replace h := p_bind_elim h
  obtain ⟨j_10, q_11, h⟩ := h
  refine v_iastP dX10_forget_15 q_11 ?_
  replace h := p_let_elim h
  obtain ⟨I_12, h_13, h⟩ := h
  rw [← h_13]
  refine v_iload_n dX10_forget_16 rfl ?_
  cases h
  exact v_iret dX10_forget_17 rfl (by decide) (by decide) (by rw [← hQ]; exact ⟨rfl, rfl, rfl, rfl, rfl⟩)

def f_X10_asSeen (S : v_S) (I : v_I) (F : v_F) (p0 : Nat) (p1 : Int32) : Option (Int32) :=
(p_ob S 10 p0).bind fun _ =>
(F p0 33).bind fun a_2 =>
(F p0 2).bind fun a_4 =>
(p_ix S 20 a_4 ((34 : Int32) + ((2 : Int32) * p1))).bind fun j_6 =>
(p_ix S 20 a_2 (I a_4 j_6)).bind fun j_8 =>
p_let (I a_2 j_8) fun x_10 =>
(F p0 2).bind fun a_12 =>
(p_ix S 20 a_12 (((34 : Int32) + ((2 : Int32) * p1)) + (1 : Int32))).bind fun j_14 =>
if (I a_12 j_14) = (1 : Int32) then (
some (x_10))
else (
(f_X10_everybody S I F p0).bind fun r_17 =>
some (r_17 &&& (x_10 ^^^ (-1 : Int32))))
set_option maxHeartbeats 4000000 in
set_option maxRecDepth 100000 in
theorem t_X10_asSeen {p0 : Nat} {p1 : Int32} {r : Int32} (h : f_X10_asSeen S I F p0 p1 = some r) : v_R l B D ac (v_EE B wa wb wt sb sL sx) yX10_asSeen cX10_asSeen 3 (some .int) 3 0 0 [.ref (B + p0), .int p1] S I J F (v_D (some (.int r)) S I J F) := by
  refine v_R.of (by decide) (Nat.le_of_ble_eq_true rfl) fun d hd => ?_
  generalize hQ : v_D (some (.int r)) S I J F = Q
  unfold f_X10_asSeen at h
  refine v_sub [(0, .ref (B + p0)), (1, .int p1)] ⟨rfl, rfl, trivial⟩ ?_
  refine v_aload_n dX10_asSeen_0 rfl ?_
  replace h := p_bind_elim h
  obtain ⟨_, q_1, h⟩ := h
  have q_1 := p_ob_spec q_1
  replace h := p_bind_elim h
  obtain ⟨a_2, q_3, h⟩ := h
  refine v_getR q_3 rfl fl_X10_75 dX10_asSeen_1 q_1 ?_
  refine v_aload_n dX10_asSeen_4 rfl ?_
  replace h := p_bind_elim h
  obtain ⟨a_4, q_5, h⟩ := h
  refine v_getR q_5 rfl fl_X10_28 dX10_asSeen_5 q_1 ?_
  refine v_bipush (34 : Int32) dX10_asSeen_8 (by decide) ?_
  refine v_iconstE (2 : Int32) dX10_asSeen_10 (by decide) ?_
  refine v_iload_n dX10_asSeen_11 rfl ?_
  refine v_imul dX10_asSeen_12 ?_
  refine v_iadd dX10_asSeen_13 ?_
  replace h := p_bind_elim h
  obtain ⟨j_6, q_7, h⟩ := h
  refine v_ialdP dX10_asSeen_14 q_7 ?_
  replace h := p_bind_elim h
  obtain ⟨j_8, q_9, h⟩ := h
  refine v_ialdP dX10_asSeen_15 q_9 ?_
  replace h := p_let_elim h
  obtain ⟨x_10, h_11, h⟩ := h
  rw [← h_11]
  refine v_istore_n dX10_asSeen_16 (by decide) ?_
  refine v_sub [(0, .ref (B + p0)), (1, .int p1), (2, .int x_10)] ⟨rfl, rfl, rfl, trivial⟩ ?_
  refine v_aload_n dX10_asSeen_17 rfl ?_
  replace h := p_bind_elim h
  obtain ⟨a_12, q_13, h⟩ := h
  refine v_getR q_13 rfl fl_X10_28 dX10_asSeen_18 q_1 ?_
  refine v_bipush (34 : Int32) dX10_asSeen_21 (by decide) ?_
  refine v_iconstE (2 : Int32) dX10_asSeen_23 (by decide) ?_
  refine v_iload_n dX10_asSeen_24 rfl ?_
  refine v_imul dX10_asSeen_25 ?_
  refine v_iadd dX10_asSeen_26 ?_
  refine v_iconstE (1 : Int32) dX10_asSeen_27 (by decide) ?_
  refine v_iadd dX10_asSeen_28 ?_
  replace h := p_bind_elim h
  obtain ⟨j_14, q_15, h⟩ := h
  refine v_ialdP dX10_asSeen_29 q_15 ?_
  refine v_iconstE (1 : Int32) dX10_asSeen_30 (by decide) ?_
  refine v_icmp_ne 38 dX10_asSeen_31 (by decide) (fun c_16 => ?_) (fun c_16 => ?_)
  · rw [if_neg c_16] at h
    refine v_aload_n dX10_asSeen_38 rfl ?_
    replace h := p_bind_elim h
    obtain ⟨r_17, q_18, h⟩ := h
    refine v_cVr (t_X10_everybody q_18) cal_X10_everybody ml_X10_162 sel_X10_everybody q_1 kk_10 dX10_asSeen_39 (by omega) (by decide) (by decide) (Nat.le_of_ble_eq_true rfl) rfl ?_
    refine v_iload_n dX10_asSeen_42 rfl ?_
    refine v_iconstE (-1 : Int32) dX10_asSeen_43 (by decide) ?_
    refine v_ixor dX10_asSeen_44 ?_
    refine v_iand dX10_asSeen_45 ?_
    cases h
    exact v_iret dX10_asSeen_46 rfl (by decide) (by decide) (by rw [← hQ]; exact ⟨rfl, rfl, rfl, rfl, rfl⟩)
  · rw [if_pos c_16] at h
    refine v_iload_n dX10_asSeen_34 rfl ?_
    refine v_goto 46 dX10_asSeen_35 (by decide) ?_
    cases h
    exact v_iret dX10_asSeen_46 rfl (by decide) (by decide) (by rw [← hQ]; exact ⟨rfl, rfl, rfl, rfl, rfl⟩)

def f_X10_greater (p0 : Int32) (p1 : Int32) : Option (Int32) :=
if p0 ≤ p1 then (
some (p1))
else (
some (p0))
set_option maxHeartbeats 4000000 in
set_option maxRecDepth 100000 in
theorem t_X10_greater {p0 : Int32} {p1 : Int32} {r : Int32} (h : f_X10_greater p0 p1 = some r) : v_R l B D ac (v_EE B wa wb wt sb sL sx) yX10_greater cX10_greater 2 (some .int) 1 0 0 [.int p0, .int p1] S I J F (v_D (some (.int r)) S I J F) := by
  refine v_R.of (by decide) (Nat.le_of_ble_eq_true rfl) fun d hd => ?_
  generalize hQ : v_D (some (.int r)) S I J F = Q
  unfold f_X10_greater at h
  refine v_sub [(0, .int p0), (1, .int p1)] ⟨rfl, rfl, trivial⟩ ?_
  refine v_iload_n dX10_greater_0 rfl ?_
  refine v_iload_n dX10_greater_1 rfl ?_
  refine v_icmp_le 9 dX10_greater_2 (by decide) (fun c_1 => ?_) (fun c_1 => ?_)
  · rw [if_pos c_1] at h
    refine v_iload_n dX10_greater_9 rfl ?_
    cases h
    exact v_iret dX10_greater_10 rfl (by decide) (by decide) (by rw [← hQ]; exact ⟨rfl, rfl, rfl, rfl, rfl⟩)
  · rw [if_neg c_1] at h
    refine v_iload_n dX10_greater_5 rfl ?_
    refine v_goto 10 dX10_greater_6 (by decide) ?_
    cases h
    exact v_iret dX10_greater_10 rfl (by decide) (by decide) (by rw [← hQ]; exact ⟨rfl, rfl, rfl, rfl, rfl⟩)

def f_X10_few_J26_48 (S : v_S) (I : v_I) (F : v_F) (w0 : Nat) (w1 : Int32) (w2 : Int32) (J : v_J) (y3 : Int32) (z0 : Int64) (z1 : Int32) (z2 : Nat) : Option ((Int32 × v_J) ⊕ (Int32 × v_J)) :=
(p_ix S 23 z2 z1).bind fun j_12 =>
p_let (v_up J z2 j_12 z0) fun J_14 =>
p_let (y3 + (1 : Int32)) fun x_16 =>
some (.inl (x_16, J_14))
def f_X10_few_B26 (S : v_S) (I : v_I) (F : v_F) (w0 : Nat) (w1 : Int32) (w2 : Int32) (s26 : Int32 × v_J) : Option ((Int32 × v_J) ⊕ (Int32 × v_J)) :=
if (20 : Int32) < s26.1 then (
some (.inr (s26.1, s26.2)))
else (
(p_ob S 10 w0).bind fun _ =>
(F w0 37).bind fun a_9 =>
if s26.1 = (0 : Int32) then (
f_X10_few_J26_48 S I F w0 w1 w2 s26.2 s26.1 (1000000000000 : Int64) s26.1 a_9)
else (
f_X10_few_J26_48 S I F w0 w1 w2 s26.2 s26.1 (0 : Int64) s26.1 a_9))
def f_X10_few_B67 (S : v_S) (I : v_I) (F : v_F) (w0 : Nat) (w1 : Int32) (w2 : Int32) (w3 : Int32) (s67 : Int32 × v_J) : Option ((Int32 × v_J) ⊕ (Int32 × v_J)) :=
if s67.1 < (0 : Int32) then (
some (.inr (s67.1, s67.2)))
else (
(p_ob S 10 w0).bind fun _ =>
(F w0 37).bind fun a_25 =>
(p_ix S 23 a_25 (s67.1 + (1 : Int32))).bind fun j_27 =>
(F w0 37).bind fun a_29 =>
(p_ix S 23 a_29 s67.1).bind fun j_31 =>
(F w0 2).bind fun a_33 =>
(p_ix S 20 a_33 (46 : Int32)).bind fun j_35 =>
(p_ix S 23 a_25 (s67.1 + (1 : Int32))).bind fun j_37 =>
p_let (v_up s67.2 a_25 j_37 ((s67.2 a_25 j_27) + (((s67.2 a_29 j_31) * ((I a_33 j_35).toInt64)) / (10 : Int64)))) fun J_39 =>
(F w0 37).bind fun a_41 =>
(F w0 37).bind fun a_43 =>
(p_ix S 23 a_43 s67.1).bind fun j_45 =>
(F w0 2).bind fun a_47 =>
(p_ix S 20 a_47 (46 : Int32)).bind fun j_49 =>
(p_ix S 23 a_41 s67.1).bind fun j_51 =>
p_let (v_up J_39 a_41 j_51 (((J_39 a_43 j_45) * (((10 : Int32) - (I a_47 j_49)).toInt64)) / (10 : Int64))) fun J_53 =>
p_let (s67.1 + (-1 : Int32)) fun x_55 =>
some (.inl (x_55, J_53)))
def f_X10_few_B57 (S : v_S) (I : v_I) (F : v_F) (w0 : Nat) (w1 : Int32) (w2 : Int32) (s57 : Int32 × v_J) : Option ((Int32 × v_J) ⊕ (Int32 × v_J)) :=
if w2 ≤ s57.1 then (
some (.inr (s57.1, s57.2)))
else (
p_let (w1 - (1 : Int32)) fun x_21 =>
(v_loop (f_X10_few_B67 S I F w0 w1 w2 s57.1) FU (x_21, s57.2)).bind fun q_57 =>
p_let (s57.1 + (1 : Int32)) fun x_59 =>
some (.inl (x_59, q_57.2)))
def f_X10_few_B151 (S : v_S) (I : v_I) (F : v_F) (J : v_J) (w0 : Nat) (w1 : Int32) (s151 : Int64 × Int32) : Option ((Int64 × Int32) ⊕ (Int64 × Int32)) :=
if w1 ≤ s151.2 then (
some (.inr (s151.1, s151.2)))
else (
(p_ob S 10 w0).bind fun _ =>
(F w0 37).bind fun a_65 =>
(p_ix S 23 a_65 s151.2).bind fun j_67 =>
p_let (s151.1 + (J a_65 j_67)) fun x_69 =>
p_let (s151.2 + (1 : Int32)) fun x_71 =>
some (.inl (x_69, x_71)))
def f_X10_few (S : v_S) (I : v_I) (J : v_J) (F : v_F) (p0 : Nat) (p1 : Int32) (p2 : Int32) : Option (Int64 × v_J) :=
(f_X10_lies p1 (1 : Int32) (20 : Int32)).bind fun r_1 =>
if r_1 = (0 : Int32) then (
some ((-1 : Int64), J))
else (
(f_X10_lies p2 (0 : Int32) (99 : Int32)).bind fun r_4 =>
if r_4 = (0 : Int32) then (
some ((-1 : Int64), J))
else (
(v_loop (f_X10_few_B26 S I F p0 p1 p2) FU ((0 : Int32), J)).bind fun q_18 =>
(v_loop (f_X10_few_B57 S I F p0 p1 p2) FU ((0 : Int32), q_18.2)).bind fun q_61 =>
(v_loop (f_X10_few_B151 S I F q_61.2 p0 p1) FU ((0 : Int64), (0 : Int32))).bind fun q_73 =>
some (q_73.1, q_61.2)))
set_option maxHeartbeats 4000000 in
set_option maxRecDepth 100000 in
theorem t_X10_few {p0 : Nat} {p1 : Int32} {p2 : Int32} {r : Int64 × v_J} (h : f_X10_few S I J F p0 p1 p2 = some r) : v_R l B D ac (v_EE B wa wb wt sb sL sx) yX10_few cX10_few 6 (some .long) 2 0 0 [.ref (B + p0), .int p1, .int p2] S I J F (v_D (some (.long r.1)) S I r.2 F) := by
  refine v_R.of (by decide) (Nat.le_of_ble_eq_true rfl) fun d hd => ?_
  generalize hQ : v_D (some (.long r.1)) S I r.2 F = Q
  have b26 : ∀ (w0 : Nat) (w1 : Int32) (w2 : Int32) (s26 : Int32 × v_J) (rx26 : (Int32 × v_J) ⊕ (Int32 × v_J)), f_X10_few_B26 S I F w0 w1 w2 s26 = some rx26 → v_K (fun (sP : Int32 × v_J) => V l B D ac (v_EE B wa wb wt sb sL sx) yX10_few cX10_few 6 (some .long) d 0 0 0 0 S I sP.2 F 26 [(0, .ref (B + w0)), (1, .int w1), (2, .int w2), (3, .int sP.1)] [] Q) (fun (rE : Int32 × v_J) => V l B D ac (v_EE B wa wb wt sb sL sx) yX10_few cX10_few 6 (some .long) d 0 0 0 0 S I rE.2 F 55 [(0, .ref (B + w0)), (1, .int w1), (2, .int w2)] [] Q) rx26 → V l B D ac (v_EE B wa wb wt sb sL sx) yX10_few cX10_few 6 (some .long) d 0 0 0 0 S I s26.2 F 26 [(0, .ref (B + w0)), (1, .int w1), (2, .int w2), (3, .int s26.1)] [] Q := by
    intro w0 w1 w2 s26 rx26 h hk
    have j48 : ∀ (J : v_J) (y3 : Int32) (z0 : Int64) (z1 : Int32) (z2 : Nat), f_X10_few_J26_48 S I F w0 w1 w2 J y3 z0 z1 z2 = some rx26 → V l B D ac (v_EE B wa wb wt sb sL sx) yX10_few cX10_few 6 (some .long) d 0 0 0 0 S I J F 48 [(0, .ref (B + w0)), (1, .int w1), (2, .int w2), (3, .int y3)] [.long z0, .int z1, .ref (B + z2)] Q := by
      intro J y3 z0 z1 z2 h
      unfold f_X10_few_J26_48 at h
      replace h := p_bind_elim h
      obtain ⟨j_12, q_13, h⟩ := h
      refine v_lastP dX10_few_48 q_13 ?_
      replace h := p_let_elim h
      obtain ⟨J_14, h_15, h⟩ := h
      rw [← h_15]
      replace h := p_let_elim h
      obtain ⟨x_16, h_17, h⟩ := h
      refine v_iincE (1 : Int32) dX10_few_49 (by decide) rfl (by decide) ?_
      rw [← h_17]
      refine v_sub [(0, .ref (B + w0)), (1, .int w1), (2, .int w2), (3, .int x_16)] ⟨rfl, rfl, rfl, rfl, trivial⟩ ?_
      refine v_goto 26 dX10_few_52 (by decide) ?_
      cases h
      refine v_sub [(0, .ref (B + w0)), (1, .int w1), (2, .int w2), (3, .int x_16)] ⟨rfl, rfl, rfl, rfl, trivial⟩ ?_
      exact hk
    unfold f_X10_few_B26 at h
    refine v_iload_n dX10_few_26 rfl ?_
    refine v_bipush (20 : Int32) dX10_few_27 (by decide) ?_
    refine v_icmp_gt 55 dX10_few_29 (by decide) (fun c_7 => ?_) (fun c_7 => ?_)
    · rw [if_pos c_7] at h
      cases h
      refine v_sub [(0, .ref (B + w0)), (1, .int w1), (2, .int w2)] ⟨rfl, rfl, rfl, trivial⟩ ?_
      exact hk
    · rw [if_neg c_7] at h
      refine v_aload_n dX10_few_32 rfl ?_
      replace h := p_bind_elim h
      obtain ⟨_, q_8, h⟩ := h
      have q_8 := p_ob_spec q_8
      replace h := p_bind_elim h
      obtain ⟨a_9, q_10, h⟩ := h
      refine v_getR q_10 rfl fl_X10_87 dX10_few_33 q_8 ?_
      refine v_iload_n dX10_few_36 rfl ?_
      refine v_iload_n dX10_few_37 rfl ?_
      refine v_if_ne 47 dX10_few_38 (by decide) (fun c_11 => ?_) (fun c_11 => ?_)
      · rw [if_neg c_11] at h
        refine v_lconst (0 : Int64) dX10_few_47 (by decide) ?_
        refine v_sub [(0, .ref (B + w0)), (1, .int w1), (2, .int w2), (3, .int s26.1)] ⟨rfl, rfl, rfl, rfl, trivial⟩ ?_
        exact j48 _ _ _ _ _ h
      · rw [if_pos c_11] at h
        refine v_ldc2 (1000000000000 : Int64) dX10_few_41 kn_X10_445 ?_
        refine v_goto 48 dX10_few_44 (by decide) ?_
        refine v_sub [(0, .ref (B + w0)), (1, .int w1), (2, .int w2), (3, .int s26.1)] ⟨rfl, rfl, rfl, rfl, trivial⟩ ?_
        exact j48 _ _ _ _ _ h
  have b57 : ∀ (w0 : Nat) (w1 : Int32) (w2 : Int32) (s57 : Int32 × v_J) (rx57 : (Int32 × v_J) ⊕ (Int32 × v_J)), f_X10_few_B57 S I F w0 w1 w2 s57 = some rx57 → v_K (fun (sP : Int32 × v_J) => V l B D ac (v_EE B wa wb wt sb sL sx) yX10_few cX10_few 6 (some .long) d 0 0 0 0 S I sP.2 F 57 [(0, .ref (B + w0)), (1, .int w1), (2, .int w2), (3, .int sP.1)] [] Q) (fun (rE : Int32 × v_J) => V l B D ac (v_EE B wa wb wt sb sL sx) yX10_few cX10_few 6 (some .long) d 0 0 0 0 S I rE.2 F 146 [(0, .ref (B + w0)), (1, .int w1)] [] Q) rx57 → V l B D ac (v_EE B wa wb wt sb sL sx) yX10_few cX10_few 6 (some .long) d 0 0 0 0 S I s57.2 F 57 [(0, .ref (B + w0)), (1, .int w1), (2, .int w2), (3, .int s57.1)] [] Q := by
    intro w0 w1 w2 s57 rx57 h hk
    have b67 : ∀ (w0 : Nat) (w1 : Int32) (w2 : Int32) (w3 : Int32) (s67 : Int32 × v_J) (rx67 : (Int32 × v_J) ⊕ (Int32 × v_J)), f_X10_few_B67 S I F w0 w1 w2 w3 s67 = some rx67 → v_K (fun (sP : Int32 × v_J) => V l B D ac (v_EE B wa wb wt sb sL sx) yX10_few cX10_few 6 (some .long) d 0 0 0 0 S I sP.2 F 67 [(0, .ref (B + w0)), (1, .int w1), (2, .int w2), (3, .int w3), (4, .int sP.1)] [] Q) (fun (rE : Int32 × v_J) => V l B D ac (v_EE B wa wb wt sb sL sx) yX10_few cX10_few 6 (some .long) d 0 0 0 0 S I rE.2 F 140 [(0, .ref (B + w0)), (1, .int w1), (2, .int w2), (3, .int w3)] [] Q) rx67 → V l B D ac (v_EE B wa wb wt sb sL sx) yX10_few cX10_few 6 (some .long) d 0 0 0 0 S I s67.2 F 67 [(0, .ref (B + w0)), (1, .int w1), (2, .int w2), (3, .int w3), (4, .int s67.1)] [] Q := by
      intro w0 w1 w2 w3 s67 rx67 h hk
      unfold f_X10_few_B67 at h
      refine v_iload dX10_few_67 rfl ?_
      refine v_if_lt 140 dX10_few_69 (by decide) (fun c_23 => ?_) (fun c_23 => ?_)
      · rw [if_pos c_23] at h
        cases h
        refine v_sub [(0, .ref (B + w0)), (1, .int w1), (2, .int w2), (3, .int w3)] ⟨rfl, rfl, rfl, rfl, trivial⟩ ?_
        exact hk
      · rw [if_neg c_23] at h
        refine v_aload_n dX10_few_72 rfl ?_
        replace h := p_bind_elim h
        obtain ⟨_, q_24, h⟩ := h
        have q_24 := p_ob_spec q_24
        replace h := p_bind_elim h
        obtain ⟨a_25, q_26, h⟩ := h
        refine v_getR q_26 rfl fl_X10_87 dX10_few_73 q_24 ?_
        refine v_iload dX10_few_76 rfl ?_
        refine v_iconstE (1 : Int32) dX10_few_78 (by decide) ?_
        refine v_iadd dX10_few_79 ?_
        refine v_dup2 dX10_few_80 rfl rfl ?_
        replace h := p_bind_elim h
        obtain ⟨j_27, q_28, h⟩ := h
        refine v_laldP dX10_few_81 q_28 ?_
        refine v_aload_n dX10_few_82 rfl ?_
        replace h := p_bind_elim h
        obtain ⟨a_29, q_30, h⟩ := h
        refine v_getR q_30 rfl fl_X10_87 dX10_few_83 q_24 ?_
        refine v_iload dX10_few_86 rfl ?_
        replace h := p_bind_elim h
        obtain ⟨j_31, q_32, h⟩ := h
        refine v_laldP dX10_few_88 q_32 ?_
        refine v_aload_n dX10_few_89 rfl ?_
        replace h := p_bind_elim h
        obtain ⟨a_33, q_34, h⟩ := h
        refine v_getR q_34 rfl fl_X10_28 dX10_few_90 q_24 ?_
        refine v_bipush (46 : Int32) dX10_few_93 (by decide) ?_
        replace h := p_bind_elim h
        obtain ⟨j_35, q_36, h⟩ := h
        refine v_ialdP dX10_few_95 q_36 ?_
        refine v_i2l dX10_few_96 ?_
        refine v_lmul dX10_few_97 ?_
        refine v_ldc2 (10 : Int64) dX10_few_98 kn_X10_447 ?_
        refine v_ldiv dX10_few_101 (by decide) ?_
        refine v_ladd dX10_few_102 ?_
        replace h := p_bind_elim h
        obtain ⟨j_37, q_38, h⟩ := h
        refine v_lastP dX10_few_103 q_38 ?_
        replace h := p_let_elim h
        obtain ⟨J_39, h_40, h⟩ := h
        rw [← h_40]
        refine v_aload_n dX10_few_104 rfl ?_
        replace h := p_bind_elim h
        obtain ⟨a_41, q_42, h⟩ := h
        refine v_getR q_42 rfl fl_X10_87 dX10_few_105 q_24 ?_
        refine v_iload dX10_few_108 rfl ?_
        refine v_aload_n dX10_few_110 rfl ?_
        replace h := p_bind_elim h
        obtain ⟨a_43, q_44, h⟩ := h
        refine v_getR q_44 rfl fl_X10_87 dX10_few_111 q_24 ?_
        refine v_iload dX10_few_114 rfl ?_
        replace h := p_bind_elim h
        obtain ⟨j_45, q_46, h⟩ := h
        refine v_laldP dX10_few_116 q_46 ?_
        refine v_bipush (10 : Int32) dX10_few_117 (by decide) ?_
        refine v_aload_n dX10_few_119 rfl ?_
        replace h := p_bind_elim h
        obtain ⟨a_47, q_48, h⟩ := h
        refine v_getR q_48 rfl fl_X10_28 dX10_few_120 q_24 ?_
        refine v_bipush (46 : Int32) dX10_few_123 (by decide) ?_
        replace h := p_bind_elim h
        obtain ⟨j_49, q_50, h⟩ := h
        refine v_ialdP dX10_few_125 q_50 ?_
        refine v_isub dX10_few_126 ?_
        refine v_i2l dX10_few_127 ?_
        refine v_lmul dX10_few_128 ?_
        refine v_ldc2 (10 : Int64) dX10_few_129 kn_X10_447 ?_
        refine v_ldiv dX10_few_132 (by decide) ?_
        replace h := p_bind_elim h
        obtain ⟨j_51, q_52, h⟩ := h
        refine v_lastP dX10_few_133 q_52 ?_
        replace h := p_let_elim h
        obtain ⟨J_53, h_54, h⟩ := h
        rw [← h_54]
        replace h := p_let_elim h
        obtain ⟨x_55, h_56, h⟩ := h
        refine v_iincE (-1 : Int32) dX10_few_134 (by decide) rfl (by decide) ?_
        rw [← h_56]
        refine v_sub [(0, .ref (B + w0)), (1, .int w1), (2, .int w2), (3, .int w3), (4, .int x_55)] ⟨rfl, rfl, rfl, rfl, rfl, trivial⟩ ?_
        refine v_goto 67 dX10_few_137 (by decide) ?_
        cases h
        refine v_sub [(0, .ref (B + w0)), (1, .int w1), (2, .int w2), (3, .int w3), (4, .int x_55)] ⟨rfl, rfl, rfl, rfl, rfl, trivial⟩ ?_
        exact hk
    unfold f_X10_few_B57 at h
    refine v_iload_n dX10_few_57 rfl ?_
    refine v_iload_n dX10_few_58 rfl ?_
    refine v_icmp_ge 146 dX10_few_59 (by decide) (fun c_20 => ?_) (fun c_20 => ?_)
    · rw [if_pos c_20] at h
      cases h
      refine v_sub [(0, .ref (B + w0)), (1, .int w1)] ⟨rfl, rfl, trivial⟩ ?_
      exact hk
    · rw [if_neg c_20] at h
      refine v_iload_n dX10_few_62 rfl ?_
      refine v_iconstE (1 : Int32) dX10_few_63 (by decide) ?_
      refine v_isub dX10_few_64 ?_
      replace h := p_let_elim h
      obtain ⟨x_21, h_22, h⟩ := h
      rw [← h_22]
      refine v_istore dX10_few_65 (by decide) ?_
      refine v_sub [(0, .ref (B + w0)), (1, .int w1), (2, .int w2), (3, .int s57.1), (4, .int x_21)] ⟨rfl, rfl, rfl, rfl, rfl, trivial⟩ ?_
      replace h := p_bind_elim h
      obtain ⟨q_57, h_58, h⟩ := h
      refine v_sub [(0, .ref (B + w0)), (1, .int w1), (2, .int w2), (3, .int s57.1), (4, .int x_21)] ⟨rfl, rfl, rfl, rfl, rfl, trivial⟩ ?_
      refine v_loopV (fun (sP : Int32 × v_J) => V l B D ac (v_EE B wa wb wt sb sL sx) yX10_few cX10_few 6 (some .long) d 0 0 0 0 S I sP.2 F 67 [(0, .ref (B + w0)), (1, .int w1), (2, .int w2), (3, .int s57.1), (4, .int sP.1)] [] Q) (fun (rE : Int32 × v_J) => V l B D ac (v_EE B wa wb wt sb sL sx) yX10_few cX10_few 6 (some .long) d 0 0 0 0 S I rE.2 F 140 [(0, .ref (B + w0)), (1, .int w1), (2, .int w2), (3, .int s57.1)] [] Q) (fun s_ x_ hb hk => b67 _ _ _ _ s_ x_ hb hk) (r := q_57) ?_ h_58
      try dsimp only
      replace h := p_let_elim h
      obtain ⟨x_59, h_60, h⟩ := h
      refine v_iincE (1 : Int32) dX10_few_140 (by decide) rfl (by decide) ?_
      rw [← h_60]
      refine v_sub [(0, .ref (B + w0)), (1, .int w1), (2, .int w2), (3, .int x_59)] ⟨rfl, rfl, rfl, rfl, trivial⟩ ?_
      refine v_goto 57 dX10_few_143 (by decide) ?_
      cases h
      refine v_sub [(0, .ref (B + w0)), (1, .int w1), (2, .int w2), (3, .int x_59)] ⟨rfl, rfl, rfl, rfl, trivial⟩ ?_
      exact hk
  have b151 : ∀ (J : v_J) (w0 : Nat) (w1 : Int32) (s151 : Int64 × Int32) (rx151 : (Int64 × Int32) ⊕ (Int64 × Int32)), f_X10_few_B151 S I F J w0 w1 s151 = some rx151 → v_K (fun (sP : Int64 × Int32) => V l B D ac (v_EE B wa wb wt sb sL sx) yX10_few cX10_few 6 (some .long) d 0 0 0 0 S I J F 151 [(0, .ref (B + w0)), (1, .int w1), (3, .long sP.1), (5, .int sP.2)] [] Q) (fun (rE : Int64 × Int32) => V l B D ac (v_EE B wa wb wt sb sL sx) yX10_few cX10_few 6 (some .long) d 0 0 0 0 S I J F 173 [(3, .long rE.1)] [] Q) rx151 → V l B D ac (v_EE B wa wb wt sb sL sx) yX10_few cX10_few 6 (some .long) d 0 0 0 0 S I J F 151 [(0, .ref (B + w0)), (1, .int w1), (3, .long s151.1), (5, .int s151.2)] [] Q := by
    intro J w0 w1 s151 rx151 h hk
    unfold f_X10_few_B151 at h
    refine v_iload dX10_few_151 rfl ?_
    refine v_iload_n dX10_few_153 rfl ?_
    refine v_icmp_ge 173 dX10_few_154 (by decide) (fun c_63 => ?_) (fun c_63 => ?_)
    · rw [if_pos c_63] at h
      cases h
      refine v_sub [(3, .long s151.1)] ⟨rfl, trivial⟩ ?_
      exact hk
    · rw [if_neg c_63] at h
      refine v_lload_n dX10_few_157 rfl ?_
      refine v_aload_n dX10_few_158 rfl ?_
      replace h := p_bind_elim h
      obtain ⟨_, q_64, h⟩ := h
      have q_64 := p_ob_spec q_64
      replace h := p_bind_elim h
      obtain ⟨a_65, q_66, h⟩ := h
      refine v_getR q_66 rfl fl_X10_87 dX10_few_159 q_64 ?_
      refine v_iload dX10_few_162 rfl ?_
      replace h := p_bind_elim h
      obtain ⟨j_67, q_68, h⟩ := h
      refine v_laldP dX10_few_164 q_68 ?_
      refine v_ladd dX10_few_165 ?_
      replace h := p_let_elim h
      obtain ⟨x_69, h_70, h⟩ := h
      rw [← h_70]
      refine v_lstore_n dX10_few_166 (by decide) ?_
      refine v_sub [(0, .ref (B + w0)), (1, .int w1), (3, .long x_69), (5, .int s151.2)] ⟨rfl, rfl, rfl, rfl, trivial⟩ ?_
      replace h := p_let_elim h
      obtain ⟨x_71, h_72, h⟩ := h
      refine v_iincE (1 : Int32) dX10_few_167 (by decide) rfl (by decide) ?_
      rw [← h_72]
      refine v_sub [(0, .ref (B + w0)), (1, .int w1), (3, .long x_69), (5, .int x_71)] ⟨rfl, rfl, rfl, rfl, trivial⟩ ?_
      refine v_goto 151 dX10_few_170 (by decide) ?_
      cases h
      refine v_sub [(0, .ref (B + w0)), (1, .int w1), (3, .long x_69), (5, .int x_71)] ⟨rfl, rfl, rfl, rfl, trivial⟩ ?_
      exact hk
  unfold f_X10_few at h
  refine v_sub [(0, .ref (B + p0)), (1, .int p1), (2, .int p2)] ⟨rfl, rfl, rfl, trivial⟩ ?_
  refine v_iload_n dX10_few_0 rfl ?_
  refine v_iconstE (1 : Int32) dX10_few_1 (by decide) ?_
  refine v_bipush (20 : Int32) dX10_few_2 (by decide) ?_
  replace h := p_bind_elim h
  obtain ⟨r_1, q_2, h⟩ := h
  refine v_cSr (t_X10_lies q_2) cal_X10_lies ml_X10_18 sta_X10_lies dX10_few_4 (by omega) (by decide) (by decide) (Nat.le_of_ble_eq_true rfl) rfl ?_
  refine v_if_eq 20 dX10_few_7 (by decide) (fun c_3 => ?_) (fun c_3 => ?_)
  · rw [if_pos c_3] at h
    refine v_ldc2 (-1 : Int64) dX10_few_20 kn_X10_443 ?_
    cases h
    exact v_lret dX10_few_23 rfl (by decide) (by decide) (by rw [← hQ]; exact ⟨rfl, rfl, rfl, rfl, rfl⟩)
  · rw [if_neg c_3] at h
    refine v_iload_n dX10_few_10 rfl ?_
    refine v_iconstE (0 : Int32) dX10_few_11 (by decide) ?_
    refine v_bipush (99 : Int32) dX10_few_12 (by decide) ?_
    replace h := p_bind_elim h
    obtain ⟨r_4, q_5, h⟩ := h
    refine v_cSr (t_X10_lies q_5) cal_X10_lies ml_X10_18 sta_X10_lies dX10_few_14 (by omega) (by decide) (by decide) (Nat.le_of_ble_eq_true rfl) rfl ?_
    refine v_if_ne 24 dX10_few_17 (by decide) (fun c_6 => ?_) (fun c_6 => ?_)
    · rw [if_neg c_6] at h
      refine v_iconstE (0 : Int32) dX10_few_24 (by decide) ?_
      refine v_istore_n dX10_few_25 (by decide) ?_
      refine v_sub [(0, .ref (B + p0)), (1, .int p1), (2, .int p2), (3, .int (0 : Int32))] ⟨rfl, rfl, rfl, rfl, trivial⟩ ?_
      replace h := p_bind_elim h
      obtain ⟨q_18, h_19, h⟩ := h
      refine v_sub [(0, .ref (B + p0)), (1, .int p1), (2, .int p2), (3, .int (0 : Int32))] ⟨rfl, rfl, rfl, rfl, trivial⟩ ?_
      refine v_loopV (fun (sP : Int32 × v_J) => V l B D ac (v_EE B wa wb wt sb sL sx) yX10_few cX10_few 6 (some .long) d 0 0 0 0 S I sP.2 F 26 [(0, .ref (B + p0)), (1, .int p1), (2, .int p2), (3, .int sP.1)] [] Q) (fun (rE : Int32 × v_J) => V l B D ac (v_EE B wa wb wt sb sL sx) yX10_few cX10_few 6 (some .long) d 0 0 0 0 S I rE.2 F 55 [(0, .ref (B + p0)), (1, .int p1), (2, .int p2)] [] Q) (fun s_ x_ hb hk => b26 _ _ _ s_ x_ hb hk) (r := q_18) ?_ h_19
      try dsimp only
      refine v_iconstE (0 : Int32) dX10_few_55 (by decide) ?_
      refine v_istore_n dX10_few_56 (by decide) ?_
      refine v_sub [(0, .ref (B + p0)), (1, .int p1), (2, .int p2), (3, .int (0 : Int32))] ⟨rfl, rfl, rfl, rfl, trivial⟩ ?_
      replace h := p_bind_elim h
      obtain ⟨q_61, h_62, h⟩ := h
      refine v_sub [(0, .ref (B + p0)), (1, .int p1), (2, .int p2), (3, .int (0 : Int32))] ⟨rfl, rfl, rfl, rfl, trivial⟩ ?_
      refine v_loopV (fun (sP : Int32 × v_J) => V l B D ac (v_EE B wa wb wt sb sL sx) yX10_few cX10_few 6 (some .long) d 0 0 0 0 S I sP.2 F 57 [(0, .ref (B + p0)), (1, .int p1), (2, .int p2), (3, .int sP.1)] [] Q) (fun (rE : Int32 × v_J) => V l B D ac (v_EE B wa wb wt sb sL sx) yX10_few cX10_few 6 (some .long) d 0 0 0 0 S I rE.2 F 146 [(0, .ref (B + p0)), (1, .int p1)] [] Q) (fun s_ x_ hb hk => b57 _ _ _ s_ x_ hb hk) (r := q_61) ?_ h_62
      try dsimp only
      refine v_lconst (0 : Int64) dX10_few_146 (by decide) ?_
      refine v_lstore_n dX10_few_147 (by decide) ?_
      refine v_sub [(0, .ref (B + p0)), (1, .int p1), (3, .long (0 : Int64))] ⟨rfl, rfl, rfl, trivial⟩ ?_
      refine v_iconstE (0 : Int32) dX10_few_148 (by decide) ?_
      refine v_istore dX10_few_149 (by decide) ?_
      refine v_sub [(0, .ref (B + p0)), (1, .int p1), (3, .long (0 : Int64)), (5, .int (0 : Int32))] ⟨rfl, rfl, rfl, rfl, trivial⟩ ?_
      replace h := p_bind_elim h
      obtain ⟨q_73, h_74, h⟩ := h
      refine v_sub [(0, .ref (B + p0)), (1, .int p1), (3, .long (0 : Int64)), (5, .int (0 : Int32))] ⟨rfl, rfl, rfl, rfl, trivial⟩ ?_
      refine v_loopV (fun (sP : Int64 × Int32) => V l B D ac (v_EE B wa wb wt sb sL sx) yX10_few cX10_few 6 (some .long) d 0 0 0 0 S I q_61.2 F 151 [(0, .ref (B + p0)), (1, .int p1), (3, .long sP.1), (5, .int sP.2)] [] Q) (fun (rE : Int64 × Int32) => V l B D ac (v_EE B wa wb wt sb sL sx) yX10_few cX10_few 6 (some .long) d 0 0 0 0 S I q_61.2 F 173 [(3, .long rE.1)] [] Q) (fun s_ x_ hb hk => b151 _ _ _ s_ x_ hb hk) (r := q_73) ?_ h_74
      try dsimp only
      refine v_lload_n dX10_few_173 rfl ?_
      cases h
      exact v_lret dX10_few_174 rfl (by decide) (by decide) (by rw [← hQ]; exact ⟨rfl, rfl, rfl, rfl, rfl⟩)
    · rw [if_pos c_6] at h
      refine v_ldc2 (-1 : Int64) dX10_few_20 kn_X10_443 ?_
      cases h
      exact v_lret dX10_few_23 rfl (by decide) (by decide) (by rw [← hQ]; exact ⟨rfl, rfl, rfl, rfl, rfl⟩)

def f_X10_stopped (S : v_S) (I : v_I) (p0 : Nat) : Option (Int32) :=
(p_ob S 10 p0).bind fun _ =>
some (I p0 38)
set_option maxHeartbeats 4000000 in
set_option maxRecDepth 100000 in
theorem t_X10_stopped {p0 : Nat} {r : Int32} (h : f_X10_stopped S I p0 = some r) : v_R l B D ac (v_EE B wa wb wt sb sL sx) yX10_stopped cX10_stopped 1 (some .int) 1 0 0 [.ref (B + p0)] S I J F (v_D (some (.int r)) S I J F) := by
  refine v_R.of (by decide) (Nat.le_of_ble_eq_true rfl) fun d hd => ?_
  generalize hQ : v_D (some (.int r)) S I J F = Q
  unfold f_X10_stopped at h
  refine v_sub [(0, .ref (B + p0))] ⟨rfl, trivial⟩ ?_
  refine v_aload_n dX10_stopped_0 rfl ?_
  replace h := p_bind_elim h
  obtain ⟨_, q_1, h⟩ := h
  have q_1 := p_ob_spec q_1
  refine v_getI rfl fl_X10_91 dX10_stopped_1 q_1 ?_
  cases h
  exact v_iret dX10_stopped_4 rfl (by decide) (by decide) (by rw [← hQ]; exact ⟨rfl, rfl, rfl, rfl, rfl⟩)

def f_X10_small (p0 : Int64) : Option (Int32) :=
if (lg_cmp p0 (0 : Int64)) < (0 : Int32) then (
some ((-1 : Int32)))
else (
if (lg_cmp p0 (1000000 : Int64)) ≤ (0 : Int32) then (
some (p0.toInt32))
else (
some ((-1 : Int32))))
set_option maxHeartbeats 4000000 in
set_option maxRecDepth 100000 in
theorem t_X10_small {p0 : Int64} {r : Int32} (h : f_X10_small p0 = some r) : v_R l B D ac (v_EE B wa wb wt sb sL sx) yX10_small cX10_small 2 (some .int) 1 0 0 [.long p0] S I J F (v_D (some (.int r)) S I J F) := by
  refine v_R.of (by decide) (Nat.le_of_ble_eq_true rfl) fun d hd => ?_
  generalize hQ : v_D (some (.int r)) S I J F = Q
  unfold f_X10_small at h
  refine v_sub [(0, .long p0)] ⟨rfl, trivial⟩ ?_
  refine v_lload_n dX10_small_0 rfl ?_
  refine v_lconst (0 : Int64) dX10_small_1 (by decide) ?_
  refine v_lcmp dX10_small_2 ?_
  refine v_if_lt 14 dX10_small_3 (by decide) (fun c_1 => ?_) (fun c_1 => ?_)
  · rw [if_pos c_1] at h
    refine v_iconstE (-1 : Int32) dX10_small_14 (by decide) ?_
    refine v_goto 20 dX10_small_15 (by decide) ?_
    cases h
    exact v_iret dX10_small_20 rfl (by decide) (by decide) (by rw [← hQ]; exact ⟨rfl, rfl, rfl, rfl, rfl⟩)
  · rw [if_neg c_1] at h
    refine v_lload_n dX10_small_6 rfl ?_
    refine v_ldc2 (1000000 : Int64) dX10_small_7 kn_X10_467 ?_
    refine v_lcmp dX10_small_10 ?_
    refine v_if_le 18 dX10_small_11 (by decide) (fun c_2 => ?_) (fun c_2 => ?_)
    · rw [if_pos c_2] at h
      refine v_lload_n dX10_small_18 rfl ?_
      refine v_l2i dX10_small_19 ?_
      cases h
      exact v_iret dX10_small_20 rfl (by decide) (by decide) (by rw [← hQ]; exact ⟨rfl, rfl, rfl, rfl, rfl⟩)
    · rw [if_neg c_2] at h
      refine v_iconstE (-1 : Int32) dX10_small_14 (by decide) ?_
      refine v_goto 20 dX10_small_15 (by decide) ?_
      cases h
      exact v_iret dX10_small_20 rfl (by decide) (by decide) (by rw [← hQ]; exact ⟨rfl, rfl, rfl, rfl, rfl⟩)

def f_X10_draws (S : v_S) (I : v_I) (p0 : Nat) (p1 : Int32) : Option (Int32 × v_I) :=
(p_ob S 10 p0).bind fun _ =>
p_let (v_up I p0 47 (((((1103 : Int64) * ((I p0 47).toInt64)) + (12345 : Int64)) - (((1103 : Int64) * ((I p0 47).toInt64)) + (12345 : Int64)) / (1000003 : Int64) * (1000003 : Int64)).toInt32)) fun I_2 =>
(p_nz32 p1).bind fun _ =>
some ((I_2 p0 47) - (I_2 p0 47) / p1 * p1, I_2)
set_option maxHeartbeats 4000000 in
set_option maxRecDepth 100000 in
theorem t_X10_draws {p0 : Nat} {p1 : Int32} {r : Int32 × v_I} (h : f_X10_draws S I p0 p1 = some r) : v_R l B D ac (v_EE B wa wb wt sb sL sx) yX10_draws cX10_draws 2 (some .int) 1 0 0 [.ref (B + p0), .int p1] S I J F (v_D (some (.int r.1)) S r.2 J F) := by
  refine v_R.of (by decide) (Nat.le_of_ble_eq_true rfl) fun d hd => ?_
  generalize hQ : v_D (some (.int r.1)) S r.2 J F = Q
  unfold f_X10_draws at h
  refine v_sub [(0, .ref (B + p0)), (1, .int p1)] ⟨rfl, rfl, trivial⟩ ?_
  refine v_aload_n dX10_draws_0 rfl ?_
  refine v_ldc2 (1103 : Int64) dX10_draws_1 kn_X10_480 ?_
  refine v_aload_n dX10_draws_4 rfl ?_
  replace h := p_bind_elim h
  obtain ⟨_, q_1, h⟩ := h
  have q_1 := p_ob_spec q_1
  refine v_getI rfl fl_X10_482 dX10_draws_5 q_1 ?_
  refine v_i2l dX10_draws_8 ?_
  refine v_lmul dX10_draws_9 ?_
  refine v_ldc2 (12345 : Int64) dX10_draws_10 kn_X10_485 ?_
  refine v_ladd dX10_draws_13 ?_
  refine v_ldc2 (1000003 : Int64) dX10_draws_14 kn_X10_487 ?_
  refine v_lrem dX10_draws_17 (by decide) ?_
  refine v_l2i dX10_draws_18 ?_
  refine v_putI rfl fl_X10_482 dX10_draws_19 q_1 rfl rfl ?_
  replace h := p_let_elim h
  obtain ⟨I_2, h_3, h⟩ := h
  rw [← h_3]
  refine v_aload_n dX10_draws_22 rfl ?_
  refine v_getI rfl fl_X10_482 dX10_draws_23 q_1 ?_
  refine v_iload_n dX10_draws_26 rfl ?_
  replace h := p_bind_elim h
  obtain ⟨_, q_4, h⟩ := h
  refine v_irem dX10_draws_27 (p_nz32_spec q_4) ?_
  cases h
  exact v_iret dX10_draws_28 rfl (by decide) (by decide) (by rw [← hQ]; exact ⟨rfl, rfl, rfl, rfl, rfl⟩)

def f_X10_drawnAct (S : v_S) (I : v_I) (F : v_F) (p0 : Nat) : Option (v_I) :=
(p_ob S 10 p0).bind fun _ =>
(f_X10_many S I F p0).bind fun r_1 =>
(f_X10_draws S I p0 r_1).bind fun r_4 =>
(f_X10_draws S r_4.2 p0 (10 : Int32)).bind fun r_6 =>
(f_X10_draws S r_6.2 p0 (4 : Int32)).bind fun r_8 =>
if r_8.1 = (0 : Int32) then (
(f_X10_touches S r_8.2 F p0 r_4.1).bind fun r_10 =>
some (r_10))
else if r_8.1 = (1 : Int32) then (
(F p0 2).bind fun a_12 =>
(p_ix S 20 a_12 (0 : Int32)).bind fun j_14 =>
(p_ix S 20 a_12 (0 : Int32)).bind fun j_16 =>
p_let (v_up r_8.2 a_12 j_16 ((r_8.2 a_12 j_14) ||| ((1 : Int32) <<< (r_4.1 &&& 31)))) fun I_18 =>
some (I_18))
else if r_8.1 = (2 : Int32) then (
(F p0 2).bind fun a_20 =>
(p_ix S 20 a_20 ((1 : Int32) + r_4.1)).bind fun j_22 =>
p_let (v_up r_8.2 a_20 j_22 r_6.1) fun I_24 =>
some (I_24))
else (
some (r_8.2))
set_option maxHeartbeats 4000000 in
set_option maxRecDepth 100000 in
theorem t_X10_drawnAct {p0 : Nat} {r : v_I} (h : f_X10_drawnAct S I F p0 = some r) : v_R l B D ac (v_EE B wa wb wt sb sL sx) yX10_drawnAct cX10_drawnAct 3 none 2 0 0 [.ref (B + p0)] S I J F (v_D none S r J F) := by
  refine v_R.of (by decide) (Nat.le_of_ble_eq_true rfl) fun d hd => ?_
  generalize hQ : v_D none S r J F = Q
  unfold f_X10_drawnAct at h
  refine v_sub [(0, .ref (B + p0))] ⟨rfl, trivial⟩ ?_
  refine v_aload_n dX10_drawnAct_0 rfl ?_
  refine v_aload_n dX10_drawnAct_1 rfl ?_
  replace h := p_bind_elim h
  obtain ⟨_, q_3, h⟩ := h
  have q_3 := p_ob_spec q_3
  replace h := p_bind_elim h
  obtain ⟨r_1, q_2, h⟩ := h
  refine v_cVr (t_X10_many q_2) cal_X10_many ml_X10_109 sel_X10_many q_3 kk_10 dX10_drawnAct_2 (by omega) (by decide) (by decide) (Nat.le_of_ble_eq_true rfl) rfl ?_
  replace h := p_bind_elim h
  obtain ⟨r_4, q_5, h⟩ := h
  refine v_cVr (t_X10_draws q_5) cal_X10_draws ml_X10_489 sel_X10_draws q_3 kk_10 dX10_drawnAct_5 (by omega) (by decide) (by decide) (Nat.le_of_ble_eq_true rfl) rfl ?_
  refine v_istore_n dX10_drawnAct_8 (by decide) ?_
  refine v_sub [(0, .ref (B + p0)), (1, .int r_4.1)] ⟨rfl, rfl, trivial⟩ ?_
  refine v_aload_n dX10_drawnAct_9 rfl ?_
  refine v_bipush (10 : Int32) dX10_drawnAct_10 (by decide) ?_
  replace h := p_bind_elim h
  obtain ⟨r_6, q_7, h⟩ := h
  refine v_cVr (t_X10_draws q_7) cal_X10_draws ml_X10_489 sel_X10_draws q_3 kk_10 dX10_drawnAct_12 (by omega) (by decide) (by decide) (Nat.le_of_ble_eq_true rfl) rfl ?_
  refine v_istore_n dX10_drawnAct_15 (by decide) ?_
  refine v_sub [(0, .ref (B + p0)), (1, .int r_4.1), (2, .int r_6.1)] ⟨rfl, rfl, rfl, trivial⟩ ?_
  refine v_aload_n dX10_drawnAct_16 rfl ?_
  refine v_iconstE (4 : Int32) dX10_drawnAct_17 (by decide) ?_
  replace h := p_bind_elim h
  obtain ⟨r_8, q_9, h⟩ := h
  refine v_cVr (t_X10_draws q_9) cal_X10_draws ml_X10_489 sel_X10_draws q_3 kk_10 dX10_drawnAct_18 (by omega) (by decide) (by decide) (Nat.le_of_ble_eq_true rfl) rfl ?_
  by_cases c_26 : r_8.1 = (0 : Int32)
  · rw [if_pos c_26] at h
    refine v_swIn 48 (0 : Int32) c_26 dX10_drawnAct_21 (by decide) (by decide) rfl (by decide) ?_
    refine v_aload_n dX10_drawnAct_48 rfl ?_
    refine v_iload_n dX10_drawnAct_49 rfl ?_
    replace h := p_bind_elim h
    obtain ⟨r_10, q_11, h⟩ := h
    refine v_cVn (t_X10_touches q_11) cal_X10_touches ml_X10_351 sel_X10_touches q_3 kk_10 dX10_drawnAct_50 (by omega) (by decide) (by decide) (Nat.le_of_ble_eq_true rfl) rfl ?_
    refine v_goto 83 dX10_drawnAct_53 (by decide) ?_
    cases h
    exact v_vret dX10_drawnAct_83 rfl (by decide) (by decide) (by rw [← hQ]; exact ⟨rfl, rfl, rfl, rfl, rfl⟩)
  · rw [if_neg c_26] at h
    by_cases c_27 : r_8.1 = (1 : Int32)
    · rw [if_pos c_27] at h
      refine v_swIn 56 (1 : Int32) c_27 dX10_drawnAct_21 (by decide) (by decide) rfl (by decide) ?_
      refine v_aload_n dX10_drawnAct_56 rfl ?_
      replace h := p_bind_elim h
      obtain ⟨a_12, q_13, h⟩ := h
      refine v_getR q_13 rfl fl_X10_28 dX10_drawnAct_57 q_3 ?_
      refine v_iconstE (0 : Int32) dX10_drawnAct_60 (by decide) ?_
      refine v_dup2 dX10_drawnAct_61 rfl rfl ?_
      replace h := p_bind_elim h
      obtain ⟨j_14, q_15, h⟩ := h
      refine v_ialdP dX10_drawnAct_62 q_15 ?_
      refine v_iconstE (1 : Int32) dX10_drawnAct_63 (by decide) ?_
      refine v_iload_n dX10_drawnAct_64 rfl ?_
      refine v_ishl dX10_drawnAct_65 ?_
      refine v_ior dX10_drawnAct_66 ?_
      replace h := p_bind_elim h
      obtain ⟨j_16, q_17, h⟩ := h
      refine v_iastP dX10_drawnAct_67 q_17 ?_
      replace h := p_let_elim h
      obtain ⟨I_18, h_19, h⟩ := h
      rw [← h_19]
      refine v_goto 83 dX10_drawnAct_68 (by decide) ?_
      cases h
      exact v_vret dX10_drawnAct_83 rfl (by decide) (by decide) (by rw [← hQ]; exact ⟨rfl, rfl, rfl, rfl, rfl⟩)
    · rw [if_neg c_27] at h
      by_cases c_28 : r_8.1 = (2 : Int32)
      · rw [if_pos c_28] at h
        refine v_swIn 71 (2 : Int32) c_28 dX10_drawnAct_21 (by decide) (by decide) rfl (by decide) ?_
        refine v_aload_n dX10_drawnAct_71 rfl ?_
        replace h := p_bind_elim h
        obtain ⟨a_20, q_21, h⟩ := h
        refine v_getR q_21 rfl fl_X10_28 dX10_drawnAct_72 q_3 ?_
        refine v_iconstE (1 : Int32) dX10_drawnAct_75 (by decide) ?_
        refine v_iload_n dX10_drawnAct_76 rfl ?_
        refine v_iadd dX10_drawnAct_77 ?_
        refine v_iload_n dX10_drawnAct_78 rfl ?_
        replace h := p_bind_elim h
        obtain ⟨j_22, q_23, h⟩ := h
        refine v_iastP dX10_drawnAct_79 q_23 ?_
        replace h := p_let_elim h
        obtain ⟨I_24, h_25, h⟩ := h
        rw [← h_25]
        refine v_goto 83 dX10_drawnAct_80 (by decide) ?_
        cases h
        exact v_vret dX10_drawnAct_83 rfl (by decide) (by decide) (by rw [← hQ]; exact ⟨rfl, rfl, rfl, rfl, rfl⟩)
      · rw [if_neg c_28] at h
        refine v_tableOut 83 dX10_drawnAct_21 (p_sw_out (fun k h1 h2 => by have h3 : k = 0 ∨ k = 1 ∨ k = 2 := (by omega); rcases h3 with rfl | rfl | rfl <;> first | exact c_26 | exact c_27 | exact c_28)) (by decide) ?_
        cases h
        exact v_vret dX10_drawnAct_83 rfl (by decide) (by decide) (by rw [← hQ]; exact ⟨rfl, rfl, rfl, rfl, rfl⟩)

def f_X10_drawn (S : v_S) (I : v_I) (F : v_F) (p0 : Nat) (p1 : Int32) (p2 : Int32) : Option (Int32) :=
(p_ob S 10 p0).bind fun _ =>
(f_X10_lies p1 (0 : Int32) ((I p0 46) - (1 : Int32))).bind fun r_2 =>
if r_2 = (0 : Int32) then (
some ((-1 : Int32)))
else (
if p2 = (0 : Int32) then (
(F p0 45).bind fun a_5 =>
(p_ix S 20 a_5 ((1 : Int32) + p1)).bind fun j_7 =>
some (I a_5 j_7))
else if p2 = (1 : Int32) then (
(F p0 45).bind fun a_9 =>
(p_ix S 20 a_9 (0 : Int32)).bind fun j_11 =>
some (((I a_9 j_11) >>> (p1 &&& 31)) &&& (1 : Int32)))
else if p2 = (2 : Int32) then (
(F p0 45).bind fun a_13 =>
(p_ix S 20 a_13 ((9 : Int32) + p1)).bind fun j_15 =>
some (I a_13 j_15))
else (
some ((-1 : Int32))))
set_option maxHeartbeats 4000000 in
set_option maxRecDepth 100000 in
theorem t_X10_drawn {p0 : Nat} {p1 : Int32} {p2 : Int32} {r : Int32} (h : f_X10_drawn S I F p0 p1 p2 = some r) : v_R l B D ac (v_EE B wa wb wt sb sL sx) yX10_drawn cX10_drawn 3 (some .int) 2 0 0 [.ref (B + p0), .int p1, .int p2] S I J F (v_D (some (.int r)) S I J F) := by
  refine v_R.of (by decide) (Nat.le_of_ble_eq_true rfl) fun d hd => ?_
  generalize hQ : v_D (some (.int r)) S I J F = Q
  unfold f_X10_drawn at h
  refine v_sub [(0, .ref (B + p0)), (1, .int p1), (2, .int p2)] ⟨rfl, rfl, rfl, trivial⟩ ?_
  refine v_iload_n dX10_drawn_0 rfl ?_
  refine v_iconstE (0 : Int32) dX10_drawn_1 (by decide) ?_
  refine v_aload_n dX10_drawn_2 rfl ?_
  replace h := p_bind_elim h
  obtain ⟨_, q_1, h⟩ := h
  have q_1 := p_ob_spec q_1
  refine v_getI rfl fl_X10_100 dX10_drawn_3 q_1 ?_
  refine v_iconstE (1 : Int32) dX10_drawn_6 (by decide) ?_
  refine v_isub dX10_drawn_7 ?_
  replace h := p_bind_elim h
  obtain ⟨r_2, q_3, h⟩ := h
  refine v_cSr (t_X10_lies q_3) cal_X10_lies ml_X10_18 sta_X10_lies dX10_drawn_8 (by omega) (by decide) (by decide) (Nat.le_of_ble_eq_true rfl) rfl ?_
  refine v_if_ne 16 dX10_drawn_11 (by decide) (fun c_4 => ?_) (fun c_4 => ?_)
  · rw [if_neg c_4] at h
    refine v_iload_n dX10_drawn_16 rfl ?_
    by_cases c_17 : p2 = (0 : Int32)
    · rw [if_pos c_17] at h
      refine v_swIn 44 (0 : Int32) c_17 dX10_drawn_17 (by decide) (by decide) rfl (by decide) ?_
      refine v_aload_n dX10_drawn_44 rfl ?_
      replace h := p_bind_elim h
      obtain ⟨a_5, q_6, h⟩ := h
      refine v_getR q_6 rfl fl_X10_97 dX10_drawn_45 q_1 ?_
      refine v_iconstE (1 : Int32) dX10_drawn_48 (by decide) ?_
      refine v_iload_n dX10_drawn_49 rfl ?_
      refine v_iadd dX10_drawn_50 ?_
      replace h := p_bind_elim h
      obtain ⟨j_7, q_8, h⟩ := h
      refine v_ialdP dX10_drawn_51 q_8 ?_
      cases h
      exact v_iret dX10_drawn_52 rfl (by decide) (by decide) (by rw [← hQ]; exact ⟨rfl, rfl, rfl, rfl, rfl⟩)
    · rw [if_neg c_17] at h
      by_cases c_18 : p2 = (1 : Int32)
      · rw [if_pos c_18] at h
        refine v_swIn 53 (1 : Int32) c_18 dX10_drawn_17 (by decide) (by decide) rfl (by decide) ?_
        refine v_aload_n dX10_drawn_53 rfl ?_
        replace h := p_bind_elim h
        obtain ⟨a_9, q_10, h⟩ := h
        refine v_getR q_10 rfl fl_X10_97 dX10_drawn_54 q_1 ?_
        refine v_iconstE (0 : Int32) dX10_drawn_57 (by decide) ?_
        replace h := p_bind_elim h
        obtain ⟨j_11, q_12, h⟩ := h
        refine v_ialdP dX10_drawn_58 q_12 ?_
        refine v_iload_n dX10_drawn_59 rfl ?_
        refine v_ishr dX10_drawn_60 ?_
        refine v_iconstE (1 : Int32) dX10_drawn_61 (by decide) ?_
        refine v_iand dX10_drawn_62 ?_
        cases h
        exact v_iret dX10_drawn_63 rfl (by decide) (by decide) (by rw [← hQ]; exact ⟨rfl, rfl, rfl, rfl, rfl⟩)
      · rw [if_neg c_18] at h
        by_cases c_19 : p2 = (2 : Int32)
        · rw [if_pos c_19] at h
          refine v_swIn 64 (2 : Int32) c_19 dX10_drawn_17 (by decide) (by decide) rfl (by decide) ?_
          refine v_aload_n dX10_drawn_64 rfl ?_
          replace h := p_bind_elim h
          obtain ⟨a_13, q_14, h⟩ := h
          refine v_getR q_14 rfl fl_X10_97 dX10_drawn_65 q_1 ?_
          refine v_bipush (9 : Int32) dX10_drawn_68 (by decide) ?_
          refine v_iload_n dX10_drawn_70 rfl ?_
          refine v_iadd dX10_drawn_71 ?_
          replace h := p_bind_elim h
          obtain ⟨j_15, q_16, h⟩ := h
          refine v_ialdP dX10_drawn_72 q_16 ?_
          cases h
          exact v_iret dX10_drawn_73 rfl (by decide) (by decide) (by rw [← hQ]; exact ⟨rfl, rfl, rfl, rfl, rfl⟩)
        · rw [if_neg c_19] at h
          refine v_tableOut 74 dX10_drawn_17 (p_sw_out (fun k h1 h2 => by have h3 : k = 0 ∨ k = 1 ∨ k = 2 := (by omega); rcases h3 with rfl | rfl | rfl <;> first | exact c_17 | exact c_18 | exact c_19)) (by decide) ?_
          refine v_iconstE (-1 : Int32) dX10_drawn_74 (by decide) ?_
          cases h
          exact v_iret dX10_drawn_75 rfl (by decide) (by decide) (by rw [← hQ]; exact ⟨rfl, rfl, rfl, rfl, rfl⟩)
  · rw [if_pos c_4] at h
    refine v_iconstE (-1 : Int32) dX10_drawn_14 (by decide) ?_
    cases h
    exact v_iret dX10_drawn_15 rfl (by decide) (by decide) (by rw [← hQ]; exact ⟨rfl, rfl, rfl, rfl, rfl⟩)

def f_X10_refusals (S : v_S) (I : v_I) (F : v_F) (p0 : Nat) (p1 : Int32) : Option (Int32) :=
if (3 : Int32) ≤ p1 then (
(p_ob S 10 p0).bind fun _ =>
(F p0 1).bind fun a_3 =>
(p_ix S 20 a_3 (p1 + (2 : Int32))).bind fun j_5 =>
some (I a_3 j_5))
else (
(p_ob S 10 p0).bind fun _ =>
(F p0 1).bind fun a_8 =>
(p_ix S 20 a_8 (p1 + (1 : Int32))).bind fun j_10 =>
some (I a_8 j_10))
set_option maxHeartbeats 4000000 in
set_option maxRecDepth 100000 in
theorem t_X10_refusals {p0 : Nat} {p1 : Int32} {r : Int32} (h : f_X10_refusals S I F p0 p1 = some r) : v_R l B D ac (v_EE B wa wb wt sb sL sx) yX10_refusals cX10_refusals 2 (some .int) 1 0 0 [.ref (B + p0), .int p1] S I J F (v_D (some (.int r)) S I J F) := by
  refine v_R.of (by decide) (Nat.le_of_ble_eq_true rfl) fun d hd => ?_
  generalize hQ : v_D (some (.int r)) S I J F = Q
  unfold f_X10_refusals at h
  refine v_sub [(0, .ref (B + p0)), (1, .int p1)] ⟨rfl, rfl, trivial⟩ ?_
  refine v_iload_n dX10_refusals_0 rfl ?_
  refine v_iconstE (3 : Int32) dX10_refusals_1 (by decide) ?_
  refine v_icmp_ge 16 dX10_refusals_2 (by decide) (fun c_1 => ?_) (fun c_1 => ?_)
  · rw [if_pos c_1] at h
    refine v_aload_n dX10_refusals_16 rfl ?_
    replace h := p_bind_elim h
    obtain ⟨_, q_2, h⟩ := h
    have q_2 := p_ob_spec q_2
    replace h := p_bind_elim h
    obtain ⟨a_3, q_4, h⟩ := h
    refine v_getR q_4 rfl fl_X10_7 dX10_refusals_17 q_2 ?_
    refine v_iload_n dX10_refusals_20 rfl ?_
    refine v_iconstE (2 : Int32) dX10_refusals_21 (by decide) ?_
    refine v_iadd dX10_refusals_22 ?_
    replace h := p_bind_elim h
    obtain ⟨j_5, q_6, h⟩ := h
    refine v_ialdP dX10_refusals_23 q_6 ?_
    cases h
    exact v_iret dX10_refusals_24 rfl (by decide) (by decide) (by rw [← hQ]; exact ⟨rfl, rfl, rfl, rfl, rfl⟩)
  · rw [if_neg c_1] at h
    refine v_aload_n dX10_refusals_5 rfl ?_
    replace h := p_bind_elim h
    obtain ⟨_, q_7, h⟩ := h
    have q_7 := p_ob_spec q_7
    replace h := p_bind_elim h
    obtain ⟨a_8, q_9, h⟩ := h
    refine v_getR q_9 rfl fl_X10_7 dX10_refusals_6 q_7 ?_
    refine v_iload_n dX10_refusals_9 rfl ?_
    refine v_iconstE (1 : Int32) dX10_refusals_10 (by decide) ?_
    refine v_iadd dX10_refusals_11 ?_
    replace h := p_bind_elim h
    obtain ⟨j_10, q_11, h⟩ := h
    refine v_ialdP dX10_refusals_12 q_11 ?_
    refine v_goto 24 dX10_refusals_13 (by decide) ?_
    cases h
    exact v_iret dX10_refusals_24 rfl (by decide) (by decide) (by rw [← hQ]; exact ⟨rfl, rfl, rfl, rfl, rfl⟩)

def f_X10_count (S : v_S) (I : v_I) (F : v_F) (p0 : Nat) (p1 : Int32) : Option (Int32) :=
(f_X10_lies p1 (6 : Int32) (10 : Int32)).bind fun r_1 =>
if r_1 = (0 : Int32) then (
(f_X10_lies p1 (12 : Int32) (15 : Int32)).bind fun r_4 =>
if r_4 = (0 : Int32) then (
if p1 = (0 : Int32) then (
(p_ob S 10 p0).bind fun _ =>
(f_X10_many S I F p0).bind fun r_7 =>
some (r_7))
else if p1 = (1 : Int32) then (
(p_ob S 10 p0).bind fun _ =>
(F p0 2).bind fun a_11 =>
(p_ix S 20 a_11 (0 : Int32)).bind fun j_13 =>
(f_X10_ones (I a_11 j_13)).bind fun r_15 =>
some (r_15))
else if p1 = (2 : Int32) then (
(p_ob S 10 p0).bind fun _ =>
(F p0 2).bind fun a_18 =>
(p_ix S 20 a_18 (50 : Int32)).bind fun j_20 =>
some (I a_18 j_20))
else if p1 = (3 : Int32) then (
(p_ob S 10 p0).bind fun _ =>
(F p0 2).bind fun a_23 =>
(p_ix S 20 a_23 (51 : Int32)).bind fun j_25 =>
some (I a_23 j_25))
else if p1 = (4 : Int32) then (
(p_ob S 10 p0).bind fun _ =>
some (I p0 32))
else if p1 = (5 : Int32) then (
(p_ob S 10 p0).bind fun _ =>
some (I p0 13))
else if p1 = (6 : Int32) then (
some ((-1 : Int32)))
else if p1 = (7 : Int32) then (
some ((-1 : Int32)))
else if p1 = (8 : Int32) then (
some ((-1 : Int32)))
else if p1 = (9 : Int32) then (
some ((-1 : Int32)))
else if p1 = (10 : Int32) then (
some ((-1 : Int32)))
else if p1 = (11 : Int32) then (
(p_ob S 10 p0).bind fun _ =>
(F p0 2).bind fun a_30 =>
(p_ix S 20 a_30 (52 : Int32)).bind fun j_32 =>
some (I a_30 j_32))
else (
some ((-1 : Int32))))
else (
(p_ob S 10 p0).bind fun _ =>
(F p0 2).bind fun a_47 =>
(f_X10_termAt (p1 - (12 : Int32))).bind fun r_49 =>
(p_ix S 20 a_47 r_49).bind fun j_51 =>
some (I a_47 j_51)))
else (
(p_ob S 10 p0).bind fun _ =>
(f_X10_refusals S I F p0 (p1 - (6 : Int32))).bind fun r_53 =>
some (r_53))
set_option maxHeartbeats 4000000 in
set_option maxRecDepth 100000 in
theorem t_X10_count {p0 : Nat} {p1 : Int32} {r : Int32} (h : f_X10_count S I F p0 p1 = some r) : v_R l B D ac (v_EE B wa wb wt sb sL sx) yX10_count cX10_count 2 (some .int) 2 0 0 [.ref (B + p0), .int p1] S I J F (v_D (some (.int r)) S I J F) := by
  refine v_R.of (by decide) (Nat.le_of_ble_eq_true rfl) fun d hd => ?_
  generalize hQ : v_D (some (.int r)) S I J F = Q
  unfold f_X10_count at h
  refine v_sub [(0, .ref (B + p0)), (1, .int p1)] ⟨rfl, rfl, trivial⟩ ?_
  refine v_iload_n dX10_count_0 rfl ?_
  refine v_bipush (6 : Int32) dX10_count_1 (by decide) ?_
  refine v_bipush (10 : Int32) dX10_count_3 (by decide) ?_
  replace h := p_bind_elim h
  obtain ⟨r_1, q_2, h⟩ := h
  refine v_cSr (t_X10_lies q_2) cal_X10_lies ml_X10_18 sta_X10_lies dX10_count_5 (by omega) (by decide) (by decide) (Nat.le_of_ble_eq_true rfl) rfl ?_
  refine v_if_eq 20 dX10_count_8 (by decide) (fun c_3 => ?_) (fun c_3 => ?_)
  · rw [if_pos c_3] at h
    refine v_iload_n dX10_count_20 rfl ?_
    refine v_bipush (12 : Int32) dX10_count_21 (by decide) ?_
    refine v_bipush (15 : Int32) dX10_count_23 (by decide) ?_
    replace h := p_bind_elim h
    obtain ⟨r_4, q_5, h⟩ := h
    refine v_cSr (t_X10_lies q_5) cal_X10_lies ml_X10_18 sta_X10_lies dX10_count_25 (by omega) (by decide) (by decide) (Nat.le_of_ble_eq_true rfl) rfl ?_
    refine v_if_eq 44 dX10_count_28 (by decide) (fun c_6 => ?_) (fun c_6 => ?_)
    · rw [if_pos c_6] at h
      refine v_iload_n dX10_count_44 rfl ?_
      by_cases c_34 : p1 = (0 : Int32)
      · rw [if_pos c_34] at h
        refine v_swIn 108 (0 : Int32) c_34 dX10_count_45 (by decide) (by decide) rfl (by decide) ?_
        refine v_aload_n dX10_count_108 rfl ?_
        replace h := p_bind_elim h
        obtain ⟨_, q_9, h⟩ := h
        have q_9 := p_ob_spec q_9
        replace h := p_bind_elim h
        obtain ⟨r_7, q_8, h⟩ := h
        refine v_cVr (t_X10_many q_8) cal_X10_many ml_X10_109 sel_X10_many q_9 kk_10 dX10_count_109 (by omega) (by decide) (by decide) (Nat.le_of_ble_eq_true rfl) rfl ?_
        cases h
        exact v_iret dX10_count_112 rfl (by decide) (by decide) (by rw [← hQ]; exact ⟨rfl, rfl, rfl, rfl, rfl⟩)
      · rw [if_neg c_34] at h
        by_cases c_35 : p1 = (1 : Int32)
        · rw [if_pos c_35] at h
          refine v_swIn 113 (1 : Int32) c_35 dX10_count_45 (by decide) (by decide) rfl (by decide) ?_
          refine v_aload_n dX10_count_113 rfl ?_
          replace h := p_bind_elim h
          obtain ⟨_, q_10, h⟩ := h
          have q_10 := p_ob_spec q_10
          replace h := p_bind_elim h
          obtain ⟨a_11, q_12, h⟩ := h
          refine v_getR q_12 rfl fl_X10_28 dX10_count_114 q_10 ?_
          refine v_iconstE (0 : Int32) dX10_count_117 (by decide) ?_
          replace h := p_bind_elim h
          obtain ⟨j_13, q_14, h⟩ := h
          refine v_ialdP dX10_count_118 q_14 ?_
          replace h := p_bind_elim h
          obtain ⟨r_15, q_16, h⟩ := h
          refine v_cSr (t_X10_ones q_16) cal_X10_ones ml_X10_313 sta_X10_ones dX10_count_119 (by omega) (by decide) (by decide) (Nat.le_of_ble_eq_true rfl) rfl ?_
          cases h
          exact v_iret dX10_count_122 rfl (by decide) (by decide) (by rw [← hQ]; exact ⟨rfl, rfl, rfl, rfl, rfl⟩)
        · rw [if_neg c_35] at h
          by_cases c_36 : p1 = (2 : Int32)
          · rw [if_pos c_36] at h
            refine v_swIn 123 (2 : Int32) c_36 dX10_count_45 (by decide) (by decide) rfl (by decide) ?_
            refine v_aload_n dX10_count_123 rfl ?_
            replace h := p_bind_elim h
            obtain ⟨_, q_17, h⟩ := h
            have q_17 := p_ob_spec q_17
            replace h := p_bind_elim h
            obtain ⟨a_18, q_19, h⟩ := h
            refine v_getR q_19 rfl fl_X10_28 dX10_count_124 q_17 ?_
            refine v_bipush (50 : Int32) dX10_count_127 (by decide) ?_
            replace h := p_bind_elim h
            obtain ⟨j_20, q_21, h⟩ := h
            refine v_ialdP dX10_count_129 q_21 ?_
            cases h
            exact v_iret dX10_count_130 rfl (by decide) (by decide) (by rw [← hQ]; exact ⟨rfl, rfl, rfl, rfl, rfl⟩)
          · rw [if_neg c_36] at h
            by_cases c_37 : p1 = (3 : Int32)
            · rw [if_pos c_37] at h
              refine v_swIn 131 (3 : Int32) c_37 dX10_count_45 (by decide) (by decide) rfl (by decide) ?_
              refine v_aload_n dX10_count_131 rfl ?_
              replace h := p_bind_elim h
              obtain ⟨_, q_22, h⟩ := h
              have q_22 := p_ob_spec q_22
              replace h := p_bind_elim h
              obtain ⟨a_23, q_24, h⟩ := h
              refine v_getR q_24 rfl fl_X10_28 dX10_count_132 q_22 ?_
              refine v_bipush (51 : Int32) dX10_count_135 (by decide) ?_
              replace h := p_bind_elim h
              obtain ⟨j_25, q_26, h⟩ := h
              refine v_ialdP dX10_count_137 q_26 ?_
              cases h
              exact v_iret dX10_count_138 rfl (by decide) (by decide) (by rw [← hQ]; exact ⟨rfl, rfl, rfl, rfl, rfl⟩)
            · rw [if_neg c_37] at h
              by_cases c_38 : p1 = (4 : Int32)
              · rw [if_pos c_38] at h
                refine v_swIn 139 (4 : Int32) c_38 dX10_count_45 (by decide) (by decide) rfl (by decide) ?_
                refine v_aload_n dX10_count_139 rfl ?_
                replace h := p_bind_elim h
                obtain ⟨_, q_27, h⟩ := h
                have q_27 := p_ob_spec q_27
                refine v_getI rfl fl_X10_11 dX10_count_140 q_27 ?_
                cases h
                exact v_iret dX10_count_143 rfl (by decide) (by decide) (by rw [← hQ]; exact ⟨rfl, rfl, rfl, rfl, rfl⟩)
              · rw [if_neg c_38] at h
                by_cases c_39 : p1 = (5 : Int32)
                · rw [if_pos c_39] at h
                  refine v_swIn 144 (5 : Int32) c_39 dX10_count_45 (by decide) (by decide) rfl (by decide) ?_
                  refine v_aload_n dX10_count_144 rfl ?_
                  replace h := p_bind_elim h
                  obtain ⟨_, q_28, h⟩ := h
                  have q_28 := p_ob_spec q_28
                  refine v_getI rfl fl_X10_165 dX10_count_145 q_28 ?_
                  cases h
                  exact v_iret dX10_count_148 rfl (by decide) (by decide) (by rw [← hQ]; exact ⟨rfl, rfl, rfl, rfl, rfl⟩)
                · rw [if_neg c_39] at h
                  by_cases c_40 : p1 = (6 : Int32)
                  · rw [if_pos c_40] at h
                    refine v_swIn 157 (6 : Int32) c_40 dX10_count_45 (by decide) (by decide) rfl (by decide) ?_
                    refine v_iconstE (-1 : Int32) dX10_count_157 (by decide) ?_
                    cases h
                    exact v_iret dX10_count_158 rfl (by decide) (by decide) (by rw [← hQ]; exact ⟨rfl, rfl, rfl, rfl, rfl⟩)
                  · rw [if_neg c_40] at h
                    by_cases c_41 : p1 = (7 : Int32)
                    · rw [if_pos c_41] at h
                      refine v_swIn 157 (7 : Int32) c_41 dX10_count_45 (by decide) (by decide) rfl (by decide) ?_
                      refine v_iconstE (-1 : Int32) dX10_count_157 (by decide) ?_
                      cases h
                      exact v_iret dX10_count_158 rfl (by decide) (by decide) (by rw [← hQ]; exact ⟨rfl, rfl, rfl, rfl, rfl⟩)
                    · rw [if_neg c_41] at h
                      by_cases c_42 : p1 = (8 : Int32)
                      · rw [if_pos c_42] at h
                        refine v_swIn 157 (8 : Int32) c_42 dX10_count_45 (by decide) (by decide) rfl (by decide) ?_
                        refine v_iconstE (-1 : Int32) dX10_count_157 (by decide) ?_
                        cases h
                        exact v_iret dX10_count_158 rfl (by decide) (by decide) (by rw [← hQ]; exact ⟨rfl, rfl, rfl, rfl, rfl⟩)
                      · rw [if_neg c_42] at h
                        by_cases c_43 : p1 = (9 : Int32)
                        · rw [if_pos c_43] at h
                          refine v_swIn 157 (9 : Int32) c_43 dX10_count_45 (by decide) (by decide) rfl (by decide) ?_
                          refine v_iconstE (-1 : Int32) dX10_count_157 (by decide) ?_
                          cases h
                          exact v_iret dX10_count_158 rfl (by decide) (by decide) (by rw [← hQ]; exact ⟨rfl, rfl, rfl, rfl, rfl⟩)
                        · rw [if_neg c_43] at h
                          by_cases c_44 : p1 = (10 : Int32)
                          · rw [if_pos c_44] at h
                            refine v_swIn 157 (10 : Int32) c_44 dX10_count_45 (by decide) (by decide) rfl (by decide) ?_
                            refine v_iconstE (-1 : Int32) dX10_count_157 (by decide) ?_
                            cases h
                            exact v_iret dX10_count_158 rfl (by decide) (by decide) (by rw [← hQ]; exact ⟨rfl, rfl, rfl, rfl, rfl⟩)
                          · rw [if_neg c_44] at h
                            by_cases c_45 : p1 = (11 : Int32)
                            · rw [if_pos c_45] at h
                              refine v_swIn 149 (11 : Int32) c_45 dX10_count_45 (by decide) (by decide) rfl (by decide) ?_
                              refine v_aload_n dX10_count_149 rfl ?_
                              replace h := p_bind_elim h
                              obtain ⟨_, q_29, h⟩ := h
                              have q_29 := p_ob_spec q_29
                              replace h := p_bind_elim h
                              obtain ⟨a_30, q_31, h⟩ := h
                              refine v_getR q_31 rfl fl_X10_28 dX10_count_150 q_29 ?_
                              refine v_bipush (52 : Int32) dX10_count_153 (by decide) ?_
                              replace h := p_bind_elim h
                              obtain ⟨j_32, q_33, h⟩ := h
                              refine v_ialdP dX10_count_155 q_33 ?_
                              cases h
                              exact v_iret dX10_count_156 rfl (by decide) (by decide) (by rw [← hQ]; exact ⟨rfl, rfl, rfl, rfl, rfl⟩)
                            · rw [if_neg c_45] at h
                              refine v_tableOut 157 dX10_count_45 (p_sw_out (fun k h1 h2 => by have h3 : k = 0 ∨ k = 1 ∨ k = 2 ∨ k = 3 ∨ k = 4 ∨ k = 5 ∨ k = 6 ∨ k = 7 ∨ k = 8 ∨ k = 9 ∨ k = 10 ∨ k = 11 := (by omega); rcases h3 with rfl | rfl | rfl | rfl | rfl | rfl | rfl | rfl | rfl | rfl | rfl | rfl <;> first | exact c_34 | exact c_35 | exact c_36 | exact c_37 | exact c_38 | exact c_39 | exact c_40 | exact c_41 | exact c_42 | exact c_43 | exact c_44 | exact c_45)) (by decide) ?_
                              refine v_iconstE (-1 : Int32) dX10_count_157 (by decide) ?_
                              cases h
                              exact v_iret dX10_count_158 rfl (by decide) (by decide) (by rw [← hQ]; exact ⟨rfl, rfl, rfl, rfl, rfl⟩)
    · rw [if_neg c_6] at h
      refine v_aload_n dX10_count_31 rfl ?_
      replace h := p_bind_elim h
      obtain ⟨_, q_46, h⟩ := h
      have q_46 := p_ob_spec q_46
      replace h := p_bind_elim h
      obtain ⟨a_47, q_48, h⟩ := h
      refine v_getR q_48 rfl fl_X10_28 dX10_count_32 q_46 ?_
      refine v_iload_n dX10_count_35 rfl ?_
      refine v_bipush (12 : Int32) dX10_count_36 (by decide) ?_
      refine v_isub dX10_count_38 ?_
      replace h := p_bind_elim h
      obtain ⟨r_49, q_50, h⟩ := h
      refine v_cSr (t_X10_termAt q_50) cal_X10_termAt ml_X10_156 sta_X10_termAt dX10_count_39 (by omega) (by decide) (by decide) (Nat.le_of_ble_eq_true rfl) rfl ?_
      replace h := p_bind_elim h
      obtain ⟨j_51, q_52, h⟩ := h
      refine v_ialdP dX10_count_42 q_52 ?_
      cases h
      exact v_iret dX10_count_43 rfl (by decide) (by decide) (by rw [← hQ]; exact ⟨rfl, rfl, rfl, rfl, rfl⟩)
  · rw [if_neg c_3] at h
    refine v_aload_n dX10_count_11 rfl ?_
    refine v_iload_n dX10_count_12 rfl ?_
    refine v_bipush (6 : Int32) dX10_count_13 (by decide) ?_
    refine v_isub dX10_count_15 ?_
    replace h := p_bind_elim h
    obtain ⟨_, q_55, h⟩ := h
    have q_55 := p_ob_spec q_55
    replace h := p_bind_elim h
    obtain ⟨r_53, q_54, h⟩ := h
    refine v_cVr (t_X10_refusals q_54) cal_X10_refusals ml_X10_495 sel_X10_refusals q_55 kk_10 dX10_count_16 (by omega) (by decide) (by decide) (Nat.le_of_ble_eq_true rfl) rfl ?_
    cases h
    exact v_iret dX10_count_19 rfl (by decide) (by decide) (by rw [← hQ]; exact ⟨rfl, rfl, rfl, rfl, rfl⟩)

def f_X10_status (S : v_S) (I : v_I) (p0 : Nat) : Option (Int32) :=
(p_ob S 10 p0).bind fun _ =>
some (I p0 0)
set_option maxHeartbeats 4000000 in
set_option maxRecDepth 100000 in
theorem t_X10_status {p0 : Nat} {r : Int32} (h : f_X10_status S I p0 = some r) : v_R l B D ac (v_EE B wa wb wt sb sL sx) yX10_status cX10_status 1 (some .int) 1 0 0 [.ref (B + p0)] S I J F (v_D (some (.int r)) S I J F) := by
  refine v_R.of (by decide) (Nat.le_of_ble_eq_true rfl) fun d hd => ?_
  generalize hQ : v_D (some (.int r)) S I J F = Q
  unfold f_X10_status at h
  refine v_sub [(0, .ref (B + p0))] ⟨rfl, trivial⟩ ?_
  refine v_aload_n dX10_status_0 rfl ?_
  replace h := p_bind_elim h
  obtain ⟨_, q_1, h⟩ := h
  have q_1 := p_ob_spec q_1
  refine v_getI rfl fl_X10_3 dX10_status_1 q_1 ?_
  cases h
  exact v_iret dX10_status_4 rfl (by decide) (by decide) (by rw [← hQ]; exact ⟨rfl, rfl, rfl, rfl, rfl⟩)

end p05
